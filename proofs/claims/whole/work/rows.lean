section
-- ===== PART A: goes FIRST, ahead of the names: the tables' words, and 'selects' of the private methods out of them =====
/-- a private method of a class that the tables say can be made, by its rows of tables_1 -/
def lw_okq (q : MethodName × Nat) : Prop := (q.1.cls ≠ "java/lang/invoke/MethodHandle" ∧ q.1.cls ≠ "java/lang/invoke/VarHandle") ∧ Cond.instantiable q.1.cls q.2 ∈ tables_1 ∧ Cond.privateMethod q.1 ∈ tables_1 ∧ Cond.instanceMethod q.1 ∈ tables_1
theorem lw_p0 : lw_okq (⟨"RailHouses", "beginTown", "()V"⟩, 17) := ⟨⟨by decide +kernel, by decide +kernel⟩, List.mem_of_getElem? (i := 23) (by decide +kernel), List.mem_of_getElem? (i := 411) (by decide +kernel), List.mem_of_getElem? (i := 412) (by decide +kernel)⟩
theorem lw_p1 : lw_okq (⟨"RailHouses", "putBytes", "(I)V"⟩, 17) := ⟨⟨by decide +kernel, by decide +kernel⟩, List.mem_of_getElem? (i := 23) (by decide +kernel), List.mem_of_getElem? (i := 491) (by decide +kernel), List.mem_of_getElem? (i := 492) (by decide +kernel)⟩
theorem lw_p2 : lw_okq (⟨"RailHouses$Reader", "begin", "(LRailHouses$Town;)V"⟩, 12) := ⟨⟨by decide +kernel, by decide +kernel⟩, List.mem_of_getElem? (i := 31) (by decide +kernel), List.mem_of_getElem? (i := 507) (by decide +kernel), List.mem_of_getElem? (i := 508) (by decide +kernel)⟩
theorem lw_p3 : lw_okq (⟨"RailHouses$Tokens", "readWord", "()V"⟩, 10) := ⟨⟨by decide +kernel, by decide +kernel⟩, List.mem_of_getElem? (i := 37) (by decide +kernel), List.mem_of_getElem? (i := 527) (by decide +kernel), List.mem_of_getElem? (i := 528) (by decide +kernel)⟩
theorem lw_p4 : lw_okq (⟨"RailHouses$Tokens", "readNumber", "()V"⟩, 10) := ⟨⟨by decide +kernel, by decide +kernel⟩, List.mem_of_getElem? (i := 37) (by decide +kernel), List.mem_of_getElem? (i := 534) (by decide +kernel), List.mem_of_getElem? (i := 535) (by decide +kernel)⟩
theorem lw_p5 : lw_okq (⟨"RailHouses$Tokens", "readSign", "()V"⟩, 10) := ⟨⟨by decide +kernel, by decide +kernel⟩, List.mem_of_getElem? (i := 37) (by decide +kernel), List.mem_of_getElem? (i := 538) (by decide +kernel), List.mem_of_getElem? (i := 539) (by decide +kernel)⟩
theorem lw_p6 : lw_okq (⟨"RailHouses$Reader", "readRail", "()V"⟩, 12) := ⟨⟨by decide +kernel, by decide +kernel⟩, List.mem_of_getElem? (i := 31) (by decide +kernel), List.mem_of_getElem? (i := 543) (by decide +kernel), List.mem_of_getElem? (i := 544) (by decide +kernel)⟩
theorem lw_p7 : lw_okq (⟨"RailHouses$Reader", "advanceUnless", "(Z)V"⟩, 12) := ⟨⟨by decide +kernel, by decide +kernel⟩, List.mem_of_getElem? (i := 31) (by decide +kernel), List.mem_of_getElem? (i := 547) (by decide +kernel), List.mem_of_getElem? (i := 548) (by decide +kernel)⟩
theorem lw_p8 : lw_okq (⟨"RailHouses$Reader", "refuse", "()V"⟩, 12) := ⟨⟨by decide +kernel, by decide +kernel⟩, List.mem_of_getElem? (i := 31) (by decide +kernel), List.mem_of_getElem? (i := 551) (by decide +kernel), List.mem_of_getElem? (i := 552) (by decide +kernel)⟩
theorem lw_p9 : lw_okq (⟨"RailHouses$Reader", "blame", "(II)V"⟩, 12) := ⟨⟨by decide +kernel, by decide +kernel⟩, List.mem_of_getElem? (i := 31) (by decide +kernel), List.mem_of_getElem? (i := 555) (by decide +kernel), List.mem_of_getElem? (i := 556) (by decide +kernel)⟩
theorem lw_p10 : lw_okq (⟨"RailHouses$Reader", "takeNewName", "([JI)J"⟩, 12) := ⟨⟨by decide +kernel, by decide +kernel⟩, List.mem_of_getElem? (i := 31) (by decide +kernel), List.mem_of_getElem? (i := 560) (by decide +kernel), List.mem_of_getElem? (i := 561) (by decide +kernel)⟩
theorem lw_p11 : lw_okq (⟨"RailHouses$Reader", "takeWord", "(I)V"⟩, 12) := ⟨⟨by decide +kernel, by decide +kernel⟩, List.mem_of_getElem? (i := 31) (by decide +kernel), List.mem_of_getElem? (i := 567) (by decide +kernel), List.mem_of_getElem? (i := 568) (by decide +kernel)⟩
theorem lw_p12 : lw_okq (⟨"RailHouses$Reader", "takeNumber", "(III)I"⟩, 12) := ⟨⟨by decide +kernel, by decide +kernel⟩, List.mem_of_getElem? (i := 31) (by decide +kernel), List.mem_of_getElem? (i := 571) (by decide +kernel), List.mem_of_getElem? (i := 572) (by decide +kernel)⟩
theorem lw_p13 : lw_okq (⟨"RailHouses$Reader", "takeSign", "(I)V"⟩, 12) := ⟨⟨by decide +kernel, by decide +kernel⟩, List.mem_of_getElem? (i := 31) (by decide +kernel), List.mem_of_getElem? (i := 575) (by decide +kernel), List.mem_of_getElem? (i := 576) (by decide +kernel)⟩
theorem lw_p14 : lw_okq (⟨"RailHouses$Reader", "readHouse", "()V"⟩, 12) := ⟨⟨by decide +kernel, by decide +kernel⟩, List.mem_of_getElem? (i := 31) (by decide +kernel), List.mem_of_getElem? (i := 583) (by decide +kernel), List.mem_of_getElem? (i := 584) (by decide +kernel)⟩
theorem lw_p15 : lw_okq (⟨"RailHouses$Reader", "takeToldName", "([JI)I"⟩, 12) := ⟨⟨by decide +kernel, by decide +kernel⟩, List.mem_of_getElem? (i := 31) (by decide +kernel), List.mem_of_getElem? (i := 587) (by decide +kernel), List.mem_of_getElem? (i := 588) (by decide +kernel)⟩
def lw_privs_1 : List (MethodName × Nat) := [(⟨"RailHouses", "beginTown", "()V"⟩, 17), (⟨"RailHouses", "putBytes", "(I)V"⟩, 17), (⟨"RailHouses$Reader", "begin", "(LRailHouses$Town;)V"⟩, 12), (⟨"RailHouses$Tokens", "readWord", "()V"⟩, 10), (⟨"RailHouses$Tokens", "readNumber", "()V"⟩, 10), (⟨"RailHouses$Tokens", "readSign", "()V"⟩, 10), (⟨"RailHouses$Reader", "readRail", "()V"⟩, 12), (⟨"RailHouses$Reader", "advanceUnless", "(Z)V"⟩, 12), (⟨"RailHouses$Reader", "refuse", "()V"⟩, 12), (⟨"RailHouses$Reader", "blame", "(II)V"⟩, 12), (⟨"RailHouses$Reader", "takeNewName", "([JI)J"⟩, 12), (⟨"RailHouses$Reader", "takeWord", "(I)V"⟩, 12), (⟨"RailHouses$Reader", "takeNumber", "(III)I"⟩, 12), (⟨"RailHouses$Reader", "takeSign", "(I)V"⟩, 12), (⟨"RailHouses$Reader", "readHouse", "()V"⟩, 12), (⟨"RailHouses$Reader", "takeToldName", "([JI)I"⟩, 12)]
theorem lw_r1 : ∀ q ∈ lw_privs_1, lw_okq q := List.forall_mem_cons.mpr ⟨lw_p0, List.forall_mem_cons.mpr ⟨lw_p1, List.forall_mem_cons.mpr ⟨lw_p2, List.forall_mem_cons.mpr ⟨lw_p3, List.forall_mem_cons.mpr ⟨lw_p4, List.forall_mem_cons.mpr ⟨lw_p5, List.forall_mem_cons.mpr ⟨lw_p6, List.forall_mem_cons.mpr ⟨lw_p7, List.forall_mem_cons.mpr ⟨lw_p8, List.forall_mem_cons.mpr ⟨lw_p9, List.forall_mem_cons.mpr ⟨lw_p10, List.forall_mem_cons.mpr ⟨lw_p11, List.forall_mem_cons.mpr ⟨lw_p12, List.forall_mem_cons.mpr ⟨lw_p13, List.forall_mem_cons.mpr ⟨lw_p14, List.forall_mem_cons.mpr ⟨lw_p15, fun _ h => absurd h List.not_mem_nil⟩⟩⟩⟩⟩⟩⟩⟩⟩⟩⟩⟩⟩⟩⟩⟩
theorem lw_p16 : lw_okq (⟨"RailHouses$Reader", "readBeside", "()V"⟩, 12) := ⟨⟨by decide +kernel, by decide +kernel⟩, List.mem_of_getElem? (i := 31) (by decide +kernel), List.mem_of_getElem? (i := 599) (by decide +kernel), List.mem_of_getElem? (i := 600) (by decide +kernel)⟩
theorem lw_p17 : lw_okq (⟨"RailHouses$Reader", "takeSignedNumber", "(I)I"⟩, 12) := ⟨⟨by decide +kernel, by decide +kernel⟩, List.mem_of_getElem? (i := 31) (by decide +kernel), List.mem_of_getElem? (i := 607) (by decide +kernel), List.mem_of_getElem? (i := 608) (by decide +kernel)⟩
theorem lw_p18 : lw_okq (⟨"RailHouses$Reader", "readNeck", "()V"⟩, 12) := ⟨⟨by decide +kernel, by decide +kernel⟩, List.mem_of_getElem? (i := 31) (by decide +kernel), List.mem_of_getElem? (i := 615) (by decide +kernel), List.mem_of_getElem? (i := 616) (by decide +kernel)⟩
theorem lw_p19 : lw_okq (⟨"RailHouses$Reader", "readDraws", "()V"⟩, 12) := ⟨⟨by decide +kernel, by decide +kernel⟩, List.mem_of_getElem? (i := 31) (by decide +kernel), List.mem_of_getElem? (i := 619) (by decide +kernel), List.mem_of_getElem? (i := 620) (by decide +kernel)⟩
theorem lw_p20 : lw_okq (⟨"RailHouses$Reader", "readLaw", "()V"⟩, 12) := ⟨⟨by decide +kernel, by decide +kernel⟩, List.mem_of_getElem? (i := 31) (by decide +kernel), List.mem_of_getElem? (i := 623) (by decide +kernel), List.mem_of_getElem? (i := 624) (by decide +kernel)⟩
theorem lw_p21 : lw_okq (⟨"RailHouses$Reader", "readEither", "(I)V"⟩, 12) := ⟨⟨by decide +kernel, by decide +kernel⟩, List.mem_of_getElem? (i := 31) (by decide +kernel), List.mem_of_getElem? (i := 627) (by decide +kernel), List.mem_of_getElem? (i := 628) (by decide +kernel)⟩
theorem lw_p22 : lw_okq (⟨"RailHouses$Reader", "readBoth", "(I)V"⟩, 12) := ⟨⟨by decide +kernel, by decide +kernel⟩, List.mem_of_getElem? (i := 31) (by decide +kernel), List.mem_of_getElem? (i := 631) (by decide +kernel), List.mem_of_getElem? (i := 632) (by decide +kernel)⟩
theorem lw_p23 : lw_okq (⟨"RailHouses$Reader", "readOne", "(I)V"⟩, 12) := ⟨⟨by decide +kernel, by decide +kernel⟩, List.mem_of_getElem? (i := 31) (by decide +kernel), List.mem_of_getElem? (i := 635) (by decide +kernel), List.mem_of_getElem? (i := 636) (by decide +kernel)⟩
theorem lw_p24 : lw_okq (⟨"RailHouses$Reader", "readSum", "(I)V"⟩, 12) := ⟨⟨by decide +kernel, by decide +kernel⟩, List.mem_of_getElem? (i := 31) (by decide +kernel), List.mem_of_getElem? (i := 643) (by decide +kernel), List.mem_of_getElem? (i := 644) (by decide +kernel)⟩
theorem lw_p25 : lw_okq (⟨"RailHouses$Reader", "readTerm", "(I)V"⟩, 12) := ⟨⟨by decide +kernel, by decide +kernel⟩, List.mem_of_getElem? (i := 31) (by decide +kernel), List.mem_of_getElem? (i := 647) (by decide +kernel), List.mem_of_getElem? (i := 648) (by decide +kernel)⟩
theorem lw_p26 : lw_okq (⟨"RailHouses$Reader", "readUnit", "(I)V"⟩, 12) := ⟨⟨by decide +kernel, by decide +kernel⟩, List.mem_of_getElem? (i := 31) (by decide +kernel), List.mem_of_getElem? (i := 651) (by decide +kernel), List.mem_of_getElem? (i := 652) (by decide +kernel)⟩
theorem lw_p27 : lw_okq (⟨"RailHouses$Reader", "firstWord", "()J"⟩, 12) := ⟨⟨by decide +kernel, by decide +kernel⟩, List.mem_of_getElem? (i := 31) (by decide +kernel), List.mem_of_getElem? (i := 663) (by decide +kernel), List.mem_of_getElem? (i := 664) (by decide +kernel)⟩
theorem lw_p28 : lw_okq (⟨"RailHouses", "isRail", "(I)Z"⟩, 17) := ⟨⟨by decide +kernel, by decide +kernel⟩, List.mem_of_getElem? (i := 23) (by decide +kernel), List.mem_of_getElem? (i := 676) (by decide +kernel), List.mem_of_getElem? (i := 677) (by decide +kernel)⟩
theorem lw_p29 : lw_okq (⟨"RailHouses", "isHouse", "(I)Z"⟩, 17) := ⟨⟨by decide +kernel, by decide +kernel⟩, List.mem_of_getElem? (i := 23) (by decide +kernel), List.mem_of_getElem? (i := 692) (by decide +kernel), List.mem_of_getElem? (i := 693) (by decide +kernel)⟩
theorem lw_p30 : lw_okq (⟨"RailHouses", "canBeFrom", "(LRailHouses$Stand;III)Z"⟩, 17) := ⟨⟨by decide +kernel, by decide +kernel⟩, List.mem_of_getElem? (i := 23) (by decide +kernel), List.mem_of_getElem? (i := 716) (by decide +kernel), List.mem_of_getElem? (i := 717) (by decide +kernel)⟩
theorem lw_p31 : lw_okq (⟨"RailHouses", "areUnlikeRails", "(II)Z"⟩, 17) := ⟨⟨by decide +kernel, by decide +kernel⟩, List.mem_of_getElem? (i := 23) (by decide +kernel), List.mem_of_getElem? (i := 720) (by decide +kernel), List.mem_of_getElem? (i := 721) (by decide +kernel)⟩
def lw_privs_2 : List (MethodName × Nat) := [(⟨"RailHouses$Reader", "readBeside", "()V"⟩, 12), (⟨"RailHouses$Reader", "takeSignedNumber", "(I)I"⟩, 12), (⟨"RailHouses$Reader", "readNeck", "()V"⟩, 12), (⟨"RailHouses$Reader", "readDraws", "()V"⟩, 12), (⟨"RailHouses$Reader", "readLaw", "()V"⟩, 12), (⟨"RailHouses$Reader", "readEither", "(I)V"⟩, 12), (⟨"RailHouses$Reader", "readBoth", "(I)V"⟩, 12), (⟨"RailHouses$Reader", "readOne", "(I)V"⟩, 12), (⟨"RailHouses$Reader", "readSum", "(I)V"⟩, 12), (⟨"RailHouses$Reader", "readTerm", "(I)V"⟩, 12), (⟨"RailHouses$Reader", "readUnit", "(I)V"⟩, 12), (⟨"RailHouses$Reader", "firstWord", "()J"⟩, 12), (⟨"RailHouses", "isRail", "(I)Z"⟩, 17), (⟨"RailHouses", "isHouse", "(I)Z"⟩, 17), (⟨"RailHouses", "canBeFrom", "(LRailHouses$Stand;III)Z"⟩, 17), (⟨"RailHouses", "areUnlikeRails", "(II)Z"⟩, 17)]
theorem lw_r2 : ∀ q ∈ lw_privs_2, lw_okq q := List.forall_mem_cons.mpr ⟨lw_p16, List.forall_mem_cons.mpr ⟨lw_p17, List.forall_mem_cons.mpr ⟨lw_p18, List.forall_mem_cons.mpr ⟨lw_p19, List.forall_mem_cons.mpr ⟨lw_p20, List.forall_mem_cons.mpr ⟨lw_p21, List.forall_mem_cons.mpr ⟨lw_p22, List.forall_mem_cons.mpr ⟨lw_p23, List.forall_mem_cons.mpr ⟨lw_p24, List.forall_mem_cons.mpr ⟨lw_p25, List.forall_mem_cons.mpr ⟨lw_p26, List.forall_mem_cons.mpr ⟨lw_p27, List.forall_mem_cons.mpr ⟨lw_p28, List.forall_mem_cons.mpr ⟨lw_p29, List.forall_mem_cons.mpr ⟨lw_p30, List.forall_mem_cons.mpr ⟨lw_p31, fun _ h => absurd h List.not_mem_nil⟩⟩⟩⟩⟩⟩⟩⟩⟩⟩⟩⟩⟩⟩⟩⟩
theorem lw_p32 : lw_okq (⟨"RailHouses", "isLawfulFrom", "(LRailHouses$Stand;III)Z"⟩, 17) := ⟨⟨by decide +kernel, by decide +kernel⟩, List.mem_of_getElem? (i := 23) (by decide +kernel), List.mem_of_getElem? (i := 752) (by decide +kernel), List.mem_of_getElem? (i := 753) (by decide +kernel)⟩
theorem lw_p33 : lw_okq (⟨"RailHouses$Stand", "swapped", "(III)J"⟩, 9) := ⟨⟨by decide +kernel, by decide +kernel⟩, List.mem_of_getElem? (i := 272) (by decide +kernel), List.mem_of_getElem? (i := 775) (by decide +kernel), List.mem_of_getElem? (i := 776) (by decide +kernel)⟩
theorem lw_p34 : lw_okq (⟨"RailHouses", "takeBack", "(I)V"⟩, 17) := ⟨⟨by decide +kernel, by decide +kernel⟩, List.mem_of_getElem? (i := 23) (by decide +kernel), List.mem_of_getElem? (i := 788) (by decide +kernel), List.mem_of_getElem? (i := 789) (by decide +kernel)⟩
theorem lw_p35 : lw_okq (⟨"RailHouses", "isInGoal", "(I)Z"⟩, 17) := ⟨⟨by decide +kernel, by decide +kernel⟩, List.mem_of_getElem? (i := 23) (by decide +kernel), List.mem_of_getElem? (i := 826) (by decide +kernel), List.mem_of_getElem? (i := 827) (by decide +kernel)⟩
theorem lw_p36 : lw_okq (⟨"RailHouses", "isSpent", "()Z"⟩, 17) := ⟨⟨by decide +kernel, by decide +kernel⟩, List.mem_of_getElem? (i := 23) (by decide +kernel), List.mem_of_getElem? (i := 839) (by decide +kernel), List.mem_of_getElem? (i := 840) (by decide +kernel)⟩
theorem lw_p37 : lw_okq (⟨"RailHouses", "readySearch", "()V"⟩, 17) := ⟨⟨by decide +kernel, by decide +kernel⟩, List.mem_of_getElem? (i := 23) (by decide +kernel), List.mem_of_getElem? (i := 843) (by decide +kernel), List.mem_of_getElem? (i := 844) (by decide +kernel)⟩
theorem lw_p38 : lw_okq (⟨"RailHouses$Search", "begin", "(LRailHouses$Town;J)I"⟩, 12) := ⟨⟨by decide +kernel, by decide +kernel⟩, List.mem_of_getElem? (i := 851) (by decide +kernel), List.mem_of_getElem? (i := 976) (by decide +kernel), List.mem_of_getElem? (i := 977) (by decide +kernel)⟩
theorem lw_p39 : lw_okq (⟨"RailHouses$Search", "isMet", "(I)Z"⟩, 12) := ⟨⟨by decide +kernel, by decide +kernel⟩, List.mem_of_getElem? (i := 851) (by decide +kernel), List.mem_of_getElem? (i := 1013) (by decide +kernel), List.mem_of_getElem? (i := 1014) (by decide +kernel)⟩
theorem lw_p40 : lw_okq (⟨"RailHouses$Search", "isAlone", "(J)Z"⟩, 12) := ⟨⟨by decide +kernel, by decide +kernel⟩, List.mem_of_getElem? (i := 851) (by decide +kernel), List.mem_of_getElem? (i := 1017) (by decide +kernel), List.mem_of_getElem? (i := 1018) (by decide +kernel)⟩
theorem lw_p41 : lw_okq (⟨"RailHouses$Search", "keepBest", "(II)V"⟩, 12) := ⟨⟨by decide +kernel, by decide +kernel⟩, List.mem_of_getElem? (i := 851) (by decide +kernel), List.mem_of_getElem? (i := 1023) (by decide +kernel), List.mem_of_getElem? (i := 1024) (by decide +kernel)⟩
theorem lw_p42 : lw_okq (⟨"RailHouses$Search", "goOn", "(I)I"⟩, 12) := ⟨⟨by decide +kernel, by decide +kernel⟩, List.mem_of_getElem? (i := 851) (by decide +kernel), List.mem_of_getElem? (i := 1027) (by decide +kernel), List.mem_of_getElem? (i := 1028) (by decide +kernel)⟩
theorem lw_p43 : lw_okq (⟨"RailHouses", "lay", "(I)I"⟩, 17) := ⟨⟨by decide +kernel, by decide +kernel⟩, List.mem_of_getElem? (i := 23) (by decide +kernel), List.mem_of_getElem? (i := 1043) (by decide +kernel), List.mem_of_getElem? (i := 1044) (by decide +kernel)⟩
theorem lw_p44 : lw_okq (⟨"RailHouses$Search", "bestMet", "(I)I"⟩, 12) := ⟨⟨by decide +kernel, by decide +kernel⟩, List.mem_of_getElem? (i := 851) (by decide +kernel), List.mem_of_getElem? (i := 1078) (by decide +kernel), List.mem_of_getElem? (i := 1079) (by decide +kernel)⟩
theorem lw_p45 : lw_okq (⟨"RailHouses$Search", "leadsAhead", "(II)Z"⟩, 12) := ⟨⟨by decide +kernel, by decide +kernel⟩, List.mem_of_getElem? (i := 851) (by decide +kernel), List.mem_of_getElem? (i := 1086) (by decide +kernel), List.mem_of_getElem? (i := 1087) (by decide +kernel)⟩
theorem lw_p46 : lw_okq (⟨"RailHouses$Search", "weighOn", "(I)V"⟩, 12) := ⟨⟨by decide +kernel, by decide +kernel⟩, List.mem_of_getElem? (i := 851) (by decide +kernel), List.mem_of_getElem? (i := 1102) (by decide +kernel), List.mem_of_getElem? (i := 1103) (by decide +kernel)⟩
theorem lw_p47 : lw_okq (⟨"RailHouses$Search", "isBetter", "(III)Z"⟩, 12) := ⟨⟨by decide +kernel, by decide +kernel⟩, List.mem_of_getElem? (i := 851) (by decide +kernel), List.mem_of_getElem? (i := 1106) (by decide +kernel), List.mem_of_getElem? (i := 1107) (by decide +kernel)⟩
def lw_privs_3 : List (MethodName × Nat) := [(⟨"RailHouses", "isLawfulFrom", "(LRailHouses$Stand;III)Z"⟩, 17), (⟨"RailHouses$Stand", "swapped", "(III)J"⟩, 9), (⟨"RailHouses", "takeBack", "(I)V"⟩, 17), (⟨"RailHouses", "isInGoal", "(I)Z"⟩, 17), (⟨"RailHouses", "isSpent", "()Z"⟩, 17), (⟨"RailHouses", "readySearch", "()V"⟩, 17), (⟨"RailHouses$Search", "begin", "(LRailHouses$Town;J)I"⟩, 12), (⟨"RailHouses$Search", "isMet", "(I)Z"⟩, 12), (⟨"RailHouses$Search", "isAlone", "(J)Z"⟩, 12), (⟨"RailHouses$Search", "keepBest", "(II)V"⟩, 12), (⟨"RailHouses$Search", "goOn", "(I)I"⟩, 12), (⟨"RailHouses", "lay", "(I)I"⟩, 17), (⟨"RailHouses$Search", "bestMet", "(I)I"⟩, 12), (⟨"RailHouses$Search", "leadsAhead", "(II)Z"⟩, 12), (⟨"RailHouses$Search", "weighOn", "(I)V"⟩, 12), (⟨"RailHouses$Search", "isBetter", "(III)Z"⟩, 12)]
theorem lw_r3 : ∀ q ∈ lw_privs_3, lw_okq q := List.forall_mem_cons.mpr ⟨lw_p32, List.forall_mem_cons.mpr ⟨lw_p33, List.forall_mem_cons.mpr ⟨lw_p34, List.forall_mem_cons.mpr ⟨lw_p35, List.forall_mem_cons.mpr ⟨lw_p36, List.forall_mem_cons.mpr ⟨lw_p37, List.forall_mem_cons.mpr ⟨lw_p38, List.forall_mem_cons.mpr ⟨lw_p39, List.forall_mem_cons.mpr ⟨lw_p40, List.forall_mem_cons.mpr ⟨lw_p41, List.forall_mem_cons.mpr ⟨lw_p42, List.forall_mem_cons.mpr ⟨lw_p43, List.forall_mem_cons.mpr ⟨lw_p44, List.forall_mem_cons.mpr ⟨lw_p45, List.forall_mem_cons.mpr ⟨lw_p46, List.forall_mem_cons.mpr ⟨lw_p47, fun _ h => absurd h List.not_mem_nil⟩⟩⟩⟩⟩⟩⟩⟩⟩⟩⟩⟩⟩⟩⟩⟩
theorem lw_p48 : lw_okq (⟨"RailHouses$Sights", "setKnownAt", "(II)I"⟩, 15) := ⟨⟨by decide +kernel, by decide +kernel⟩, List.mem_of_getElem? (i := 340) (by decide +kernel), List.mem_of_getElem? (i := 1172) (by decide +kernel), List.mem_of_getElem? (i := 1173) (by decide +kernel)⟩
theorem lw_p49 : lw_okq (⟨"RailHouses$Sights", "goOn", "(I)V"⟩, 15) := ⟨⟨by decide +kernel, by decide +kernel⟩, List.mem_of_getElem? (i := 340) (by decide +kernel), List.mem_of_getElem? (i := 1179) (by decide +kernel), List.mem_of_getElem? (i := 1180) (by decide +kernel)⟩
theorem lw_p50 : lw_okq (⟨"RailHouses$Sights", "agrees", "(LRailHouses$Stand;I)Z"⟩, 15) := ⟨⟨by decide +kernel, by decide +kernel⟩, List.mem_of_getElem? (i := 340) (by decide +kernel), List.mem_of_getElem? (i := 1183) (by decide +kernel), List.mem_of_getElem? (i := 1184) (by decide +kernel)⟩
theorem lw_p51 : lw_okq (⟨"RailHousesModel", "clearBank", "()V"⟩, 90) := ⟨⟨by decide +kernel, by decide +kernel⟩, List.mem_of_getElem? (i := 1216) (by decide +kernel), List.mem_of_getElem? (i := 1224) (by decide +kernel), List.mem_of_getElem? (i := 1225) (by decide +kernel)⟩
theorem lw_p52 : lw_okq (⟨"RailHousesModel", "begin", "()V"⟩, 90) := ⟨⟨by decide +kernel, by decide +kernel⟩, List.mem_of_getElem? (i := 1216) (by decide +kernel), List.mem_of_getElem? (i := 1228) (by decide +kernel), List.mem_of_getElem? (i := 1229) (by decide +kernel)⟩
theorem lw_p53 : lw_okq (⟨"RailHousesModel", "layFirst", "()V"⟩, 90) := ⟨⟨by decide +kernel, by decide +kernel⟩, List.mem_of_getElem? (i := 1216) (by decide +kernel), List.mem_of_getElem? (i := 1232) (by decide +kernel), List.mem_of_getElem? (i := 1233) (by decide +kernel)⟩
theorem lw_p54 : lw_okq (⟨"RailHousesModel", "railMany", "()I"⟩, 90) := ⟨⟨by decide +kernel, by decide +kernel⟩, List.mem_of_getElem? (i := 1216) (by decide +kernel), List.mem_of_getElem? (i := 1236) (by decide +kernel), List.mem_of_getElem? (i := 1237) (by decide +kernel)⟩
theorem lw_p55 : lw_okq (⟨"RailHousesModel", "houseMany", "()I"⟩, 90) := ⟨⟨by decide +kernel, by decide +kernel⟩, List.mem_of_getElem? (i := 1216) (by decide +kernel), List.mem_of_getElem? (i := 1240) (by decide +kernel), List.mem_of_getElem? (i := 1241) (by decide +kernel)⟩
theorem lw_p56 : lw_okq (⟨"RailHousesModel", "keepNow", "()V"⟩, 90) := ⟨⟨by decide +kernel, by decide +kernel⟩, List.mem_of_getElem? (i := 1216) (by decide +kernel), List.mem_of_getElem? (i := 1244) (by decide +kernel), List.mem_of_getElem? (i := 1245) (by decide +kernel)⟩
theorem lw_p57 : lw_okq (⟨"RailHousesModel", "goOn", "()V"⟩, 90) := ⟨⟨by decide +kernel, by decide +kernel⟩, List.mem_of_getElem? (i := 1216) (by decide +kernel), List.mem_of_getElem? (i := 1523) (by decide +kernel), List.mem_of_getElem? (i := 1524) (by decide +kernel)⟩
theorem lw_p58 : lw_okq (⟨"RailHousesModel", "sign", "(I)I"⟩, 90) := ⟨⟨by decide +kernel, by decide +kernel⟩, List.mem_of_getElem? (i := 1216) (by decide +kernel), List.mem_of_getElem? (i := 1527) (by decide +kernel), List.mem_of_getElem? (i := 1528) (by decide +kernel)⟩
theorem lw_p59 : lw_okq (⟨"RailHousesModel", "isGood", "()Z"⟩, 90) := ⟨⟨by decide +kernel, by decide +kernel⟩, List.mem_of_getElem? (i := 1216) (by decide +kernel), List.mem_of_getElem? (i := 1561) (by decide +kernel), List.mem_of_getElem? (i := 1562) (by decide +kernel)⟩
theorem lw_p60 : lw_okq (⟨"RailHousesModel", "readLine", "()V"⟩, 90) := ⟨⟨by decide +kernel, by decide +kernel⟩, List.mem_of_getElem? (i := 1216) (by decide +kernel), List.mem_of_getElem? (i := 1565) (by decide +kernel), List.mem_of_getElem? (i := 1566) (by decide +kernel)⟩
theorem lw_p61 : lw_okq (⟨"RailHousesModel", "isFull", "()Z"⟩, 90) := ⟨⟨by decide +kernel, by decide +kernel⟩, List.mem_of_getElem? (i := 1216) (by decide +kernel), List.mem_of_getElem? (i := 1569) (by decide +kernel), List.mem_of_getElem? (i := 1570) (by decide +kernel)⟩
theorem lw_p62 : lw_okq (⟨"RailHousesModel", "isWord", "(J)Z"⟩, 90) := ⟨⟨by decide +kernel, by decide +kernel⟩, List.mem_of_getElem? (i := 1216) (by decide +kernel), List.mem_of_getElem? (i := 1573) (by decide +kernel), List.mem_of_getElem? (i := 1574) (by decide +kernel)⟩
theorem lw_p63 : lw_okq (⟨"RailHousesModel", "misplaced", "()V"⟩, 90) := ⟨⟨by decide +kernel, by decide +kernel⟩, List.mem_of_getElem? (i := 1216) (by decide +kernel), List.mem_of_getElem? (i := 1577) (by decide +kernel), List.mem_of_getElem? (i := 1578) (by decide +kernel)⟩
def lw_privs_4 : List (MethodName × Nat) := [(⟨"RailHouses$Sights", "setKnownAt", "(II)I"⟩, 15), (⟨"RailHouses$Sights", "goOn", "(I)V"⟩, 15), (⟨"RailHouses$Sights", "agrees", "(LRailHouses$Stand;I)Z"⟩, 15), (⟨"RailHousesModel", "clearBank", "()V"⟩, 90), (⟨"RailHousesModel", "begin", "()V"⟩, 90), (⟨"RailHousesModel", "layFirst", "()V"⟩, 90), (⟨"RailHousesModel", "railMany", "()I"⟩, 90), (⟨"RailHousesModel", "houseMany", "()I"⟩, 90), (⟨"RailHousesModel", "keepNow", "()V"⟩, 90), (⟨"RailHousesModel", "goOn", "()V"⟩, 90), (⟨"RailHousesModel", "sign", "(I)I"⟩, 90), (⟨"RailHousesModel", "isGood", "()Z"⟩, 90), (⟨"RailHousesModel", "readLine", "()V"⟩, 90), (⟨"RailHousesModel", "isFull", "()Z"⟩, 90), (⟨"RailHousesModel", "isWord", "(J)Z"⟩, 90), (⟨"RailHousesModel", "misplaced", "()V"⟩, 90)]
theorem lw_r4 : ∀ q ∈ lw_privs_4, lw_okq q := List.forall_mem_cons.mpr ⟨lw_p48, List.forall_mem_cons.mpr ⟨lw_p49, List.forall_mem_cons.mpr ⟨lw_p50, List.forall_mem_cons.mpr ⟨lw_p51, List.forall_mem_cons.mpr ⟨lw_p52, List.forall_mem_cons.mpr ⟨lw_p53, List.forall_mem_cons.mpr ⟨lw_p54, List.forall_mem_cons.mpr ⟨lw_p55, List.forall_mem_cons.mpr ⟨lw_p56, List.forall_mem_cons.mpr ⟨lw_p57, List.forall_mem_cons.mpr ⟨lw_p58, List.forall_mem_cons.mpr ⟨lw_p59, List.forall_mem_cons.mpr ⟨lw_p60, List.forall_mem_cons.mpr ⟨lw_p61, List.forall_mem_cons.mpr ⟨lw_p62, List.forall_mem_cons.mpr ⟨lw_p63, fun _ h => absurd h List.not_mem_nil⟩⟩⟩⟩⟩⟩⟩⟩⟩⟩⟩⟩⟩⟩⟩⟩
theorem lw_p64 : lw_okq (⟨"RailHousesModel", "fails", "(II)V"⟩, 90) := ⟨⟨by decide +kernel, by decide +kernel⟩, List.mem_of_getElem? (i := 1216) (by decide +kernel), List.mem_of_getElem? (i := 1581) (by decide +kernel), List.mem_of_getElem? (i := 1582) (by decide +kernel)⟩
theorem lw_p65 : lw_okq (⟨"RailHousesModel", "readRail", "()V"⟩, 90) := ⟨⟨by decide +kernel, by decide +kernel⟩, List.mem_of_getElem? (i := 1216) (by decide +kernel), List.mem_of_getElem? (i := 1585) (by decide +kernel), List.mem_of_getElem? (i := 1586) (by decide +kernel)⟩
theorem lw_p66 : lw_okq (⟨"RailHousesModel", "railHere", "()I"⟩, 90) := ⟨⟨by decide +kernel, by decide +kernel⟩, List.mem_of_getElem? (i := 1216) (by decide +kernel), List.mem_of_getElem? (i := 1589) (by decide +kernel), List.mem_of_getElem? (i := 1590) (by decide +kernel)⟩
theorem lw_p67 : lw_okq (⟨"RailHousesModel", "here", "([JII)I"⟩, 90) := ⟨⟨by decide +kernel, by decide +kernel⟩, List.mem_of_getElem? (i := 1216) (by decide +kernel), List.mem_of_getElem? (i := 1593) (by decide +kernel), List.mem_of_getElem? (i := 1594) (by decide +kernel)⟩
theorem lw_p68 : lw_okq (⟨"RailHousesModel", "fresh", "(Z)J"⟩, 90) := ⟨⟨by decide +kernel, by decide +kernel⟩, List.mem_of_getElem? (i := 1216) (by decide +kernel), List.mem_of_getElem? (i := 1597) (by decide +kernel), List.mem_of_getElem? (i := 1598) (by decide +kernel)⟩
theorem lw_p69 : lw_okq (⟨"RailHousesModel", "after", "(JII)I"⟩, 90) := ⟨⟨by decide +kernel, by decide +kernel⟩, List.mem_of_getElem? (i := 1216) (by decide +kernel), List.mem_of_getElem? (i := 1601) (by decide +kernel), List.mem_of_getElem? (i := 1602) (by decide +kernel)⟩
theorem lw_p70 : lw_okq (⟨"RailHousesModel", "must", "(Z)V"⟩, 90) := ⟨⟨by decide +kernel, by decide +kernel⟩, List.mem_of_getElem? (i := 1216) (by decide +kernel), List.mem_of_getElem? (i := 1605) (by decide +kernel), List.mem_of_getElem? (i := 1606) (by decide +kernel)⟩
theorem lw_p71 : lw_okq (⟨"RailHousesModel", "numeral", "(II)I"⟩, 90) := ⟨⟨by decide +kernel, by decide +kernel⟩, List.mem_of_getElem? (i := 1216) (by decide +kernel), List.mem_of_getElem? (i := 1609) (by decide +kernel), List.mem_of_getElem? (i := 1610) (by decide +kernel)⟩
theorem lw_p72 : lw_okq (⟨"RailHousesModel", "readHouse", "()V"⟩, 90) := ⟨⟨by decide +kernel, by decide +kernel⟩, List.mem_of_getElem? (i := 1216) (by decide +kernel), List.mem_of_getElem? (i := 1613) (by decide +kernel), List.mem_of_getElem? (i := 1614) (by decide +kernel)⟩
theorem lw_p73 : lw_okq (⟨"RailHousesModel", "houseHere", "()I"⟩, 90) := ⟨⟨by decide +kernel, by decide +kernel⟩, List.mem_of_getElem? (i := 1216) (by decide +kernel), List.mem_of_getElem? (i := 1617) (by decide +kernel), List.mem_of_getElem? (i := 1618) (by decide +kernel)⟩
theorem lw_p74 : lw_okq (⟨"RailHousesModel", "known", "(I)I"⟩, 90) := ⟨⟨by decide +kernel, by decide +kernel⟩, List.mem_of_getElem? (i := 1216) (by decide +kernel), List.mem_of_getElem? (i := 1621) (by decide +kernel), List.mem_of_getElem? (i := 1622) (by decide +kernel)⟩
theorem lw_p75 : lw_okq (⟨"RailHousesModel", "stands", "(I)Z"⟩, 90) := ⟨⟨by decide +kernel, by decide +kernel⟩, List.mem_of_getElem? (i := 1216) (by decide +kernel), List.mem_of_getElem? (i := 1625) (by decide +kernel), List.mem_of_getElem? (i := 1626) (by decide +kernel)⟩
theorem lw_p76 : lw_okq (⟨"RailHousesModel", "readBeside", "()V"⟩, 90) := ⟨⟨by decide +kernel, by decide +kernel⟩, List.mem_of_getElem? (i := 1216) (by decide +kernel), List.mem_of_getElem? (i := 1629) (by decide +kernel), List.mem_of_getElem? (i := 1630) (by decide +kernel)⟩
theorem lw_p77 : lw_okq (⟨"RailHousesModel", "signed", "(I)I"⟩, 90) := ⟨⟨by decide +kernel, by decide +kernel⟩, List.mem_of_getElem? (i := 1216) (by decide +kernel), List.mem_of_getElem? (i := 1633) (by decide +kernel), List.mem_of_getElem? (i := 1634) (by decide +kernel)⟩
theorem lw_p78 : lw_okq (⟨"RailHousesModel", "e", "()V"⟩, 90) := ⟨⟨by decide +kernel, by decide +kernel⟩, List.mem_of_getElem? (i := 1216) (by decide +kernel), List.mem_of_getElem? (i := 1637) (by decide +kernel), List.mem_of_getElem? (i := 1638) (by decide +kernel)⟩
theorem lw_p79 : lw_okq (⟨"RailHousesModel", "pushE", "(II)V"⟩, 90) := ⟨⟨by decide +kernel, by decide +kernel⟩, List.mem_of_getElem? (i := 1216) (by decide +kernel), List.mem_of_getElem? (i := 1641) (by decide +kernel), List.mem_of_getElem? (i := 1642) (by decide +kernel)⟩
def lw_privs_5 : List (MethodName × Nat) := [(⟨"RailHousesModel", "fails", "(II)V"⟩, 90), (⟨"RailHousesModel", "readRail", "()V"⟩, 90), (⟨"RailHousesModel", "railHere", "()I"⟩, 90), (⟨"RailHousesModel", "here", "([JII)I"⟩, 90), (⟨"RailHousesModel", "fresh", "(Z)J"⟩, 90), (⟨"RailHousesModel", "after", "(JII)I"⟩, 90), (⟨"RailHousesModel", "must", "(Z)V"⟩, 90), (⟨"RailHousesModel", "numeral", "(II)I"⟩, 90), (⟨"RailHousesModel", "readHouse", "()V"⟩, 90), (⟨"RailHousesModel", "houseHere", "()I"⟩, 90), (⟨"RailHousesModel", "known", "(I)I"⟩, 90), (⟨"RailHousesModel", "stands", "(I)Z"⟩, 90), (⟨"RailHousesModel", "readBeside", "()V"⟩, 90), (⟨"RailHousesModel", "signed", "(I)I"⟩, 90), (⟨"RailHousesModel", "e", "()V"⟩, 90), (⟨"RailHousesModel", "pushE", "(II)V"⟩, 90)]
theorem lw_r5 : ∀ q ∈ lw_privs_5, lw_okq q := List.forall_mem_cons.mpr ⟨lw_p64, List.forall_mem_cons.mpr ⟨lw_p65, List.forall_mem_cons.mpr ⟨lw_p66, List.forall_mem_cons.mpr ⟨lw_p67, List.forall_mem_cons.mpr ⟨lw_p68, List.forall_mem_cons.mpr ⟨lw_p69, List.forall_mem_cons.mpr ⟨lw_p70, List.forall_mem_cons.mpr ⟨lw_p71, List.forall_mem_cons.mpr ⟨lw_p72, List.forall_mem_cons.mpr ⟨lw_p73, List.forall_mem_cons.mpr ⟨lw_p74, List.forall_mem_cons.mpr ⟨lw_p75, List.forall_mem_cons.mpr ⟨lw_p76, List.forall_mem_cons.mpr ⟨lw_p77, List.forall_mem_cons.mpr ⟨lw_p78, List.forall_mem_cons.mpr ⟨lw_p79, fun _ h => absurd h List.not_mem_nil⟩⟩⟩⟩⟩⟩⟩⟩⟩⟩⟩⟩⟩⟩⟩⟩
theorem lw_p80 : lw_okq (⟨"RailHousesModel", "unit", "()Z"⟩, 90) := ⟨⟨by decide +kernel, by decide +kernel⟩, List.mem_of_getElem? (i := 1216) (by decide +kernel), List.mem_of_getElem? (i := 1645) (by decide +kernel), List.mem_of_getElem? (i := 1646) (by decide +kernel)⟩
theorem lw_p81 : lw_okq (⟨"RailHousesModel", "wordHere", "()I"⟩, 90) := ⟨⟨by decide +kernel, by decide +kernel⟩, List.mem_of_getElem? (i := 1216) (by decide +kernel), List.mem_of_getElem? (i := 1649) (by decide +kernel), List.mem_of_getElem? (i := 1650) (by decide +kernel)⟩
theorem lw_p82 : lw_okq (⟨"RailHousesModel", "emit", "(II)V"⟩, 90) := ⟨⟨by decide +kernel, by decide +kernel⟩, List.mem_of_getElem? (i := 1216) (by decide +kernel), List.mem_of_getElem? (i := 1653) (by decide +kernel), List.mem_of_getElem? (i := 1654) (by decide +kernel)⟩
theorem lw_p83 : lw_okq (⟨"RailHousesModel", "behindUnit", "()Z"⟩, 90) := ⟨⟨by decide +kernel, by decide +kernel⟩, List.mem_of_getElem? (i := 1216) (by decide +kernel), List.mem_of_getElem? (i := 1657) (by decide +kernel), List.mem_of_getElem? (i := 1658) (by decide +kernel)⟩
theorem lw_p84 : lw_okq (⟨"RailHousesModel", "rankHere", "()I"⟩, 90) := ⟨⟨by decide +kernel, by decide +kernel⟩, List.mem_of_getElem? (i := 1216) (by decide +kernel), List.mem_of_getElem? (i := 1661) (by decide +kernel), List.mem_of_getElem? (i := 1662) (by decide +kernel)⟩
theorem lw_p85 : lw_okq (⟨"RailHousesModel", "isCompared", "()Z"⟩, 90) := ⟨⟨by decide +kernel, by decide +kernel⟩, List.mem_of_getElem? (i := 1216) (by decide +kernel), List.mem_of_getElem? (i := 1665) (by decide +kernel), List.mem_of_getElem? (i := 1666) (by decide +kernel)⟩
theorem lw_p86 : lw_okq (⟨"RailHousesModel", "isRail", "(I)Z"⟩, 90) := ⟨⟨by decide +kernel, by decide +kernel⟩, List.mem_of_getElem? (i := 1216) (by decide +kernel), List.mem_of_getElem? (i := 1677) (by decide +kernel), List.mem_of_getElem? (i := 1678) (by decide +kernel)⟩
theorem lw_p87 : lw_okq (⟨"RailHousesModel", "isHouse", "(I)Z"⟩, 90) := ⟨⟨by decide +kernel, by decide +kernel⟩, List.mem_of_getElem? (i := 1216) (by decide +kernel), List.mem_of_getElem? (i := 1688) (by decide +kernel), List.mem_of_getElem? (i := 1689) (by decide +kernel)⟩
theorem lw_p88 : lw_okq (⟨"RailHousesModel", "layNow", "()V"⟩, 90) := ⟨⟨by decide +kernel, by decide +kernel⟩, List.mem_of_getElem? (i := 1216) (by decide +kernel), List.mem_of_getElem? (i := 1692) (by decide +kernel), List.mem_of_getElem? (i := 1693) (by decide +kernel)⟩
theorem lw_p89 : lw_okq (⟨"RailHousesModel", "beginOf", "(I)I"⟩, 90) := ⟨⟨by decide +kernel, by decide +kernel⟩, List.mem_of_getElem? (i := 1216) (by decide +kernel), List.mem_of_getElem? (i := 1696) (by decide +kernel), List.mem_of_getElem? (i := 1697) (by decide +kernel)⟩
theorem lw_p90 : lw_okq (⟨"RailHousesModel", "roomOn", "(I)I"⟩, 90) := ⟨⟨by decide +kernel, by decide +kernel⟩, List.mem_of_getElem? (i := 1216) (by decide +kernel), List.mem_of_getElem? (i := 1704) (by decide +kernel), List.mem_of_getElem? (i := 1705) (by decide +kernel)⟩
theorem lw_p91 : lw_okq (⟨"RailHousesModel", "canBe", "(III)Z"⟩, 90) := ⟨⟨by decide +kernel, by decide +kernel⟩, List.mem_of_getElem? (i := 1216) (by decide +kernel), List.mem_of_getElem? (i := 1712) (by decide +kernel), List.mem_of_getElem? (i := 1713) (by decide +kernel)⟩
theorem lw_p92 : lw_okq (⟨"RailHousesModel", "comes", "(III)I"⟩, 90) := ⟨⟨by decide +kernel, by decide +kernel⟩, List.mem_of_getElem? (i := 1216) (by decide +kernel), List.mem_of_getElem? (i := 1716) (by decide +kernel), List.mem_of_getElem? (i := 1717) (by decide +kernel)⟩
theorem lw_p93 : lw_okq (⟨"RailHousesModel", "amount", "(IIII)I"⟩, 90) := ⟨⟨by decide +kernel, by decide +kernel⟩, List.mem_of_getElem? (i := 1216) (by decide +kernel), List.mem_of_getElem? (i := 1720) (by decide +kernel), List.mem_of_getElem? (i := 1721) (by decide +kernel)⟩
theorem lw_p94 : lw_okq (⟨"RailHousesModel", "sumOf", "([III)I"⟩, 90) := ⟨⟨by decide +kernel, by decide +kernel⟩, List.mem_of_getElem? (i := 1216) (by decide +kernel), List.mem_of_getElem? (i := 1724) (by decide +kernel), List.mem_of_getElem? (i := 1725) (by decide +kernel)⟩
theorem lw_p95 : lw_okq (⟨"RailHousesModel", "isLawful", "(III)Z"⟩, 90) := ⟨⟨by decide +kernel, by decide +kernel⟩, List.mem_of_getElem? (i := 1216) (by decide +kernel), List.mem_of_getElem? (i := 1736) (by decide +kernel), List.mem_of_getElem? (i := 1737) (by decide +kernel)⟩
def lw_privs_6 : List (MethodName × Nat) := [(⟨"RailHousesModel", "unit", "()Z"⟩, 90), (⟨"RailHousesModel", "wordHere", "()I"⟩, 90), (⟨"RailHousesModel", "emit", "(II)V"⟩, 90), (⟨"RailHousesModel", "behindUnit", "()Z"⟩, 90), (⟨"RailHousesModel", "rankHere", "()I"⟩, 90), (⟨"RailHousesModel", "isCompared", "()Z"⟩, 90), (⟨"RailHousesModel", "isRail", "(I)Z"⟩, 90), (⟨"RailHousesModel", "isHouse", "(I)Z"⟩, 90), (⟨"RailHousesModel", "layNow", "()V"⟩, 90), (⟨"RailHousesModel", "beginOf", "(I)I"⟩, 90), (⟨"RailHousesModel", "roomOn", "(I)I"⟩, 90), (⟨"RailHousesModel", "canBe", "(III)Z"⟩, 90), (⟨"RailHousesModel", "comes", "(III)I"⟩, 90), (⟨"RailHousesModel", "amount", "(IIII)I"⟩, 90), (⟨"RailHousesModel", "sumOf", "([III)I"⟩, 90), (⟨"RailHousesModel", "isLawful", "(III)Z"⟩, 90)]
theorem lw_r6 : ∀ q ∈ lw_privs_6, lw_okq q := List.forall_mem_cons.mpr ⟨lw_p80, List.forall_mem_cons.mpr ⟨lw_p81, List.forall_mem_cons.mpr ⟨lw_p82, List.forall_mem_cons.mpr ⟨lw_p83, List.forall_mem_cons.mpr ⟨lw_p84, List.forall_mem_cons.mpr ⟨lw_p85, List.forall_mem_cons.mpr ⟨lw_p86, List.forall_mem_cons.mpr ⟨lw_p87, List.forall_mem_cons.mpr ⟨lw_p88, List.forall_mem_cons.mpr ⟨lw_p89, List.forall_mem_cons.mpr ⟨lw_p90, List.forall_mem_cons.mpr ⟨lw_p91, List.forall_mem_cons.mpr ⟨lw_p92, List.forall_mem_cons.mpr ⟨lw_p93, List.forall_mem_cons.mpr ⟨lw_p94, List.forall_mem_cons.mpr ⟨lw_p95, fun _ h => absurd h List.not_mem_nil⟩⟩⟩⟩⟩⟩⟩⟩⟩⟩⟩⟩⟩⟩⟩⟩
theorem lw_p96 : lw_okq (⟨"RailHousesModel", "moves", "(III)V"⟩, 90) := ⟨⟨by decide +kernel, by decide +kernel⟩, List.mem_of_getElem? (i := 1216) (by decide +kernel), List.mem_of_getElem? (i := 1744) (by decide +kernel), List.mem_of_getElem? (i := 1745) (by decide +kernel)⟩
theorem lw_p97 : lw_okq (⟨"RailHousesModel", "worthOfRow", "()I"⟩, 90) := ⟨⟨by decide +kernel, by decide +kernel⟩, List.mem_of_getElem? (i := 1216) (by decide +kernel), List.mem_of_getElem? (i := 1756) (by decide +kernel), List.mem_of_getElem? (i := 1757) (by decide +kernel)⟩
theorem lw_p98 : lw_okq (⟨"RailHousesModel", "isMany", "()Z"⟩, 90) := ⟨⟨by decide +kernel, by decide +kernel⟩, List.mem_of_getElem? (i := 1216) (by decide +kernel), List.mem_of_getElem? (i := 1784) (by decide +kernel), List.mem_of_getElem? (i := 1785) (by decide +kernel)⟩
theorem lw_p99 : lw_okq (⟨"RailHousesModel", "search", "(II)I"⟩, 90) := ⟨⟨by decide +kernel, by decide +kernel⟩, List.mem_of_getElem? (i := 1216) (by decide +kernel), List.mem_of_getElem? (i := 1788) (by decide +kernel), List.mem_of_getElem? (i := 1789) (by decide +kernel)⟩
theorem lw_p100 : lw_okq (⟨"RailHousesModel", "begins", "()V"⟩, 90) := ⟨⟨by decide +kernel, by decide +kernel⟩, List.mem_of_getElem? (i := 1216) (by decide +kernel), List.mem_of_getElem? (i := 1792) (by decide +kernel), List.mem_of_getElem? (i := 1793) (by decide +kernel)⟩
theorem lw_p101 : lw_okq (⟨"RailHousesModel", "stateOf", "()I"⟩, 90) := ⟨⟨by decide +kernel, by decide +kernel⟩, List.mem_of_getElem? (i := 1216) (by decide +kernel), List.mem_of_getElem? (i := 1796) (by decide +kernel), List.mem_of_getElem? (i := 1797) (by decide +kernel)⟩
theorem lw_p102 : lw_okq (⟨"RailHousesModel", "layState", "(I)V"⟩, 90) := ⟨⟨by decide +kernel, by decide +kernel⟩, List.mem_of_getElem? (i := 1216) (by decide +kernel), List.mem_of_getElem? (i := 1800) (by decide +kernel), List.mem_of_getElem? (i := 1801) (by decide +kernel)⟩
theorem lw_p103 : lw_okq (⟨"RailHousesModel", "isEnd", "()Z"⟩, 90) := ⟨⟨by decide +kernel, by decide +kernel⟩, List.mem_of_getElem? (i := 1216) (by decide +kernel), List.mem_of_getElem? (i := 1804) (by decide +kernel), List.mem_of_getElem? (i := 1805) (by decide +kernel)⟩
theorem lw_p104 : lw_okq (⟨"RailHousesModel", "isFree", "(I)Z"⟩, 90) := ⟨⟨by decide +kernel, by decide +kernel⟩, List.mem_of_getElem? (i := 1216) (by decide +kernel), List.mem_of_getElem? (i := 1808) (by decide +kernel), List.mem_of_getElem? (i := 1809) (by decide +kernel)⟩
theorem lw_p105 : lw_okq (⟨"RailHousesModel", "spread", "(I)V"⟩, 90) := ⟨⟨by decide +kernel, by decide +kernel⟩, List.mem_of_getElem? (i := 1216) (by decide +kernel), List.mem_of_getElem? (i := 1812) (by decide +kernel), List.mem_of_getElem? (i := 1813) (by decide +kernel)⟩
theorem lw_p106 : lw_okq (⟨"RailHousesModel", "keepAt", "()V"⟩, 90) := ⟨⟨by decide +kernel, by decide +kernel⟩, List.mem_of_getElem? (i := 1216) (by decide +kernel), List.mem_of_getElem? (i := 1816) (by decide +kernel), List.mem_of_getElem? (i := 1817) (by decide +kernel)⟩
theorem lw_p107 : lw_okq (⟨"RailHousesModel", "layAt", "()V"⟩, 90) := ⟨⟨by decide +kernel, by decide +kernel⟩, List.mem_of_getElem? (i := 1216) (by decide +kernel), List.mem_of_getElem? (i := 1820) (by decide +kernel), List.mem_of_getElem? (i := 1821) (by decide +kernel)⟩
theorem lw_p108 : lw_okq (⟨"RailHousesModel", "layWay", "(I)V"⟩, 90) := ⟨⟨by decide +kernel, by decide +kernel⟩, List.mem_of_getElem? (i := 1216) (by decide +kernel), List.mem_of_getElem? (i := 1824) (by decide +kernel), List.mem_of_getElem? (i := 1825) (by decide +kernel)⟩
theorem lw_p109 : lw_okq (⟨"RailHousesModel", "settle", "()V"⟩, 90) := ⟨⟨by decide +kernel, by decide +kernel⟩, List.mem_of_getElem? (i := 1216) (by decide +kernel), List.mem_of_getElem? (i := 1844) (by decide +kernel), List.mem_of_getElem? (i := 1845) (by decide +kernel)⟩
theorem lw_p110 : lw_okq (⟨"RailHousesModel", "reaches", "(III)V"⟩, 90) := ⟨⟨by decide +kernel, by decide +kernel⟩, List.mem_of_getElem? (i := 1216) (by decide +kernel), List.mem_of_getElem? (i := 1848) (by decide +kernel), List.mem_of_getElem? (i := 1849) (by decide +kernel)⟩
theorem lw_p111 : lw_okq (⟨"RailHousesModel", "rise", "(I)V"⟩, 90) := ⟨⟨by decide +kernel, by decide +kernel⟩, List.mem_of_getElem? (i := 1216) (by decide +kernel), List.mem_of_getElem? (i := 1852) (by decide +kernel), List.mem_of_getElem? (i := 1853) (by decide +kernel)⟩
def lw_privs_7 : List (MethodName × Nat) := [(⟨"RailHousesModel", "moves", "(III)V"⟩, 90), (⟨"RailHousesModel", "worthOfRow", "()I"⟩, 90), (⟨"RailHousesModel", "isMany", "()Z"⟩, 90), (⟨"RailHousesModel", "search", "(II)I"⟩, 90), (⟨"RailHousesModel", "begins", "()V"⟩, 90), (⟨"RailHousesModel", "stateOf", "()I"⟩, 90), (⟨"RailHousesModel", "layState", "(I)V"⟩, 90), (⟨"RailHousesModel", "isEnd", "()Z"⟩, 90), (⟨"RailHousesModel", "isFree", "(I)Z"⟩, 90), (⟨"RailHousesModel", "spread", "(I)V"⟩, 90), (⟨"RailHousesModel", "keepAt", "()V"⟩, 90), (⟨"RailHousesModel", "layAt", "()V"⟩, 90), (⟨"RailHousesModel", "layWay", "(I)V"⟩, 90), (⟨"RailHousesModel", "settle", "()V"⟩, 90), (⟨"RailHousesModel", "reaches", "(III)V"⟩, 90), (⟨"RailHousesModel", "rise", "(I)V"⟩, 90)]
theorem lw_r7 : ∀ q ∈ lw_privs_7, lw_okq q := List.forall_mem_cons.mpr ⟨lw_p96, List.forall_mem_cons.mpr ⟨lw_p97, List.forall_mem_cons.mpr ⟨lw_p98, List.forall_mem_cons.mpr ⟨lw_p99, List.forall_mem_cons.mpr ⟨lw_p100, List.forall_mem_cons.mpr ⟨lw_p101, List.forall_mem_cons.mpr ⟨lw_p102, List.forall_mem_cons.mpr ⟨lw_p103, List.forall_mem_cons.mpr ⟨lw_p104, List.forall_mem_cons.mpr ⟨lw_p105, List.forall_mem_cons.mpr ⟨lw_p106, List.forall_mem_cons.mpr ⟨lw_p107, List.forall_mem_cons.mpr ⟨lw_p108, List.forall_mem_cons.mpr ⟨lw_p109, List.forall_mem_cons.mpr ⟨lw_p110, List.forall_mem_cons.mpr ⟨lw_p111, fun _ h => absurd h List.not_mem_nil⟩⟩⟩⟩⟩⟩⟩⟩⟩⟩⟩⟩⟩⟩⟩⟩
theorem lw_p112 : lw_okq (⟨"RailHousesModel", "isBefore", "(II)Z"⟩, 90) := ⟨⟨by decide +kernel, by decide +kernel⟩, List.mem_of_getElem? (i := 1216) (by decide +kernel), List.mem_of_getElem? (i := 1856) (by decide +kernel), List.mem_of_getElem? (i := 1857) (by decide +kernel)⟩
theorem lw_p113 : lw_okq (⟨"RailHousesModel", "put", "(II)V"⟩, 90) := ⟨⟨by decide +kernel, by decide +kernel⟩, List.mem_of_getElem? (i := 1216) (by decide +kernel), List.mem_of_getElem? (i := 1860) (by decide +kernel), List.mem_of_getElem? (i := 1861) (by decide +kernel)⟩
theorem lw_p114 : lw_okq (⟨"RailHousesModel", "takeFirst", "()I"⟩, 90) := ⟨⟨by decide +kernel, by decide +kernel⟩, List.mem_of_getElem? (i := 1216) (by decide +kernel), List.mem_of_getElem? (i := 1864) (by decide +kernel), List.mem_of_getElem? (i := 1865) (by decide +kernel)⟩
theorem lw_p115 : lw_okq (⟨"RailHousesModel", "nextTight", "(I)I"⟩, 90) := ⟨⟨by decide +kernel, by decide +kernel⟩, List.mem_of_getElem? (i := 1216) (by decide +kernel), List.mem_of_getElem? (i := 1868) (by decide +kernel), List.mem_of_getElem? (i := 1869) (by decide +kernel)⟩
theorem lw_p116 : lw_okq (⟨"RailHousesModel", "layLightest", "()V"⟩, 90) := ⟨⟨by decide +kernel, by decide +kernel⟩, List.mem_of_getElem? (i := 1216) (by decide +kernel), List.mem_of_getElem? (i := 1872) (by decide +kernel), List.mem_of_getElem? (i := 1873) (by decide +kernel)⟩
theorem lw_p117 : lw_okq (⟨"RailHousesModel", "rowsOf", "(II)I"⟩, 90) := ⟨⟨by decide +kernel, by decide +kernel⟩, List.mem_of_getElem? (i := 1216) (by decide +kernel), List.mem_of_getElem? (i := 1897) (by decide +kernel), List.mem_of_getElem? (i := 1898) (by decide +kernel)⟩
theorem lw_p118 : lw_okq (⟨"RailHousesModel", "keepTried", "(I)V"⟩, 90) := ⟨⟨by decide +kernel, by decide +kernel⟩, List.mem_of_getElem? (i := 1216) (by decide +kernel), List.mem_of_getElem? (i := 1901) (by decide +kernel), List.mem_of_getElem? (i := 1902) (by decide +kernel)⟩
theorem lw_p119 : lw_okq (⟨"RailHousesModel", "isSo", "(II)Z"⟩, 90) := ⟨⟨by decide +kernel, by decide +kernel⟩, List.mem_of_getElem? (i := 1216) (by decide +kernel), List.mem_of_getElem? (i := 1905) (by decide +kernel), List.mem_of_getElem? (i := 1906) (by decide +kernel)⟩
theorem lw_p120 : lw_okq (⟨"RailHousesModel", "railOf", "(I)I"⟩, 90) := ⟨⟨by decide +kernel, by decide +kernel⟩, List.mem_of_getElem? (i := 1216) (by decide +kernel), List.mem_of_getElem? (i := 1909) (by decide +kernel), List.mem_of_getElem? (i := 1910) (by decide +kernel)⟩
theorem lw_p121 : lw_okq (⟨"RailHousesModel", "meets", "()I"⟩, 90) := ⟨⟨by decide +kernel, by decide +kernel⟩, List.mem_of_getElem? (i := 1216) (by decide +kernel), List.mem_of_getElem? (i := 1913) (by decide +kernel), List.mem_of_getElem? (i := 1914) (by decide +kernel)⟩
theorem lw_p122 : lw_okq (⟨"RailHousesModel", "nextPull", "(II)I"⟩, 90) := ⟨⟨by decide +kernel, by decide +kernel⟩, List.mem_of_getElem? (i := 1216) (by decide +kernel), List.mem_of_getElem? (i := 1917) (by decide +kernel), List.mem_of_getElem? (i := 1918) (by decide +kernel)⟩
theorem lw_p123 : lw_okq (⟨"RailHousesModel", "layTried", "(I)V"⟩, 90) := ⟨⟨by decide +kernel, by decide +kernel⟩, List.mem_of_getElem? (i := 1216) (by decide +kernel), List.mem_of_getElem? (i := 1921) (by decide +kernel), List.mem_of_getElem? (i := 1922) (by decide +kernel)⟩
def lw_privs_8 : List (MethodName × Nat) := [(⟨"RailHousesModel", "isBefore", "(II)Z"⟩, 90), (⟨"RailHousesModel", "put", "(II)V"⟩, 90), (⟨"RailHousesModel", "takeFirst", "()I"⟩, 90), (⟨"RailHousesModel", "nextTight", "(I)I"⟩, 90), (⟨"RailHousesModel", "layLightest", "()V"⟩, 90), (⟨"RailHousesModel", "rowsOf", "(II)I"⟩, 90), (⟨"RailHousesModel", "keepTried", "(I)V"⟩, 90), (⟨"RailHousesModel", "isSo", "(II)Z"⟩, 90), (⟨"RailHousesModel", "railOf", "(I)I"⟩, 90), (⟨"RailHousesModel", "meets", "()I"⟩, 90), (⟨"RailHousesModel", "nextPull", "(II)I"⟩, 90), (⟨"RailHousesModel", "layTried", "(I)V"⟩, 90)]
theorem lw_r8 : ∀ q ∈ lw_privs_8, lw_okq q := List.forall_mem_cons.mpr ⟨lw_p112, List.forall_mem_cons.mpr ⟨lw_p113, List.forall_mem_cons.mpr ⟨lw_p114, List.forall_mem_cons.mpr ⟨lw_p115, List.forall_mem_cons.mpr ⟨lw_p116, List.forall_mem_cons.mpr ⟨lw_p117, List.forall_mem_cons.mpr ⟨lw_p118, List.forall_mem_cons.mpr ⟨lw_p119, List.forall_mem_cons.mpr ⟨lw_p120, List.forall_mem_cons.mpr ⟨lw_p121, List.forall_mem_cons.mpr ⟨lw_p122, List.forall_mem_cons.mpr ⟨lw_p123, fun _ h => absurd h List.not_mem_nil⟩⟩⟩⟩⟩⟩⟩⟩⟩⟩⟩⟩
def lw_privs : List (MethodName × Nat) := lw_privs_1 ++ (lw_privs_2 ++ (lw_privs_3 ++ (lw_privs_4 ++ (lw_privs_5 ++ (lw_privs_6 ++ (lw_privs_7 ++ (lw_privs_8)))))))
def lw_tbl : List Cond := k2_sels lw_privs ++ tables_1
theorem lw_privs_ok : ∀ q ∈ lw_privs, lw_okq q := by
  show ∀ q ∈ lw_privs_1 ++ (lw_privs_2 ++ (lw_privs_3 ++ (lw_privs_4 ++ (lw_privs_5 ++ (lw_privs_6 ++ (lw_privs_7 ++ (lw_privs_8))))))), lw_okq q
  exact List.forall_mem_append.mpr ⟨lw_r1, List.forall_mem_append.mpr ⟨lw_r2, List.forall_mem_append.mpr ⟨lw_r3, List.forall_mem_append.mpr ⟨lw_r4, List.forall_mem_append.mpr ⟨lw_r5, List.forall_mem_append.mpr ⟨lw_r6, List.forall_mem_append.mpr ⟨lw_r7, lw_r8⟩⟩⟩⟩⟩⟩⟩
end
section
def RX0 : String := "RailHouses$Found"
def TX0 : u_T := fun k => match k with
  | 0 => ("RailHouses$Found", "size", "I", false)
  | 1 => ("RailHouses$Found", "words", "[J", true)
  | 2 => ("RailHouses$Found", "parents", "[I", true)
  | 3 => ("RailHouses$Found", "codes", "[I", true)
  | 4 => ("RailHouses$Found", "depths", "[I", true)
  | 5 => ("RailHouses$Found", "table", "[I", true)
  | 6 => ("RailHouses$Found", "tableBits", "I", false)
  | _ => ("RailHouses$Found", "slot", "I", false)
def tyX0 : Nat → FieldType := fun k => match k with
  | 0 => .int
  | 1 => .array .long
  | 2 => .array .int
  | 3 => .array .int
  | 4 => .array .int
  | 5 => .array .int
  | 6 => .int
  | _ => .int
abbrev wsX00 : List Cond := u_ws RX0 TX0 8
theorem nmX0 : ∀ a, a < 8 → ∀ b, b < 8 → a ≠ b → (TX0 a).2.1 ≠ (TX0 b).2.1 := by decide +kernel
theorem tyX0_ok : ∀ k, k < 8 → parseFieldDescriptor (TX0 k).2.2.1 = some (tyX0 k) := by decide +kernel
abbrev cX0_init : ByteArray := prog_2_method_1_code
def yX0_init : MethodName := ⟨RX0, "<init>", "(I)V"⟩
abbrev cX0_bitsFor : ByteArray := prog_2_method_2_code
def yX0_bitsFor : MethodName := ⟨RX0, "bitsFor", "(I)I"⟩
abbrev cX0_begin : ByteArray := prog_2_method_3_code
def yX0_begin : MethodName := ⟨RX0, "begin", "(I)V"⟩
abbrev cX0_numberOf : ByteArray := prog_2_method_4_code
def yX0_numberOf : MethodName := ⟨RX0, "numberOf", "(J)I"⟩
abbrev cX0_add : ByteArray := prog_2_method_5_code
def yX0_add : MethodName := ⟨RX0, "add", "(JII)I"⟩
abbrev cX0_lead : ByteArray := prog_2_method_6_code
def yX0_lead : MethodName := ⟨RX0, "lead", "(III)V"⟩
abbrev cX0_isAhead : ByteArray := prog_2_method_7_code
def yX0_isAhead : MethodName := ⟨RX0, "isAhead", "(II)Z"⟩
abbrev cX0_copyRow : ByteArray := prog_2_method_8_code
def yX0_copyRow : MethodName := ⟨RX0, "copyRow", "(ILRailHouses$Pulls;)V"⟩
def RX1 : String := "RailHouses$Law"
def TX1 : u_T := fun k => match k with
  | 0 => ("RailHouses$Law", "units", "I", false)
  | 1 => ("RailHouses$Law", "size", "I", false)
  | 2 => ("RailHouses$Law", "kinds", "[I", true)
  | 3 => ("RailHouses$Law", "values", "[I", true)
  | 4 => ("RailHouses$Law", "stack", "[I", true)
  | _ => ("RailHouses$Law", "given", "[I", true)
def tyX1 : Nat → FieldType := fun k => match k with
  | 0 => .int
  | 1 => .int
  | 2 => .array .int
  | 3 => .array .int
  | 4 => .array .int
  | _ => .array .int
abbrev wsX10 : List Cond := u_ws RX1 TX1 6
theorem nmX1 : ∀ a, a < 6 → ∀ b, b < 6 → a ≠ b → (TX1 a).2.1 ≠ (TX1 b).2.1 := by decide +kernel
theorem tyX1_ok : ∀ k, k < 6 → parseFieldDescriptor (TX1 k).2.2.1 = some (tyX1 k) := by decide +kernel
abbrev cX1_init : ByteArray := prog_3_method_1_code
def yX1_init : MethodName := ⟨RX1, "<init>", "()V"⟩
abbrev cX1_clear : ByteArray := prog_3_method_2_code
def yX1_clear : MethodName := ⟨RX1, "clear", "()V"⟩
abbrev cX1_addUnit : ByteArray := prog_3_method_3_code
def yX1_addUnit : MethodName := ⟨RX1, "addUnit", "(II)V"⟩
abbrev cX1_addStep : ByteArray := prog_3_method_4_code
def yX1_addStep : MethodName := ⟨RX1, "addStep", "(II)V"⟩
abbrev cX1_comesTo : ByteArray := prog_3_method_5_code
def yX1_comesTo : MethodName := ⟨RX1, "comesTo", "(IIIIII)I"⟩
abbrev cX1_isGiven : ByteArray := prog_3_method_6_code
def yX1_isGiven : MethodName := ⟨RX1, "isGiven", "(I)Z"⟩
abbrev cX1_joined : ByteArray := prog_3_method_7_code
def yX1_joined : MethodName := ⟨RX1, "joined", "(III)I"⟩
def RX2 : String := "RailHouses$Permits"
def TX2 : u_T := fun k => match k with
  | 0 => ("RailHouses$Permits", "known", "[B", true)
  | _ => ("RailHouses$Permits", "town", "LRailHouses$Town;", false)
def tyX2 : Nat → FieldType := fun k => match k with
  | 0 => .array .byte
  | _ => .object "RailHouses$Town"
abbrev wsX20 : List Cond := u_ws RX2 TX2 2
theorem nmX2 : ∀ a, a < 2 → ∀ b, b < 2 → a ≠ b → (TX2 a).2.1 ≠ (TX2 b).2.1 := by decide +kernel
theorem tyX2_ok : ∀ k, k < 2 → parseFieldDescriptor (TX2 k).2.2.1 = some (tyX2 k) := by decide +kernel
abbrev cX2_init : ByteArray := prog_4_method_1_code
def yX2_init : MethodName := ⟨RX2, "<init>", "(I)V"⟩
abbrev cX2_placesFor : ByteArray := prog_4_method_2_code
def yX2_placesFor : MethodName := ⟨RX2, "placesFor", "(II)I"⟩
abbrev cX2_begin : ByteArray := prog_4_method_3_code
def yX2_begin : MethodName := ⟨RX2, "begin", "(LRailHouses$Town;)V"⟩
abbrev cX2_allows : ByteArray := prog_4_method_4_code
def yX2_allows : MethodName := ⟨RX2, "allows", "(IIII)Z"⟩
def RX3 : String := "RailHouses$Pulls"
def TX3 : u_T := fun k => match k with
  | 0 => ("RailHouses$Pulls", "codes", "[I", false)
  | 1 => ("RailHouses$Pulls", "size", "I", false)
  | _ => ("RailHouses$Pulls", "weight", "I", false)
def tyX3 : Nat → FieldType := fun k => match k with
  | 0 => .array .int
  | 1 => .int
  | _ => .int
abbrev wsX30 : List Cond := u_ws RX3 TX3 3
theorem nmX3 : ∀ a, a < 3 → ∀ b, b < 3 → a ≠ b → (TX3 a).2.1 ≠ (TX3 b).2.1 := by decide +kernel
theorem tyX3_ok : ∀ k, k < 3 → parseFieldDescriptor (TX3 k).2.2.1 = some (tyX3 k) := by decide +kernel
abbrev cX3_init : ByteArray := prog_5_method_1_code
def yX3_init : MethodName := ⟨RX3, "<init>", "(I)V"⟩
abbrev cX3_code : ByteArray := prog_5_method_2_code
def yX3_code : MethodName := ⟨RX3, "code", "(III)I"⟩
abbrev cX3_fromOf : ByteArray := prog_5_method_3_code
def yX3_fromOf : MethodName := ⟨RX3, "fromOf", "(I)I"⟩
abbrev cX3_manyOf : ByteArray := prog_5_method_4_code
def yX3_manyOf : MethodName := ⟨RX3, "manyOf", "(I)I"⟩
abbrev cX3_toOf : ByteArray := prog_5_method_5_code
def yX3_toOf : MethodName := ⟨RX3, "toOf", "(I)I"⟩
abbrev cX3_clear : ByteArray := prog_5_method_6_code
def yX3_clear : MethodName := ⟨RX3, "clear", "()V"⟩
abbrev cX3_add : ByteArray := prog_5_method_7_code
def yX3_add : MethodName := ⟨RX3, "add", "(I)Z"⟩
abbrev cX3_copy : ByteArray := prog_5_method_8_code
def yX3_copy : MethodName := ⟨RX3, "copy", "(LRailHouses$Pulls;)V"⟩
abbrev cX3_widen : ByteArray := prog_5_method_9_code
def yX3_widen : MethodName := ⟨RX3, "widen", "(I)V"⟩
def RX4 : String := "RailHouses$Reader"
def TX4 : u_T := fun k => match k with
  | 0 => ("RailHouses$Reader", "fault", "I", false)
  | 1 => ("RailHouses$Reader", "place", "I", false)
  | 2 => ("RailHouses$Reader", "tokens", "LRailHouses$Tokens;", true)
  | 3 => ("RailHouses$Reader", "railNames", "[J", true)
  | 4 => ("RailHouses$Reader", "houseNames", "[J", true)
  | 5 => ("RailHouses$Reader", "houseRails", "[I", true)
  | 6 => ("RailHouses$Reader", "railSets", "[I", true)
  | 7 => ("RailHouses$Reader", "isNeckTold", "Z", false)
  | 8 => ("RailHouses$Reader", "isDrawsTold", "Z", false)
  | 9 => ("RailHouses$Reader", "isLawTold", "Z", false)
  | 10 => ("RailHouses$Reader", "town", "LRailHouses$Town;", false)
  | _ => ("RailHouses$Reader", "law", "LRailHouses$Law;", false)
def tyX4 : Nat → FieldType := fun k => match k with
  | 0 => .int
  | 1 => .int
  | 2 => .object "RailHouses$Tokens"
  | 3 => .array .long
  | 4 => .array .long
  | 5 => .array .int
  | 6 => .array .int
  | 7 => .boolean
  | 8 => .boolean
  | 9 => .boolean
  | 10 => .object "RailHouses$Town"
  | _ => .object "RailHouses$Law"
abbrev wsX40 : List Cond := u_ws RX4 TX4 12
theorem nmX4 : ∀ a, a < 12 → ∀ b, b < 12 → a ≠ b → (TX4 a).2.1 ≠ (TX4 b).2.1 := by decide +kernel
theorem tyX4_ok : ∀ k, k < 12 → parseFieldDescriptor (TX4 k).2.2.1 = some (tyX4 k) := by decide +kernel
abbrev cX4_init : ByteArray := prog_6_method_1_code
def yX4_init : MethodName := ⟨RX4, "<init>", "()V"⟩
abbrev cX4_reads : ByteArray := prog_6_method_2_code
def yX4_reads : MethodName := ⟨RX4, "reads", "([BILRailHouses$Town;)Z"⟩
abbrev cX4_begin : ByteArray := prog_6_method_3_code
def yX4_begin : MethodName := ⟨RX4, "begin", "(LRailHouses$Town;)V"⟩
abbrev cX4_firstWord : ByteArray := prog_6_method_4_code
def yX4_firstWord : MethodName := ⟨RX4, "firstWord", "()J"⟩
abbrev cX4_blame : ByteArray := prog_6_method_5_code
def yX4_blame : MethodName := ⟨RX4, "blame", "(II)V"⟩
abbrev cX4_refuse : ByteArray := prog_6_method_6_code
def yX4_refuse : MethodName := ⟨RX4, "refuse", "()V"⟩
abbrev cX4_advanceUnless : ByteArray := prog_6_method_7_code
def yX4_advanceUnless : MethodName := ⟨RX4, "advanceUnless", "(Z)V"⟩
abbrev cX4_takeWord : ByteArray := prog_6_method_8_code
def yX4_takeWord : MethodName := ⟨RX4, "takeWord", "(I)V"⟩
abbrev cX4_takeSign : ByteArray := prog_6_method_9_code
def yX4_takeSign : MethodName := ⟨RX4, "takeSign", "(I)V"⟩
abbrev cX4_takeNumber : ByteArray := prog_6_method_10_code
def yX4_takeNumber : MethodName := ⟨RX4, "takeNumber", "(III)I"⟩
abbrev cX4_takeSignedNumber : ByteArray := prog_6_method_11_code
def yX4_takeSignedNumber : MethodName := ⟨RX4, "takeSignedNumber", "(I)I"⟩
abbrev cX4_takeNewName : ByteArray := prog_6_method_12_code
def yX4_takeNewName : MethodName := ⟨RX4, "takeNewName", "([JI)J"⟩
abbrev cX4_takeToldName : ByteArray := prog_6_method_13_code
def yX4_takeToldName : MethodName := ⟨RX4, "takeToldName", "([JI)I"⟩
abbrev cX4_numberOf : ByteArray := prog_6_method_14_code
def yX4_numberOf : MethodName := ⟨RX4, "numberOf", "(J[JI)I"⟩
abbrev cX4_readRail : ByteArray := prog_6_method_15_code
def yX4_readRail : MethodName := ⟨RX4, "readRail", "()V"⟩
abbrev cX4_readHouse : ByteArray := prog_6_method_16_code
def yX4_readHouse : MethodName := ⟨RX4, "readHouse", "()V"⟩
abbrev cX4_readBeside : ByteArray := prog_6_method_17_code
def yX4_readBeside : MethodName := ⟨RX4, "readBeside", "()V"⟩
abbrev cX4_readNeck : ByteArray := prog_6_method_18_code
def yX4_readNeck : MethodName := ⟨RX4, "readNeck", "()V"⟩
abbrev cX4_readDraws : ByteArray := prog_6_method_19_code
def yX4_readDraws : MethodName := ⟨RX4, "readDraws", "()V"⟩
abbrev cX4_readLaw : ByteArray := prog_6_method_20_code
def yX4_readLaw : MethodName := ⟨RX4, "readLaw", "()V"⟩
abbrev cX4_readEither : ByteArray := prog_6_method_21_code
def yX4_readEither : MethodName := ⟨RX4, "readEither", "(I)V"⟩
abbrev cX4_readBoth : ByteArray := prog_6_method_22_code
def yX4_readBoth : MethodName := ⟨RX4, "readBoth", "(I)V"⟩
abbrev cX4_readOne : ByteArray := prog_6_method_23_code
def yX4_readOne : MethodName := ⟨RX4, "readOne", "(I)V"⟩
abbrev cX4_readSum : ByteArray := prog_6_method_24_code
def yX4_readSum : MethodName := ⟨RX4, "readSum", "(I)V"⟩
abbrev cX4_readTerm : ByteArray := prog_6_method_25_code
def yX4_readTerm : MethodName := ⟨RX4, "readTerm", "(I)V"⟩
abbrev cX4_readUnit : ByteArray := prog_6_method_26_code
def yX4_readUnit : MethodName := ⟨RX4, "readUnit", "(I)V"⟩
def RX5 : String := "RailHouses$Search"
def TX5 : u_T := fun k => match k with
  | 0 => ("RailHouses$Search", "states", "I", true)
  | 1 => ("RailHouses$Search", "bestWorth", "I", false)
  | 2 => ("RailHouses$Search", "found", "LRailHouses$Found;", true)
  | 3 => ("RailHouses$Search", "waiting", "LRailHouses$Waiting;", true)
  | 4 => ("RailHouses$Search", "permits", "LRailHouses$Permits;", true)
  | 5 => ("RailHouses$Search", "stand", "LRailHouses$Stand;", true)
  | 6 => ("RailHouses$Search", "town", "LRailHouses$Town;", false)
  | 7 => ("RailHouses$Search", "sought", "I", false)
  | 8 => ("RailHouses$Search", "row", "J", false)
  | 9 => ("RailHouses$Search", "rowDigits", "J", false)
  | 10 => ("RailHouses$Search", "house", "I", false)
  | _ => ("RailHouses$Search", "best", "I", false)
def tyX5 : Nat → FieldType := fun k => match k with
  | 0 => .int
  | 1 => .int
  | 2 => .object "RailHouses$Found"
  | 3 => .object "RailHouses$Waiting"
  | 4 => .object "RailHouses$Permits"
  | 5 => .object "RailHouses$Stand"
  | 6 => .object "RailHouses$Town"
  | 7 => .int
  | 8 => .long
  | 9 => .long
  | 10 => .int
  | _ => .int
abbrev wsX50 : List Cond := u_ws RX5 TX5 12
theorem nmX5 : ∀ a, a < 12 → ∀ b, b < 12 → a ≠ b → (TX5 a).2.1 ≠ (TX5 b).2.1 := by decide +kernel
theorem tyX5_ok : ∀ k, k < 12 → parseFieldDescriptor (TX5 k).2.2.1 = some (tyX5 k) := by decide +kernel
abbrev cX5_init : ByteArray := prog_7_method_1_code
def yX5_init : MethodName := ⟨RX5, "<init>", "(LRailHouses$Town;)V"⟩
abbrev cX5_seekRow : ByteArray := prog_7_method_2_code
def yX5_seekRow : MethodName := ⟨RX5, "seekRow", "(JI)V"⟩
abbrev cX5_seekAlone : ByteArray := prog_7_method_3_code
def yX5_seekAlone : MethodName := ⟨RX5, "seekAlone", "(I)V"⟩
abbrev cX5_seekWorth : ByteArray := prog_7_method_4_code
def yX5_seekWorth : MethodName := ⟨RX5, "seekWorth", "()V"⟩
abbrev cX5_pullsTo : ByteArray := prog_7_method_5_code
def yX5_pullsTo : MethodName := ⟨RX5, "pullsTo", "(I)I"⟩
abbrev cX5_weightTo : ByteArray := prog_7_method_6_code
def yX5_weightTo : MethodName := ⟨RX5, "weightTo", "(I)I"⟩
abbrev cX5_copyRow : ByteArray := prog_7_method_7_code
def yX5_copyRow : MethodName := ⟨RX5, "copyRow", "(ILRailHouses$Pulls;)V"⟩
abbrev cX5_begin : ByteArray := prog_7_method_8_code
def yX5_begin : MethodName := ⟨RX5, "begin", "(LRailHouses$Town;J)I"⟩
abbrev cX5_spread : ByteArray := prog_7_method_9_code
def yX5_spread : MethodName := ⟨RX5, "spread", "(LRailHouses$Town;JI)I"⟩
abbrev cX5_goOn : ByteArray := prog_7_method_10_code
def yX5_goOn : MethodName := ⟨RX5, "goOn", "(I)I"⟩
abbrev cX5_isMet : ByteArray := prog_7_method_11_code
def yX5_isMet : MethodName := ⟨RX5, "isMet", "(I)Z"⟩
abbrev cX5_keepBest : ByteArray := prog_7_method_12_code
def yX5_keepBest : MethodName := ⟨RX5, "keepBest", "(II)V"⟩
abbrev cX5_isAlone : ByteArray := prog_7_method_13_code
def yX5_isAlone : MethodName := ⟨RX5, "isAlone", "(J)Z"⟩
abbrev cX5_weigh : ByteArray := prog_7_method_14_code
def yX5_weigh : MethodName := ⟨RX5, "weigh", "(LRailHouses$Town;J)I"⟩
abbrev cX5_bestMet : ByteArray := prog_7_method_15_code
def yX5_bestMet : MethodName := ⟨RX5, "bestMet", "(I)I"⟩
abbrev cX5_leadsAhead : ByteArray := prog_7_method_16_code
def yX5_leadsAhead : MethodName := ⟨RX5, "leadsAhead", "(II)Z"⟩
abbrev cX5_weighOn : ByteArray := prog_7_method_17_code
def yX5_weighOn : MethodName := ⟨RX5, "weighOn", "(I)V"⟩
abbrev cX5_isBetter : ByteArray := prog_7_method_18_code
def yX5_isBetter : MethodName := ⟨RX5, "isBetter", "(III)Z"⟩
def RX6 : String := "RailHouses$Sights"
def TX6 : u_T := fun k => match k with
  | 0 => ("RailHouses$Sights", "size", "I", false)
  | 1 => ("RailHouses$Sights", "pulls", "[I", true)
  | 2 => ("RailHouses$Sights", "houses", "[I", true)
  | 3 => ("RailHouses$Sights", "onRails", "[I", true)
  | 4 => ("RailHouses$Sights", "stood", "[Z", true)
  | 5 => ("RailHouses$Sights", "toldAt", "[I", true)
  | 6 => ("RailHouses$Sights", "untoldAt", "[I", true)
  | 7 => ("RailHouses$Sights", "stands", "[LRailHouses$Stand;", true)
  | 8 => ("RailHouses$Sights", "permits", "LRailHouses$Permits;", true)
  | 9 => ("RailHouses$Sights", "town", "LRailHouses$Town;", false)
  | 10 => ("RailHouses$Sights", "counting", "I", false)
  | 11 => ("RailHouses$Sights", "most", "I", false)
  | 12 => ("RailHouses$Sights", "counted", "[I", true)
  | 13 => ("RailHouses$Sights", "rows", "[I", true)
  | _ => ("RailHouses$Sights", "seen", "[I", true)
def tyX6 : Nat → FieldType := fun k => match k with
  | 0 => .int
  | 1 => .array .int
  | 2 => .array .int
  | 3 => .array .int
  | 4 => .array .boolean
  | 5 => .array .int
  | 6 => .array .int
  | 7 => .array (.object "RailHouses$Stand")
  | 8 => .object "RailHouses$Permits"
  | 9 => .object "RailHouses$Town"
  | 10 => .int
  | 11 => .int
  | 12 => .array .int
  | 13 => .array .int
  | _ => .array .int
abbrev wsX60 : List Cond := u_ws RX6 TX6 15
theorem nmX6 : ∀ a, a < 15 → ∀ b, b < 15 → a ≠ b → (TX6 a).2.1 ≠ (TX6 b).2.1 := by decide +kernel
theorem tyX6_ok : ∀ k, k < 15 → parseFieldDescriptor (TX6 k).2.2.1 = some (tyX6 k) := by decide +kernel
abbrev cX6_init : ByteArray := prog_8_method_1_code
def yX6_init : MethodName := ⟨RX6, "<init>", "()V"⟩
abbrev cX6_clear : ByteArray := prog_8_method_2_code
def yX6_clear : MethodName := ⟨RX6, "clear", "()V"⟩
abbrev cX6_add : ByteArray := prog_8_method_3_code
def yX6_add : MethodName := ⟨RX6, "add", "(IIIZI)I"⟩
abbrev cX6_remove : ByteArray := prog_8_method_4_code
def yX6_remove : MethodName := ⟨RX6, "remove", "(II)Z"⟩
abbrev cX6_setKnownAt : ByteArray := prog_8_method_5_code
def yX6_setKnownAt : MethodName := ⟨RX6, "setKnownAt", "(II)I"⟩
abbrev cX6_count : ByteArray := prog_8_method_6_code
def yX6_count : MethodName := ⟨RX6, "count", "(LRailHouses$Town;II)V"⟩
abbrev cX6_goOn : ByteArray := prog_8_method_7_code
def yX6_goOn : MethodName := ⟨RX6, "goOn", "(I)V"⟩
abbrev cX6_agrees : ByteArray := prog_8_method_8_code
def yX6_agrees : MethodName := ⟨RX6, "agrees", "(LRailHouses$Stand;I)Z"⟩
abbrev cX6_railsOf : ByteArray := prog_8_method_9_code
def yX6_railsOf : MethodName := ⟨RX6, "railsOf", "(II)I"⟩
def RX7 : String := "RailHouses$Stand"
def TX7 : u_T := fun k => match k with
  | 0 => ("RailHouses$Stand", "word", "J", false)
  | 1 => ("RailHouses$Stand", "rails", "I", false)
  | 2 => ("RailHouses$Stand", "begins", "[I", true)
  | 3 => ("RailHouses$Stand", "ends", "[I", true)
  | 4 => ("RailHouses$Stand", "sets", "[I", true)
  | 5 => ("RailHouses$Stand", "nexts", "I", false)
  | 6 => ("RailHouses$Stand", "nextWords", "[J", true)
  | 7 => ("RailHouses$Stand", "nextCodes", "[I", true)
  | _ => ("RailHouses$Stand", "nextWeights", "[I", true)
def tyX7 : Nat → FieldType := fun k => match k with
  | 0 => .long
  | 1 => .int
  | 2 => .array .int
  | 3 => .array .int
  | 4 => .array .int
  | 5 => .int
  | 6 => .array .long
  | 7 => .array .int
  | _ => .array .int
abbrev wsX70 : List Cond := u_ws RX7 TX7 9
theorem nmX7 : ∀ a, a < 9 → ∀ b, b < 9 → a ≠ b → (TX7 a).2.1 ≠ (TX7 b).2.1 := by decide +kernel
theorem tyX7_ok : ∀ k, k < 9 → parseFieldDescriptor (TX7 k).2.2.1 = some (tyX7 k) := by decide +kernel
abbrev cX7_init : ByteArray := prog_9_method_1_code
def yX7_init : MethodName := ⟨RX7, "<init>", "()V"⟩
abbrev cX7_digitOf : ByteArray := prog_9_method_2_code
def yX7_digitOf : MethodName := ⟨RX7, "digitOf", "(JI)I"⟩
abbrev cX7_look : ByteArray := prog_9_method_3_code
def yX7_look : MethodName := ⟨RX7, "look", "(LRailHouses$Town;J)V"⟩
abbrev cX7_count : ByteArray := prog_9_method_4_code
def yX7_count : MethodName := ⟨RX7, "count", "(I)I"⟩
abbrev cX7_houseAt : ByteArray := prog_9_method_5_code
def yX7_houseAt : MethodName := ⟨RX7, "houseAt", "(II)I"⟩
abbrev cX7_railOf : ByteArray := prog_9_method_6_code
def yX7_railOf : MethodName := ⟨RX7, "railOf", "(I)I"⟩
abbrev cX7_aheadOf : ByteArray := prog_9_method_7_code
def yX7_aheadOf : MethodName := ⟨RX7, "aheadOf", "(I)I"⟩
abbrev cX7_last : ByteArray := prog_9_method_8_code
def yX7_last : MethodName := ⟨RX7, "last", "(II)I"⟩
abbrev cX7_after : ByteArray := prog_9_method_9_code
def yX7_after : MethodName := ⟨RX7, "after", "(III)J"⟩
abbrev cX7_swapped : ByteArray := prog_9_method_10_code
def yX7_swapped : MethodName := ⟨RX7, "swapped", "(III)J"⟩
abbrev cX7_ones : ByteArray := prog_9_method_11_code
def yX7_ones : MethodName := ⟨RX7, "ones", "(I)J"⟩
abbrev cX7_listPulls : ByteArray := prog_9_method_12_code
def yX7_listPulls : MethodName := ⟨RX7, "listPulls", "(LRailHouses$Town;LRailHouses$Permits;)V"⟩
def RX8 : String := "RailHouses$Tokens"
def TX8 : u_T := fun k => match k with
  | 0 => ("RailHouses$Tokens", "words", "[J", true)
  | 1 => ("RailHouses$Tokens", "text", "[B", false)
  | 2 => ("RailHouses$Tokens", "size", "I", false)
  | 3 => ("RailHouses$Tokens", "next", "I", false)
  | 4 => ("RailHouses$Tokens", "kind", "I", false)
  | 5 => ("RailHouses$Tokens", "place", "I", false)
  | 6 => ("RailHouses$Tokens", "name", "J", false)
  | 7 => ("RailHouses$Tokens", "word", "I", false)
  | 8 => ("RailHouses$Tokens", "number", "I", false)
  | _ => ("RailHouses$Tokens", "sign", "I", false)
def tyX8 : Nat → FieldType := fun k => match k with
  | 0 => .array .long
  | 1 => .array .byte
  | 2 => .int
  | 3 => .int
  | 4 => .int
  | 5 => .int
  | 6 => .long
  | 7 => .int
  | 8 => .int
  | _ => .int
abbrev wsX80 : List Cond := u_ws RX8 TX8 10
theorem nmX8 : ∀ a, a < 10 → ∀ b, b < 10 → a ≠ b → (TX8 a).2.1 ≠ (TX8 b).2.1 := by decide +kernel
theorem tyX8_ok : ∀ k, k < 10 → parseFieldDescriptor (TX8 k).2.2.1 = some (tyX8 k) := by decide +kernel
abbrev cX8_init : ByteArray := prog_10_method_1_code
def yX8_init : MethodName := ⟨RX8, "<init>", "()V"⟩
abbrev cX8_begin : ByteArray := prog_10_method_2_code
def yX8_begin : MethodName := ⟨RX8, "begin", "([BI)V"⟩
abbrev cX8_advance : ByteArray := prog_10_method_3_code
def yX8_advance : MethodName := ⟨RX8, "advance", "()V"⟩
abbrev cX8_isLetter : ByteArray := prog_10_method_4_code
def yX8_isLetter : MethodName := ⟨RX8, "isLetter", "(I)Z"⟩
abbrev cX8_isDigit : ByteArray := prog_10_method_5_code
def yX8_isDigit : MethodName := ⟨RX8, "isDigit", "(I)Z"⟩
abbrev cX8_readWord : ByteArray := prog_10_method_6_code
def yX8_readWord : MethodName := ⟨RX8, "readWord", "()V"⟩
abbrev cX8_readNumber : ByteArray := prog_10_method_7_code
def yX8_readNumber : MethodName := ⟨RX8, "readNumber", "()V"⟩
abbrev cX8_readSign : ByteArray := prog_10_method_8_code
def yX8_readSign : MethodName := ⟨RX8, "readSign", "()V"⟩
def RX9 : String := "RailHouses$Town"
def TX9 : u_T := fun k => match k with
  | 0 => ("RailHouses$Town", "rails", "I", false)
  | 1 => ("RailHouses$Town", "houses", "I", false)
  | 2 => ("RailHouses$Town", "neck", "I", false)
  | 3 => ("RailHouses$Town", "draws", "I", false)
  | 4 => ("RailHouses$Town", "besides", "I", false)
  | 5 => ("RailHouses$Town", "first", "J", false)
  | 6 => ("RailHouses$Town", "railLengths", "[I", true)
  | 7 => ("RailHouses$Town", "lengths", "[I", true)
  | 8 => ("RailHouses$Town", "weights", "[I", true)
  | 9 => ("RailHouses$Town", "worths", "[I", true)
  | 10 => ("RailHouses$Town", "areBeside", "[Z", true)
  | _ => ("RailHouses$Town", "law", "LRailHouses$Law;", true)
def tyX9 : Nat → FieldType := fun k => match k with
  | 0 => .int
  | 1 => .int
  | 2 => .int
  | 3 => .int
  | 4 => .int
  | 5 => .long
  | 6 => .array .int
  | 7 => .array .int
  | 8 => .array .int
  | 9 => .array .int
  | 10 => .array .boolean
  | _ => .object "RailHouses$Law"
abbrev wsX90 : List Cond := u_ws RX9 TX9 12
theorem nmX9 : ∀ a, a < 12 → ∀ b, b < 12 → a ≠ b → (TX9 a).2.1 ≠ (TX9 b).2.1 := by decide +kernel
theorem tyX9_ok : ∀ k, k < 12 → parseFieldDescriptor (TX9 k).2.2.1 = some (tyX9 k) := by decide +kernel
abbrev cX9_init : ByteArray := prog_11_method_1_code
def yX9_init : MethodName := ⟨RX9, "<init>", "()V"⟩
abbrev cX9_clear : ByteArray := prog_11_method_2_code
def yX9_clear : MethodName := ⟨RX9, "clear", "()V"⟩
abbrev cX9_addRail : ByteArray := prog_11_method_3_code
def yX9_addRail : MethodName := ⟨RX9, "addRail", "(I)V"⟩
abbrev cX9_addHouse : ByteArray := prog_11_method_4_code
def yX9_addHouse : MethodName := ⟨RX9, "addHouse", "(II)V"⟩
abbrev cX9_isTold : ByteArray := prog_11_method_5_code
def yX9_isTold : MethodName := ⟨RX9, "isTold", "(II)Z"⟩
abbrev cX9_addBeside : ByteArray := prog_11_method_6_code
def yX9_addBeside : MethodName := ⟨RX9, "addBeside", "(III)V"⟩
abbrev cX9_states : ByteArray := prog_11_method_7_code
def yX9_states : MethodName := ⟨RX9, "states", "()I"⟩
abbrev cX9_roomBeside : ByteArray := prog_11_method_8_code
def yX9_roomBeside : MethodName := ⟨RX9, "roomBeside", "(II)I"⟩
abbrev cX9_asks : ByteArray := prog_11_method_9_code
def yX9_asks : MethodName := ⟨RX9, "asks", "(IIII)I"⟩
abbrev cX9_allows : ByteArray := prog_11_method_10_code
def yX9_allows : MethodName := ⟨RX9, "allows", "(IIII)Z"⟩
abbrev cX9_worthOf : ByteArray := prog_11_method_11_code
def yX9_worthOf : MethodName := ⟨RX9, "worthOf", "(J)I"⟩
def RX10 : String := "RailHouses$Waiting"
def TX10 : u_T := fun k => match k with
  | 0 => ("RailHouses$Waiting", "size", "I", false)
  | 1 => ("RailHouses$Waiting", "weights", "[I", true)
  | 2 => ("RailHouses$Waiting", "nexts", "[I", true)
  | 3 => ("RailHouses$Waiting", "befores", "[I", true)
  | _ => ("RailHouses$Waiting", "heads", "[I", true)
def tyX10 : Nat → FieldType := fun k => match k with
  | 0 => .int
  | 1 => .array .int
  | 2 => .array .int
  | 3 => .array .int
  | _ => .array .int
abbrev wsX100 : List Cond := u_ws RX10 TX10 5
theorem nmX10 : ∀ a, a < 5 → ∀ b, b < 5 → a ≠ b → (TX10 a).2.1 ≠ (TX10 b).2.1 := by decide +kernel
theorem tyX10_ok : ∀ k, k < 5 → parseFieldDescriptor (TX10 k).2.2.1 = some (tyX10 k) := by decide +kernel
abbrev cX10_init : ByteArray := prog_12_method_1_code
def yX10_init : MethodName := ⟨RX10, "<init>", "(I)V"⟩
abbrev cX10_begin : ByteArray := prog_12_method_2_code
def yX10_begin : MethodName := ⟨RX10, "begin", "()V"⟩
abbrev cX10_headOf : ByteArray := prog_12_method_3_code
def yX10_headOf : MethodName := ⟨RX10, "headOf", "(I)I"⟩
abbrev cX10_behind : ByteArray := prog_12_method_4_code
def yX10_behind : MethodName := ⟨RX10, "behind", "(I)I"⟩
abbrev cX10_put : ByteArray := prog_12_method_5_code
def yX10_put : MethodName := ⟨RX10, "put", "(II)V"⟩
abbrev cX10_drop : ByteArray := prog_12_method_6_code
def yX10_drop : MethodName := ⟨RX10, "drop", "(I)V"⟩
def RX11 : String := "RailHouses"
def TX11 : u_T := fun k => match k with
  | 0 => ("RailHouses", "tape", "[B", true)
  | 1 => ("RailHouses", "tapeSize", "I", false)
  | 2 => ("RailHouses", "reader", "LRailHouses$Reader;", true)
  | 3 => ("RailHouses", "town", "LRailHouses$Town;", false)
  | 4 => ("RailHouses", "nextTown", "LRailHouses$Town;", false)
  | 5 => ("RailHouses", "now", "LRailHouses$Stand;", true)
  | 6 => ("RailHouses", "trial", "LRailHouses$Stand;", true)
  | 7 => ("RailHouses", "been", "LRailHouses$Pulls;", true)
  | 8 => ("RailHouses", "told", "LRailHouses$Pulls;", true)
  | 9 => ("RailHouses", "lying", "LRailHouses$Pulls;", true)
  | 10 => ("RailHouses", "goalRow", "J", false)
  | 11 => ("RailHouses", "goalSize", "I", false)
  | 12 => ("RailHouses", "boxWords", "[J", true)
  | 13 => ("RailHouses", "boxPulls", "[LRailHouses$Pulls;", true)
  | 14 => ("RailHouses", "sights", "LRailHouses$Sights;", true)
  | 15 => ("RailHouses", "search", "LRailHouses$Search;", false)
  | _ => ("RailHouses", "time", "I", false)
def tyX11 : Nat → FieldType := fun k => match k with
  | 0 => .array .byte
  | 1 => .int
  | 2 => .object "RailHouses$Reader"
  | 3 => .object "RailHouses$Town"
  | 4 => .object "RailHouses$Town"
  | 5 => .object "RailHouses$Stand"
  | 6 => .object "RailHouses$Stand"
  | 7 => .object "RailHouses$Pulls"
  | 8 => .object "RailHouses$Pulls"
  | 9 => .object "RailHouses$Pulls"
  | 10 => .long
  | 11 => .int
  | 12 => .array .long
  | 13 => .array (.object "RailHouses$Pulls")
  | 14 => .object "RailHouses$Sights"
  | 15 => .object "RailHouses$Search"
  | _ => .int
abbrev wsX110 : List Cond := u_ws RX11 TX11 17
theorem nmX11 : ∀ a, a < 17 → ∀ b, b < 17 → a ≠ b → (TX11 a).2.1 ≠ (TX11 b).2.1 := by decide +kernel
theorem tyX11_ok : ∀ k, k < 17 → parseFieldDescriptor (TX11 k).2.2.1 = some (tyX11 k) := by decide +kernel
abbrev cX11_init : ByteArray := prog_1_method_1_code
def yX11_init : MethodName := ⟨RX11, "<init>", "()V"⟩
abbrev cX11_feed : ByteArray := prog_1_method_2_code
def yX11_feed : MethodName := ⟨RX11, "feed", "(IIIII)I"⟩
abbrev cX11_putBytes : ByteArray := prog_1_method_3_code
def yX11_putBytes : MethodName := ⟨RX11, "putBytes", "(I)V"⟩
abbrev cX11_end : ByteArray := prog_1_method_4_code
def yX11_end : MethodName := ⟨RX11, "end", "(I)I"⟩
abbrev cX11_town : ByteArray := prog_1_method_5_code
def yX11_town : MethodName := ⟨RX11, "town", "()I"⟩
abbrev cX11_beginTown : ByteArray := prog_1_method_6_code
def yX11_beginTown : MethodName := ⟨RX11, "beginTown", "()V"⟩
abbrev cX11_fault : ByteArray := prog_1_method_7_code
def yX11_fault : MethodName := ⟨RX11, "fault", "(I)I"⟩
abbrev cX11_on : ByteArray := prog_1_method_8_code
def yX11_on : MethodName := ⟨RX11, "on", "(II)I"⟩
abbrev cX11_where : ByteArray := prog_1_method_9_code
def yX11_where : MethodName := ⟨RX11, "where", "(II)I"⟩
abbrev cX11_room : ByteArray := prog_1_method_10_code
def yX11_room : MethodName := ⟨RX11, "room", "(I)I"⟩
abbrev cX11_isRail : ByteArray := prog_1_method_11_code
def yX11_isRail : MethodName := ⟨RX11, "isRail", "(I)Z"⟩
abbrev cX11_isHouse : ByteArray := prog_1_method_12_code
def yX11_isHouse : MethodName := ⟨RX11, "isHouse", "(I)Z"⟩
abbrev cX11_areUnlikeRails : ByteArray := prog_1_method_13_code
def yX11_areUnlikeRails : MethodName := ⟨RX11, "areUnlikeRails", "(II)Z"⟩
abbrev cX11_canBeFrom : ByteArray := prog_1_method_14_code
def yX11_canBeFrom : MethodName := ⟨RX11, "canBeFrom", "(LRailHouses$Stand;III)Z"⟩
abbrev cX11_isLawfulFrom : ByteArray := prog_1_method_15_code
def yX11_isLawfulFrom : MethodName := ⟨RX11, "isLawfulFrom", "(LRailHouses$Stand;III)Z"⟩
abbrev cX11_asked : ByteArray := prog_1_method_16_code
def yX11_asked : MethodName := ⟨RX11, "asked", "(III)I"⟩
abbrev cX11_lawful : ByteArray := prog_1_method_17_code
def yX11_lawful : MethodName := ⟨RX11, "lawful", "(III)I"⟩
abbrev cX11_pull : ByteArray := prog_1_method_18_code
def yX11_pull : MethodName := ⟨RX11, "pull", "(III)I"⟩
abbrev cX11_undo : ByteArray := prog_1_method_19_code
def yX11_undo : MethodName := ⟨RX11, "undo", "(I)I"⟩
abbrev cX11_takeBack : ByteArray := prog_1_method_20_code
def yX11_takeBack : MethodName := ⟨RX11, "takeBack", "(I)V"⟩
abbrev cX11_worth : ByteArray := prog_1_method_21_code
def yX11_worth : MethodName := ⟨RX11, "worth", "()I"⟩
abbrev cX11_tell : ByteArray := prog_1_method_22_code
def yX11_tell : MethodName := ⟨RX11, "tell", "(III)I"⟩
abbrev cX11_hush : ByteArray := prog_1_method_23_code
def yX11_hush : MethodName := ⟨RX11, "hush", "()I"⟩
abbrev cX11_judge : ByteArray := prog_1_method_24_code
def yX11_judge : MethodName := ⟨RX11, "judge", "(I)I"⟩
abbrev cX11_goal : ByteArray := prog_1_method_25_code
def yX11_goal : MethodName := ⟨RX11, "goal", "(I)I"⟩
abbrev cX11_isInGoal : ByteArray := prog_1_method_26_code
def yX11_isInGoal : MethodName := ⟨RX11, "isInGoal", "(I)Z"⟩
abbrev cX11_open : ByteArray := prog_1_method_27_code
def yX11_open : MethodName := ⟨RX11, "open", "()I"⟩
abbrev cX11_fewest : ByteArray := prog_1_method_28_code
def yX11_fewest : MethodName := ⟨RX11, "fewest", "()I"⟩
abbrev cX11_least : ByteArray := prog_1_method_29_code
def yX11_least : MethodName := ⟨RX11, "least", "()I"⟩
abbrev cX11_richest : ByteArray := prog_1_method_30_code
def yX11_richest : MethodName := ⟨RX11, "richest", "(I)I"⟩
abbrev cX11_free : ByteArray := prog_1_method_31_code
def yX11_free : MethodName := ⟨RX11, "free", "(I)I"⟩
abbrev cX11_spare : ByteArray := prog_1_method_32_code
def yX11_spare : MethodName := ⟨RX11, "spare", "(II)I"⟩
abbrev cX11_isSpent : ByteArray := prog_1_method_33_code
def yX11_isSpent : MethodName := ⟨RX11, "isSpent", "()Z"⟩
abbrev cX11_readySearch : ByteArray := prog_1_method_34_code
def yX11_readySearch : MethodName := ⟨RX11, "readySearch", "()V"⟩
abbrev cX11_lay : ByteArray := prog_1_method_35_code
def yX11_lay : MethodName := ⟨RX11, "lay", "(I)I"⟩
abbrev cX11_lies : ByteArray := prog_1_method_36_code
def yX11_lies : MethodName := ⟨RX11, "lies", "(I)I"⟩
abbrev cX11_sight : ByteArray := prog_1_method_37_code
def yX11_sight : MethodName := ⟨RX11, "sight", "(IIIZ)I"⟩
abbrev cX11_untell : ByteArray := prog_1_method_38_code
def yX11_untell : MethodName := ⟨RX11, "untell", "(I)Z"⟩
abbrev cX11_later : ByteArray := prog_1_method_39_code
def yX11_later : MethodName := ⟨RX11, "later", "(I)I"⟩
abbrev cX11_fits : ByteArray := prog_1_method_40_code
def yX11_fits : MethodName := ⟨RX11, "fits", "(II)I"⟩
abbrev cX11_can : ByteArray := prog_1_method_41_code
def yX11_can : MethodName := ⟨RX11, "can", "(III)I"⟩
abbrev cX11_image : ByteArray := prog_1_method_42_code
def yX11_image : MethodName := ⟨RX11, "image", "(I)I"⟩
abbrev cX11_back : ByteArray := prog_1_method_43_code
def yX11_back : MethodName := ⟨RX11, "back", "(I)I"⟩
abbrev cX11_about : ByteArray := prog_1_method_44_code
def yX11_about : MethodName := ⟨RX11, "about", "(I)I"⟩
def RX12 : String := "RailHousesModel"
def TX12 : u_T := fun k => match k with
  | 0 => ("RailHousesModel", "tape", "[B", true)
  | 1 => ("RailHousesModel", "text", "[B", true)
  | 2 => ("RailHousesModel", "taped", "I", false)
  | 3 => ("RailHousesModel", "size", "I", false)
  | 4 => ("RailHousesModel", "faultKind", "I", false)
  | 5 => ("RailHousesModel", "faultPlace", "I", false)
  | 6 => ("RailHousesModel", "at", "I", false)
  | 7 => ("RailHousesModel", "end", "I", false)
  | 8 => ("RailHousesModel", "token", "I", false)
  | 9 => ("RailHousesModel", "number", "I", false)
  | 10 => ("RailHousesModel", "name", "J", false)
  | 11 => ("RailHousesModel", "rails", "[I", true)
  | 12 => ("RailHousesModel", "houses", "[I", true)
  | 13 => ("RailHousesModel", "pairs", "[I", true)
  | 14 => ("RailHousesModel", "unitsOf", "[I", true)
  | 15 => ("RailHousesModel", "neck", "[I", true)
  | 16 => ("RailHousesModel", "draws", "[I", true)
  | 17 => ("RailHousesModel", "lTo", "[I", true)
  | 18 => ("RailHousesModel", "railLength", "[I", true)
  | 19 => ("RailHousesModel", "houseLength", "[I", true)
  | 20 => ("RailHousesModel", "weight", "[I", true)
  | 21 => ("RailHousesModel", "firstRail", "[I", true)
  | 22 => ("RailHousesModel", "worth", "[I", true)
  | 23 => ("RailHousesModel", "isNeck", "[Z", true)
  | 24 => ("RailHousesModel", "isDraws", "[Z", true)
  | 25 => ("RailHousesModel", "isLaw", "[Z", true)
  | 26 => ("RailHousesModel", "isPair", "[Z", true)
  | 27 => ("RailHousesModel", "rName", "[J", true)
  | 28 => ("RailHousesModel", "hName", "[J", true)
  | 29 => ("RailHousesModel", "code", "[I", true)
  | 30 => ("RailHousesModel", "codeNumber", "[I", true)
  | 31 => ("RailHousesModel", "eWhat", "[I", true)
  | 32 => ("RailHousesModel", "eSign", "[I", true)
  | 33 => ("RailHousesModel", "pile", "[I", true)
  | 34 => ("RailHousesModel", "bank", "I", false)
  | 35 => ("RailHousesModel", "rb", "I", false)
  | 36 => ("RailHousesModel", "codes", "I", false)
  | 37 => ("RailHousesModel", "within", "I", false)
  | 38 => ("RailHousesModel", "piled", "I", false)
  | 39 => ("RailHousesModel", "row", "[I", true)
  | 40 => ("RailHousesModel", "ends", "[I", true)
  | 41 => ("RailHousesModel", "drawn", "[I", true)
  | 42 => ("RailHousesModel", "nowRow", "[I", true)
  | 43 => ("RailHousesModel", "nowEnds", "[I", true)
  | 44 => ("RailHousesModel", "longer", "I", false)
  | 45 => ("RailHousesModel", "longerBy", "I", false)
  | 46 => ("RailHousesModel", "pulls", "[I", true)
  | 47 => ("RailHousesModel", "weights", "[I", true)
  | 48 => ("RailHousesModel", "pullMany", "I", false)
  | 49 => ("RailHousesModel", "sum", "I", false)
  | 50 => ("RailHousesModel", "told", "[I", true)
  | 51 => ("RailHousesModel", "toldMany", "I", false)
  | 52 => ("RailHousesModel", "goalRow", "[I", true)
  | 53 => ("RailHousesModel", "goals", "I", false)
  | 54 => ("RailHousesModel", "cameBy", "[I", true)
  | 55 => ("RailHousesModel", "cameFrom", "[I", true)
  | 56 => ("RailHousesModel", "steps", "[I", true)
  | 57 => ("RailHousesModel", "drawnTo", "[I", true)
  | 58 => ("RailHousesModel", "queue", "[I", true)
  | 59 => ("RailHousesModel", "isBest", "[Z", true)
  | 60 => ("RailHousesModel", "queued", "I", false)
  | 61 => ("RailHousesModel", "ask", "I", false)
  | 62 => ("RailHousesModel", "freeHouse", "I", false)
  | 63 => ("RailHousesModel", "atRow", "[I", true)
  | 64 => ("RailHousesModel", "atEnds", "[I", true)
  | 65 => ("RailHousesModel", "laidRow", "[I", true)
  | 66 => ("RailHousesModel", "laid", "I", false)
  | 67 => ("RailHousesModel", "heap", "[I", true)
  | 68 => ("RailHousesModel", "place", "[I", true)
  | 69 => ("RailHousesModel", "settled", "[I", true)
  | 70 => ("RailHousesModel", "heaped", "I", false)
  | 71 => ("RailHousesModel", "settledMany", "I", false)
  | 72 => ("RailHousesModel", "gPulls", "[I", true)
  | 73 => ("RailHousesModel", "gHouse", "[I", true)
  | 74 => ("RailHousesModel", "gRail", "[I", true)
  | 75 => ("RailHousesModel", "gTold", "[I", true)
  | 76 => ("RailHousesModel", "gUntold", "[I", true)
  | 77 => ("RailHousesModel", "canOn", "[I", true)
  | 78 => ("RailHousesModel", "triedRow", "[I", true)
  | 79 => ("RailHousesModel", "triedEnds", "[I", true)
  | 80 => ("RailHousesModel", "tried", "[I", true)
  | 81 => ("RailHousesModel", "gIs", "[Z", true)
  | 82 => ("RailHousesModel", "sights", "I", false)
  | 83 => ("RailHousesModel", "time", "I", false)
  | 84 => ("RailHousesModel", "boxPulls", "[I", true)
  | 85 => ("RailHousesModel", "boxSum", "[I", true)
  | 86 => ("RailHousesModel", "boxRow", "[I", true)
  | 87 => ("RailHousesModel", "boxEnds", "[I", true)
  | 88 => ("RailHousesModel", "boxPull", "[I", true)
  | _ => ("RailHousesModel", "boxWeight", "[I", true)
def tyX12 : Nat → FieldType := fun k => match k with
  | 0 => .array .byte
  | 1 => .array .byte
  | 2 => .int
  | 3 => .int
  | 4 => .int
  | 5 => .int
  | 6 => .int
  | 7 => .int
  | 8 => .int
  | 9 => .int
  | 10 => .long
  | 11 => .array .int
  | 12 => .array .int
  | 13 => .array .int
  | 14 => .array .int
  | 15 => .array .int
  | 16 => .array .int
  | 17 => .array .int
  | 18 => .array .int
  | 19 => .array .int
  | 20 => .array .int
  | 21 => .array .int
  | 22 => .array .int
  | 23 => .array .boolean
  | 24 => .array .boolean
  | 25 => .array .boolean
  | 26 => .array .boolean
  | 27 => .array .long
  | 28 => .array .long
  | 29 => .array .int
  | 30 => .array .int
  | 31 => .array .int
  | 32 => .array .int
  | 33 => .array .int
  | 34 => .int
  | 35 => .int
  | 36 => .int
  | 37 => .int
  | 38 => .int
  | 39 => .array .int
  | 40 => .array .int
  | 41 => .array .int
  | 42 => .array .int
  | 43 => .array .int
  | 44 => .int
  | 45 => .int
  | 46 => .array .int
  | 47 => .array .int
  | 48 => .int
  | 49 => .int
  | 50 => .array .int
  | 51 => .int
  | 52 => .array .int
  | 53 => .int
  | 54 => .array .int
  | 55 => .array .int
  | 56 => .array .int
  | 57 => .array .int
  | 58 => .array .int
  | 59 => .array .boolean
  | 60 => .int
  | 61 => .int
  | 62 => .int
  | 63 => .array .int
  | 64 => .array .int
  | 65 => .array .int
  | 66 => .int
  | 67 => .array .int
  | 68 => .array .int
  | 69 => .array .int
  | 70 => .int
  | 71 => .int
  | 72 => .array .int
  | 73 => .array .int
  | 74 => .array .int
  | 75 => .array .int
  | 76 => .array .int
  | 77 => .array .int
  | 78 => .array .int
  | 79 => .array .int
  | 80 => .array .int
  | 81 => .array .boolean
  | 82 => .int
  | 83 => .int
  | 84 => .array .int
  | 85 => .array .int
  | 86 => .array .int
  | 87 => .array .int
  | 88 => .array .int
  | _ => .array .int
abbrev wsX120 : List Cond := u_ws RX12 TX12 90
theorem nmX12 : ∀ a, a < 90 → ∀ b, b < 90 → a ≠ b → (TX12 a).2.1 ≠ (TX12 b).2.1 := by decide +kernel
theorem tyX12_ok : ∀ k, k < 90 → parseFieldDescriptor (TX12 k).2.2.1 = some (tyX12 k) := by decide +kernel
abbrev cX12_init : ByteArray := prog_14_method_1_code
def yX12_init : MethodName := ⟨RX12, "<init>", "()V"⟩
abbrev cX12_sign : ByteArray := prog_14_method_2_code
def yX12_sign : MethodName := ⟨RX12, "sign", "(I)I"⟩
abbrev cX12_isLetter : ByteArray := prog_14_method_3_code
def yX12_isLetter : MethodName := ⟨RX12, "isLetter", "(I)Z"⟩
abbrev cX12_isDigit : ByteArray := prog_14_method_4_code
def yX12_isDigit : MethodName := ⟨RX12, "isDigit", "(I)Z"⟩
abbrev cX12_fails : ByteArray := prog_14_method_5_code
def yX12_fails : MethodName := ⟨RX12, "fails", "(II)V"⟩
abbrev cX12_isGood : ByteArray := prog_14_method_6_code
def yX12_isGood : MethodName := ⟨RX12, "isGood", "()Z"⟩
abbrev cX12_isKept : ByteArray := prog_14_method_7_code
def yX12_isKept : MethodName := ⟨RX12, "isKept", "(J)Z"⟩
abbrev cX12_isSign : ByteArray := prog_14_method_8_code
def yX12_isSign : MethodName := ⟨RX12, "isSign", "(I)Z"⟩
abbrev cX12_goOn : ByteArray := prog_14_method_9_code
def yX12_goOn : MethodName := ⟨RX12, "goOn", "()V"⟩
abbrev cX12_stands : ByteArray := prog_14_method_10_code
def yX12_stands : MethodName := ⟨RX12, "stands", "(I)Z"⟩
abbrev cX12_isWord : ByteArray := prog_14_method_11_code
def yX12_isWord : MethodName := ⟨RX12, "isWord", "(J)Z"⟩
abbrev cX12_misplaced : ByteArray := prog_14_method_12_code
def yX12_misplaced : MethodName := ⟨RX12, "misplaced", "()V"⟩
abbrev cX12_must : ByteArray := prog_14_method_13_code
def yX12_must : MethodName := ⟨RX12, "must", "(Z)V"⟩
abbrev cX12_numeral : ByteArray := prog_14_method_14_code
def yX12_numeral : MethodName := ⟨RX12, "numeral", "(II)I"⟩
abbrev cX12_after : ByteArray := prog_14_method_15_code
def yX12_after : MethodName := ⟨RX12, "after", "(JII)I"⟩
abbrev cX12_signed : ByteArray := prog_14_method_16_code
def yX12_signed : MethodName := ⟨RX12, "signed", "(I)I"⟩
abbrev cX12_clearBank : ByteArray := prog_14_method_17_code
def yX12_clearBank : MethodName := ⟨RX12, "clearBank", "()V"⟩
abbrev cX12_town : ByteArray := prog_14_method_18_code
def yX12_town : MethodName := ⟨RX12, "town", "()I"⟩
abbrev cX12_isFull : ByteArray := prog_14_method_19_code
def yX12_isFull : MethodName := ⟨RX12, "isFull", "()Z"⟩
abbrev cX12_readLine : ByteArray := prog_14_method_20_code
def yX12_readLine : MethodName := ⟨RX12, "readLine", "()V"⟩
abbrev cX12_here : ByteArray := prog_14_method_21_code
def yX12_here : MethodName := ⟨RX12, "here", "([JII)I"⟩
abbrev cX12_railHere : ByteArray := prog_14_method_22_code
def yX12_railHere : MethodName := ⟨RX12, "railHere", "()I"⟩
abbrev cX12_houseHere : ByteArray := prog_14_method_23_code
def yX12_houseHere : MethodName := ⟨RX12, "houseHere", "()I"⟩
abbrev cX12_fresh : ByteArray := prog_14_method_24_code
def yX12_fresh : MethodName := ⟨RX12, "fresh", "(Z)J"⟩
abbrev cX12_known : ByteArray := prog_14_method_25_code
def yX12_known : MethodName := ⟨RX12, "known", "(I)I"⟩
abbrev cX12_readRail : ByteArray := prog_14_method_26_code
def yX12_readRail : MethodName := ⟨RX12, "readRail", "()V"⟩
abbrev cX12_readHouse : ByteArray := prog_14_method_27_code
def yX12_readHouse : MethodName := ⟨RX12, "readHouse", "()V"⟩
abbrev cX12_readBeside : ByteArray := prog_14_method_28_code
def yX12_readBeside : MethodName := ⟨RX12, "readBeside", "()V"⟩
abbrev cX12_emit : ByteArray := prog_14_method_29_code
def yX12_emit : MethodName := ⟨RX12, "emit", "(II)V"⟩
abbrev cX12_pushE : ByteArray := prog_14_method_30_code
def yX12_pushE : MethodName := ⟨RX12, "pushE", "(II)V"⟩
abbrev cX12_e : ByteArray := prog_14_method_31_code
def yX12_e : MethodName := ⟨RX12, "e", "()V"⟩
abbrev cX12_wordHere : ByteArray := prog_14_method_32_code
def yX12_wordHere : MethodName := ⟨RX12, "wordHere", "()I"⟩
abbrev cX12_unit : ByteArray := prog_14_method_33_code
def yX12_unit : MethodName := ⟨RX12, "unit", "()Z"⟩
abbrev cX12_rankHere : ByteArray := prog_14_method_34_code
def yX12_rankHere : MethodName := ⟨RX12, "rankHere", "()I"⟩
abbrev cX12_isCompared : ByteArray := prog_14_method_35_code
def yX12_isCompared : MethodName := ⟨RX12, "isCompared", "()Z"⟩
abbrev cX12_behindUnit : ByteArray := prog_14_method_36_code
def yX12_behindUnit : MethodName := ⟨RX12, "behindUnit", "()Z"⟩
abbrev cX12_two : ByteArray := prog_14_method_37_code
def yX12_two : MethodName := ⟨RX12, "two", "(III)I"⟩
abbrev cX12_fault : ByteArray := prog_14_method_38_code
def yX12_fault : MethodName := ⟨RX12, "fault", "(I)I"⟩
abbrev cX12_isIn : ByteArray := prog_14_method_39_code
def yX12_isIn : MethodName := ⟨RX12, "isIn", "(III)Z"⟩
abbrev cX12_railMany : ByteArray := prog_14_method_40_code
def yX12_railMany : MethodName := ⟨RX12, "railMany", "()I"⟩
abbrev cX12_houseMany : ByteArray := prog_14_method_41_code
def yX12_houseMany : MethodName := ⟨RX12, "houseMany", "()I"⟩
abbrev cX12_isRail : ByteArray := prog_14_method_42_code
def yX12_isRail : MethodName := ⟨RX12, "isRail", "(I)Z"⟩
abbrev cX12_isHouse : ByteArray := prog_14_method_43_code
def yX12_isHouse : MethodName := ⟨RX12, "isHouse", "(I)Z"⟩
abbrev cX12_layFirst : ByteArray := prog_14_method_44_code
def yX12_layFirst : MethodName := ⟨RX12, "layFirst", "()V"⟩
abbrev cX12_layNow : ByteArray := prog_14_method_45_code
def yX12_layNow : MethodName := ⟨RX12, "layNow", "()V"⟩
abbrev cX12_keepNow : ByteArray := prog_14_method_46_code
def yX12_keepNow : MethodName := ⟨RX12, "keepNow", "()V"⟩
abbrev cX12_beginOf : ByteArray := prog_14_method_47_code
def yX12_beginOf : MethodName := ⟨RX12, "beginOf", "(I)I"⟩
abbrev cX12_roomOn : ByteArray := prog_14_method_48_code
def yX12_roomOn : MethodName := ⟨RX12, "roomOn", "(I)I"⟩
abbrev cX12_canBe : ByteArray := prog_14_method_49_code
def yX12_canBe : MethodName := ⟨RX12, "canBe", "(III)Z"⟩
abbrev cX12_sumOf : ByteArray := prog_14_method_50_code
def yX12_sumOf : MethodName := ⟨RX12, "sumOf", "([III)I"⟩
abbrev cX12_amount : ByteArray := prog_14_method_51_code
def yX12_amount : MethodName := ⟨RX12, "amount", "(IIII)I"⟩
abbrev cX12_comes : ByteArray := prog_14_method_52_code
def yX12_comes : MethodName := ⟨RX12, "comes", "(III)I"⟩
abbrev cX12_isLawful : ByteArray := prog_14_method_53_code
def yX12_isLawful : MethodName := ⟨RX12, "isLawful", "(III)Z"⟩
abbrev cX12_moves : ByteArray := prog_14_method_54_code
def yX12_moves : MethodName := ⟨RX12, "moves", "(III)V"⟩
abbrev cX12_worthOfRow : ByteArray := prog_14_method_55_code
def yX12_worthOfRow : MethodName := ⟨RX12, "worthOfRow", "()I"⟩
abbrev cX12_begin : ByteArray := prog_14_method_56_code
def yX12_begin : MethodName := ⟨RX12, "begin", "()V"⟩
abbrev cX12_on : ByteArray := prog_14_method_57_code
def yX12_on : MethodName := ⟨RX12, "on", "(II)I"⟩
abbrev cX12_where : ByteArray := prog_14_method_58_code
def yX12_where : MethodName := ⟨RX12, "where", "(II)I"⟩
abbrev cX12_room : ByteArray := prog_14_method_59_code
def yX12_room : MethodName := ⟨RX12, "room", "(I)I"⟩
abbrev cX12_asked : ByteArray := prog_14_method_60_code
def yX12_asked : MethodName := ⟨RX12, "asked", "(III)I"⟩
abbrev cX12_lawful : ByteArray := prog_14_method_61_code
def yX12_lawful : MethodName := ⟨RX12, "lawful", "(III)I"⟩
abbrev cX12_pull : ByteArray := prog_14_method_62_code
def yX12_pull : MethodName := ⟨RX12, "pull", "(III)I"⟩
abbrev cX12_undo : ByteArray := prog_14_method_63_code
def yX12_undo : MethodName := ⟨RX12, "undo", "(I)I"⟩
abbrev cX12_worth : ByteArray := prog_14_method_64_code
def yX12_worth : MethodName := ⟨RX12, "worth", "()I"⟩
abbrev cX12_tell : ByteArray := prog_14_method_65_code
def yX12_tell : MethodName := ⟨RX12, "tell", "(III)I"⟩
abbrev cX12_hush : ByteArray := prog_14_method_66_code
def yX12_hush : MethodName := ⟨RX12, "hush", "()I"⟩
abbrev cX12_judge : ByteArray := prog_14_method_67_code
def yX12_judge : MethodName := ⟨RX12, "judge", "(I)I"⟩
abbrev cX12_goal : ByteArray := prog_14_method_68_code
def yX12_goal : MethodName := ⟨RX12, "goal", "(I)I"⟩
abbrev cX12_open : ByteArray := prog_14_method_69_code
def yX12_open : MethodName := ⟨RX12, "open", "()I"⟩
abbrev cX12_stateOf : ByteArray := prog_14_method_70_code
def yX12_stateOf : MethodName := ⟨RX12, "stateOf", "()I"⟩
abbrev cX12_layState : ByteArray := prog_14_method_71_code
def yX12_layState : MethodName := ⟨RX12, "layState", "(I)V"⟩
abbrev cX12_isMany : ByteArray := prog_14_method_72_code
def yX12_isMany : MethodName := ⟨RX12, "isMany", "()Z"⟩
abbrev cX12_isEnd : ByteArray := prog_14_method_73_code
def yX12_isEnd : MethodName := ⟨RX12, "isEnd", "()Z"⟩
abbrev cX12_isFree : ByteArray := prog_14_method_74_code
def yX12_isFree : MethodName := ⟨RX12, "isFree", "(I)Z"⟩
abbrev cX12_begins : ByteArray := prog_14_method_75_code
def yX12_begins : MethodName := ⟨RX12, "begins", "()V"⟩
abbrev cX12_keepAt : ByteArray := prog_14_method_76_code
def yX12_keepAt : MethodName := ⟨RX12, "keepAt", "()V"⟩
abbrev cX12_layAt : ByteArray := prog_14_method_77_code
def yX12_layAt : MethodName := ⟨RX12, "layAt", "()V"⟩
abbrev cX12_search : ByteArray := prog_14_method_78_code
def yX12_search : MethodName := ⟨RX12, "search", "(II)I"⟩
abbrev cX12_spread : ByteArray := prog_14_method_79_code
def yX12_spread : MethodName := ⟨RX12, "spread", "(I)V"⟩
abbrev cX12_layWay : ByteArray := prog_14_method_80_code
def yX12_layWay : MethodName := ⟨RX12, "layWay", "(I)V"⟩
abbrev cX12_fewest : ByteArray := prog_14_method_81_code
def yX12_fewest : MethodName := ⟨RX12, "fewest", "()I"⟩
abbrev cX12_free : ByteArray := prog_14_method_82_code
def yX12_free : MethodName := ⟨RX12, "free", "(I)I"⟩
abbrev cX12_richest : ByteArray := prog_14_method_83_code
def yX12_richest : MethodName := ⟨RX12, "richest", "(I)I"⟩
abbrev cX12_spare : ByteArray := prog_14_method_84_code
def yX12_spare : MethodName := ⟨RX12, "spare", "(II)I"⟩
abbrev cX12_isBefore : ByteArray := prog_14_method_85_code
def yX12_isBefore : MethodName := ⟨RX12, "isBefore", "(II)Z"⟩
abbrev cX12_put : ByteArray := prog_14_method_86_code
def yX12_put : MethodName := ⟨RX12, "put", "(II)V"⟩
abbrev cX12_rise : ByteArray := prog_14_method_87_code
def yX12_rise : MethodName := ⟨RX12, "rise", "(I)V"⟩
abbrev cX12_takeFirst : ByteArray := prog_14_method_88_code
def yX12_takeFirst : MethodName := ⟨RX12, "takeFirst", "()I"⟩
abbrev cX12_reaches : ByteArray := prog_14_method_89_code
def yX12_reaches : MethodName := ⟨RX12, "reaches", "(III)V"⟩
abbrev cX12_settle : ByteArray := prog_14_method_90_code
def yX12_settle : MethodName := ⟨RX12, "settle", "()V"⟩
abbrev cX12_nextTight : ByteArray := prog_14_method_91_code
def yX12_nextTight : MethodName := ⟨RX12, "nextTight", "(I)I"⟩
abbrev cX12_least : ByteArray := prog_14_method_92_code
def yX12_least : MethodName := ⟨RX12, "least", "()I"⟩
abbrev cX12_layLightest : ByteArray := prog_14_method_93_code
def yX12_layLightest : MethodName := ⟨RX12, "layLightest", "()V"⟩
abbrev cX12_lies : ByteArray := prog_14_method_94_code
def yX12_lies : MethodName := ⟨RX12, "lies", "(I)I"⟩
abbrev cX12_sight : ByteArray := prog_14_method_95_code
def yX12_sight : MethodName := ⟨RX12, "sight", "(IIIZ)I"⟩
abbrev cX12_untell : ByteArray := prog_14_method_96_code
def yX12_untell : MethodName := ⟨RX12, "untell", "(I)Z"⟩
abbrev cX12_later : ByteArray := prog_14_method_97_code
def yX12_later : MethodName := ⟨RX12, "later", "(I)I"⟩
abbrev cX12_railOf : ByteArray := prog_14_method_98_code
def yX12_railOf : MethodName := ⟨RX12, "railOf", "(I)I"⟩
abbrev cX12_isSo : ByteArray := prog_14_method_99_code
def yX12_isSo : MethodName := ⟨RX12, "isSo", "(II)Z"⟩
abbrev cX12_keepTried : ByteArray := prog_14_method_100_code
def yX12_keepTried : MethodName := ⟨RX12, "keepTried", "(I)V"⟩
abbrev cX12_layTried : ByteArray := prog_14_method_101_code
def yX12_layTried : MethodName := ⟨RX12, "layTried", "(I)V"⟩
abbrev cX12_nextPull : ByteArray := prog_14_method_102_code
def yX12_nextPull : MethodName := ⟨RX12, "nextPull", "(II)I"⟩
abbrev cX12_rowsOf : ByteArray := prog_14_method_103_code
def yX12_rowsOf : MethodName := ⟨RX12, "rowsOf", "(II)I"⟩
abbrev cX12_meets : ByteArray := prog_14_method_104_code
def yX12_meets : MethodName := ⟨RX12, "meets", "()I"⟩
abbrev cX12_fits : ByteArray := prog_14_method_105_code
def yX12_fits : MethodName := ⟨RX12, "fits", "(II)I"⟩
abbrev cX12_can : ByteArray := prog_14_method_106_code
def yX12_can : MethodName := ⟨RX12, "can", "(III)I"⟩
abbrev cX12_image : ByteArray := prog_14_method_107_code
def yX12_image : MethodName := ⟨RX12, "image", "(I)I"⟩
abbrev cX12_back : ByteArray := prog_14_method_108_code
def yX12_back : MethodName := ⟨RX12, "back", "(I)I"⟩
abbrev cX12_about : ByteArray := prog_14_method_109_code
def yX12_about : MethodName := ⟨RX12, "about", "(I)I"⟩
abbrev cX12_feed : ByteArray := prog_14_method_110_code
def yX12_feed : MethodName := ⟨RX12, "feed", "(IIIII)I"⟩
abbrev cX12_end : ByteArray := prog_14_method_111_code
def yX12_end : MethodName := ⟨RX12, "end", "(I)I"⟩
def RJx145de : String := "java/io/Serializable"
def TJx145de : u_T := fun k => match k with
  | _ => ("", "", "", false)
def tyJx145de : Nat → FieldType := fun k => match k with
  | _ => .int
theorem nmJx145de : ∀ a, a < 0 → ∀ b, b < 0 → a ≠ b → (TJx145de a).2.1 ≠ (TJx145de b).2.1 := by decide +kernel
theorem tyJx145de_ok : ∀ k, k < 0 → parseFieldDescriptor (TJx145de k).2.2.1 = some (tyJx145de k) := by decide +kernel
def RJx9f9b0 : String := "java/lang/CharSequence"
def TJx9f9b0 : u_T := fun k => match k with
  | _ => ("", "", "", false)
def tyJx9f9b0 : Nat → FieldType := fun k => match k with
  | _ => .int
theorem nmJx9f9b0 : ∀ a, a < 0 → ∀ b, b < 0 → a ≠ b → (TJx9f9b0 a).2.1 ≠ (TJx9f9b0 b).2.1 := by decide +kernel
theorem tyJx9f9b0_ok : ∀ k, k < 0 → parseFieldDescriptor (TJx9f9b0 k).2.2.1 = some (tyJx9f9b0 k) := by decide +kernel
def RJxb160c : String := "java/lang/Comparable"
def TJxb160c : u_T := fun k => match k with
  | _ => ("", "", "", false)
def tyJxb160c : Nat → FieldType := fun k => match k with
  | _ => .int
theorem nmJxb160c : ∀ a, a < 0 → ∀ b, b < 0 → a ≠ b → (TJxb160c a).2.1 ≠ (TJxb160c b).2.1 := by decide +kernel
theorem tyJxb160c_ok : ∀ k, k < 0 → parseFieldDescriptor (TJxb160c k).2.2.1 = some (tyJxb160c k) := by decide +kernel
def RJ6 : String := "java/lang/Integer"
def TJ6 : u_T := fun k => match k with
  | _ => ("", "", "", false)
def tyJ6 : Nat → FieldType := fun k => match k with
  | _ => .int
theorem nmJ6 : ∀ a, a < 0 → ∀ b, b < 0 → a ≠ b → (TJ6 a).2.1 ≠ (TJ6 b).2.1 := by decide +kernel
theorem tyJ6_ok : ∀ k, k < 0 → parseFieldDescriptor (TJ6 k).2.2.1 = some (tyJ6 k) := by decide +kernel
abbrev cJ6_bitCount_0f7a4 : ByteArray := prog_15_method_49_code
def yJ6_bitCount_0f7a4 : MethodName := ⟨RJ6, "bitCount", "(I)I"⟩
def RJ9 : String := "java/lang/Math"
def TJ9 : u_T := fun k => match k with
  | _ => ("", "", "", false)
def tyJ9 : Nat → FieldType := fun k => match k with
  | _ => .int
theorem nmJ9 : ∀ a, a < 0 → ∀ b, b < 0 → a ≠ b → (TJ9 a).2.1 ≠ (TJ9 b).2.1 := by decide +kernel
theorem tyJ9_ok : ∀ k, k < 0 → parseFieldDescriptor (TJ9 k).2.2.1 = some (tyJ9 k) := by decide +kernel
abbrev cJ9_max_7cf53 : ByteArray := prog_16_method_65_code
def yJ9_max_7cf53 : MethodName := ⟨RJ9, "max", "(II)I"⟩
abbrev cJ9_min_7cf53 : ByteArray := prog_16_method_69_code
def yJ9_min_7cf53 : MethodName := ⟨RJ9, "min", "(II)I"⟩
def RJ0 : String := "java/lang/String"
def TJ0 : u_T := fun k => match k with
  | _ => ("", "", "", false)
def tyJ0 : Nat → FieldType := fun k => match k with
  | _ => .int
theorem nmJ0 : ∀ a, a < 0 → ∀ b, b < 0 → a ≠ b → (TJ0 a).2.1 ≠ (TJ0 b).2.1 := by decide +kernel
theorem tyJ0_ok : ∀ k, k < 0 → parseFieldDescriptor (TJ0 k).2.2.1 = some (tyJ0 k) := by decide +kernel
abbrev cJ0_length_8abf5 : ByteArray := prog_17_method_54_code
def yJ0_length_8abf5 : MethodName := ⟨RJ0, "length", "()I"⟩
abbrev cJ0_charAt_5068e : ByteArray := prog_17_method_56_code
def yJ0_charAt_5068e : MethodName := ⟨RJ0, "charAt", "(I)C"⟩
abbrev cJ0_coder_7d493 : ByteArray := prog_17_method_152_code
def yJ0_coder_7d493 : MethodName := ⟨RJ0, "coder", "()B"⟩
abbrev cJ0_isLatin1_aae02 : ByteArray := prog_17_method_154_code
def yJ0_isLatin1_aae02 : MethodName := ⟨RJ0, "isLatin1", "()Z"⟩
abbrev cJ0_checkIndex_df160 : ByteArray := prog_17_method_155_code
def yJ0_checkIndex_df160 : MethodName := ⟨RJ0, "checkIndex", "(II)V"⟩
def RJ1 : String := "java/lang/StringLatin1"
def TJ1 : u_T := fun k => match k with
  | _ => ("", "", "", false)
def tyJ1 : Nat → FieldType := fun k => match k with
  | _ => .int
theorem nmJ1 : ∀ a, a < 0 → ∀ b, b < 0 → a ≠ b → (TJ1 a).2.1 ≠ (TJ1 b).2.1 := by decide +kernel
theorem tyJ1_ok : ∀ k, k < 0 → parseFieldDescriptor (TJ1 k).2.2.1 = some (tyJ1 k) := by decide +kernel
abbrev cJ1_charAt_3b067 : ByteArray := prog_18_method_2_code
def yJ1_charAt_3b067 : MethodName := ⟨RJ1, "charAt", "([BI)C"⟩
def RJ2 : String := "java/lang/StringUTF16"
def TJ2 : u_T := fun k => match k with
  | _ => ("", "", "", false)
def tyJ2 : Nat → FieldType := fun k => match k with
  | _ => .int
theorem nmJ2 : ∀ a, a < 0 → ∀ b, b < 0 → a ≠ b → (TJ2 a).2.1 ≠ (TJ2 b).2.1 := by decide +kernel
theorem tyJ2_ok : ∀ k, k < 0 → parseFieldDescriptor (TJ2 k).2.2.1 = some (tyJ2 k) := by decide +kernel
abbrev cJ2_getChar_3b067 : ByteArray := prog_19_method_5_code
def yJ2_getChar_3b067 : MethodName := ⟨RJ2, "getChar", "([BI)C"⟩
abbrev cJ2_length_9d52b : ByteArray := prog_19_method_6_code
def yJ2_length_9d52b : MethodName := ⟨RJ2, "length", "([B)I"⟩
abbrev cJ2_charAt_3b067 : ByteArray := prog_19_method_83_code
def yJ2_charAt_3b067 : MethodName := ⟨RJ2, "charAt", "([BI)C"⟩
abbrev cJ2_checkIndex_2214a : ByteArray := prog_19_method_91_code
def yJ2_checkIndex_2214a : MethodName := ⟨RJ2, "checkIndex", "(I[B)V"⟩
def RJ10 : String := "java/lang/System"
def TJ10 : u_T := fun k => match k with
  | _ => ("", "", "", false)
def tyJ10 : Nat → FieldType := fun k => match k with
  | _ => .int
theorem nmJ10 : ∀ a, a < 0 → ∀ b, b < 0 → a ≠ b → (TJ10 a).2.1 ≠ (TJ10 b).2.1 := by decide +kernel
theorem tyJ10_ok : ∀ k, k < 0 → parseFieldDescriptor (TJ10 k).2.2.1 = some (tyJ10 k) := by decide +kernel
def RJxfd54e : String := "java/lang/constant/Constable"
def TJxfd54e : u_T := fun k => match k with
  | _ => ("", "", "", false)
def tyJxfd54e : Nat → FieldType := fun k => match k with
  | _ => .int
theorem nmJxfd54e : ∀ a, a < 0 → ∀ b, b < 0 → a ≠ b → (TJxfd54e a).2.1 ≠ (TJxfd54e b).2.1 := by decide +kernel
theorem tyJxfd54e_ok : ∀ k, k < 0 → parseFieldDescriptor (TJxfd54e k).2.2.1 = some (tyJxfd54e k) := by decide +kernel
def RJx3cf43 : String := "java/lang/constant/ConstantDesc"
def TJx3cf43 : u_T := fun k => match k with
  | _ => ("", "", "", false)
def tyJx3cf43 : Nat → FieldType := fun k => match k with
  | _ => .int
theorem nmJx3cf43 : ∀ a, a < 0 → ∀ b, b < 0 → a ≠ b → (TJx3cf43 a).2.1 ≠ (TJx3cf43 b).2.1 := by decide +kernel
theorem tyJx3cf43_ok : ∀ k, k < 0 → parseFieldDescriptor (TJx3cf43 k).2.2.1 = some (tyJx3cf43 k) := by decide +kernel
def RJ7 : String := "java/util/Arrays"
def TJ7 : u_T := fun k => match k with
  | _ => ("", "", "", false)
def tyJ7 : Nat → FieldType := fun k => match k with
  | _ => .int
theorem nmJ7 : ∀ a, a < 0 → ∀ b, b < 0 → a ≠ b → (TJ7 a).2.1 ≠ (TJ7 b).2.1 := by decide +kernel
theorem tyJ7_ok : ∀ k, k < 0 → parseFieldDescriptor (TJ7 k).2.2.1 = some (tyJ7 k) := by decide +kernel
abbrev cJ7_rangeCheck_23922 : ByteArray := prog_21_method_30_code
def yJ7_rangeCheck_23922 : MethodName := ⟨RJ7, "rangeCheck", "(III)V"⟩
abbrev cJ7_fill_53178 : ByteArray := prog_21_method_103_code
def yJ7_fill_53178 : MethodName := ⟨RJ7, "fill", "([II)V"⟩
abbrev cJ7_fill_fda19 : ByteArray := prog_21_method_104_code
def yJ7_fill_fda19 : MethodName := ⟨RJ7, "fill", "([IIII)V"⟩
abbrev cJ7_fill_eb02e : ByteArray := prog_21_method_110_code
def yJ7_fill_eb02e : MethodName := ⟨RJ7, "fill", "([BIIB)V"⟩
def RJ3 : String := "jdk/internal/util/Preconditions"
def TJ3 : u_T := fun k => match k with
  | _ => ("", "", "", false)
def tyJ3 : Nat → FieldType := fun k => match k with
  | _ => .int
theorem nmJ3 : ∀ a, a < 0 → ∀ b, b < 0 → a ≠ b → (TJ3 a).2.1 ≠ (TJ3 b).2.1 := by decide +kernel
theorem tyJ3_ok : ∀ k, k < 0 → parseFieldDescriptor (TJ3 k).2.2.1 = some (tyJ3 k) := by decide +kernel
abbrev cJ3_checkIndex_8e157 : ByteArray := prog_22_method_11_code
def yJ3_checkIndex_8e157 : MethodName := ⟨RJ3, "checkIndex", "(IILjava/util/function/BiFunction;)I"⟩
def RL : String := "RailHousesLaw"
abbrev cL_law : ByteArray := code
abbrev vwCl : List vw_C := [(RX0, TX0, 8), (RX1, TX1, 6), (RX2, TX2, 2), (RX3, TX3, 3), (RX4, TX4, 12), (RX5, TX5, 12), (RX6, TX6, 15), (RX7, TX7, 9), (RX8, TX8, 10), (RX9, TX9, 12), (RX10, TX10, 5), (RX11, TX11, 17), (RX12, TX12, 90)]
end
section
/-! THE MEMORY: what the cells that a run has made hold, by their numbers (1 is the first cell made, 0 is null) -/
abbrev rhG : Type := Nat × Nat × (Nat → Nat) × (Nat → Nat)
abbrev rhM : Type := (Nat → Nat → Int32) × (Nat → Nat → Int64) × (Nat → Nat → Nat)
abbrev rhV : Type := Int32 ⊕ (Int64 ⊕ (Nat ⊕ Nat))
abbrev rhI (x : Int32) : rhV := Sum.inl x
abbrev rhJ (x : Int64) : rhV := Sum.inr (Sum.inl x)
abbrev rhR (r : Nat) : rhV := Sum.inr (Sum.inr (Sum.inl r))
abbrev rhT (i : Nat) : rhV := Sum.inr (Sum.inr (Sum.inr i))
/-- base, layouts, classes of the arrays, addresses of what was there before -/
abbrev rhE : Type := Nat × va_G × (Nat → ClassId) × (Nat → Nat)
def rhro (E : rhE) (r : Nat) : Option Nat := if r = 0 then none else some (E.1 + (r - 1))
def rhv (E : rhE) : rhV → Value
  | .inl x => .int x
  | .inr (.inl x) => .long x
  | .inr (.inr (.inl r)) => va_rf (rhro E r)
  | .inr (.inr (.inr i)) => .ref (E.2.2.2 i)
def rhty : Nat → Nat → FieldType
  | 0 => tyX0 | 1 => tyX1 | 2 => tyX2 | 3 => tyX3 | 4 => tyX4 | 5 => tyX5 | 6 => tyX6 | 7 => tyX7 | 8 => tyX8 | 9 => tyX9 | 10 => tyX10 | 11 => tyX11 | _ => tyX12
def rhfn (c : Nat) : Nat := match vwCl[c]? with | some q => q.2.2 | none => 0
def rhfv (E : rhE) (t : FieldType) (M : rhM) (r j : Nat) : Value := match t with
  | .long => .long (M.2.1 r j)
  | .object _ => va_rf (rhro E (M.2.2 r j))
  | .array _ => va_rf (rhro E (M.2.2 r j))
  | _ => .int (M.1 r j)
def rhc (E : rhE) (Γ : rhG) (M : rhM) (r : Nat) : va_E := match Γ.2.2.1 r with
  | 14 => .inl (E.2.2.1 0, Γ.2.2.2 r, .inl (M.1 r))
  | 15 => .inl (E.2.2.1 1, Γ.2.2.2 r, .inl (M.1 r))
  | 16 => .inl (E.2.2.1 2, Γ.2.2.2 r, .inr (.inl (M.2.1 r)))
  | 17 => .inl (E.2.2.1 3, Γ.2.2.2 r, .inl (M.1 r))
  | 18 => .inl (E.2.2.1 4, Γ.2.2.2 r, .inr (.inr (.inr (.inr (fun j => rhro E (M.2.2 r j))))))
  | 19 => .inl (E.2.2.1 5, Γ.2.2.2 r, .inr (.inr (.inr (.inr (fun j => rhro E (M.2.2 r j))))))
  | k => .inr (k - 1, (List.range (rhfn (k - 1))).map (fun j => rhfv E (rhty (k - 1) j) M r j))
def rhw (E : rhE) (Γ : rhG) (M : rhM) : va_W := (List.range Γ.1).map (fun k => (E.1 + k, rhc E Γ M (k + 1)))
def rhad (E : rhE) : Nat → Prop := fun q => E.1 ≤ q
theorem rhw_at {E : rhE} {Γ : rhG} {M : rhM} {r : Nat} (h0 : 1 ≤ r) (h1 : r ≤ Γ.1) : (rhw E Γ M)[r - 1]? = some (E.1 + (r - 1), rhc E Γ M r) := by
  rw [rhw, List.getElem?_map, List.getElem?_range (by omega)]
  simp only [Option.map_some, show r - 1 + 1 = r by omega]
theorem rhw_get {E : rhE} {Γ : rhG} {M : rhM} {k : Nat} {q : Nat × va_E} (h : (rhw E Γ M)[k]? = some q) : k < Γ.1 ∧ q = (E.1 + k, rhc E Γ M (k + 1)) := by
  rw [rhw, List.getElem?_map] at h
  cases hk : (List.range Γ.1)[k]? with
  | none => rw [hk] at h; cases h
  | some j =>
    rw [hk] at h
    obtain ⟨hj, hj2⟩ := List.getElem?_eq_some_iff.mp hk
    simp only [List.length_range] at hj
    simp only [List.getElem_range] at hj2
    subst hj2
    cases h
    exact ⟨hj, rfl⟩
theorem rhw_D {E : rhE} {Γ : rhG} {M : rhM} : va_D (rhad E) (rhw E Γ M) := by
  refine ⟨fun i j p q hi hj h => ?_, fun k q hk => ?_⟩
  · obtain ⟨-, rfl⟩ := rhw_get hi
    obtain ⟨-, rfl⟩ := rhw_get hj
    dsimp only at h
    omega
  · obtain ⟨-, rfl⟩ := rhw_get hk
    exact Nat.le_add_right _ _
/-- the heap holds the memory -/
def rhH (E : rhE) (Γ : rhG) (M : rhM) (H : Heap) : Prop := va_P E.2.1 vwCl (rhw E Γ M) H ∧ H.size = E.1 + Γ.1 ∧ ∀ r, Γ.2.2.1 r ≠ 0 → 1 ≤ r ∧ r ≤ Γ.1
theorem rhH.cell {E : rhE} {Γ : rhG} {M : rhM} {H : Heap} (h : rhH E Γ M H) {r : Nat} (hr : Γ.2.2.1 r ≠ 0) : (rhw E Γ M)[r - 1]? = some (E.1 + (r - 1), rhc E Γ M r) := rhw_at (h.2.2 r hr).1 (h.2.2 r hr).2
theorem rhro_pos {E : rhE} {r : Nat} (h : 1 ≤ r) : rhro E r = some (E.1 + (r - 1)) := by rw [rhro, if_neg (by omega)]
theorem rhv_ref {E : rhE} {r : Nat} (h : 1 ≤ r) : rhv E (rhR r) = .ref (E.1 + (r - 1)) := by
  show va_rf (rhro E r) = _
  rw [rhro_pos h]; rfl
/-- one cell has changed -/
theorem rhH.set {E : rhE} {Γ : rhG} {M M' : rhM} {H H1 : Heap} (h : rhH E Γ M H) {r : Nat} (h0 : 1 ≤ r) (h1 : r ≤ Γ.1) (ho : ∀ r', r' ≠ r → rhc E Γ M' r' = rhc E Γ M r')
    (hc : va_at E.2.1 vwCl (E.1 + (r - 1), rhc E Γ M' r) H1) (hz : H1.size = H.size) (oq : ∀ q : Nat, q ≠ E.1 + (r - 1) → H1[q]? = H[q]?) : rhH E Γ M' H1 := by
  refine ⟨fun k q hk => ?_, hz.trans h.2.1, h.2.2⟩
  obtain ⟨hk1, rfl⟩ := rhw_get hk
  by_cases e : k + 1 = r
  · subst e
    exact hc
  · rw [ho _ e]
    refine (h.1 k (E.1 + k, rhc E Γ M (k + 1)) ?_).kept (oq _ (by show E.1 + k ≠ E.1 + (r - 1); omega))
    have := rhw_at (E := E) (Γ := Γ) (M := M) (r := k + 1) (by omega) (by omega)
    rw [show k + 1 - 1 = k by omega] at this
    exact this
/-- one cell is new -/
theorem rhH.push {E : rhE} {Γ Γ' : rhG} {M M' : rhM} {H H1 : Heap} (h : rhH E Γ M H) (hg : Γ'.1 = Γ.1 + 1) (hk : ∀ r, Γ'.2.2.1 r ≠ 0 → 1 ≤ r ∧ r ≤ Γ.1 + 1) (ho : ∀ r', r' ≠ Γ.1 + 1 → rhc E Γ' M' r' = rhc E Γ M r')
    (hc : va_at E.2.1 vwCl (E.1 + Γ.1, rhc E Γ' M' (Γ.1 + 1)) H1) (hz : H1.size = H.size + 1) (oq : ∀ q : Nat, q < H.size → H1[q]? = H[q]?) : rhH E Γ' M' H1 := by
  refine ⟨fun k q hq => ?_, by rw [hz, h.2.1, hg]; omega, by rw [hg]; exact hk⟩
  obtain ⟨hk1, rfl⟩ := rhw_get hq
  by_cases e : k = Γ.1
  · subst e
    exact hc
  · rw [ho _ (by omega)]
    have h2 : k + 1 ≤ Γ.1 := by omega
    refine (h.1 k (E.1 + k, rhc E Γ M (k + 1)) ?_).kept (oq _ (by show E.1 + k < H.size; rw [h.2.1]; omega))
    have := rhw_at (E := E) (Γ := Γ) (M := M) (r := k + 1) (by omega) (by omega)
    rw [show k + 1 - 1 = k by omega] at this
    exact this
def rhsi (M : rhM) (r j : Nat) (v : Int32) : rhM := (fun a k => if a = r ∧ k = j then v else M.1 a k, M.2)
def rhsl (M : rhM) (r j : Nat) (v : Int64) : rhM := (M.1, fun a k => if a = r ∧ k = j then v else M.2.1 a k, M.2.2)
def rhsr (M : rhM) (r j : Nat) (v : Nat) : rhM := (M.1, M.2.1, fun a k => if a = r ∧ k = j then v else M.2.2 a k)
theorem rhc_other {E : rhE} {Γ : rhG} {M M' : rhM} {r : Nat} (h1 : M'.1 r = M.1 r) (h2 : M'.2.1 r = M.2.1 r) (h3 : M'.2.2 r = M.2.2 r) : rhc E Γ M' r = rhc E Γ M r := by
  simp only [rhc, h1, h2, h3, rhfv]
theorem rhsi_o (M : rhM) (r j : Nat) (v : Int32) {a : Nat} (h : a ≠ r) : (rhsi M r j v).1 a = M.1 a := by
  funext k; simp [rhsi, h]
theorem rhsl_o (M : rhM) (r j : Nat) (v : Int64) {a : Nat} (h : a ≠ r) : (rhsl M r j v).2.1 a = M.2.1 a := by
  funext k; simp [rhsl, h]
theorem rhsr_o (M : rhM) (r j : Nat) (v : Nat) {a : Nat} (h : a ≠ r) : (rhsr M r j v).2.2 a = M.2.2 a := by
  funext k; simp [rhsr, h]
theorem rhci {E : rhE} {Γ : rhG} {M : rhM} {r j : Nat} {v : Int32} : ∀ a, a ≠ r → rhc E Γ (rhsi M r j v) a = rhc E Γ M a := fun a h => rhc_other (rhsi_o M r j v h) rfl rfl
theorem rhcl {E : rhE} {Γ : rhG} {M : rhM} {r j : Nat} {v : Int64} : ∀ a, a ≠ r → rhc E Γ (rhsl M r j v) a = rhc E Γ M a := fun a h => rhc_other rfl (rhsl_o M r j v h) rfl
theorem rhcr {E : rhE} {Γ : rhG} {M : rhM} {r j : Nat} {v : Nat} : ∀ a, a ≠ r → rhc E Γ (rhsr M r j v) a = rhc E Γ M a := fun a h => rhc_other rfl rfl (rhsr_o M r j v h)
/-- what an object is -/
theorem rhc_obj {E : rhE} {Γ : rhG} {M : rhM} {r c : Nat} (h : Γ.2.2.1 r = c + 1) (hc : c < 13) : rhc E Γ M r = .inr (c, (List.range (rhfn c)).map (fun j => rhfv E (rhty c j) M r j)) := by
  unfold rhc
  rw [h]
  rcases (show c = 0 ∨ c = 1 ∨ c = 2 ∨ c = 3 ∨ c = 4 ∨ c = 5 ∨ c = 6 ∨ c = 7 ∨ c = 8 ∨ c = 9 ∨ c = 10 ∨ c = 11 ∨ c = 12 by omega) with rfl | rfl | rfl | rfl | rfl | rfl | rfl | rfl | rfl | rfl | rfl | rfl | rfl <;> rfl
theorem rhc_B {E : rhE} {Γ : rhG} {M : rhM} {r : Nat} (h : Γ.2.2.1 r = 14) : rhc E Γ M r = .inl (E.2.2.1 0, Γ.2.2.2 r, .inl (M.1 r)) := by unfold rhc; rw [h]; rfl
theorem rhc_I {E : rhE} {Γ : rhG} {M : rhM} {r : Nat} (h : Γ.2.2.1 r = 15) : rhc E Γ M r = .inl (E.2.2.1 1, Γ.2.2.2 r, .inl (M.1 r)) := by unfold rhc; rw [h]; rfl
theorem rhc_J {E : rhE} {Γ : rhG} {M : rhM} {r : Nat} (h : Γ.2.2.1 r = 16) : rhc E Γ M r = .inl (E.2.2.1 2, Γ.2.2.2 r, .inr (.inl (M.2.1 r))) := by unfold rhc; rw [h]; rfl
theorem rhc_Z {E : rhE} {Γ : rhG} {M : rhM} {r : Nat} (h : Γ.2.2.1 r = 17) : rhc E Γ M r = .inl (E.2.2.1 3, Γ.2.2.2 r, .inl (M.1 r)) := by unfold rhc; rw [h]; rfl
theorem rhc_P {E : rhE} {Γ : rhG} {M : rhM} {r : Nat} (h : Γ.2.2.1 r = 18) : rhc E Γ M r = .inl (E.2.2.1 4, Γ.2.2.2 r, .inr (.inr (.inr (.inr (fun j => rhro E (M.2.2 r j)))))) := by unfold rhc; rw [h]; rfl
theorem rhc_S {E : rhE} {Γ : rhG} {M : rhM} {r : Nat} (h : Γ.2.2.1 r = 19) : rhc E Γ M r = .inl (E.2.2.1 5, Γ.2.2.2 r, .inr (.inr (.inr (.inr (fun j => rhro E (M.2.2 r j)))))) := by unfold rhc; rw [h]; rfl
def rhtys (E : rhE) : List (ClassId × FieldType) := [(E.2.2.1 0, .byte), (E.2.2.1 1, .int), (E.2.2.1 2, .long), (E.2.2.1 3, .boolean), (E.2.2.1 4, .object RX3), (E.2.2.1 5, .object RX7)]
/-- the words of the tables that every contract stands on -/
def rhTs : List Cond := lw_tbl.filter goodWord
theorem rhTs_in {w : Cond} (i : Nat) (h : lw_tbl[i]? = some w) (hg : goodWord w = true) : w ∈ rhTs := List.mem_filter.mpr ⟨List.mem_of_getElem? h, hg⟩
theorem rhTs_good (w : Cond) (h : w ∈ rhTs) : (w.onTables && w.keeps) = true ∨ ∃ ty, w = .arrayClass ty := good_of_word (List.mem_filter.mp h).2
end
section
set_option maxRecDepth 20000 in
theorem rhin0 : ∀ w ∈ wsX00, w ∈ rhTs := by decide +kernel
set_option maxRecDepth 20000 in
theorem rhin1 : ∀ w ∈ wsX10, w ∈ rhTs := by decide +kernel
set_option maxRecDepth 20000 in
theorem rhin2 : ∀ w ∈ wsX20, w ∈ rhTs := by decide +kernel
set_option maxRecDepth 20000 in
theorem rhin3 : ∀ w ∈ wsX30, w ∈ rhTs := by decide +kernel
set_option maxRecDepth 20000 in
theorem rhin4 : ∀ w ∈ wsX40, w ∈ rhTs := by decide +kernel
set_option maxRecDepth 20000 in
theorem rhin5 : ∀ w ∈ wsX50, w ∈ rhTs := by decide +kernel
set_option maxRecDepth 20000 in
theorem rhin6 : ∀ w ∈ wsX60, w ∈ rhTs := by decide +kernel
set_option maxRecDepth 20000 in
theorem rhin7 : ∀ w ∈ wsX70, w ∈ rhTs := by decide +kernel
set_option maxRecDepth 20000 in
theorem rhin8 : ∀ w ∈ wsX80, w ∈ rhTs := by decide +kernel
set_option maxRecDepth 20000 in
theorem rhin9 : ∀ w ∈ wsX90, w ∈ rhTs := by decide +kernel
set_option maxRecDepth 20000 in
theorem rhin10 : ∀ w ∈ wsX100, w ∈ rhTs := by decide +kernel
set_option maxRecDepth 20000 in
theorem rhin11 : ∀ w ∈ wsX110, w ∈ rhTs := by decide +kernel
set_option maxRecDepth 20000 in
theorem rhin12 : ∀ w ∈ wsX120, w ∈ rhTs := by decide +kernel
end
section
def rhtx0 : String := "rail house beside neck draws law length weight on worth or and not many from to room takes "
def rhtx1 : String := ";()<>=+-*/"
def rhby0 : List Int32 := [114, 97, 105, 108, 32, 104, 111, 117, 115, 101, 32, 98, 101, 115, 105, 100, 101, 32, 110, 101, 99, 107, 32, 100, 114, 97, 119, 115, 32, 108, 97, 119, 32, 108, 101, 110, 103, 116, 104, 32, 119, 101, 105, 103, 104, 116, 32, 111, 110, 32, 119, 111, 114, 116, 104, 32, 111, 114, 32, 97, 110, 100, 32, 110, 111, 116, 32, 109, 97, 110, 121, 32, 102, 114, 111, 109, 32, 116, 111, 32, 114, 111, 111, 109, 32, 116, 97, 107, 101, 115, 32]
def rhby1 : List Int32 := [59, 40, 41, 60, 62, 61, 43, 45, 42, 47]
def rhnl : List (String × Nat × MethodName × String) := [("RailHouses", 15, ⟨"RailHouses$Reader", "<init>", "()V"⟩, "RailHouses"), ("RailHouses", 32, ⟨"RailHouses$Stand", "<init>", "()V"⟩, "RailHouses"), ("RailHouses$Search", 11, ⟨"RailHouses$Stand", "<init>", "()V"⟩, "RailHouses"), ("RailHouses$Sights", 55, ⟨"RailHouses$Stand", "<init>", "()V"⟩, "RailHouses"), ("RailHouses$Town", 30, ⟨"RailHouses$Law", "<init>", "()V"⟩, "RailHouses")]
/-! THE RUN OF A METHOD'S BODY over the memory, and what one instruction does to it -/
theorem rhcl_in : ∀ (ci : Nat) (q : vw_C), vwCl[ci]? = some q → ∀ w ∈ u_ws q.1 q.2.1 q.2.2, w ∈ rhTs := by
  intro ci q hq
  rcases (show ci = 0 ∨ ci = 1 ∨ ci = 2 ∨ ci = 3 ∨ ci = 4 ∨ ci = 5 ∨ ci = 6 ∨ ci = 7 ∨ ci = 8 ∨ ci = 9 ∨ ci = 10 ∨ ci = 11 ∨ ci = 12 ∨ 13 ≤ ci by omega) with rfl | rfl | rfl | rfl | rfl | rfl | rfl | rfl | rfl | rfl | rfl | rfl | rfl | h
  · cases hq; exact rhin0
  · cases hq; exact rhin1
  · cases hq; exact rhin2
  · cases hq; exact rhin3
  · cases hq; exact rhin4
  · cases hq; exact rhin5
  · cases hq; exact rhin6
  · cases hq; exact rhin7
  · cases hq; exact rhin8
  · cases hq; exact rhin9
  · cases hq; exact rhin10
  · cases hq; exact rhin11
  · cases hq; exact rhin12
  · rw [List.getElem?_eq_none (by exact h)] at hq; cases hq
theorem rhcl_ty : ∀ (ci : Nat) (q : vw_C), vwCl[ci]? = some q → ∀ k, k < q.2.2 → parseFieldDescriptor (q.2.1 k).2.2.1 = some (rhty ci k) := by
  intro ci q hq
  rcases (show ci = 0 ∨ ci = 1 ∨ ci = 2 ∨ ci = 3 ∨ ci = 4 ∨ ci = 5 ∨ ci = 6 ∨ ci = 7 ∨ ci = 8 ∨ ci = 9 ∨ ci = 10 ∨ ci = 11 ∨ ci = 12 ∨ 13 ≤ ci by omega) with rfl | rfl | rfl | rfl | rfl | rfl | rfl | rfl | rfl | rfl | rfl | rfl | rfl | h
  · cases hq; exact tyX0_ok
  · cases hq; exact tyX1_ok
  · cases hq; exact tyX2_ok
  · cases hq; exact tyX3_ok
  · cases hq; exact tyX4_ok
  · cases hq; exact tyX5_ok
  · cases hq; exact tyX6_ok
  · cases hq; exact tyX7_ok
  · cases hq; exact tyX8_ok
  · cases hq; exact tyX9_ok
  · cases hq; exact tyX10_ok
  · cases hq; exact tyX11_ok
  · cases hq; exact tyX12_ok
  · rw [List.getElem?_eq_none (by exact h)] at hq; cases hq
theorem rhcl_nm : ∀ (ci : Nat) (q : vw_C), vwCl[ci]? = some q → ∀ a, a < q.2.2 → ∀ b, b < q.2.2 → a ≠ b → (q.2.1 a).2.1 ≠ (q.2.1 b).2.1 := by
  intro ci q hq
  rcases (show ci = 0 ∨ ci = 1 ∨ ci = 2 ∨ ci = 3 ∨ ci = 4 ∨ ci = 5 ∨ ci = 6 ∨ ci = 7 ∨ ci = 8 ∨ ci = 9 ∨ ci = 10 ∨ ci = 11 ∨ ci = 12 ∨ 13 ≤ ci by omega) with rfl | rfl | rfl | rfl | rfl | rfl | rfl | rfl | rfl | rfl | rfl | rfl | rfl | h
  · cases hq; exact nmX0
  · cases hq; exact nmX1
  · cases hq; exact nmX2
  · cases hq; exact nmX3
  · cases hq; exact nmX4
  · cases hq; exact nmX5
  · cases hq; exact nmX6
  · cases hq; exact nmX7
  · cases hq; exact nmX8
  · cases hq; exact nmX9
  · cases hq; exact nmX10
  · cases hq; exact nmX11
  · cases hq; exact nmX12
  · rw [List.getElem?_eq_none (by exact h)] at hq; cases hq
theorem rhcl_fn : ∀ (ci : Nat) (q : vw_C), vwCl[ci]? = some q → rhfn ci = q.2.2 ∧ ci < 13 := by
  intro ci q hq
  rcases (show ci = 0 ∨ ci = 1 ∨ ci = 2 ∨ ci = 3 ∨ ci = 4 ∨ ci = 5 ∨ ci = 6 ∨ ci = 7 ∨ ci = 8 ∨ ci = 9 ∨ ci = 10 ∨ ci = 11 ∨ ci = 12 ∨ 13 ≤ ci by omega) with rfl | rfl | rfl | rfl | rfl | rfl | rfl | rfl | rfl | rfl | rfl | rfl | rfl | h
  · cases hq; exact ⟨rfl, by decide⟩
  · cases hq; exact ⟨rfl, by decide⟩
  · cases hq; exact ⟨rfl, by decide⟩
  · cases hq; exact ⟨rfl, by decide⟩
  · cases hq; exact ⟨rfl, by decide⟩
  · cases hq; exact ⟨rfl, by decide⟩
  · cases hq; exact ⟨rfl, by decide⟩
  · cases hq; exact ⟨rfl, by decide⟩
  · cases hq; exact ⟨rfl, by decide⟩
  · cases hq; exact ⟨rfl, by decide⟩
  · cases hq; exact ⟨rfl, by decide⟩
  · cases hq; exact ⟨rfl, by decide⟩
  · cases hq; exact ⟨rfl, by decide⟩
  · rw [List.getElem?_eq_none (by exact h)] at hq; cases hq
def rhL (E : rhE) (L : List (Nat × rhV)) : List (Nat × Value) := L.map (fun q => (q.1, rhv E q.2))
def rhcat : rhV → Nat
  | .inr (.inl _) => 2
  | _ => 1
theorem rhv_cat (E : rhE) (v : rhV) : (rhv E v).category = rhcat v := by
  rcases v with x | x | r | i
  · rfl
  · rfl
  · show (va_rf (rhro E r)).category = 1
    unfold rhro
    split <;> rfl
  · rfl
theorem rhcats (E : rhE) (S : List rhV) : ((S.map (rhv E)).map fun v => v.category) = S.map rhcat := by
  rw [List.map_map]
  exact List.map_congr_left fun v _ => rhv_cat E v
/-- the strings, the JDK's statics, and what the tables say beside their good words -/
def rhS (E : rhE) (U : State) (H : Heap) : Prop := vk_R RX8 19 rhtx0 (E.2.2.2 0) U ∧ vk_R RX8 82 rhtx1 (E.2.2.2 1) U ∧ vk_S 2 [rhby0.length, rhby1.length] [rhby0, rhby1] (fun i => E.2.2.2 i) (fun i => E.2.2.2 (2 + i)) (rhad E) U H ∧ va_Z "java/lang/String" "COMPACT_STRINGS" "Z" (.int 1) (rhad E) U H ∧ va_Z "jdk/internal/util/Preconditions" "SIOOBE_FORMATTER" "Ljava/util/function/BiFunction;" (.ref (E.2.2.2 4)) (rhad E) U H ∧ va_AO RX3 U ∧ va_AO RX7 U ∧ ∀ q ∈ rhnl, va_Nw (.methodLinkNest q.1 q.2.1 q.2.2.1 q.2.2.2) U
theorem rhS.go {E : rhE} {s U : State} {H : Heap} {locs : List Loc} (h : rhS E s s.heap) (hW : s.WarmedH U.vm) (hS : va_S (rhad E) s.heap H locs) : rhS E U H :=
  ⟨h.1.warm hW, h.2.1.warm hW, (h.2.2.1.kept hS.2.1).moved hW.alike, (h.2.2.2.1.kept hS.2.1).moved hW.alike, (h.2.2.2.2.1.kept hS.2.1).moved hW.alike, h.2.2.2.2.2.1.moved hW.alike, h.2.2.2.2.2.2.1.moved hW.alike, fun q hq => va_Nw.warmM hW (h.2.2.2.2.2.2.2 q hq)⟩
theorem rhS.same {E : rhE} {u U : State} {H : Heap} (hv : U.vm = u.vm) (h : rhS E u H) : rhS E U H := by
  have hal : u.vm.Alike U.vm := by rw [hv]; exact Vm.Alike.refl _
  exact ⟨h.1.same hv, h.2.1.same hv, h.2.2.1.moved hal, h.2.2.2.1.moved hal, h.2.2.2.2.1.moved hal, h.2.2.2.2.2.1.moved hal, h.2.2.2.2.2.2.1.moved hal, fun q hq => va_Nw.same rfl hv.symm (h.2.2.2.2.2.2.2 q hq)⟩
def rhP (E : rhE) (As : List rhV) (Γ : rhG) (M : rhM) : Array Value → State → Prop := fun v U => v = (As.map (rhv E)).toArray ∧ rhH E Γ M U.heap ∧ va_K E.2.1 vwCl (rhtys E) U ∧ rhS E U U.heap
abbrev rhO : Type := Option rhV × rhG × rhM
def rhQ (E : rhE) (o : rhO) : Array Value → State → Outcome → State → Prop := fun _ st oc t => oc = .returned (o.1.map (rhv E)) ∧ rhH E o.2.1 o.2.2 t.heap ∧ va_F (rhad E) st t
def rhrm (d : Nat) (Γ0 Γ1 : rhG) : Room := { frames := d, cells := Γ1.1 - Γ0.1, slots := Γ1.2.1 - Γ0.2.1, locals := 40 * d }
/-- the contract of a method: the outcome o from the memory M, to the letter -/
def rhC (E : rhE) (d : Nat) (y : MethodName) (cc : ByteArray) (nL : Nat) (rt : Option FieldType) (As : List rhV) (Γ : rhG) (M : rhM) (o : rhO) : Prop :=
  Γ.1 ≤ o.2.1.1 ∧ Γ.2.1 ≤ o.2.1.2.1 ∧ ∀ l : Launch, Met l y (Cond.code y cc nL rt :: rhTs) (rhrm d Γ o.2.1) (rhP E As Γ M) (rhQ E o) (o.2.1.1 - Γ.1) (o.2.1.2.1 - Γ.2.1) (rhad E)
def rhX (E : rhE) (nL : Nat) (y : MethodName) (cc : ByteArray) (rt : Option FieldType) (p : Program) (s : State) (m : MethodId) (args : Array Value) (meth : Method) (c : Code) : Prop :=
  p.tables.exec = Jvm.exec ∧ c.code = cc ∧ meth.sig.returnType = rt ∧ c.maxLocals = nL ∧ meth.locks = false ∧ meth.name = y.name ∧ s.vm.findClass y.cls = some m.cls ∧ (∀ w ∈ rhTs, w.before args s = true) ∧ va_K E.2.1 vwCl (rhtys E) s ∧ rhS E s s.heap
def rhW (E : rhE) (d nL : Nat) (y : MethodName) (cc : ByteArray) (rt : Option FieldType) (Γ0 : rhG) (o : rhO) (pc : Nat) (L : List (Nat × rhV)) (S : List rhV) (Γ : rhG) (M : rhM) : Prop :=
  Γ.1 ≤ o.2.1.1 ∧ Γ.2.1 ≤ o.2.1.2.1 ∧ ∀ (p : Program) (l : Launch) (e : Env) (s : State) (m : MethodId) (args : Array Value) (below : List Frame) (meth : Method) (c : Code), rhX E nL y cc rt p s m args meth c → Γ0.1 ≤ Γ.1 → Γ0.2.1 ≤ Γ.2.1 →
    ∀ (H : Heap) (locs : List Loc) (ls : Array Slot), rhH E Γ M H → va_S (rhad E) s.heap H locs → lv_has ls nL (rhL E L) → s.heap.size = E.1 + Γ0.1 →
      W p l e (rhrm d Γ0 o.2.1) s m args below meth c H locs (Γ.1 - Γ0.1) (Γ.2.1 - Γ0.2.1) (MQ below (rhQ E o) args s (o.2.1.1 - Γ0.1) (o.2.1.2.1 - Γ0.2.1) (rhad E)) (F0 m pc ls (S.map (rhv E)))
/-- what the function x of the body says, the machine does -/
def rhF (E : rhE) (d nL : Nat) (y : MethodName) (cc : ByteArray) (rt : Option FieldType) (Γ0 : rhG) {α : Type} (emb : α → rhO) (x : Option α) (pc : Nat) (L : List (Nat × rhV)) (S : List rhV) (Γ : rhG) (M : rhM) : Prop :=
  ∀ a, x = some a → rhW E d nL y cc rt Γ0 (emb a) pc L S Γ M
section RHR
variable {E : rhE} {d nL : Nat} {y : MethodName} {cc : ByteArray} {rt : Option FieldType} {Γ0 : rhG} {α : Type} {emb : α → rhO} {x x1 x2 : Option α} {pc : Nat} {L L' : List (Nat × rhV)} {S S' : List rhV} {Γ : rhG} {M : rhM}
theorem rhF.nope : rhF E d nL y cc rt Γ0 emb (Option.none : Option α) pc L S Γ M := fun _ h => by cases h
/-- one step that changes neither memory nor locals -/
theorem rhF.step {pc' : Nat} (h : ∀ (p : Program) (l : Launch) (e : Env) (R : Room) (s : State) (m : MethodId) (args : Array Value) (below : List Frame) (meth : Method) (c : Code) (H : Heap) (locs : List Loc) (cells slots : Nat) (Q : State → Prop) (ls : Array Slot), rhX E nL y cc rt p s m args meth c → lv_has ls nL (rhL E L) →
      W p l e R s m args below meth c H locs cells slots Q (F0 m pc' ls (S'.map (rhv E))) → W p l e R s m args below meth c H locs cells slots Q (F0 m pc ls (S.map (rhv E))))
    (k : rhF E d nL y cc rt Γ0 emb x pc' L S' Γ M) : rhF E d nL y cc rt Γ0 emb x pc L S Γ M := by
  intro a ha
  obtain ⟨h1, h2, k⟩ := k a ha
  exact ⟨h1, h2, fun p l e s m args below meth c hX g1 g2 H locs ls hH hS hl hA => h p l e _ s m args below meth c H locs _ _ _ ls hX hl (k p l e s m args below meth c hX g1 g2 H locs ls hH hS hl hA)⟩
/-- one step that stores a local -/
theorem rhF.stepL {pc' : Nat} (h : ∀ (p : Program) (l : Launch) (e : Env) (R : Room) (s : State) (m : MethodId) (args : Array Value) (below : List Frame) (meth : Method) (c : Code) (H : Heap) (locs : List Loc) (cells slots : Nat) (Q : State → Prop) (ls : Array Slot), rhX E nL y cc rt p s m args meth c → lv_has ls nL (rhL E L) →
      (∀ ls' : Array Slot, lv_has ls' nL (rhL E L') → W p l e R s m args below meth c H locs cells slots Q (F0 m pc' ls' (S'.map (rhv E)))) → W p l e R s m args below meth c H locs cells slots Q (F0 m pc ls (S.map (rhv E))))
    (k : rhF E d nL y cc rt Γ0 emb x pc' L' S' Γ M) : rhF E d nL y cc rt Γ0 emb x pc L S Γ M := by
  intro a ha
  obtain ⟨h1, h2, k⟩ := k a ha
  exact ⟨h1, h2, fun p l e s m args below meth c hX g1 g2 H locs ls hH hS hl hA => h p l e _ s m args below meth c H locs _ _ _ ls hX hl (fun ls' hl' => k p l e s m args below meth c hX g1 g2 H locs ls' hH hS hl' hA)⟩
/-- fewer locals, in any order -/
theorem rhF.sub (ks : List Nat) (hk : ks.filterMap (fun k => L[k]?) = L') (k : rhF E d nL y cc rt Γ0 emb x pc L' S Γ M) : rhF E d nL y cc rt Γ0 emb x pc L S Γ M := by
  intro a ha
  obtain ⟨h1, h2, k⟩ := k a ha
  refine ⟨h1, h2, fun p l e s m args below meth c hX g1 g2 H locs ls hH hS hl hA => k p l e s m args below meth c hX g1 g2 H locs ls hH hS ?_ hA⟩
  refine lv_sub hl ks ?_
  subst hk
  simp only [lv_pick, rhL, List.map_filterMap, List.getElem?_map]
theorem rhat {ls : Array Slot} (hl : lv_has ls nL (rhL E L)) {k i : Nat} {v : rhV} (hk : L[k]? = some (i, v)) : ls[i]? = some (.val (rhv E v)) := by
  refine lv_at hl k ?_
  rw [rhL, List.getElem?_map, hk]
  rfl
theorem rhF.ite {c : Prop} [Decidable c] (kt : c → rhF E d nL y cc rt Γ0 emb x1 pc L S Γ M) (kf : ¬ c → rhF E d nL y cc rt Γ0 emb x2 pc L S Γ M) : rhF E d nL y cc rt Γ0 emb (if c then x1 else x2) pc L S Γ M := by
  by_cases h : c
  · rw [if_pos h]; exact kt h
  · rw [if_neg h]; exact kf h
theorem rhF.iconst {n : Int} {v : Int32} (hd : decode cc pc = .ok (.iconst n, 1)) (hv : Int32.ofInt n = v) (k : rhF E d nL y cc rt Γ0 emb x (pc + 1) L (rhI v :: S) Γ M) : rhF E d nL y cc rt Γ0 emb x pc L (S) Γ M :=
  rhF.step (fun p l e R s m args below meth c H locs cells slots Q ls hX hl kk => lv_iconst hX.1 hX.2.1 hd hv kk) k
theorem rhF.bipush {n : Int} {v : Int32} (hd : decode cc pc = .ok (.bipush n, 2)) (hv : (Int8.ofInt n).toInt32 = v) (k : rhF E d nL y cc rt Γ0 emb x (pc + 2) L (rhI v :: S) Γ M) : rhF E d nL y cc rt Γ0 emb x pc L (S) Γ M :=
  rhF.step (fun p l e R s m args below meth c H locs cells slots Q ls hX hl kk => lv_bipush hX.1 hX.2.1 hd hv kk) k
theorem rhF.sipush {n : Int} {v : Int32} (hd : decode cc pc = .ok (.sipush n, 3)) (hv : (Int16.ofInt n).toInt32 = v) (k : rhF E d nL y cc rt Γ0 emb x (pc + 3) L (rhI v :: S) Γ M) : rhF E d nL y cc rt Γ0 emb x pc L (S) Γ M :=
  rhF.step (fun p l e R s m args below meth c H locs cells slots Q ls hX hl kk => lv_sipush hX.1 hX.2.1 hd hv kk) k
theorem rhF.lconst {n : Fin 2} {v : Int64} (hd : decode cc pc = .ok (.lconst n, 1)) (hv : Int64.ofNat (n : Nat) = v) (k : rhF E d nL y cc rt Γ0 emb x (pc + 1) L (rhJ v :: S) Γ M) : rhF E d nL y cc rt Γ0 emb x pc L (S) Γ M :=
  rhF.step (fun p l e R s m args below meth c H locs cells slots Q ls hX hl kk => lv_lconst hX.1 hX.2.1 hd hv kk) k
theorem rhF.ldc {i : Nat} {v : Int32} (hd : decode cc pc = .ok (.ldc i, 2)) (hc : Cond.constant y.cls i v ∈ rhTs) (k : rhF E d nL y cc rt Γ0 emb x (pc + 2) L (rhI v :: S) Γ M) : rhF E d nL y cc rt Γ0 emb x pc L (S) Γ M :=
  rhF.step (fun p l e R s m args below meth c H locs cells slots Q ls hX hl kk => lv_ldc hX.1 hX.2.1 hX.2.2.2.2.2.2.1 (hX.2.2.2.2.2.2.2.1 _ hc) hd kk) k
theorem rhF.ldcw {i : Nat} {v : Int32} (hd : decode cc pc = .ok (.ldc_w i, 3)) (hc : Cond.constant y.cls i v ∈ rhTs) (k : rhF E d nL y cc rt Γ0 emb x (pc + 3) L (rhI v :: S) Γ M) : rhF E d nL y cc rt Γ0 emb x pc L (S) Γ M :=
  rhF.step (fun p l e R s m args below meth c H locs cells slots Q ls hX hl kk => lv_ldcw hX.1 hX.2.1 hX.2.2.2.2.2.2.1 (hX.2.2.2.2.2.2.2.1 _ hc) hd kk) k
theorem rhF.ldc2 {i : Nat} {v : Int64} (hd : decode cc pc = .ok (.ldc2_w i, 3)) (hc : Cond.constantLong y.cls i v ∈ rhTs) (k : rhF E d nL y cc rt Γ0 emb x (pc + 3) L (rhJ v :: S) Γ M) : rhF E d nL y cc rt Γ0 emb x pc L (S) Γ M :=
  rhF.step (fun p l e R s m args below meth c H locs cells slots Q ls hX hl kk => lv_ldc2 hX.1 hX.2.1 hX.2.2.2.2.2.2.1 (hX.2.2.2.2.2.2.2.1 _ hc) hd kk) k
theorem rhF.iload {i : Nat} {v : Int32} (hd : decode cc pc = .ok (.iload i, 2)) (g : Nat) (hk : L[g]? = some (i, rhI v)) (k : rhF E d nL y cc rt Γ0 emb x (pc + 2) L (rhI v :: S) Γ M) : rhF E d nL y cc rt Γ0 emb x pc L (S) Γ M :=
  rhF.step (fun p l e R s m args below meth c H locs cells slots Q ls hX hl kk => lv_iload hX.1 hX.2.1 hd (rhat hl hk) kk) k
theorem rhF.iload_n {n : Fin 4} {v : Int32} (hd : decode cc pc = .ok (.iload_n n, 1)) (g : Nat) (hk : L[g]? = some (n.val, rhI v)) (k : rhF E d nL y cc rt Γ0 emb x (pc + 1) L (rhI v :: S) Γ M) : rhF E d nL y cc rt Γ0 emb x pc L (S) Γ M :=
  rhF.step (fun p l e R s m args below meth c H locs cells slots Q ls hX hl kk => lv_iload_n hX.1 hX.2.1 hd rfl (rhat hl hk) kk) k
theorem rhF.lload {i : Nat} {v : Int64} (hd : decode cc pc = .ok (.lload i, 2)) (g : Nat) (hk : L[g]? = some (i, rhJ v)) (k : rhF E d nL y cc rt Γ0 emb x (pc + 2) L (rhJ v :: S) Γ M) : rhF E d nL y cc rt Γ0 emb x pc L (S) Γ M :=
  rhF.step (fun p l e R s m args below meth c H locs cells slots Q ls hX hl kk => lv_lload hX.1 hX.2.1 hd (rhat hl hk) kk) k
theorem rhF.lload_n {n : Fin 4} {v : Int64} (hd : decode cc pc = .ok (.lload_n n, 1)) (g : Nat) (hk : L[g]? = some (n.val, rhJ v)) (k : rhF E d nL y cc rt Γ0 emb x (pc + 1) L (rhJ v :: S) Γ M) : rhF E d nL y cc rt Γ0 emb x pc L (S) Γ M :=
  rhF.step (fun p l e R s m args below meth c H locs cells slots Q ls hX hl kk => lv_lload_n hX.1 hX.2.1 hd rfl (rhat hl hk) kk) k
theorem rhF.aload {i : Nat} {r : Nat} (hd : decode cc pc = .ok (.aload i, 2)) (g : Nat) (hk : L[g]? = some (i, rhR r)) (k : rhF E d nL y cc rt Γ0 emb x (pc + 2) L (rhR r :: S) Γ M) : rhF E d nL y cc rt Γ0 emb x pc L S Γ M := by
  refine rhF.step (fun p l e R s m args below meth c H locs cells slots Q ls hX hl kk => ?_) k
  have h1 := rhat hl hk
  simp only [List.map_cons, rhv] at kk h1 ⊢
  cases hr : rhro E r with
  | none => rw [hr] at kk h1; exact lv_aloadN hX.1 hX.2.1 hd h1 kk
  | some q => rw [hr] at kk h1; exact lv_aload hX.1 hX.2.1 hd h1 kk
theorem rhF.aload_n {n : Fin 4} {r : Nat} (hd : decode cc pc = .ok (.aload_n n, 1)) (g : Nat) (hk : L[g]? = some (n.val, rhR r)) (k : rhF E d nL y cc rt Γ0 emb x (pc + 1) L (rhR r :: S) Γ M) : rhF E d nL y cc rt Γ0 emb x pc L S Γ M := by
  refine rhF.step (fun p l e R s m args below meth c H locs cells slots Q ls hX hl kk => ?_) k
  have h1 := rhat hl hk
  simp only [List.map_cons, rhv] at kk h1 ⊢
  cases hr : rhro E r with
  | none => rw [hr] at kk h1; exact lv_aload_nN hX.1 hX.2.1 hd rfl h1 kk
  | some q => rw [hr] at kk h1; exact lv_aload_n hX.1 hX.2.1 hd rfl h1 kk
theorem rhL_f1 {E : rhE} {L L' : List (Nat × rhV)} {i : Nat} {v : rhV} (h : (i, v) :: L.filter (fun q => !(q.1 == i) && !(q.1 + 1 == i && rhcat q.2 == 2)) = L') : (i, rhv E v) :: (rhL E L).filter (fun q => !(q.1 == i) && !(q.1 + 1 == i && q.2.category == 2)) = rhL E L' := by
  subst h
  simp only [rhL, List.map_cons, List.filter_map]
  congr 2
  refine List.filter_congr fun q _ => ?_
  simp only [Function.comp, rhv_cat]
theorem rhL_f2 {E : rhE} {L L' : List (Nat × rhV)} {i : Nat} {v : rhV} (h : (i, v) :: L.filter (fun q => !(q.1 == i) && (!(q.1 == i + 1) && !(q.1 + 1 == i && rhcat q.2 == 2))) = L') : (i, rhv E v) :: (rhL E L).filter (fun q => !(q.1 == i) && (!(q.1 == i + 1) && !(q.1 + 1 == i && q.2.category == 2))) = rhL E L' := by
  subst h
  simp only [rhL, List.map_cons, List.filter_map]
  congr 2
  refine List.filter_congr fun q _ => ?_
  simp only [Function.comp, rhv_cat]
theorem rhF.istore {i : Nat} {v : Int32} (hd : decode cc pc = .ok (.istore i, 2)) (hn : i < nL) (hL : (i, rhI v) :: L.filter (fun q => !(q.1 == i) && !(q.1 + 1 == i && rhcat q.2 == 2)) = L') (k : rhF E d nL y cc rt Γ0 emb x (pc + 2) L' S Γ M) : rhF E d nL y cc rt Γ0 emb x pc L (rhI v :: S) Γ M := by
  refine rhF.stepL (fun p l e R s m args below meth c H locs cells slots Q ls hX hl kk => ?_) k
  exact lv_istore hX.1 hX.2.1 hd hl hn (rhL_f1 (v := rhI v) hL) kk
theorem rhF.istore_n {n : Fin 4} {v : Int32} (hd : decode cc pc = .ok (.istore_n n, 1)) (hn : n.val < nL) (hL : (n.val, rhI v) :: L.filter (fun q => !(q.1 == n.val) && !(q.1 + 1 == n.val && rhcat q.2 == 2)) = L') (k : rhF E d nL y cc rt Γ0 emb x (pc + 1) L' S Γ M) : rhF E d nL y cc rt Γ0 emb x pc L (rhI v :: S) Γ M := by
  refine rhF.stepL (fun p l e R s m args below meth c H locs cells slots Q ls hX hl kk => ?_) k
  exact lv_istore_n hX.1 hX.2.1 hd rfl hl hn (rhL_f1 (v := rhI v) hL) kk
theorem rhF.lstore {i : Nat} {v : Int64} (hd : decode cc pc = .ok (.lstore i, 2)) (hn : i + 1 < nL) (hL : (i, rhJ v) :: L.filter (fun q => !(q.1 == i) && (!(q.1 == i + 1) && !(q.1 + 1 == i && rhcat q.2 == 2))) = L') (k : rhF E d nL y cc rt Γ0 emb x (pc + 2) L' S Γ M) : rhF E d nL y cc rt Γ0 emb x pc L (rhJ v :: S) Γ M := by
  refine rhF.stepL (fun p l e R s m args below meth c H locs cells slots Q ls hX hl kk => ?_) k
  exact lv_lstore hX.1 hX.2.1 hd hl hn (rhL_f2 (v := rhJ v) hL) kk
theorem rhF.lstore_n {n : Fin 4} {v : Int64} (hd : decode cc pc = .ok (.lstore_n n, 1)) (hn : n.val + 1 < nL) (hL : (n.val, rhJ v) :: L.filter (fun q => !(q.1 == n.val) && (!(q.1 == n.val + 1) && !(q.1 + 1 == n.val && rhcat q.2 == 2))) = L') (k : rhF E d nL y cc rt Γ0 emb x (pc + 1) L' S Γ M) : rhF E d nL y cc rt Γ0 emb x pc L (rhJ v :: S) Γ M := by
  refine rhF.stepL (fun p l e R s m args below meth c H locs cells slots Q ls hX hl kk => ?_) k
  exact lv_lstore_n hX.1 hX.2.1 hd rfl hl hn (rhL_f2 (v := rhJ v) hL) kk
theorem rhF.astore {i : Nat} {r : Nat} (hd : decode cc pc = .ok (.astore i, 2)) (hn : i < nL) (hL : (i, rhR r) :: L.filter (fun q => !(q.1 == i) && !(q.1 + 1 == i && rhcat q.2 == 2)) = L') (k : rhF E d nL y cc rt Γ0 emb x (pc + 2) L' S Γ M) : rhF E d nL y cc rt Γ0 emb x pc L (rhR r :: S) Γ M := by
  refine rhF.stepL (fun p l e R s m args below meth c H locs cells slots Q ls hX hl kk => ?_) k
  have h1 := rhL_f1 (E := E) (v := rhR r) hL
  simp only [List.map_cons, rhv] at kk h1 ⊢
  cases hr : rhro E r with
  | none => rw [hr] at h1; exact lv_astoreN hX.1 hX.2.1 hd hl hn h1 kk
  | some q => rw [hr] at h1; exact lv_astore hX.1 hX.2.1 hd hl hn h1 kk
theorem rhF.astore_n {n : Fin 4} {r : Nat} (hd : decode cc pc = .ok (.astore_n n, 1)) (hn : n.val < nL) (hL : (n.val, rhR r) :: L.filter (fun q => !(q.1 == n.val) && !(q.1 + 1 == n.val && rhcat q.2 == 2)) = L') (k : rhF E d nL y cc rt Γ0 emb x (pc + 1) L' S Γ M) : rhF E d nL y cc rt Γ0 emb x pc L (rhR r :: S) Γ M := by
  refine rhF.stepL (fun p l e R s m args below meth c H locs cells slots Q ls hX hl kk => ?_) k
  have h1 := rhL_f1 (E := E) (v := rhR r) hL
  simp only [List.map_cons, rhv] at kk h1 ⊢
  cases hr : rhro E r with
  | none => rw [hr] at h1; exact lv_astore_nN hX.1 hX.2.1 hd rfl hl hn h1 kk
  | some q => rw [hr] at h1; exact lv_astore_n hX.1 hX.2.1 hd rfl hl hn h1 kk
theorem rhF.iinc {i : Nat} {n : Int} {v w : Int32} (hd : decode cc pc = .ok (.iinc i n, 3)) (g : Nat) (hk : L[g]? = some (i, rhI v)) (hv : v + Int32.ofInt n = w) (hn : i < nL) (hL : (i, rhI w) :: L.filter (fun q => !(q.1 == i) && !(q.1 + 1 == i && rhcat q.2 == 2)) = L') (k : rhF E d nL y cc rt Γ0 emb x (pc + 3) L' S Γ M) : rhF E d nL y cc rt Γ0 emb x pc L S Γ M := by
  refine rhF.stepL (fun p l e R s m args below meth c H locs cells slots Q ls hX hl kk => ?_) k
  exact lv_iinc (k := g) hX.1 hX.2.1 hd hl (by rw [rhL, List.getElem?_map, hk]; rfl) hv hn (rhL_f1 (v := rhI w) hL) kk
theorem rhF.pop {v : Int32} (hd : decode cc pc = .ok (.pop, 1))  (k : rhF E d nL y cc rt Γ0 emb x (pc + 1) L (S) Γ M) : rhF E d nL y cc rt Γ0 emb x pc L (rhI v :: S) Γ M :=
  rhF.step (fun p l e R s m args below meth c H locs cells slots Q ls hX hl kk => lv_pop hX.1 hX.2.1 hd rfl kk) k
theorem rhF.dupi {v : Int32} (hd : decode cc pc = .ok (.dup, 1))  (k : rhF E d nL y cc rt Γ0 emb x (pc + 1) L (rhI v :: rhI v :: S) Γ M) : rhF E d nL y cc rt Γ0 emb x pc L (rhI v :: S) Γ M :=
  rhF.step (fun p l e R s m args below meth c H locs cells slots Q ls hX hl kk => lv_dup hX.1 hX.2.1 hd rfl kk) k
theorem rhF.dupr {v : Nat} (hd : decode cc pc = .ok (.dup, 1))  (k : rhF E d nL y cc rt Γ0 emb x (pc + 1) L (rhR v :: rhR v :: S) Γ M) : rhF E d nL y cc rt Γ0 emb x pc L (rhR v :: S) Γ M :=
  rhF.step (fun p l e R s m args below meth c H locs cells slots Q ls hX hl kk => lv_dup hX.1 hX.2.1 hd (rhv_cat E (rhR v)) kk) k
theorem rhF.dup2ri {v : Int32} {w : Nat} (hd : decode cc pc = .ok (.dup2, 1))  (k : rhF E d nL y cc rt Γ0 emb x (pc + 1) L (rhI v :: rhR w :: rhI v :: rhR w :: S) Γ M) : rhF E d nL y cc rt Γ0 emb x pc L (rhI v :: rhR w :: S) Γ M :=
  rhF.step (fun p l e R s m args below meth c H locs cells slots Q ls hX hl kk => lv_dup2_11 hX.1 hX.2.1 hd rfl (rhv_cat E (rhR w)) kk) k
theorem rhF.iadd {v w : Int32} (hd : decode cc pc = .ok (.iadd, 1))  (k : rhF E d nL y cc rt Γ0 emb x (pc + 1) L (rhI (v + w) :: S) Γ M) : rhF E d nL y cc rt Γ0 emb x pc L (rhI w :: rhI v :: S) Γ M :=
  rhF.step (fun p l e R s m args below meth c H locs cells slots Q ls hX hl kk => lv_iadd hX.1 hX.2.1 hd kk) k
theorem rhF.isub {v w : Int32} (hd : decode cc pc = .ok (.isub, 1))  (k : rhF E d nL y cc rt Γ0 emb x (pc + 1) L (rhI (v - w) :: S) Γ M) : rhF E d nL y cc rt Γ0 emb x pc L (rhI w :: rhI v :: S) Γ M :=
  rhF.step (fun p l e R s m args below meth c H locs cells slots Q ls hX hl kk => lv_isub hX.1 hX.2.1 hd kk) k
theorem rhF.imul {v w : Int32} (hd : decode cc pc = .ok (.imul, 1))  (k : rhF E d nL y cc rt Γ0 emb x (pc + 1) L (rhI (v * w) :: S) Γ M) : rhF E d nL y cc rt Γ0 emb x pc L (rhI w :: rhI v :: S) Γ M :=
  rhF.step (fun p l e R s m args below meth c H locs cells slots Q ls hX hl kk => lv_imul hX.1 hX.2.1 hd kk) k
theorem rhF.iand {v w : Int32} (hd : decode cc pc = .ok (.iand, 1))  (k : rhF E d nL y cc rt Γ0 emb x (pc + 1) L (rhI (v &&& w) :: S) Γ M) : rhF E d nL y cc rt Γ0 emb x pc L (rhI w :: rhI v :: S) Γ M :=
  rhF.step (fun p l e R s m args below meth c H locs cells slots Q ls hX hl kk => lv_iand hX.1 hX.2.1 hd kk) k
theorem rhF.ior {v w : Int32} (hd : decode cc pc = .ok (.ior, 1))  (k : rhF E d nL y cc rt Γ0 emb x (pc + 1) L (rhI (v ||| w) :: S) Γ M) : rhF E d nL y cc rt Γ0 emb x pc L (rhI w :: rhI v :: S) Γ M :=
  rhF.step (fun p l e R s m args below meth c H locs cells slots Q ls hX hl kk => lv_ior hX.1 hX.2.1 hd kk) k
theorem rhF.ishl {v w : Int32} (hd : decode cc pc = .ok (.ishl, 1))  (k : rhF E d nL y cc rt Γ0 emb x (pc + 1) L (rhI (v <<< (w &&& 31)) :: S) Γ M) : rhF E d nL y cc rt Γ0 emb x pc L (rhI w :: rhI v :: S) Γ M :=
  rhF.step (fun p l e R s m args below meth c H locs cells slots Q ls hX hl kk => lv_ishl hX.1 hX.2.1 hd kk) k
theorem rhF.ishr {v w : Int32} (hd : decode cc pc = .ok (.ishr, 1))  (k : rhF E d nL y cc rt Γ0 emb x (pc + 1) L (rhI (v >>> (w &&& 31)) :: S) Γ M) : rhF E d nL y cc rt Γ0 emb x pc L (rhI w :: rhI v :: S) Γ M :=
  rhF.step (fun p l e R s m args below meth c H locs cells slots Q ls hX hl kk => lv_ishr hX.1 hX.2.1 hd kk) k
def rhus (v w : Int32) : Int32 := (v.toUInt32 >>> (w.toUInt32 &&& Int32.toUInt32 31)).toInt32
def rhul (v : Int64) (w : Int32) : Int64 := (v.toUInt64 >>> (w.toInt64.toUInt64 &&& Int64.toUInt64 63)).toInt64
def rhsh (v : Int64) (w : Int32) : Int64 := v <<< (w.toInt64 &&& 63)
theorem rhF.iushr {v w : Int32} (hd : decode cc pc = .ok (.iushr, 1))  (k : rhF E d nL y cc rt Γ0 emb x (pc + 1) L (rhI (rhus v w) :: S) Γ M) : rhF E d nL y cc rt Γ0 emb x pc L (rhI w :: rhI v :: S) Γ M :=
  rhF.step (fun p l e R s m args below meth c H locs cells slots Q ls hX hl kk => lv_iushr hX.1 hX.2.1 hd rfl kk) k
theorem rhF.lushr {v : Int64} {w : Int32} (hd : decode cc pc = .ok (.lushr, 1))  (k : rhF E d nL y cc rt Γ0 emb x (pc + 1) L (rhJ (rhul v w) :: S) Γ M) : rhF E d nL y cc rt Γ0 emb x pc L (rhI w :: rhJ v :: S) Γ M :=
  rhF.step (fun p l e R s m args below meth c H locs cells slots Q ls hX hl kk => lv_lushr hX.1 hX.2.1 hd rfl kk) k
theorem rhF.lshl {v : Int64} {w : Int32} (hd : decode cc pc = .ok (.lshl, 1))  (k : rhF E d nL y cc rt Γ0 emb x (pc + 1) L (rhJ (rhsh v w) :: S) Γ M) : rhF E d nL y cc rt Γ0 emb x pc L (rhI w :: rhJ v :: S) Γ M :=
  rhF.step (fun p l e R s m args below meth c H locs cells slots Q ls hX hl kk => lv_lshl hX.1 hX.2.1 hd rfl kk) k
theorem rhF.lsub {v w : Int64} (hd : decode cc pc = .ok (.lsub, 1))  (k : rhF E d nL y cc rt Γ0 emb x (pc + 1) L (rhJ (v - w) :: S) Γ M) : rhF E d nL y cc rt Γ0 emb x pc L (rhJ w :: rhJ v :: S) Γ M :=
  rhF.step (fun p l e R s m args below meth c H locs cells slots Q ls hX hl kk => lv_lsub hX.1 hX.2.1 hd kk) k
theorem rhF.lmul {v w : Int64} (hd : decode cc pc = .ok (.lmul, 1))  (k : rhF E d nL y cc rt Γ0 emb x (pc + 1) L (rhJ (v * w) :: S) Γ M) : rhF E d nL y cc rt Γ0 emb x pc L (rhJ w :: rhJ v :: S) Γ M :=
  rhF.step (fun p l e R s m args below meth c H locs cells slots Q ls hX hl kk => lv_lmul hX.1 hX.2.1 hd kk) k
theorem rhF.ladd {v w : Int64} (hd : decode cc pc = .ok (.ladd, 1))  (k : rhF E d nL y cc rt Γ0 emb x (pc + 1) L (rhJ (v + w) :: S) Γ M) : rhF E d nL y cc rt Γ0 emb x pc L (rhJ w :: rhJ v :: S) Γ M :=
  rhF.step (fun p l e R s m args below meth c H locs cells slots Q ls hX hl kk => lv_ladd hX.1 hX.2.1 hd kk) k
theorem rhF.land {v w : Int64} (hd : decode cc pc = .ok (.land, 1))  (k : rhF E d nL y cc rt Γ0 emb x (pc + 1) L (rhJ (v &&& w) :: S) Γ M) : rhF E d nL y cc rt Γ0 emb x pc L (rhJ w :: rhJ v :: S) Γ M :=
  rhF.step (fun p l e R s m args below meth c H locs cells slots Q ls hX hl kk => lv_land hX.1 hX.2.1 hd kk) k
theorem rhF.lor {v w : Int64} (hd : decode cc pc = .ok (.lor, 1))  (k : rhF E d nL y cc rt Γ0 emb x (pc + 1) L (rhJ (v ||| w) :: S) Γ M) : rhF E d nL y cc rt Γ0 emb x pc L (rhJ w :: rhJ v :: S) Γ M :=
  rhF.step (fun p l e R s m args below meth c H locs cells slots Q ls hX hl kk => lv_lor hX.1 hX.2.1 hd kk) k
theorem rhF.lxor {v w : Int64} (hd : decode cc pc = .ok (.lxor, 1))  (k : rhF E d nL y cc rt Γ0 emb x (pc + 1) L (rhJ (v ^^^ w) :: S) Γ M) : rhF E d nL y cc rt Γ0 emb x pc L (rhJ w :: rhJ v :: S) Γ M :=
  rhF.step (fun p l e R s m args below meth c H locs cells slots Q ls hX hl kk => lv_lxor hX.1 hX.2.1 hd kk) k
theorem rhF.ineg {v : Int32} (hd : decode cc pc = .ok (.ineg, 1))  (k : rhF E d nL y cc rt Γ0 emb x (pc + 1) L (rhI (-v) :: S) Γ M) : rhF E d nL y cc rt Γ0 emb x pc L (rhI v :: S) Γ M :=
  rhF.step (fun p l e R s m args below meth c H locs cells slots Q ls hX hl kk => lv_ineg hX.1 hX.2.1 hd kk) k
theorem rhF.i2l {v : Int32} (hd : decode cc pc = .ok (.i2l, 1))  (k : rhF E d nL y cc rt Γ0 emb x (pc + 1) L (rhJ v.toInt64 :: S) Γ M) : rhF E d nL y cc rt Γ0 emb x pc L (rhI v :: S) Γ M :=
  rhF.step (fun p l e R s m args below meth c H locs cells slots Q ls hX hl kk => lv_i2l hX.1 hX.2.1 hd rfl kk) k
theorem rhF.l2i {v : Int64} (hd : decode cc pc = .ok (.l2i, 1))  (k : rhF E d nL y cc rt Γ0 emb x (pc + 1) L (rhI v.toInt32 :: S) Γ M) : rhF E d nL y cc rt Γ0 emb x pc L (rhJ v :: S) Γ M :=
  rhF.step (fun p l e R s m args below meth c H locs cells slots Q ls hX hl kk => lv_l2i hX.1 hX.2.1 hd rfl kk) k
theorem rhF.i2b {v : Int32} (hd : decode cc pc = .ok (.i2b, 1))  (k : rhF E d nL y cc rt Γ0 emb x (pc + 1) L (rhI v.toInt8.toInt32 :: S) Γ M) : rhF E d nL y cc rt Γ0 emb x pc L (rhI v :: S) Γ M :=
  rhF.step (fun p l e R s m args below meth c H locs cells slots Q ls hX hl kk => lv_i2b hX.1 hX.2.1 hd rfl kk) k
theorem rhF.lcmp {v w : Int64} (hd : decode cc pc = .ok (.lcmp, 1))  (k : rhF E d nL y cc rt Γ0 emb x (pc + 1) L (rhI (lg_cmp v w) :: S) Γ M) : rhF E d nL y cc rt Γ0 emb x pc L (rhJ w :: rhJ v :: S) Γ M :=
  rhF.step (fun p l e R s m args below meth c H locs cells slots Q ls hX hl kk => W.lcmp hX.1 hX.2.1 hd kk) k
theorem rhF.idiv {v w : Int32} (hd : decode cc pc = .ok (.idiv, 1)) (k : ¬ w = 0 → rhF E d nL y cc rt Γ0 emb x (pc + 1) L (rhI (v / w) :: S) Γ M) : rhF E d nL y cc rt Γ0 emb (if w = 0 then Option.none else x) pc L (rhI w :: rhI v :: S) Γ M := by
  refine rhF.ite (fun _ => rhF.nope) (fun h => ?_)
  exact rhF.step (fun p l e R s m args below meth c H locs cells slots Q ls hX hl kk => lv_idiv hX.1 hX.2.1 hd h kk) (k h)
theorem rhF.idivc {v w : Int32} (hd : decode cc pc = .ok (.idiv, 1)) (h : ¬ w = 0) (k : rhF E d nL y cc rt Γ0 emb x (pc + 1) L (rhI (v / w) :: S) Γ M) : rhF E d nL y cc rt Γ0 emb x pc L (rhI w :: rhI v :: S) Γ M := by
  exact rhF.step (fun p l e R s m args below meth c H locs cells slots Q ls hX hl kk => lv_idiv hX.1 hX.2.1 hd h kk) k
theorem rhF.irem {v w : Int32} (hd : decode cc pc = .ok (.irem, 1)) (k : ¬ w = 0 → rhF E d nL y cc rt Γ0 emb x (pc + 1) L (rhI (v - v / w * w) :: S) Γ M) : rhF E d nL y cc rt Γ0 emb (if w = 0 then Option.none else x) pc L (rhI w :: rhI v :: S) Γ M := by
  refine rhF.ite (fun _ => rhF.nope) (fun h => ?_)
  exact rhF.step (fun p l e R s m args below meth c H locs cells slots Q ls hX hl kk => lv_irem hX.1 hX.2.1 hd h kk) (k h)
theorem rhF.iremc {v w : Int32} (hd : decode cc pc = .ok (.irem, 1)) (h : ¬ w = 0) (k : rhF E d nL y cc rt Γ0 emb x (pc + 1) L (rhI (v - v / w * w) :: S) Γ M) : rhF E d nL y cc rt Γ0 emb x pc L (rhI w :: rhI v :: S) Γ M := by
  exact rhF.step (fun p l e R s m args below meth c H locs cells slots Q ls hX hl kk => lv_irem hX.1 hX.2.1 hd h kk) k
theorem rhF.goto {off : Int} (tgt : Nat) (hd : decode cc pc = .ok (.goto off, 3)) (ht : (pc : Int) + off = (tgt : Int)) (k : rhF E d nL y cc rt Γ0 emb x tgt L S Γ M) : rhF E d nL y cc rt Γ0 emb x pc L S Γ M :=
  rhF.step (fun p l e R s m args below meth c H locs cells slots Q ls hX hl kk => lv_goto hX.1 hX.2.1 hd ht kk) k
theorem rhnlt (a b : Int32) : ¬ a < b ↔ b ≤ a := by
  rw [Int32.lt_iff_toInt_lt, Int32.le_iff_toInt_le]; omega
theorem rhF.if_eq {v : Int32} {off : Int} (tgt : Nat) (hd : decode cc pc = .ok (.ifCond .eq off, 3)) (ht : (pc : Int) + off = (tgt : Int)) (kt : (v = 0) → rhF E d nL y cc rt Γ0 emb x1 tgt L S Γ M) (kf : ¬ (v = 0) → rhF E d nL y cc rt Γ0 emb x2 (pc + 3) L S Γ M) : rhF E d nL y cc rt Γ0 emb (if (v = 0) then x1 else x2) pc L (rhI v :: S) Γ M := by
  by_cases h : (v = 0)
  · rw [if_pos h]; exact rhF.step (fun p l e R s m args below meth c H locs cells slots Q ls hX hl kk => lv_if_eq (tgt := tgt) hX.1 hX.2.1 hd ht (fun _ => kk) (fun q => absurd h q)) (kt h)
  · rw [if_neg h]; exact rhF.step (fun p l e R s m args below meth c H locs cells slots Q ls hX hl kk => lv_if_eq (tgt := tgt) hX.1 hX.2.1 hd ht (fun q => absurd q h) (fun _ => kk)) (kf h)
theorem rhF.if_ne {v : Int32} {off : Int} (tgt : Nat) (hd : decode cc pc = .ok (.ifCond .ne off, 3)) (ht : (pc : Int) + off = (tgt : Int)) (kt : (v = 0) → rhF E d nL y cc rt Γ0 emb x1 (pc + 3) L S Γ M) (kf : ¬ (v = 0) → rhF E d nL y cc rt Γ0 emb x2 tgt L S Γ M) : rhF E d nL y cc rt Γ0 emb (if (v = 0) then x1 else x2) pc L (rhI v :: S) Γ M := by
  by_cases h : (v = 0)
  · rw [if_pos h]; exact rhF.step (fun p l e R s m args below meth c H locs cells slots Q ls hX hl kk => lv_if_ne (tgt := tgt) hX.1 hX.2.1 hd ht (fun q => absurd h q) (fun _ => kk)) (kt h)
  · rw [if_neg h]; exact rhF.step (fun p l e R s m args below meth c H locs cells slots Q ls hX hl kk => lv_if_ne (tgt := tgt) hX.1 hX.2.1 hd ht (fun _ => kk) (fun q => absurd q h)) (kf h)
theorem rhF.if_lt {v : Int32} {off : Int} (tgt : Nat) (hd : decode cc pc = .ok (.ifCond .lt off, 3)) (ht : (pc : Int) + off = (tgt : Int)) (kt : (v < 0) → rhF E d nL y cc rt Γ0 emb x1 tgt L S Γ M) (kf : ¬ (v < 0) → rhF E d nL y cc rt Γ0 emb x2 (pc + 3) L S Γ M) : rhF E d nL y cc rt Γ0 emb (if (v < 0) then x1 else x2) pc L (rhI v :: S) Γ M := by
  by_cases h : (v < 0)
  · rw [if_pos h]; exact rhF.step (fun p l e R s m args below meth c H locs cells slots Q ls hX hl kk => lv_if_lt (tgt := tgt) hX.1 hX.2.1 hd ht (fun _ => kk) (fun q => absurd h q)) (kt h)
  · rw [if_neg h]; exact rhF.step (fun p l e R s m args below meth c H locs cells slots Q ls hX hl kk => lv_if_lt (tgt := tgt) hX.1 hX.2.1 hd ht (fun q => absurd q h) (fun _ => kk)) (kf h)
theorem rhF.if_ge {v : Int32} {off : Int} (tgt : Nat) (hd : decode cc pc = .ok (.ifCond .ge off, 3)) (ht : (pc : Int) + off = (tgt : Int)) (kt : (v < 0) → rhF E d nL y cc rt Γ0 emb x1 (pc + 3) L S Γ M) (kf : ¬ (v < 0) → rhF E d nL y cc rt Γ0 emb x2 tgt L S Γ M) : rhF E d nL y cc rt Γ0 emb (if (v < 0) then x1 else x2) pc L (rhI v :: S) Γ M := by
  by_cases h : (v < 0)
  · rw [if_pos h]; exact rhF.step (fun p l e R s m args below meth c H locs cells slots Q ls hX hl kk => lv_if_ge (tgt := tgt) hX.1 hX.2.1 hd ht (fun q => absurd h ((rhnlt _ _).mpr q)) (fun _ => kk)) (kt h)
  · rw [if_neg h]; exact rhF.step (fun p l e R s m args below meth c H locs cells slots Q ls hX hl kk => lv_if_ge (tgt := tgt) hX.1 hX.2.1 hd ht (fun _ => kk) (fun q => absurd q (fun z => z ((rhnlt _ _).mp h)))) (kf h)
theorem rhF.if_gt {v : Int32} {off : Int} (tgt : Nat) (hd : decode cc pc = .ok (.ifCond .gt off, 3)) (ht : (pc : Int) + off = (tgt : Int)) (kt : (0 < v) → rhF E d nL y cc rt Γ0 emb x1 tgt L S Γ M) (kf : ¬ (0 < v) → rhF E d nL y cc rt Γ0 emb x2 (pc + 3) L S Γ M) : rhF E d nL y cc rt Γ0 emb (if (0 < v) then x1 else x2) pc L (rhI v :: S) Γ M := by
  by_cases h : (0 < v)
  · rw [if_pos h]; exact rhF.step (fun p l e R s m args below meth c H locs cells slots Q ls hX hl kk => lv_if_gt (tgt := tgt) hX.1 hX.2.1 hd ht (fun _ => kk) (fun q => absurd h q)) (kt h)
  · rw [if_neg h]; exact rhF.step (fun p l e R s m args below meth c H locs cells slots Q ls hX hl kk => lv_if_gt (tgt := tgt) hX.1 hX.2.1 hd ht (fun q => absurd q h) (fun _ => kk)) (kf h)
theorem rhF.if_le {v : Int32} {off : Int} (tgt : Nat) (hd : decode cc pc = .ok (.ifCond .le off, 3)) (ht : (pc : Int) + off = (tgt : Int)) (kt : (0 < v) → rhF E d nL y cc rt Γ0 emb x1 (pc + 3) L S Γ M) (kf : ¬ (0 < v) → rhF E d nL y cc rt Γ0 emb x2 tgt L S Γ M) : rhF E d nL y cc rt Γ0 emb (if (0 < v) then x1 else x2) pc L (rhI v :: S) Γ M := by
  by_cases h : (0 < v)
  · rw [if_pos h]; exact rhF.step (fun p l e R s m args below meth c H locs cells slots Q ls hX hl kk => lv_if_le (tgt := tgt) hX.1 hX.2.1 hd ht (fun q => absurd h ((rhnlt _ _).mpr q)) (fun _ => kk)) (kt h)
  · rw [if_neg h]; exact rhF.step (fun p l e R s m args below meth c H locs cells slots Q ls hX hl kk => lv_if_le (tgt := tgt) hX.1 hX.2.1 hd ht (fun _ => kk) (fun q => absurd q (fun z => z ((rhnlt _ _).mp h)))) (kf h)
theorem rhF.icmp_eq {v w : Int32} {off : Int} (tgt : Nat) (hd : decode cc pc = .ok (.if_icmp .eq off, 3)) (ht : (pc : Int) + off = (tgt : Int)) (kt : (v = w) → rhF E d nL y cc rt Γ0 emb x1 tgt L S Γ M) (kf : ¬ (v = w) → rhF E d nL y cc rt Γ0 emb x2 (pc + 3) L S Γ M) : rhF E d nL y cc rt Γ0 emb (if (v = w) then x1 else x2) pc L (rhI w :: rhI v :: S) Γ M := by
  by_cases h : (v = w)
  · rw [if_pos h]; exact rhF.step (fun p l e R s m args below meth c H locs cells slots Q ls hX hl kk => lv_icmp_eq (tgt := tgt) hX.1 hX.2.1 hd ht (fun _ => kk) (fun q => absurd h q)) (kt h)
  · rw [if_neg h]; exact rhF.step (fun p l e R s m args below meth c H locs cells slots Q ls hX hl kk => lv_icmp_eq (tgt := tgt) hX.1 hX.2.1 hd ht (fun q => absurd q h) (fun _ => kk)) (kf h)
theorem rhF.icmp_ne {v w : Int32} {off : Int} (tgt : Nat) (hd : decode cc pc = .ok (.if_icmp .ne off, 3)) (ht : (pc : Int) + off = (tgt : Int)) (kt : (v = w) → rhF E d nL y cc rt Γ0 emb x1 (pc + 3) L S Γ M) (kf : ¬ (v = w) → rhF E d nL y cc rt Γ0 emb x2 tgt L S Γ M) : rhF E d nL y cc rt Γ0 emb (if (v = w) then x1 else x2) pc L (rhI w :: rhI v :: S) Γ M := by
  by_cases h : (v = w)
  · rw [if_pos h]; exact rhF.step (fun p l e R s m args below meth c H locs cells slots Q ls hX hl kk => lv_icmp_ne (tgt := tgt) hX.1 hX.2.1 hd ht (fun q => absurd h q) (fun _ => kk)) (kt h)
  · rw [if_neg h]; exact rhF.step (fun p l e R s m args below meth c H locs cells slots Q ls hX hl kk => lv_icmp_ne (tgt := tgt) hX.1 hX.2.1 hd ht (fun _ => kk) (fun q => absurd q h)) (kf h)
theorem rhF.icmp_lt {v w : Int32} {off : Int} (tgt : Nat) (hd : decode cc pc = .ok (.if_icmp .lt off, 3)) (ht : (pc : Int) + off = (tgt : Int)) (kt : (v < w) → rhF E d nL y cc rt Γ0 emb x1 tgt L S Γ M) (kf : ¬ (v < w) → rhF E d nL y cc rt Γ0 emb x2 (pc + 3) L S Γ M) : rhF E d nL y cc rt Γ0 emb (if (v < w) then x1 else x2) pc L (rhI w :: rhI v :: S) Γ M := by
  by_cases h : (v < w)
  · rw [if_pos h]; exact rhF.step (fun p l e R s m args below meth c H locs cells slots Q ls hX hl kk => lv_icmp_lt (tgt := tgt) hX.1 hX.2.1 hd ht (fun _ => kk) (fun q => absurd h q)) (kt h)
  · rw [if_neg h]; exact rhF.step (fun p l e R s m args below meth c H locs cells slots Q ls hX hl kk => lv_icmp_lt (tgt := tgt) hX.1 hX.2.1 hd ht (fun q => absurd q h) (fun _ => kk)) (kf h)
theorem rhF.icmp_ge {v w : Int32} {off : Int} (tgt : Nat) (hd : decode cc pc = .ok (.if_icmp .ge off, 3)) (ht : (pc : Int) + off = (tgt : Int)) (kt : (v < w) → rhF E d nL y cc rt Γ0 emb x1 (pc + 3) L S Γ M) (kf : ¬ (v < w) → rhF E d nL y cc rt Γ0 emb x2 tgt L S Γ M) : rhF E d nL y cc rt Γ0 emb (if (v < w) then x1 else x2) pc L (rhI w :: rhI v :: S) Γ M := by
  by_cases h : (v < w)
  · rw [if_pos h]; exact rhF.step (fun p l e R s m args below meth c H locs cells slots Q ls hX hl kk => lv_icmp_ge (tgt := tgt) hX.1 hX.2.1 hd ht (fun q => absurd h ((rhnlt _ _).mpr q)) (fun _ => kk)) (kt h)
  · rw [if_neg h]; exact rhF.step (fun p l e R s m args below meth c H locs cells slots Q ls hX hl kk => lv_icmp_ge (tgt := tgt) hX.1 hX.2.1 hd ht (fun _ => kk) (fun q => absurd q (fun z => z ((rhnlt _ _).mp h)))) (kf h)
theorem rhF.icmp_gt {v w : Int32} {off : Int} (tgt : Nat) (hd : decode cc pc = .ok (.if_icmp .gt off, 3)) (ht : (pc : Int) + off = (tgt : Int)) (kt : (w < v) → rhF E d nL y cc rt Γ0 emb x1 tgt L S Γ M) (kf : ¬ (w < v) → rhF E d nL y cc rt Γ0 emb x2 (pc + 3) L S Γ M) : rhF E d nL y cc rt Γ0 emb (if (w < v) then x1 else x2) pc L (rhI w :: rhI v :: S) Γ M := by
  by_cases h : (w < v)
  · rw [if_pos h]; exact rhF.step (fun p l e R s m args below meth c H locs cells slots Q ls hX hl kk => lv_icmp_gt (tgt := tgt) hX.1 hX.2.1 hd ht (fun _ => kk) (fun q => absurd h q)) (kt h)
  · rw [if_neg h]; exact rhF.step (fun p l e R s m args below meth c H locs cells slots Q ls hX hl kk => lv_icmp_gt (tgt := tgt) hX.1 hX.2.1 hd ht (fun q => absurd q h) (fun _ => kk)) (kf h)
theorem rhF.icmp_le {v w : Int32} {off : Int} (tgt : Nat) (hd : decode cc pc = .ok (.if_icmp .le off, 3)) (ht : (pc : Int) + off = (tgt : Int)) (kt : (w < v) → rhF E d nL y cc rt Γ0 emb x1 (pc + 3) L S Γ M) (kf : ¬ (w < v) → rhF E d nL y cc rt Γ0 emb x2 tgt L S Γ M) : rhF E d nL y cc rt Γ0 emb (if (w < v) then x1 else x2) pc L (rhI w :: rhI v :: S) Γ M := by
  by_cases h : (w < v)
  · rw [if_pos h]; exact rhF.step (fun p l e R s m args below meth c H locs cells slots Q ls hX hl kk => lv_icmp_le (tgt := tgt) hX.1 hX.2.1 hd ht (fun q => absurd h ((rhnlt _ _).mpr q)) (fun _ => kk)) (kt h)
  · rw [if_neg h]; exact rhF.step (fun p l e R s m args below meth c H locs cells slots Q ls hX hl kk => lv_icmp_le (tgt := tgt) hX.1 hX.2.1 hd ht (fun _ => kk) (fun q => absurd q (fun z => z ((rhnlt _ _).mp h)))) (kf h)
end RHR
end
section
/-! rows of one instruction: the memory, calls, ends -/
theorem rh_sz {p : Program} {l : Launch} {e : Env} {R : Room} {s : State} {m : MethodId} {args : Array Value} {below : List Frame} {meth : Method} {c : Code} {H : Heap} {locs : List Loc} {cells slots : Nat} {Q : State → Prop} {g : JFrame}
    (k : H.size ≤ s.heap.size + cells → W p l e R s m args below meth c H locs cells slots Q g) : W p l e R s m args below meth c H locs cells slots Q g := fun T hT X => k (by rw [← hT]; exact X.heapSize) T hT X
theorem rhw_len {E : rhE} {Γ : rhG} {M : rhM} : (rhw E Γ M).length = Γ.1 := by rw [rhw, List.length_map, List.length_range]
theorem rhw_set {E : rhE} {Γ : rhG} {M M' : rhM} {r : Nat} (h0 : 1 ≤ r) (h1 : r ≤ Γ.1) {q : Nat × va_E} (hq : q = (E.1 + (r - 1), rhc E Γ M' r)) (ho : ∀ r', r' ≠ r → rhc E Γ M' r' = rhc E Γ M r') : (rhw E Γ M).set (r - 1) q = rhw E Γ M' := by
  subst hq
  refine List.ext_getElem? fun k => ?_
  by_cases e : k = r - 1
  · subst e
    rw [List.getElem?_set_self (by rw [rhw_len]; omega), rhw_at h0 h1]
  · rw [List.getElem?_set_ne (Ne.symm e)]
    rw [rhw, rhw, List.getElem?_map, List.getElem?_map]
    cases h : (List.range Γ.1)[k]? with
    | none => rfl
    | some j =>
      obtain ⟨hj, hj2⟩ := List.getElem?_eq_some_iff.mp h
      simp only [List.getElem_range] at hj2
      subst hj2
      simp only [Option.map_some]
      rw [ho (k + 1) (by omega)]
theorem rhw_app {E : rhE} {Γ Γ' : rhG} {M M' : rhM} (hg : Γ'.1 = Γ.1 + 1) {q : Nat × va_E} (hq : q = (E.1 + Γ.1, rhc E Γ' M' (Γ.1 + 1))) (ho : ∀ r', r' ≠ Γ.1 + 1 → rhc E Γ' M' r' = rhc E Γ M r') : rhw E Γ M ++ [q] = rhw E Γ' M' := by
  subst hq
  rw [rhw, rhw, hg, List.range_succ, List.map_append]
  congr 1
  refine List.map_congr_left fun k hk => ?_
  have := List.mem_range.mp hk
  rw [ho (k + 1) (by omega)]
theorem rhH.mk {E : rhE} {Γ : rhG} {M : rhM} {H : Heap} (hP : va_P E.2.1 vwCl (rhw E Γ M) H) (hk : ∀ r, Γ.2.2.1 r ≠ 0 → 1 ≤ r ∧ r ≤ Γ.1) (h1 : 1 ≤ Γ.1) (hu : H.size ≤ E.1 + Γ.1) : rhH E Γ M H := by
  refine ⟨hP, ?_, hk⟩
  have h2 := (hP _ _ (rhw_at (E := E) (Γ := Γ) (M := M) (r := Γ.1) h1 (Nat.le_refl _))).lt
  dsimp only at h2
  omega
theorem rhfs {α : Type} {n k : Nat} (f : Nat → α) (h : k < n) : ((List.range n).map f)[k]? = some (f k) := by
  rw [List.getElem?_map, List.getElem?_range h]; rfl
theorem rhfset {α : Type} {n k : Nat} (f g : Nat → α) (v : α) (h : k < n) (h1 : g k = v) (h2 : ∀ j, j ≠ k → g j = f j) : ((List.range n).map f).set k v = (List.range n).map g := by
  refine List.ext_getElem? fun j => ?_
  by_cases e : j = k
  · subst e
    rw [List.getElem?_set_self (by simpa using h), rhfs g h, h1]
  · rw [List.getElem?_set_ne (Ne.symm e), List.getElem?_map, List.getElem?_map]
    cases hj : (List.range n)[j]? with
    | none => rfl
    | some i =>
      obtain ⟨hi, hi2⟩ := List.getElem?_eq_some_iff.mp hj
      simp only [List.getElem_range] at hi2
      subst hi2
      simp only [Option.map_some, h2 j e]
/-- a field reference of a class's pool: the class ci's field k -/
def rhFl (own : String) (idx ci k : Nat) : Prop := ∃ q : vw_C, vwCl[ci]? = some q ∧ k < q.2.2 ∧ Cond.fieldLink own idx (q.2.1 k).1 (q.2.1 k).2.1 (q.2.1 k).2.2.1 ∈ rhTs
theorem rhis (M : rhM) (r k : Nat) (v : Int32) : (rhsi M r k v).1 r k = v := by simp [rhsi]
theorem rhls (M : rhM) (r k : Nat) (v : Int64) : (rhsl M r k v).2.1 r k = v := by simp [rhsl]
theorem rhrs (M : rhM) (r k : Nat) (v : Nat) : (rhsr M r k v).2.2 r k = v := by simp [rhsr]
theorem rhin_vp {i : Int32} {n : Nat} (h : 0 ≤ i.toInt ∧ i.toInt < (n : Int)) : vp_in i n := vp_in_iff.mpr h

section RHM
variable {E : rhE} {d nL : Nat} {y : MethodName} {cc : ByteArray} {rt : Option FieldType} {Γ0 : rhG} {α : Type} {emb : α → rhO} {x x1 x2 : Option α} {pc : Nat} {L L' : List (Nat × rhV)} {S S' : List rhV} {Γ : rhG} {M : rhM}

theorem rhF.chk {c : Prop} [Decidable c] (k : c → rhF E d nL y cc rt Γ0 emb x pc L S Γ M) : rhF E d nL y cc rt Γ0 emb (if c then x else Option.none) pc L S Γ M := rhF.ite k (fun _ => rhF.nope)
/-- a step over the memory as it is -/
theorem rhF.stepH {pc' : Nat} (h : ∀ (p : Program) (l : Launch) (e : Env) (R : Room) (s : State) (m : MethodId) (args : Array Value) (below : List Frame) (meth : Method) (c : Code) (H : Heap) (locs : List Loc) (cells slots : Nat) (Q : State → Prop) (ls : Array Slot), rhX E nL y cc rt p s m args meth c → lv_has ls nL (rhL E L) → rhH E Γ M H → va_S (rhad E) s.heap H locs →
      W p l e R s m args below meth c H locs cells slots Q (F0 m pc' ls (S'.map (rhv E))) → W p l e R s m args below meth c H locs cells slots Q (F0 m pc ls (S.map (rhv E))))
    (k : rhF E d nL y cc rt Γ0 emb x pc' L S' Γ M) : rhF E d nL y cc rt Γ0 emb x pc L S Γ M := by
  intro a ha
  obtain ⟨h1, h2, k⟩ := k a ha
  exact ⟨h1, h2, fun p l e s m args below meth c hX g1 g2 H locs ls hH hS hl hA => h p l e _ s m args below meth c H locs _ _ _ ls hX hl hH hS (k p l e s m args below meth c hX g1 g2 H locs ls hH hS hl hA)⟩
/-- a step that changes the memory of cells that are there -/
theorem rhF.stepM {pc' r : Nat} {M' : rhM} (hr : Γ.2.2.1 r ≠ 0) (h : ∀ (p : Program) (l : Launch) (e : Env) (R : Room) (s : State) (m : MethodId) (args : Array Value) (below : List Frame) (meth : Method) (c : Code) (H : Heap) (locs : List Loc) (cells slots : Nat) (Q : State → Prop) (ls : Array Slot), rhX E nL y cc rt p s m args meth c → lv_has ls nL (rhL E L) → rhH E Γ M H → va_S (rhad E) s.heap H locs → 1 ≤ r → r ≤ Γ.1 →
      (∀ (H1 : Heap) (locs1 : List Loc), va_P E.2.1 vwCl (rhw E Γ M') H1 → va_S (rhad E) s.heap H1 locs1 → W p l e R s m args below meth c H1 locs1 cells slots Q (F0 m pc' ls (S'.map (rhv E)))) → W p l e R s m args below meth c H locs cells slots Q (F0 m pc ls (S.map (rhv E))))
    (k : rhF E d nL y cc rt Γ0 emb x pc' L S' Γ M') : rhF E d nL y cc rt Γ0 emb x pc L S Γ M := by
  intro a ha
  obtain ⟨h1, h2, k⟩ := k a ha
  refine ⟨h1, h2, fun p l e s m args below meth c hX g1 g2 H locs ls hH hS hl hA => ?_⟩
  obtain ⟨hr1, hr2⟩ := hH.2.2 r hr
  refine h p l e _ s m args below meth c H locs _ _ _ ls hX hl hH hS hr1 hr2 (fun H1 locs1 hP1 hS1 => rh_sz (fun hz => k p l e s m args below meth c hX g1 g2 H1 locs1 ls (rhH.mk hP1 hH.2.2 (by omega) ?_) hS1 hl hA))
  rw [hA] at hz
  omega
theorem rhF.get {r ci idx k : Nat} (v : rhV) (hd : decode cc pc = .ok (.getfield idx, 3)) (hf : rhFl y.cls idx ci k) (hr : Γ.2.2.1 r = ci + 1) (hv : rhv E v = rhfv E (rhty ci k) M r k) (kk : rhF E d nL y cc rt Γ0 emb x (pc + 3) L (v :: S) Γ M) : rhF E d nL y cc rt Γ0 emb x pc L (rhR r :: S) Γ M := by
  refine rhF.stepH (fun p l e R s m args below meth c H locs cells slots Q ls hX hl hH hS kk => ?_) kk
  obtain ⟨q, hq, hk, hlink⟩ := hf
  obtain ⟨hfn, h13⟩ := rhcl_fn ci q hq
  have hr0 : Γ.2.2.1 r ≠ 0 := by omega
  rw [List.map_cons, rhv_ref (hH.2.2 r hr0).1]
  have hcell := hH.cell hr0
  rw [rhc_obj hr h13, hfn] at hcell
  exact va_get (C := q.1) (T := q.2.1) (N := q.2.2) hX.1 hX.2.1 (Ts := rhTs) hX.2.2.2.2.2.2.2.1 (rhcl_in ci q hq) hX.2.2.2.2.2.2.1 hX.2.2.2.2.2.2.2.2.1 hH.1 (r - 1) hcell hq k hk (hX.2.2.2.2.2.2.2.1 _ hlink) (fun x h => h) (v := rhv E v) (by rw [hv]; exact rhfs _ hk) hd kk
theorem rhput {p : Program} {l : Launch} {e : Env} {R : Room} {s : State} {m : MethodId} {args : Array Value} {below : List Frame} {meth : Method} {c : Code} {H : Heap} {locs : List Loc} {cells slots : Nat} {Q : State → Prop} {ls : Array Slot} {r ci idx k : Nat} {v : rhV} {M' : rhM} (hX : rhX E nL y cc rt p s m args meth c) (hH : rhH E Γ M H) (hS : va_S (rhad E) s.heap H locs) (hd : decode cc pc = .ok (.putfield idx, 3)) (hf : rhFl y.cls idx ci k) (hr : Γ.2.2.1 r = ci + 1)
    (hfin : ∀ q, vwCl[ci]? = some q → (q.2.1 k).2.2.2 = false ∨ (y.name = "<init>" ∧ (q.2.1 k).2.2.2 = true ∧ (q.2.1 k).1 = y.cls)) (hn : narrow (rhty ci k) (rhv E v) = rhv E v ∧ fits (rhty ci k) (rhv E v) = true)
    (h1 : rhfv E (rhty ci k) M' r k = rhv E v) (h2 : ∀ j, j ≠ k → rhfv E (rhty ci j) M' r j = rhfv E (rhty ci j) M r j) (ho : ∀ a, a ≠ r → rhc E Γ M' a = rhc E Γ M a)
    (kk : ∀ (H1 : Heap) (locs1 : List Loc), va_P E.2.1 vwCl (rhw E Γ M') H1 → va_S (rhad E) s.heap H1 locs1 → W p l e R s m args below meth c H1 locs1 cells slots Q (F0 m (pc + 3) ls (S.map (rhv E)))) : W p l e R s m args below meth c H locs cells slots Q (F0 m pc ls ((v :: rhR r :: S).map (rhv E))) := by
  obtain ⟨q, hq, hk, hlink⟩ := hf
  obtain ⟨hfn, h13⟩ := rhcl_fn ci q hq
  have hr0 : Γ.2.2.1 r ≠ 0 := by omega
  obtain ⟨b1, b2⟩ := hH.2.2 r hr0
  rw [List.map_cons, List.map_cons, rhv_ref b1]
  have hcell := hH.cell hr0
  rw [rhc_obj hr h13, hfn] at hcell
  have e0 : (E.1 + (r - 1), (Sum.inr (ci, ((List.range q.2.2).map (fun j => rhfv E (rhty ci j) M r j)).set k (rhv E v)) : va_E)) = (E.1 + (r - 1), rhc E Γ M' r) := by
    rw [rhc_obj hr h13, hfn, rhfset _ (fun j => rhfv E (rhty ci j) M' r j) _ hk h1 h2]
  have e1 := rhw_set (E := E) (Γ := Γ) (M := M) b1 b2 e0 ho
  rcases hfin q hq with h | ⟨ha, hb, hc⟩
  · refine va_put (C := q.1) (T := q.2.1) (N := q.2.2) hX.1 hX.2.1 (Ts := rhTs) hX.2.2.2.2.2.2.2.1 (rhcl_in ci q hq) (rhty ci) (rhcl_ty ci q hq) (rhcl_nm ci q hq) hX.2.2.2.2.2.2.1 hX.2.2.2.2.2.2.2.2.1 hH.1 rhw_D hS (r - 1) hcell hq k hk (hX.2.2.2.2.2.2.2.1 _ hlink) (fun x h => h) h (rhcl_ty ci q hq k hk) hn.1 hn.2 (by rw [List.length_map, List.length_range]; exact hk) hd (fun H1 locs1 hP1 _ hS1 => ?_)
    rw [e1] at hP1
    exact kk H1 locs1 hP1 hS1
  · refine va_putF (C := q.1) (T := q.2.1) (N := q.2.2) hX.1 hX.2.1 (Ts := rhTs) hX.2.2.2.2.2.2.2.1 (rhcl_in ci q hq) (rhty ci) (rhcl_ty ci q hq) (rhcl_nm ci q hq) hX.2.2.2.2.2.2.1 hX.2.2.2.2.2.2.2.2.1 hH.1 rhw_D hS (r - 1) hcell hq k hk (hX.2.2.2.2.2.2.2.1 _ hlink) (fun x h => h) hb (by rw [hX.2.2.2.2.2.1]; exact ha) hc (rhcl_ty ci q hq k hk) hn.1 hn.2 (by rw [List.length_map, List.length_range]; exact hk) hd (fun H1 locs1 hP1 _ hS1 => ?_)
    rw [e1] at hP1
    exact kk H1 locs1 hP1 hS1
theorem rhfv_o {t : FieldType} {M' : rhM} {r j : Nat} (h1 : M'.1 r j = M.1 r j) (h2 : M'.2.1 r j = M.2.1 r j) (h3 : M'.2.2 r j = M.2.2 r j) : rhfv E t M' r j = rhfv E t M r j := by
  unfold rhfv; rw [h1, h2, h3]
theorem rhfits_ref {t : FieldType} (ht : (∃ n, t = .object n) ∨ ∃ a, t = .array a) (o : Option Nat) : narrow t (va_rf o) = va_rf o ∧ fits t (va_rf o) = true := by
  rcases ht with ⟨n, rfl⟩ | ⟨a, rfl⟩ <;> cases o <;> exact ⟨rfl, rfl⟩

theorem rhF.puti {r ci idx k : Nat} {v : Int32} (hd : decode cc pc = .ok (.putfield idx, 3)) (hf : rhFl y.cls idx ci k) (hr : Γ.2.2.1 r = ci + 1) (hfin : ∀ q, vwCl[ci]? = some q → (q.2.1 k).2.2.2 = false ∨ (y.name = "<init>" ∧ (q.2.1 k).2.2.2 = true ∧ (q.2.1 k).1 = y.cls)) (hn : narrow (rhty ci k) (.int v) = .int v ∧ fits (rhty ci k) (.int v) = true) (hty : ∀ M : rhM, rhfv E (rhty ci k) M r k = .int (M.1 r k)) (kk : rhF E d nL y cc rt Γ0 emb x (pc + 3) L S Γ (rhsi M r k v)) : rhF E d nL y cc rt Γ0 emb x pc L (rhI v :: rhR r :: S) Γ M := by
  refine rhF.stepM (r := r) (by omega) (fun p l e R s m args below meth c H locs cells slots Q ls hX hl hH hS _ _ kk => ?_) kk
  refine rhput (v := rhI v) (M' := rhsi M r k v) hX hH hS hd hf hr hfin hn (by rw [hty, rhis]; rfl) (fun j hj => ?_) rhci kk
  refine rhfv_o ?_ ?_ ?_ <;> simp [rhsi, hj]
theorem rhF.putl {r ci idx k : Nat} {v : Int64} (hd : decode cc pc = .ok (.putfield idx, 3)) (hf : rhFl y.cls idx ci k) (hr : Γ.2.2.1 r = ci + 1) (hfin : ∀ q, vwCl[ci]? = some q → (q.2.1 k).2.2.2 = false ∨ (y.name = "<init>" ∧ (q.2.1 k).2.2.2 = true ∧ (q.2.1 k).1 = y.cls)) (hn : narrow (rhty ci k) (.long v) = .long v ∧ fits (rhty ci k) (.long v) = true) (hty : ∀ M : rhM, rhfv E (rhty ci k) M r k = .long (M.2.1 r k)) (kk : rhF E d nL y cc rt Γ0 emb x (pc + 3) L S Γ (rhsl M r k v)) : rhF E d nL y cc rt Γ0 emb x pc L (rhJ v :: rhR r :: S) Γ M := by
  refine rhF.stepM (r := r) (by omega) (fun p l e R s m args below meth c H locs cells slots Q ls hX hl hH hS _ _ kk => ?_) kk
  refine rhput (v := rhJ v) (M' := rhsl M r k v) hX hH hS hd hf hr hfin hn (by rw [hty, rhls]; rfl) (fun j hj => ?_) rhcl kk
  refine rhfv_o ?_ ?_ ?_ <;> simp [rhsl, hj]
theorem rhF.putr {r ci idx k : Nat} {v : Nat} (hd : decode cc pc = .ok (.putfield idx, 3)) (hf : rhFl y.cls idx ci k) (hr : Γ.2.2.1 r = ci + 1) (hfin : ∀ q, vwCl[ci]? = some q → (q.2.1 k).2.2.2 = false ∨ (y.name = "<init>" ∧ (q.2.1 k).2.2.2 = true ∧ (q.2.1 k).1 = y.cls)) (hn : (∃ n, rhty ci k = .object n) ∨ ∃ a, rhty ci k = .array a) (hty : ∀ M : rhM, rhfv E (rhty ci k) M r k = va_rf (rhro E (M.2.2 r k))) (kk : rhF E d nL y cc rt Γ0 emb x (pc + 3) L S Γ (rhsr M r k v)) : rhF E d nL y cc rt Γ0 emb x pc L (rhR v :: rhR r :: S) Γ M := by
  refine rhF.stepM (r := r) (by omega) (fun p l e R s m args below meth c H locs cells slots Q ls hX hl hH hS _ _ kk => ?_) kk
  refine rhput (v := rhR v) (M' := rhsr M r k v) hX hH hS hd hf hr hfin (rhfits_ref hn _) (by rw [hty, rhrs]; rfl) (fun j hj => ?_) rhcr kk
  refine rhfv_o ?_ ?_ ?_ <;> simp [rhsr, hj]
theorem rhF.iald {r : Nat} {i : Int32} (hd : decode cc pc = .ok (.iaload, 1)) (hr : Γ.2.2.1 r = 15) (hi : 0 ≤ i.toInt ∧ i.toInt < (Γ.2.2.2 r : Int)) (kk : rhF E d nL y cc rt Γ0 emb x (pc + 1) L (rhI (M.1 r i.toNatClampNeg) :: S) Γ M) : rhF E d nL y cc rt Γ0 emb x pc L (rhI i :: rhR r :: S) Γ M := by
  refine rhF.stepH (fun p l e R s m args below meth c H locs cells slots Q ls hX hl hH hS kk => ?_) kk
  have hr0 : Γ.2.2.1 r ≠ 0 := by omega
  rw [List.map_cons, List.map_cons, rhv_ref (hH.2.2 r hr0).1]
  have hcell := hH.cell hr0
  rw [rhc_I hr] at hcell
  exact va_iald hX.1 hX.2.1 hX.2.2.2.2.2.2.2.2.1 hH.1 (r - 1) 1 hcell rfl (rhin_vp hi) hd kk
theorem rhF.bald {r : Nat} {i : Int32} (hd : decode cc pc = .ok (.baload, 1)) (hr : Γ.2.2.1 r = 14) (hi : 0 ≤ i.toInt ∧ i.toInt < (Γ.2.2.2 r : Int)) (kk : rhF E d nL y cc rt Γ0 emb x (pc + 1) L (rhI (M.1 r i.toNatClampNeg) :: S) Γ M) : rhF E d nL y cc rt Γ0 emb x pc L (rhI i :: rhR r :: S) Γ M := by
  refine rhF.stepH (fun p l e R s m args below meth c H locs cells slots Q ls hX hl hH hS kk => ?_) kk
  have hr0 : Γ.2.2.1 r ≠ 0 := by omega
  rw [List.map_cons, List.map_cons, rhv_ref (hH.2.2 r hr0).1]
  have hcell := hH.cell hr0
  rw [rhc_B hr] at hcell
  exact va_bald hX.1 hX.2.1 hX.2.2.2.2.2.2.2.2.1 hH.1 (r - 1) 0 hcell rfl (rhin_vp hi) hd kk
theorem rhF.zald {r : Nat} {i : Int32} (hd : decode cc pc = .ok (.baload, 1)) (hr : Γ.2.2.1 r = 17) (hi : 0 ≤ i.toInt ∧ i.toInt < (Γ.2.2.2 r : Int)) (kk : rhF E d nL y cc rt Γ0 emb x (pc + 1) L (rhI (M.1 r i.toNatClampNeg) :: S) Γ M) : rhF E d nL y cc rt Γ0 emb x pc L (rhI i :: rhR r :: S) Γ M := by
  refine rhF.stepH (fun p l e R s m args below meth c H locs cells slots Q ls hX hl hH hS kk => ?_) kk
  have hr0 : Γ.2.2.1 r ≠ 0 := by omega
  rw [List.map_cons, List.map_cons, rhv_ref (hH.2.2 r hr0).1]
  have hcell := hH.cell hr0
  rw [rhc_Z hr] at hcell
  exact va_zald hX.1 hX.2.1 hX.2.2.2.2.2.2.2.2.1 hH.1 (r - 1) 3 hcell rfl (rhin_vp hi) hd kk
theorem rhF.lald {r : Nat} {i : Int32} (hd : decode cc pc = .ok (.laload, 1)) (hr : Γ.2.2.1 r = 16) (hi : 0 ≤ i.toInt ∧ i.toInt < (Γ.2.2.2 r : Int)) (kk : rhF E d nL y cc rt Γ0 emb x (pc + 1) L (rhJ (M.2.1 r i.toNatClampNeg) :: S) Γ M) : rhF E d nL y cc rt Γ0 emb x pc L (rhI i :: rhR r :: S) Γ M := by
  refine rhF.stepH (fun p l e R s m args below meth c H locs cells slots Q ls hX hl hH hS kk => ?_) kk
  have hr0 : Γ.2.2.1 r ≠ 0 := by omega
  rw [List.map_cons, List.map_cons, rhv_ref (hH.2.2 r hr0).1]
  have hcell := hH.cell hr0
  rw [rhc_J hr] at hcell
  exact va_lald hX.1 hX.2.1 hX.2.2.2.2.2.2.2.2.1 hH.1 (r - 1) 2 hcell rfl (rhin_vp hi) hd kk
theorem rhF.aldP {r : Nat} {i : Int32} (hd : decode cc pc = .ok (.aaload, 1)) (hr : Γ.2.2.1 r = 18) (hi : 0 ≤ i.toInt ∧ i.toInt < (Γ.2.2.2 r : Int)) (kk : rhF E d nL y cc rt Γ0 emb x (pc + 1) L (rhR (M.2.2 r i.toNatClampNeg) :: S) Γ M) : rhF E d nL y cc rt Γ0 emb x pc L (rhI i :: rhR r :: S) Γ M := by
  refine rhF.stepH (fun p l e R s m args below meth c H locs cells slots Q ls hX hl hH hS kk => ?_) kk
  have hr0 : Γ.2.2.1 r ≠ 0 := by omega
  rw [List.map_cons, List.map_cons, rhv_ref (hH.2.2 r hr0).1]
  have hcell := hH.cell hr0
  rw [rhc_P hr] at hcell
  exact va_aldq hX.1 hX.2.1 hX.2.2.2.2.2.2.2.2.1 hH.1 (r - 1) 4 hcell rfl (rhin_vp hi) hd kk
theorem rhF.aldS {r : Nat} {i : Int32} (hd : decode cc pc = .ok (.aaload, 1)) (hr : Γ.2.2.1 r = 19) (hi : 0 ≤ i.toInt ∧ i.toInt < (Γ.2.2.2 r : Int)) (kk : rhF E d nL y cc rt Γ0 emb x (pc + 1) L (rhR (M.2.2 r i.toNatClampNeg) :: S) Γ M) : rhF E d nL y cc rt Γ0 emb x pc L (rhI i :: rhR r :: S) Γ M := by
  refine rhF.stepH (fun p l e R s m args below meth c H locs cells slots Q ls hX hl hH hS kk => ?_) kk
  have hr0 : Γ.2.2.1 r ≠ 0 := by omega
  rw [List.map_cons, List.map_cons, rhv_ref (hH.2.2 r hr0).1]
  have hcell := hH.cell hr0
  rw [rhc_S hr] at hcell
  exact va_aldq hX.1 hX.2.1 hX.2.2.2.2.2.2.2.2.1 hH.1 (r - 1) 5 hcell rfl (rhin_vp hi) hd kk
theorem rhF.iast {r : Nat} {i : Int32} {v : Int32} (hd : decode cc pc = .ok (.iastore, 1)) (hr : Γ.2.2.1 r = 15) (hi : 0 ≤ i.toInt ∧ i.toInt < (Γ.2.2.2 r : Int)) (kk : rhF E d nL y cc rt Γ0 emb x (pc + 1) L S Γ (rhsi M r i.toNatClampNeg v)) : rhF E d nL y cc rt Γ0 emb x pc L (rhI v :: rhI i :: rhR r :: S) Γ M := by
  refine rhF.stepM (r := r) (by omega) (fun p l e R s m args below meth c H locs cells slots Q ls hX hl hH hS b1 b2 kk => ?_) kk
  rw [List.map_cons, List.map_cons, List.map_cons, rhv_ref b1]
  have hcell := hH.cell (r := r) (by omega)
  rw [rhc_I hr] at hcell
  refine va_iast hX.1 hX.2.1 hX.2.2.2.2.2.2.2.2.1 hH.1 rhw_D hS (r - 1) 1 hcell rfl (rhin_vp hi) hd (fun H1 locs1 hP1 _ hS1 => kk H1 locs1 ?_ hS1)
  rw [rhw_set (M' := rhsi M r i.toNatClampNeg v) b1 b2 (by rw [rhc_I hr]; congr 5; funext j; simp [rhsi, upd, vp_updL]) rhci] at hP1
  exact hP1
theorem rhF.bast {r : Nat} {i : Int32} {v : Int32} (hd : decode cc pc = .ok (.bastore, 1)) (hr : Γ.2.2.1 r = 14) (hi : 0 ≤ i.toInt ∧ i.toInt < (Γ.2.2.2 r : Int)) (kk : rhF E d nL y cc rt Γ0 emb x (pc + 1) L S Γ (rhsi M r i.toNatClampNeg (vp_nar .byte v))) : rhF E d nL y cc rt Γ0 emb x pc L (rhI v :: rhI i :: rhR r :: S) Γ M := by
  refine rhF.stepM (r := r) (by omega) (fun p l e R s m args below meth c H locs cells slots Q ls hX hl hH hS b1 b2 kk => ?_) kk
  rw [List.map_cons, List.map_cons, List.map_cons, rhv_ref b1]
  have hcell := hH.cell (r := r) (by omega)
  rw [rhc_B hr] at hcell
  refine va_bast hX.1 hX.2.1 hX.2.2.2.2.2.2.2.2.1 hH.1 rhw_D hS (r - 1) 0 hcell rfl (rhin_vp hi) hd (fun H1 locs1 hP1 _ hS1 => kk H1 locs1 ?_ hS1)
  rw [rhw_set (M' := rhsi M r i.toNatClampNeg (vp_nar .byte v)) b1 b2 (by rw [rhc_B hr]; congr 5; funext j; simp [rhsi, upd, vp_updL]) rhci] at hP1
  exact hP1
theorem rhF.zast {r : Nat} {i : Int32} {v : Int32} (hd : decode cc pc = .ok (.bastore, 1)) (hr : Γ.2.2.1 r = 17) (hi : 0 ≤ i.toInt ∧ i.toInt < (Γ.2.2.2 r : Int)) (kk : rhF E d nL y cc rt Γ0 emb x (pc + 1) L S Γ (rhsi M r i.toNatClampNeg (vp_nar .boolean v))) : rhF E d nL y cc rt Γ0 emb x pc L (rhI v :: rhI i :: rhR r :: S) Γ M := by
  refine rhF.stepM (r := r) (by omega) (fun p l e R s m args below meth c H locs cells slots Q ls hX hl hH hS b1 b2 kk => ?_) kk
  rw [List.map_cons, List.map_cons, List.map_cons, rhv_ref b1]
  have hcell := hH.cell (r := r) (by omega)
  rw [rhc_Z hr] at hcell
  refine va_zast hX.1 hX.2.1 hX.2.2.2.2.2.2.2.2.1 hH.1 rhw_D hS (r - 1) 3 hcell rfl (rhin_vp hi) hd (fun H1 locs1 hP1 _ hS1 => kk H1 locs1 ?_ hS1)
  rw [rhw_set (M' := rhsi M r i.toNatClampNeg (vp_nar .boolean v)) b1 b2 (by rw [rhc_Z hr]; congr 5; funext j; simp [rhsi, upd, vp_updL]) rhci] at hP1
  exact hP1
theorem rhF.last {r : Nat} {i : Int32} {v : Int64} (hd : decode cc pc = .ok (.lastore, 1)) (hr : Γ.2.2.1 r = 16) (hi : 0 ≤ i.toInt ∧ i.toInt < (Γ.2.2.2 r : Int)) (kk : rhF E d nL y cc rt Γ0 emb x (pc + 1) L S Γ (rhsl M r i.toNatClampNeg v)) : rhF E d nL y cc rt Γ0 emb x pc L (rhJ v :: rhI i :: rhR r :: S) Γ M := by
  refine rhF.stepM (r := r) (by omega) (fun p l e R s m args below meth c H locs cells slots Q ls hX hl hH hS b1 b2 kk => ?_) kk
  rw [List.map_cons, List.map_cons, List.map_cons, rhv_ref b1]
  have hcell := hH.cell (r := r) (by omega)
  rw [rhc_J hr] at hcell
  refine va_last hX.1 hX.2.1 hX.2.2.2.2.2.2.2.2.1 hH.1 rhw_D hS (r - 1) 2 hcell rfl (rhin_vp hi) hd (fun H1 locs1 hP1 _ hS1 => kk H1 locs1 ?_ hS1)
  rw [rhw_set (M' := rhsl M r i.toNatClampNeg v) b1 b2 (by rw [rhc_J hr]; congr 6; funext j; simp [rhsl, upd, vp_updL]) rhcl] at hP1
  exact hP1
theorem rhF.astP {r w : Nat} {i : Int32} (hd : decode cc pc = .ok (.aastore, 1)) (hr : Γ.2.2.1 r = 18) (hw : Γ.2.2.1 w = 4) (hi : 0 ≤ i.toInt ∧ i.toInt < (Γ.2.2.2 r : Int)) (kk : rhF E d nL y cc rt Γ0 emb x (pc + 1) L S Γ (rhsr M r i.toNatClampNeg w)) : rhF E d nL y cc rt Γ0 emb x pc L (rhR w :: rhI i :: rhR r :: S) Γ M := by
  refine rhF.stepM (r := r) (by omega) (fun p l e R s m args below meth c H locs cells slots Q ls hX hl hH hS b1 b2 kk => ?_) kk
  have hw0 : Γ.2.2.1 w ≠ 0 := by omega
  obtain ⟨w1, w2⟩ := hH.2.2 w hw0
  rw [List.map_cons, List.map_cons, List.map_cons, rhv_ref b1, rhv_ref w1]
  have hcell := hH.cell (r := r) (by omega)
  rw [rhc_P hr] at hcell
  have hcw := hH.cell hw0
  rw [rhc_obj hw (by decide)] at hcw
  refine va_astq (r := (RX3, TX3, rhfn 3)) hX.1 hX.2.1 hX.2.2.2.2.2.2.2.2.1 hH.1 rhw_D hS (r - 1) 4 (w - 1) 3 hcell rfl hcw rfl (rhin_vp hi) hd (fun H1 locs1 hP1 _ hS1 => kk H1 locs1 ?_ hS1)
  rw [rhw_set (M' := rhsr M r i.toNatClampNeg w) b1 b2 (by rw [rhc_P hr]; congr 9; funext j; by_cases hj : j = i.toNatClampNeg <;> simp [rhsr, va_up, hj, rhro_pos w1]) rhcr] at hP1
  exact hP1
theorem rhF.astS {r w : Nat} {i : Int32} (hd : decode cc pc = .ok (.aastore, 1)) (hr : Γ.2.2.1 r = 19) (hw : Γ.2.2.1 w = 8) (hi : 0 ≤ i.toInt ∧ i.toInt < (Γ.2.2.2 r : Int)) (kk : rhF E d nL y cc rt Γ0 emb x (pc + 1) L S Γ (rhsr M r i.toNatClampNeg w)) : rhF E d nL y cc rt Γ0 emb x pc L (rhR w :: rhI i :: rhR r :: S) Γ M := by
  refine rhF.stepM (r := r) (by omega) (fun p l e R s m args below meth c H locs cells slots Q ls hX hl hH hS b1 b2 kk => ?_) kk
  have hw0 : Γ.2.2.1 w ≠ 0 := by omega
  obtain ⟨w1, w2⟩ := hH.2.2 w hw0
  rw [List.map_cons, List.map_cons, List.map_cons, rhv_ref b1, rhv_ref w1]
  have hcell := hH.cell (r := r) (by omega)
  rw [rhc_S hr] at hcell
  have hcw := hH.cell hw0
  rw [rhc_obj hw (by decide)] at hcw
  refine va_astq (r := (RX7, TX7, rhfn 7)) hX.1 hX.2.1 hX.2.2.2.2.2.2.2.2.1 hH.1 rhw_D hS (r - 1) 5 (w - 1) 7 hcell rfl hcw rfl (rhin_vp hi) hd (fun H1 locs1 hP1 _ hS1 => kk H1 locs1 ?_ hS1)
  rw [rhw_set (M' := rhsr M r i.toNatClampNeg w) b1 b2 (by rw [rhc_S hr]; congr 9; funext j; by_cases hj : j = i.toNatClampNeg <;> simp [rhsr, va_up, hj, rhro_pos w1]) rhcr] at hP1
  exact hP1
theorem rhF.alen14 {r : Nat} (hd : decode cc pc = .ok (.arraylength, 1)) (hr : Γ.2.2.1 r = 14) (kk : rhF E d nL y cc rt Γ0 emb x (pc + 1) L (rhI (Int32.ofNat (Γ.2.2.2 r)) :: S) Γ M) : rhF E d nL y cc rt Γ0 emb x pc L (rhR r :: S) Γ M := by
  refine rhF.stepH (fun p l e R s m args below meth c H locs cells slots Q ls hX hl hH hS kk => ?_) kk
  have hr0 : Γ.2.2.1 r ≠ 0 := by omega
  rw [List.map_cons, rhv_ref (hH.2.2 r hr0).1]
  have hcell := hH.cell hr0
  rw [rhc_B hr] at hcell
  exact va_alen hX.1 hX.2.1 hX.2.2.2.2.2.2.2.2.1 hH.1 (r - 1) 0 hcell (ty := .byte) rfl rfl hd kk
theorem rhF.alen15 {r : Nat} (hd : decode cc pc = .ok (.arraylength, 1)) (hr : Γ.2.2.1 r = 15) (kk : rhF E d nL y cc rt Γ0 emb x (pc + 1) L (rhI (Int32.ofNat (Γ.2.2.2 r)) :: S) Γ M) : rhF E d nL y cc rt Γ0 emb x pc L (rhR r :: S) Γ M := by
  refine rhF.stepH (fun p l e R s m args below meth c H locs cells slots Q ls hX hl hH hS kk => ?_) kk
  have hr0 : Γ.2.2.1 r ≠ 0 := by omega
  rw [List.map_cons, rhv_ref (hH.2.2 r hr0).1]
  have hcell := hH.cell hr0
  rw [rhc_I hr] at hcell
  exact va_alen hX.1 hX.2.1 hX.2.2.2.2.2.2.2.2.1 hH.1 (r - 1) 1 hcell (ty := .int) rfl rfl hd kk
theorem rhF.alen16 {r : Nat} (hd : decode cc pc = .ok (.arraylength, 1)) (hr : Γ.2.2.1 r = 16) (kk : rhF E d nL y cc rt Γ0 emb x (pc + 1) L (rhI (Int32.ofNat (Γ.2.2.2 r)) :: S) Γ M) : rhF E d nL y cc rt Γ0 emb x pc L (rhR r :: S) Γ M := by
  refine rhF.stepH (fun p l e R s m args below meth c H locs cells slots Q ls hX hl hH hS kk => ?_) kk
  have hr0 : Γ.2.2.1 r ≠ 0 := by omega
  rw [List.map_cons, rhv_ref (hH.2.2 r hr0).1]
  have hcell := hH.cell hr0
  rw [rhc_J hr] at hcell
  exact va_alen hX.1 hX.2.1 hX.2.2.2.2.2.2.2.2.1 hH.1 (r - 1) 2 hcell (ty := .long) rfl rfl hd kk
theorem rhF.alen17 {r : Nat} (hd : decode cc pc = .ok (.arraylength, 1)) (hr : Γ.2.2.1 r = 17) (kk : rhF E d nL y cc rt Γ0 emb x (pc + 1) L (rhI (Int32.ofNat (Γ.2.2.2 r)) :: S) Γ M) : rhF E d nL y cc rt Γ0 emb x pc L (rhR r :: S) Γ M := by
  refine rhF.stepH (fun p l e R s m args below meth c H locs cells slots Q ls hX hl hH hS kk => ?_) kk
  have hr0 : Γ.2.2.1 r ≠ 0 := by omega
  rw [List.map_cons, rhv_ref (hH.2.2 r hr0).1]
  have hcell := hH.cell hr0
  rw [rhc_Z hr] at hcell
  exact va_alen hX.1 hX.2.1 hX.2.2.2.2.2.2.2.2.1 hH.1 (r - 1) 3 hcell (ty := .boolean) rfl rfl hd kk
theorem rhF.alen18 {r : Nat} (hd : decode cc pc = .ok (.arraylength, 1)) (hr : Γ.2.2.1 r = 18) (kk : rhF E d nL y cc rt Γ0 emb x (pc + 1) L (rhI (Int32.ofNat (Γ.2.2.2 r)) :: S) Γ M) : rhF E d nL y cc rt Γ0 emb x pc L (rhR r :: S) Γ M := by
  refine rhF.stepH (fun p l e R s m args below meth c H locs cells slots Q ls hX hl hH hS kk => ?_) kk
  have hr0 : Γ.2.2.1 r ≠ 0 := by omega
  rw [List.map_cons, rhv_ref (hH.2.2 r hr0).1]
  have hcell := hH.cell hr0
  rw [rhc_P hr] at hcell
  exact va_alen hX.1 hX.2.1 hX.2.2.2.2.2.2.2.2.1 hH.1 (r - 1) 4 hcell (ty := .object RX3) rfl rfl hd kk
theorem rhF.alen19 {r : Nat} (hd : decode cc pc = .ok (.arraylength, 1)) (hr : Γ.2.2.1 r = 19) (kk : rhF E d nL y cc rt Γ0 emb x (pc + 1) L (rhI (Int32.ofNat (Γ.2.2.2 r)) :: S) Γ M) : rhF E d nL y cc rt Γ0 emb x pc L (rhR r :: S) Γ M := by
  refine rhF.stepH (fun p l e R s m args below meth c H locs cells slots Q ls hX hl hH hS kk => ?_) kk
  have hr0 : Γ.2.2.1 r ≠ 0 := by omega
  rw [List.map_cons, rhv_ref (hH.2.2 r hr0).1]
  have hcell := hH.cell hr0
  rw [rhc_S hr] at hcell
  exact va_alen hX.1 hX.2.1 hX.2.2.2.2.2.2.2.2.1 hH.1 (r - 1) 5 hcell (ty := .object RX7) rfl rfl hd kk
theorem rhF.ifnull {r : Nat} {off : Int} (tgt : Nat) (hd : decode cc pc = .ok (.ifnull off, 3)) (ht : (pc : Int) + off = (tgt : Int)) (kt : r = 0 → rhF E d nL y cc rt Γ0 emb x1 tgt L S Γ M) (kf : ¬ r = 0 → rhF E d nL y cc rt Γ0 emb x2 (pc + 3) L S Γ M) : rhF E d nL y cc rt Γ0 emb (if r = 0 then x1 else x2) pc L (rhR r :: S) Γ M := by
  by_cases h : r = 0
  · rw [if_pos h]
    refine rhF.step (fun p l e R s m args below meth c H locs cells slots Q ls hX hl kk => ?_) (kt h)
    subst h
    exact lv_ifnullN hX.1 hX.2.1 hd ht kk
  · rw [if_neg h]
    refine rhF.step (fun p l e R s m args below meth c H locs cells slots Q ls hX hl kk => ?_) (kf h)
    rw [List.map_cons, rhv_ref (by omega)]
    exact lv_ifnull hX.1 hX.2.1 hd kk
end RHM
end
section
/-! rows of one instruction: making of cells, ends, calls -/
/-- the cells, one more made: its kind, its length, its slots -/
def rhgn (Γ : rhG) (k n sl : Nat) : rhG := (Γ.1 + 1, Γ.2.1 + sl, fun r => if r = Γ.1 + 1 then k else Γ.2.2.1 r, fun r => if r = Γ.1 + 1 then n else Γ.2.2.2 r)
def rhmn (M : rhM) (r : Nat) : rhM := (fun a k => if a = r then 0 else M.1 a k, fun a k => if a = r then 0 else M.2.1 a k, fun a k => if a = r then 0 else M.2.2 a k)
theorem rhmn_o {E : rhE} {Γ : rhG} {M : rhM} {k n sl : Nat} : ∀ r', r' ≠ Γ.1 + 1 → rhc E (rhgn Γ k n sl) (rhmn M (Γ.1 + 1)) r' = rhc E Γ M r' := by
  intro r' h
  have e1 : (rhgn Γ k n sl).2.2.1 r' = Γ.2.2.1 r' := by simp [rhgn, h]
  have e2 : (rhgn Γ k n sl).2.2.2 r' = Γ.2.2.2 r' := by simp [rhgn, h]
  have e3 : (rhmn M (Γ.1 + 1)).1 r' = M.1 r' := by funext j; simp [rhmn, h]
  have e4 : (rhmn M (Γ.1 + 1)).2.1 r' = M.2.1 r' := by funext j; simp [rhmn, h]
  have e5 : (rhmn M (Γ.1 + 1)).2.2 r' = M.2.2 r' := by funext j; simp [rhmn, h]
  simp only [rhc, e1, e2, e3, e4, e5, rhfv]
theorem rhmn_k {E : rhE} {Γ : rhG} {H : Heap} {M : rhM} {k n sl : Nat} (h : rhH E Γ M H) : ∀ r, (rhgn Γ k n sl).2.2.1 r ≠ 0 → 1 ≤ r ∧ r ≤ (rhgn Γ k n sl).1 := by
  intro r hr
  show 1 ≤ r ∧ r ≤ Γ.1 + 1
  by_cases e : r = Γ.1 + 1
  · omega
  · have hr' : Γ.2.2.1 r ≠ 0 := by
      intro z; apply hr; simp [rhgn, e, z]
    have := h.2.2 r hr'
    omega
theorem rhdef_ok : ∀ ci, ci < 13 → ∀ j, j < rhfn ci → rhty ci j ≠ .float ∧ rhty ci j ≠ .double := by decide +kernel
theorem rhdef {E : rhE} {t : FieldType} (h : t ≠ .float ∧ t ≠ .double) (M : rhM) (r j : Nat) : defaultValue t = rhfv E t (rhmn M r) r j := by
  cases t <;> first | exact absurd rfl h.1 | exact absurd rfl h.2 | simp [rhfv, rhmn, defaultValue, rhro, va_rf]
/-- where the new cell lies -/
theorem rh_new_at {E : rhE} {Γ : rhG} {M : rhM} {H1 : Heap} {q : Nat} {c : va_E} (hP : va_P E.2.1 vwCl (rhw E Γ M ++ [(q, c)]) H1) (hD : va_D (rhad E) (rhw E Γ M ++ [(q, c)])) (hz : H1.size ≤ E.1 + Γ.1 + 1) : q = E.1 + Γ.1 := by
  have hlast : (rhw E Γ M ++ [(q, c)])[Γ.1]? = some (q, c) := by
    rw [List.getElem?_append_right (by rw [rhw_len]; exact Nat.le_refl _), rhw_len, Nat.sub_self]; rfl
  have h1 := (hP _ _ hlast).lt
  have h2 : E.1 ≤ q := hD.2 _ _ hlast
  dsimp only at h1
  by_cases e : q < E.1 + Γ.1
  · exfalso
    have hk : q - E.1 < Γ.1 := by omega
    have hg : (rhw E Γ M ++ [(q, c)])[q - E.1]? = some (E.1 + (q - E.1), rhc E Γ M (q - E.1 + 1)) := by
      rw [List.getElem?_append_left (by rw [rhw_len]; exact hk)]
      have := rhw_at (E := E) (Γ := Γ) (M := M) (r := q - E.1 + 1) (by omega) (by omega)
      rw [show q - E.1 + 1 - 1 = q - E.1 by omega] at this
      exact this
    have := hD.1 _ _ _ _ hg hlast (by show E.1 + (q - E.1) = q; omega)
    omega
  · omega
theorem rhA {E : rhE} {s : State} {Γ0 : rhG} (hA : s.heap.size = E.1 + Γ0.1) : ∀ q, s.heap.size ≤ q → rhad E q := fun q h => by show E.1 ≤ q; omega
section RHN
variable {E : rhE} {d nL : Nat} {y : MethodName} {cc : ByteArray} {rt : Option FieldType} {Γ0 : rhG} {α : Type} {emb : α → rhO} {x x1 x2 : Option α} {pc : Nat} {L L' : List (Nat × rhV)} {S S' : List rhV} {Γ : rhG} {M : rhM}

/-- what is common to all that make a cell -/
theorem rhF.stepN {pc' k n sl : Nat} (h : ∀ (p : Program) (l : Launch) (e : Env) (R : Room) (s : State) (m : MethodId) (args : Array Value) (below : List Frame) (meth : Method) (c : Code) (H : Heap) (locs : List Loc) (cells slots : Nat) (Q : State → Prop) (ls : Array Slot), rhX E nL y cc rt p s m args meth c → lv_has ls nL (rhL E L) → rhH E Γ M H → va_S (rhad E) s.heap H locs → (∀ q, s.heap.size ≤ q → rhad E q) → cells + 1 ≤ R.cells → slots + sl ≤ R.slots →
      (∀ (H1 : Heap) (q : Nat) (ce : va_E), ce = rhc E (rhgn Γ k n sl) (rhmn M (Γ.1 + 1)) (Γ.1 + 1) → va_P E.2.1 vwCl (rhw E Γ M ++ [(q, ce)]) H1 → va_D (rhad E) (rhw E Γ M ++ [(q, ce)]) → va_S (rhad E) s.heap H1 locs → W p l e R s m args below meth c H1 locs (cells + 1) (slots + sl) Q (F0 m pc' ls (.ref q :: S'.map (rhv E)))) → W p l e R s m args below meth c H locs cells slots Q (F0 m pc ls (S.map (rhv E))))
    (kk : rhF E d nL y cc rt Γ0 emb x pc' L (rhR (Γ.1 + 1) :: S') (rhgn Γ k n sl) (rhmn M (Γ.1 + 1))) : rhF E d nL y cc rt Γ0 emb x pc L S Γ M := by
  intro a ha
  obtain ⟨h1, h2, kk⟩ := kk a ha
  have h1 : Γ.1 + 1 ≤ (emb a).2.1.1 := h1
  have h2 : Γ.2.1 + sl ≤ (emb a).2.1.2.1 := h2
  refine ⟨by omega, by omega, fun p l e s m args below meth c hX g1 g2 H locs ls hH hS hl hA => ?_⟩
  refine h p l e _ s m args below meth c H locs _ _ _ ls hX hl hH hS (rhA hA) (by show Γ.1 - Γ0.1 + 1 ≤ (emb a).2.1.1 - Γ0.1; omega) (by show Γ.2.1 - Γ0.2.1 + sl ≤ (emb a).2.1.2.1 - Γ0.2.1; omega) (fun H1 q ce hce hP hD hS1 => rh_sz (fun hz => ?_))
  have hz' : H1.size ≤ E.1 + Γ.1 + 1 := by omega
  have hq := rh_new_at hP hD hz'
  subst hq; subst hce
  rw [rhw_app (Γ' := rhgn Γ k n sl) (M' := rhmn M (Γ.1 + 1)) rfl rfl rhmn_o] at hP
  have h4 := kk p l e s m args below meth c hX (by show Γ0.1 ≤ Γ.1 + 1; omega) (by show Γ0.2.1 ≤ Γ.2.1 + sl; omega) H1 locs ls (rhH.mk hP (rhmn_k hH) (by show 1 ≤ Γ.1 + 1; omega) (by show H1.size ≤ E.1 + (Γ.1 + 1); omega)) hS1 hl hA
  rw [List.map_cons, rhv_ref (by omega), show E.1 + (Γ.1 + 1 - 1) = E.1 + Γ.1 by omega] at h4
  exact W.widen (k := (rhgn Γ k n sl).1 - Γ0.1) (n := (rhgn Γ k n sl).2.1 - Γ0.2.1) (by show _ ≤ Γ.1 + 1 - Γ0.1; omega) (by show _ ≤ Γ.2.1 + sl - Γ0.2.1; omega) h4
/-- a class reference of a class's pool, for 'new' -/
def rhNw (own : String) (idx ci : Nat) : Prop := ∃ q : vw_C, vwCl[ci]? = some q ∧ Cond.classLink own idx q.1 ∈ rhTs ∧ Cond.instantiable q.1 q.2.2 ∈ rhTs ∧ Cond.initialized q.1 ∈ rhTs
theorem rhF.new {idx ci : Nat} (hd : decode cc pc = .ok (.new idx, 3)) (hc : rhNw y.cls idx ci) (kk : rhF E d nL y cc rt Γ0 emb x (pc + 3) L (rhR (Γ.1 + 1) :: S) (rhgn Γ (ci + 1) 0 (rhfn ci)) (rhmn M (Γ.1 + 1))) : rhF E d nL y cc rt Γ0 emb x pc L S Γ M := by
  refine rhF.stepN (fun p l e R s m args below meth c H locs cells slots Q ls hX hl hH hS hA hc1 hs1 kk => ?_) kk
  obtain ⟨q, hq, w1, w2, w3⟩ := hc
  obtain ⟨hfn, h13⟩ := rhcl_fn ci q hq
  have hts := hX.2.2.2.2.2.2.2.1
  refine va_new (C := q.1) (T := q.2.1) (N := q.2.2) hX.1 hX.2.1 (Ts := rhTs) hts (rhcl_in ci q hq) (rhty ci) (rhcl_ty ci q hq) hX.2.2.2.2.2.2.1 (hts _ w1) (hts _ w2) (hts _ w3) hX.2.2.2.2.2.2.2.2.1 hH.1 rhw_D hS hA hq (fs := (List.range q.2.2).map (fun j => rhfv E (rhty ci j) (rhmn M (Γ.1 + 1)) (Γ.1 + 1) j)) (fun j hj => ?_) hc1 (by rw [← hfn]; exact hs1) hd (fun a H1 hP hD hS1 => ?_)
  · rw [vp_V, List.getD_eq_getElem?_getD, rhfs _ hj]
    exact rhdef (rhdef_ok ci h13 j (by rw [hfn]; exact hj)) M _ j
  · rw [← hfn]
    exact kk H1 a _ (by rw [rhc_obj (c := ci) (by simp [rhgn]) h13, hfn]) hP hD hS1
theorem rhcy {E : rhE} {s : State} {i : Nat} {cA cB : ClassId} {ty : FieldType} (hK : va_K E.2.1 vwCl (rhtys E) s) (hK' : va_K E.2.1 vwCl (rhtys E ++ [(cA, ty)]) s) (hi : (rhtys E)[i]? = some (cB, ty)) : cA = cB := by
  have h1 := (hK.2 i _ hi).2
  have h2 := (hK'.2 6 (cA, ty) rfl).2
  unfold va_RA at h1 h2
  cases ty with
  | object C =>
    obtain ⟨_, _, _, _, _, e1⟩ := h1
    obtain ⟨_, _, _, _, _, e2⟩ := h2
    exact Option.some.inj (e2.symm.trans e1)
  | _ => exact Option.some.inj (h2.symm.trans h1)
theorem rhbytes {n k : Nat} (h : n ≤ 67108864) (e : k ≤ 8) : n * k ≤ 536870912 := Nat.le_trans (Nat.mul_le_mul h e) (by decide)
theorem rhpos {n : Int32} (h : 0 ≤ n.toInt) : ¬ n < 0 := by
  rw [Int32.lt_iff_toInt_lt, Int32.toInt_zero]; omega
theorem rhclamp {n : Int32} (h1 : n.toInt ≤ 67108864) : n.toNatClampNeg ≤ 67108864 := by
  have : n.toNatClampNeg = n.toInt.toNat := rfl
  omega
theorem rhF.newB {n : Int32} (hd : decode cc pc = .ok (.newarray .byte, 2)) (hw : Cond.arrayClass .byte ∈ rhTs) (h0 : 0 ≤ n.toInt ∧ n.toInt ≤ 67108864) (kk : rhF E d nL y cc rt Γ0 emb x (pc + 2) L (rhR (Γ.1 + 1) :: S) (rhgn Γ 14 n.toNatClampNeg n.toNatClampNeg) (rhmn M (Γ.1 + 1))) : rhF E d nL y cc rt Γ0 emb x pc L (rhI n :: S) Γ M := by
  refine rhF.stepN (fun p l e R s m args below meth c H locs cells slots Q ls hX hl hH hS hA hc1 hs1 kk => ?_) kk
  have hts := hX.2.2.2.2.2.2.2.1
  have hK := hX.2.2.2.2.2.2.2.2.1
  have h3 := rhclamp h0.2
  refine va_newa (ty := .byte) hX.1 hX.2.1 (atype := .byte) (hts _ hw) rfl hK hH.1 rhw_D hS hA (a0 := (n.toNatClampNeg, .inl (fun _ => 0))) (fun cA => rfl) (rhpos h0.1) rfl (rhbytes h3 (by decide)) hc1 hs1 hd (fun q cA H1 hK1 hP hD hS1 => ?_)
  have e := rhcy (i := 0) hK hK1 rfl
  subst e
  refine kk H1 q _ ?_ hP hD hS1
  rw [rhc_B (by simp [rhgn])]
  simp [rhgn, rhmn]
theorem rhF.newI {n : Int32} (hd : decode cc pc = .ok (.newarray .int, 2)) (hw : Cond.arrayClass .int ∈ rhTs) (h0 : 0 ≤ n.toInt ∧ n.toInt ≤ 67108864) (kk : rhF E d nL y cc rt Γ0 emb x (pc + 2) L (rhR (Γ.1 + 1) :: S) (rhgn Γ 15 n.toNatClampNeg n.toNatClampNeg) (rhmn M (Γ.1 + 1))) : rhF E d nL y cc rt Γ0 emb x pc L (rhI n :: S) Γ M := by
  refine rhF.stepN (fun p l e R s m args below meth c H locs cells slots Q ls hX hl hH hS hA hc1 hs1 kk => ?_) kk
  have hts := hX.2.2.2.2.2.2.2.1
  have hK := hX.2.2.2.2.2.2.2.2.1
  have h3 := rhclamp h0.2
  refine va_newa (ty := .int) hX.1 hX.2.1 (atype := .int) (hts _ hw) rfl hK hH.1 rhw_D hS hA (a0 := (n.toNatClampNeg, .inl (fun _ => 0))) (fun cA => rfl) (rhpos h0.1) rfl (rhbytes h3 (by decide)) hc1 hs1 hd (fun q cA H1 hK1 hP hD hS1 => ?_)
  have e := rhcy (i := 1) hK hK1 rfl
  subst e
  refine kk H1 q _ ?_ hP hD hS1
  rw [rhc_I (by simp [rhgn])]
  simp [rhgn, rhmn]
theorem rhF.newJ {n : Int32} (hd : decode cc pc = .ok (.newarray .long, 2)) (hw : Cond.arrayClass .long ∈ rhTs) (h0 : 0 ≤ n.toInt ∧ n.toInt ≤ 67108864) (kk : rhF E d nL y cc rt Γ0 emb x (pc + 2) L (rhR (Γ.1 + 1) :: S) (rhgn Γ 16 n.toNatClampNeg n.toNatClampNeg) (rhmn M (Γ.1 + 1))) : rhF E d nL y cc rt Γ0 emb x pc L (rhI n :: S) Γ M := by
  refine rhF.stepN (fun p l e R s m args below meth c H locs cells slots Q ls hX hl hH hS hA hc1 hs1 kk => ?_) kk
  have hts := hX.2.2.2.2.2.2.2.1
  have hK := hX.2.2.2.2.2.2.2.2.1
  have h3 := rhclamp h0.2
  refine va_newa (ty := .long) hX.1 hX.2.1 (atype := .long) (hts _ hw) rfl hK hH.1 rhw_D hS hA (a0 := (n.toNatClampNeg, .inr (.inl (fun _ => 0)))) (fun cA => rfl) (rhpos h0.1) rfl (rhbytes h3 (by decide)) hc1 hs1 hd (fun q cA H1 hK1 hP hD hS1 => ?_)
  have e := rhcy (i := 2) hK hK1 rfl
  subst e
  refine kk H1 q _ ?_ hP hD hS1
  rw [rhc_J (by simp [rhgn])]
  simp [rhgn, rhmn]
theorem rhF.newZ {n : Int32} (hd : decode cc pc = .ok (.newarray .boolean, 2)) (hw : Cond.arrayClass .boolean ∈ rhTs) (h0 : 0 ≤ n.toInt ∧ n.toInt ≤ 67108864) (kk : rhF E d nL y cc rt Γ0 emb x (pc + 2) L (rhR (Γ.1 + 1) :: S) (rhgn Γ 17 n.toNatClampNeg n.toNatClampNeg) (rhmn M (Γ.1 + 1))) : rhF E d nL y cc rt Γ0 emb x pc L (rhI n :: S) Γ M := by
  refine rhF.stepN (fun p l e R s m args below meth c H locs cells slots Q ls hX hl hH hS hA hc1 hs1 kk => ?_) kk
  have hts := hX.2.2.2.2.2.2.2.1
  have hK := hX.2.2.2.2.2.2.2.2.1
  have h3 := rhclamp h0.2
  refine va_newa (ty := .boolean) hX.1 hX.2.1 (atype := .boolean) (hts _ hw) rfl hK hH.1 rhw_D hS hA (a0 := (n.toNatClampNeg, .inl (fun _ => 0))) (fun cA => rfl) (rhpos h0.1) rfl (rhbytes h3 (by decide)) hc1 hs1 hd (fun q cA H1 hK1 hP hD hS1 => ?_)
  have e := rhcy (i := 3) hK hK1 rfl
  subst e
  refine kk H1 q _ ?_ hP hD hS1
  rw [rhc_Z (by simp [rhgn])]
  simp [rhgn, rhmn]
theorem rhF.newP {n : Int32} {idx : Nat} (hd : decode cc pc = .ok (.anewarray idx, 3)) (hw : Cond.classLink y.cls idx RX3 ∈ rhTs) (h0 : 0 ≤ n.toInt ∧ n.toInt ≤ 67108864) (kk : rhF E d nL y cc rt Γ0 emb x (pc + 3) L (rhR (Γ.1 + 1) :: S) (rhgn Γ 18 n.toNatClampNeg n.toNatClampNeg) (rhmn M (Γ.1 + 1))) : rhF E d nL y cc rt Γ0 emb x pc L (rhI n :: S) Γ M := by
  refine rhF.stepN (fun p l e R s m args below meth c H locs cells slots Q ls hX hl hH hS hA hc1 hs1 kk => ?_) kk
  have hts := hX.2.2.2.2.2.2.2.1
  have hK := hX.2.2.2.2.2.2.2.2.1
  have h3 := rhclamp h0.2
  refine va_newq (C := RX3) hX.1 hX.2.1 hX.2.2.2.2.2.2.1 (hts _ hw) hX.2.2.2.2.2.2.2.2.2.2.2.2.2.2.1 hK hH.1 rhw_D hS hA (rhpos h0.1) rfl (by omega) hc1 hs1 hd (fun q cA H1 hK1 hP hD hS1 => ?_)
  have e := rhcy (i := 4) hK hK1 rfl
  subst e
  refine kk H1 q _ ?_ hP hD hS1
  rw [rhc_P (by simp [rhgn])]
  simp [rhgn, rhmn, rhro]
theorem rhF.newS {n : Int32} {idx : Nat} (hd : decode cc pc = .ok (.anewarray idx, 3)) (hw : Cond.classLink y.cls idx RX7 ∈ rhTs) (h0 : 0 ≤ n.toInt ∧ n.toInt ≤ 67108864) (kk : rhF E d nL y cc rt Γ0 emb x (pc + 3) L (rhR (Γ.1 + 1) :: S) (rhgn Γ 19 n.toNatClampNeg n.toNatClampNeg) (rhmn M (Γ.1 + 1))) : rhF E d nL y cc rt Γ0 emb x pc L (rhI n :: S) Γ M := by
  refine rhF.stepN (fun p l e R s m args below meth c H locs cells slots Q ls hX hl hH hS hA hc1 hs1 kk => ?_) kk
  have hts := hX.2.2.2.2.2.2.2.1
  have hK := hX.2.2.2.2.2.2.2.2.1
  have h3 := rhclamp h0.2
  refine va_newq (C := RX7) hX.1 hX.2.1 hX.2.2.2.2.2.2.1 (hts _ hw) hX.2.2.2.2.2.2.2.2.2.2.2.2.2.2.2.1 hK hH.1 rhw_D hS hA (rhpos h0.1) rfl (by omega) hc1 hs1 hd (fun q cA H1 hK1 hP hD hS1 => ?_)
  have e := rhcy (i := 5) hK hK1 rfl
  subst e
  refine kk H1 q _ ?_ hP hD hS1
  rw [rhc_S (by simp [rhgn])]
  simp [rhgn, rhmn, rhro]
theorem rhF.zret {a : α} {v : Int32} {ty : FieldType} (hd : decode cc pc = .ok (.ireturn, 1)) (hr : rt = some ty) (hn : narrow ty (.int v) = .int v) (he : emb a = (some (rhI v), Γ, M)) : rhF E d nL y cc rt Γ0 emb (some a) pc L [rhI v] Γ M := by
  intro a' ha
  cases ha
  rw [he]
  refine ⟨Nat.le_refl _, Nat.le_refl _, fun p l e s m args below meth c hX g1 g2 H locs ls hH hS hl hA => ?_⟩
  exact W.zret hX.1 hX.2.1 (hX.2.2.1.trans hr) hn (fun t ht _ => ⟨rfl, by rw [ht]; exact hH, hS.F ht⟩) hS.2.2 hd hX.2.2.2.2.1
theorem rhF.lret {a : α} {v : Int64} (hd : decode cc pc = .ok (.lreturn, 1)) (hr : rt = some .long) (he : emb a = (some (rhJ v), Γ, M)) : rhF E d nL y cc rt Γ0 emb (some a) pc L [rhJ v] Γ M := by
  intro a' ha
  cases ha
  rw [he]
  refine ⟨Nat.le_refl _, Nat.le_refl _, fun p l e s m args below meth c hX g1 g2 H locs ls hH hS hl hA => ?_⟩
  exact W.lret hX.1 hX.2.1 (hX.2.2.1.trans hr) (fun t ht _ => ⟨rfl, by rw [ht]; exact hH, hS.F ht⟩) hS.2.2 hd hX.2.2.2.2.1
theorem rhF.vret {a : α} (hd : decode cc pc = .ok (.return_, 1)) (hr : rt = none) (he : emb a = (none, Γ, M)) : rhF E d nL y cc rt Γ0 emb (some a) pc L [] Γ M := by
  intro a' ha
  cases ha
  rw [he]
  refine ⟨Nat.le_refl _, Nat.le_refl _, fun p l e s m args below meth c hX g1 g2 H locs ls hH hS hl hA => ?_⟩
  exact W.vret hX.1 hX.2.1 (hX.2.2.1.trans hr) (fun t ht _ => ⟨rfl, by rw [ht]; exact hH, hS.F ht⟩) hS.2.2 hd hX.2.2.2.2.1
theorem rhP_blind {E : rhE} {As : List rhV} {Γ : rhG} {M : rhM} : FrameBlind (rhP E As Γ M) := fun a U g mk h => ⟨h.1, h.2.1, va_K.moved (u := U) (U := U.calling g mk a) (Vm.Alike.refl U.vm) h.2.2.1, h.2.2.2.same rfl⟩
/-- what is common to all calls -/
theorem rhF.stepC {β : Type} {g : Option β} {kf : β → Option α} {embc : β → rhO} {d' nL' : Nat} {y' : MethodName} {cc' : ByteArray} {rt' : Option FieldType} {As : List rhV} (hC : ∀ b, g = some b → rhC E d' y' cc' nL' rt' As Γ M (embc b)) (hdd : d' + 1 ≤ d) (hnl : nL' ≤ 21)
    (h : ∀ (b : β) (p : Program) (l : Launch) (e : Env) (R : Room) (s : State) (m : MethodId) (args : Array Value) (below : List Frame) (meth : Method) (c : Code) (H : Heap) (locs : List Loc) (cells slots : Nat) (ls : Array Slot), rhX E nL y cc rt p s m args meth c → lv_has ls nL (rhL E L) → rhH E Γ M H → va_S (rhad E) s.heap H locs →
      Met l y' (Cond.code y' cc' nL' rt' :: rhTs) (rhrm d' Γ (embc b).2.1) (rhP E As Γ M) (rhQ E (embc b)) ((embc b).2.1.1 - Γ.1) ((embc b).2.1.2.1 - Γ.2.1) (rhad E) → (rhrm d' Γ (embc b).2.1).frames + 1 ≤ R.frames ∧ 8 + (nL' + 11) + (rhrm d' Γ (embc b).2.1).locals ≤ R.locals → cells + ((embc b).2.1.1 - Γ.1) ≤ R.cells ∧ slots + ((embc b).2.1.2.1 - Γ.2.1) ≤ R.slots →
      (∀ U : State, U.heap = H → s.WarmedH U.vm → rhP E As Γ M (As.map (rhv E)).toArray U) → ∃ ar, va_Run p l e R s m args below meth c H locs cells slots ((embc b).2.1.1 - Γ.1) ((embc b).2.1.2.1 - Γ.2.1) (F0 m pc ls (S.map (rhv E))) (S'.map (rhv E)) (rhQ E (embc b) ar) (rhad E))
    (kk : ∀ b, g = some b → rhF E d nL y cc rt Γ0 emb (kf b) (pc + 3) L ((embc b).1.toList ++ S') (embc b).2.1 (embc b).2.2) : rhF E d nL y cc rt Γ0 emb (g.bind kf) pc L S Γ M := by
  intro a ha
  obtain ⟨b, hb, hkb⟩ := Option.bind_eq_some_iff.mp ha
  obtain ⟨h1, h2, kk⟩ := kk b hb a hkb
  obtain ⟨c1, c2, hM⟩ := hC b hb
  refine ⟨Nat.le_trans c1 h1, Nat.le_trans c2 h2, fun p l e s m args below meth c hX g1 g2 H locs ls hH hS hl hA => ?_⟩
  obtain ⟨ar, hrun⟩ := h b p l e (rhrm d Γ0 (emb a).2.1) s m args below meth c H locs (Γ.1 - Γ0.1) (Γ.2.1 - Γ0.2.1) ls hX hl hH hS (hM l) ⟨hdd, by show 8 + (nL' + 11) + 40 * d' ≤ 40 * d; omega⟩ ⟨by show _ ≤ (emb a).2.1.1 - Γ0.1; omega, by show _ ≤ (emb a).2.1.2.1 - Γ0.2.1; omega⟩
    (fun U hU hW => ⟨rfl, by rw [hU]; exact hH, va_K.moved hW.alike hX.2.2.2.2.2.2.2.2.1, by rw [hU]; exact hX.2.2.2.2.2.2.2.2.2.go hW hS⟩)
  intro T hT X
  obtain ⟨v, st₀, t, T', L2, e0, X', hL2, e1, e2, ⟨q1, q2, q3⟩, st⟩ := hrun T hT X
  cases q1
  have q31 := q3.1
  have q32 := q3.2
  rw [e0] at q31 q32
  have hS' : va_S (rhad E) s.heap T'.heap (locs ++ L2) := by
    refine ⟨Nat.le_trans hS.1 (by rw [e1]; exact q31), fun q z1 z2 => ?_, fun q hq => ?_⟩
    · rw [e1]
      exact (q32 q (Nat.lt_of_lt_of_le z1 hS.1) z2).trans (hS.2.1 q z1 z2)
    · rcases List.mem_append.mp hq with z | z
      · exact hS.2.2 q z
      · exact hL2 q z
  have h5 := kk p l e s m args below meth c hX (by omega) (by omega) T'.heap (locs ++ L2) ls (by rw [e1]; exact q2) hS' hl hA
  have e5 : (((embc b).1.toList ++ S').map (rhv E)) = ((embc b).1.map (rhv E)).toList ++ S'.map (rhv E) := by
    rw [List.map_append]
    cases (embc b).1 <;> rfl
  rw [e5] at h5
  obtain ⟨t2, a1, b1⟩ := h5 T' rfl (stand_widen X' (by omega) (by omega))
  exact ⟨t2, st t2 a1, b1⟩
theorem rhgood : GoodIn rhTs rhTs := fun w h => ⟨h, rhTs_good w h⟩
theorem rhgoodc {w : Cond} (h : w ∈ rhTs) : GoodIn rhTs (w :: rhTs) := fun u hu => by
  rcases List.mem_cons.mp hu with rfl | hu
  · exact ⟨h, rhTs_good _ h⟩
  · exact ⟨hu, rhTs_good _ hu⟩
/-- a method reference of a class's pool -/
def rhMl (own : String) (idx : Nat) (y' : MethodName) (cc' : ByteArray) (nL' : Nat) (rt' : Option FieldType) (n : Nat) : Prop := Cond.methodLink own idx y' ∈ rhTs ∧ Cond.initialized y'.cls ∈ rhTs ∧ Cond.code y' cc' nL' rt' ∈ rhTs ∧ (y'.cls ≠ "java/lang/invoke/MethodHandle" ∧ y'.cls ≠ "java/lang/invoke/VarHandle" ∧ (parseMethodDescriptor y'.desc).map (fun d => d.parameters.length) = some n)
theorem rhF.callV {β : Type} {g : Option β} {kf : β → Option α} {embc : β → rhO} {d' nL' idx r ci : Nat} {y' : MethodName} {cc' : ByteArray} {rt' : Option FieldType} (As : List rhV) (hd : decode cc pc = .ok (.invokevirtual idx, 3)) (hl : rhMl y.cls idx y' cc' nL' rt' As.length) (hi : Cond.instanceMethod y' ∈ rhTs ∧ Cond.selects y'.cls y' y' ∈ rhTs) (hci : ∃ q : vw_C, vwCl[ci]? = some q ∧ q.1 = y'.cls) (hr : Γ.2.2.1 r = ci + 1) (hC : ∀ b, g = some b → rhC E d' y' cc' nL' rt' (rhR r :: As) Γ M (embc b)) (hdd : d' + 1 ≤ d) (hnl : nL' ≤ 21) (hS0 : S' = As.reverse ++ rhR r :: S) (hcat : (S.map rhcat).sum ≤ 8)
    (kk : ∀ b, g = some b → rhF E d nL y cc rt Γ0 emb (kf b) (pc + 3) L ((embc b).1.toList ++ S) (embc b).2.1 (embc b).2.2) : rhF E d nL y cc rt Γ0 emb (g.bind kf) pc L S' Γ M := by
  subst hS0
  refine rhF.stepC hC hdd hnl (fun b p l e R s m args below meth c H locs cells slots ls hX hlv hH hS hM hR hf hP => ?_) kk
  have hts := hX.2.2.2.2.2.2.2.1
  have hr0 : Γ.2.2.1 r ≠ 0 := by omega
  have b1 := (hH.2.2 r hr0).1
  obtain ⟨q, hq, hqy⟩ := hci
  obtain ⟨hfn, h13⟩ := rhcl_fn ci q hq
  have hcell := hH.cell hr0
  rw [rhc_obj hr h13] at hcell
  have hrec := va_recv hX.2.2.2.2.2.2.2.2.1 hH.1 hq hcell
  rw [hqy] at hrec
  refine ⟨_, va_runV (As := As.map (rhv E)) (rest := S.map (rhv E)) ⟨hX.1, hX.2.1, hX.2.2.2.1, hX.2.2.2.2.2.2.1, hts⟩ hM ⟨callB_of As.length hts (rhgoodc hl.2.2.1) rfl rfl rfl (hts _ hl.2.1) (hts _ hl.1) hl.2.2.2 hR, hts _ hi.1, hts _ hi.2⟩ ⟨rhP_blind, hrec, fun U hU hW => ?_⟩ rfl (by rw [List.length_map]) hlv.1 (by rw [List.map_append, List.map_reverse, List.map_cons, rhv_ref b1]) (lv_room (by rw [rhcats]; exact hcat)) hd hf⟩
  have h6 := hP U hU hW
  rw [List.map_cons, rhv_ref b1] at h6
  exact h6
theorem rhF.callS {β : Type} {g : Option β} {kf : β → Option α} {embc : β → rhO} {d' nL' idx : Nat} {y' : MethodName} {cc' : ByteArray} {rt' : Option FieldType} (As : List rhV) (hd : decode cc pc = .ok (.invokestatic idx, 3)) (hl : rhMl y.cls idx y' cc' nL' rt' As.length) (hi : Cond.static y' ∈ rhTs) (hC : ∀ b, g = some b → rhC E d' y' cc' nL' rt' As Γ M (embc b)) (hdd : d' + 1 ≤ d) (hnl : nL' ≤ 21) (hS0 : S' = As.reverse ++ S) (hcat : (S.map rhcat).sum ≤ 8)
    (kk : ∀ b, g = some b → rhF E d nL y cc rt Γ0 emb (kf b) (pc + 3) L ((embc b).1.toList ++ S) (embc b).2.1 (embc b).2.2) : rhF E d nL y cc rt Γ0 emb (g.bind kf) pc L S' Γ M := by
  subst hS0
  refine rhF.stepC hC hdd hnl (fun b p l e R s m args below meth c H locs cells slots ls hX hlv hH hS hM hR hf hP => ?_) kk
  have hts := hX.2.2.2.2.2.2.2.1
  exact ⟨_, va_runS (As := As.map (rhv E)) (rest := S.map (rhv E)) ⟨hX.1, hX.2.1, hX.2.2.2.1, hX.2.2.2.2.2.2.1, hts⟩ hM ⟨callB_of As.length hts (rhgoodc hl.2.2.1) rfl rfl rfl (hts _ hl.2.1) (hts _ hl.1) hl.2.2.2 hR, hts _ hi⟩ ⟨rhP_blind, hP⟩ rfl (by rw [List.length_map]) hlv.1 (by rw [List.map_append, List.map_reverse]) (lv_room (by rw [rhcats]; exact hcat)) hd hf⟩
theorem rhF.callI {β : Type} {g : Option β} {kf : β → Option α} {embc : β → rhO} {d' nL' idx r : Nat} {y' : MethodName} {cc' : ByteArray} (As : List rhV) (hd : decode cc pc = .ok (.invokespecial idx, 3)) (hl : rhMl y.cls idx y' cc' nL' none As.length) (hi : Cond.instanceMethod y' ∈ rhTs ∧ y'.name = "<init>") (hr : Γ.2.2.1 r ≠ 0) (hC : ∀ b, g = some b → rhC E d' y' cc' nL' none (rhR r :: As) Γ M (embc b)) (hdd : d' + 1 ≤ d) (hnl : nL' ≤ 21) (hS0 : S' = As.reverse ++ rhR r :: S) (hcat : (S.map rhcat).sum ≤ 8)
    (kk : ∀ b, g = some b → rhF E d nL y cc rt Γ0 emb (kf b) (pc + 3) L ((embc b).1.toList ++ S) (embc b).2.1 (embc b).2.2) : rhF E d nL y cc rt Γ0 emb (g.bind kf) pc L S' Γ M := by
  subst hS0
  refine rhF.stepC hC hdd hnl (fun b p l e R s m args below meth c H locs cells slots ls hX hlv hH hS hM hR hf hP => ?_) kk
  have hts := hX.2.2.2.2.2.2.2.1
  have b1 := (hH.2.2 r hr).1
  refine ⟨_, va_runI (As := As.map (rhv E)) (rest := S.map (rhv E)) ⟨hX.1, hX.2.1, hX.2.2.2.1, hX.2.2.2.2.2.2.1, hts⟩ hM ⟨callB_of As.length hts (rhgoodc hl.2.2.1) rfl rfl rfl (hts _ hl.2.1) (hts _ hl.1) hl.2.2.2 hR, hi.2, hts _ hi.1⟩ ⟨rhP_blind, fun U hU hW => ?_⟩ rfl (by rw [List.length_map]) hlv.1 (by rw [List.map_append, List.map_reverse, List.map_cons, rhv_ref b1]) (lv_room (by rw [rhcats]; exact hcat)) hd hf⟩
  have h6 := hP U hU hW
  rw [List.map_cons, rhv_ref b1] at h6
  exact h6
theorem rhF.callIN {β : Type} {g : Option β} {kf : β → Option α} {embc : β → rhO} {d' nL' idx r : Nat} {y' : MethodName} {cc' : ByteArray} (host : String) (As : List rhV) (hd : decode cc pc = .ok (.invokespecial idx, 3)) (hl : (y.cls, idx, y', host) ∈ rhnl) (hl2 : Cond.initialized y'.cls ∈ rhTs ∧ Cond.code y' cc' nL' none ∈ rhTs ∧ (y'.cls ≠ "java/lang/invoke/MethodHandle" ∧ y'.cls ≠ "java/lang/invoke/VarHandle" ∧ (parseMethodDescriptor y'.desc).map (fun d => d.parameters.length) = some As.length)) (hi : Cond.instanceMethod y' ∈ rhTs ∧ y'.name = "<init>") (hr : Γ.2.2.1 r ≠ 0) (hC : ∀ b, g = some b → rhC E d' y' cc' nL' none (rhR r :: As) Γ M (embc b)) (hdd : d' + 1 ≤ d) (hnl : nL' ≤ 21) (hS0 : S' = As.reverse ++ rhR r :: S) (hcat : (S.map rhcat).sum ≤ 8)
    (kk : ∀ b, g = some b → rhF E d nL y cc rt Γ0 emb (kf b) (pc + 3) L ((embc b).1.toList ++ S) (embc b).2.1 (embc b).2.2) : rhF E d nL y cc rt Γ0 emb (g.bind kf) pc L S' Γ M := by
  subst hS0
  refine rhF.stepC hC hdd hnl (fun b p l e R s m args below meth c H locs cells slots ls hX hlv hH hS hM hR hf hP => ?_) kk
  have hts := hX.2.2.2.2.2.2.2.1
  have b1 := (hH.2.2 r hr).1
  refine ⟨_, va_runIN (As := As.map (rhv E)) (rest := S.map (rhv E)) ⟨hX.1, hX.2.1, hX.2.2.2.1, hX.2.2.2.2.2.2.1, hts⟩ hM ⟨va_cnB As.length hts (rhgoodc hl2.2.1) rfl rfl rfl (hX.2.2.2.2.2.2.2.2.2.2.2.2.2.2.2.2 _ hl) (hts _ hl2.1) hl2.2.2 hR, hi.2, hts _ hi.1⟩ ⟨rhP_blind, fun U hU hW => ?_⟩ rfl (by rw [List.length_map]) hlv.1 (by rw [List.map_append, List.map_reverse, List.map_cons, rhv_ref b1]) (lv_room (by rw [rhcats]; exact hcat)) hd hf⟩
  have h6 := hP U hU hW
  rw [List.map_cons, rhv_ref b1] at h6
  exact h6
/-- Object.<init> -/
theorem rhF.objInit {idx r : Nat} (hd : decode cc pc = .ok (.invokespecial idx, 3)) (hl : Cond.methodLink y.cls idx Lib.objectInit ∈ rhTs ∧ Cond.instanceMethod Lib.objectInit ∈ rhTs ∧ Cond.code Lib.objectInit ⟨#[0xb1]⟩ 1 none ∈ rhTs) (hr : Γ.2.2.1 r ≠ 0) (hd1 : 1 ≤ d) (hcat : (S.map rhcat).sum ≤ 8) (k : rhF E d nL y cc rt Γ0 emb x (pc + 3) L S Γ M) : rhF E d nL y cc rt Γ0 emb x pc L (rhR r :: S) Γ M := by
  intro a ha
  obtain ⟨h1, h2, k⟩ := k a ha
  refine ⟨h1, h2, fun p l e s m args below meth c hX g1 g2 H locs ls hH hS hl' hA => ?_⟩
  have hts := hX.2.2.2.2.2.2.2.1
  have h3 := k p l e s m args below meth c hX g1 g2 H locs ls hH hS hl' hA
  rw [List.map_cons, rhv_ref (hH.2.2 r hr).1]
  refine W.objInit hX.1 hX.2.1 hX.2.2.2.2.2.2.1 (hts _ hl.1) (hts _ hl.2.1) (hts _ hl.2.2) rfl (hl'.1.trans hX.2.2.2.1.symm) rfl hd hd1 ?_ h3
  show 2 * 0 + ((S.map (rhv E)).map fun v => v.category).sum + 12 ≤ 40 * d
  rw [rhcats]
  omega
/-- Math.max, Math.min -/
theorem rhF.mmax {idx : Nat} {v w : Int32} (hd : decode cc pc = .ok (.invokestatic idx, 3)) (hl : Cond.methodLink y.cls idx Lib.Math.max.name ∈ rhTs ∧ Cond.static Lib.Math.max.name ∈ rhTs ∧ Cond.initialized "java/lang/Math" ∈ rhTs ∧ Cond.code Lib.Math.max.name Lib.Math.max.code 2 (some .int) ∈ rhTs) (hd1 : 1 ≤ d) (hcat : (S.map rhcat).sum ≤ 8) (k : rhF E d nL y cc rt Γ0 emb x (pc + 3) L (rhI (if v < w then w else v) :: S) Γ M) : rhF E d nL y cc rt Γ0 emb x pc L (rhI w :: rhI v :: S) Γ M := by
  intro a ha
  obtain ⟨h1, h2, k⟩ := k a ha
  refine ⟨h1, h2, fun p l e s m args below meth c hX g1 g2 H locs ls hH hS hl' hA => ?_⟩
  have hts := hX.2.2.2.2.2.2.2.1
  have h3 := k p l e s m args below meth c hX g1 g2 H locs ls hH hS hl' hA
  refine va_mmax hX.1 hX.2.1 (hX.2.2.2.1.trans hl'.1.symm) hX.2.2.2.2.2.2.1 (hts _ hl.1) (hts _ hl.2.1) (hts _ hl.2.2.1) (hts _ hl.2.2.2) hd1 ?_ (by show _ ≤ (emb a).2.1.1 - Γ0.1; omega) (by show _ ≤ (emb a).2.1.2.1 - Γ0.2.1; omega) hd h3
  show ((S.map (rhv E)).map fun v => v.category).sum + 13 ≤ 40 * d
  rw [rhcats]
  omega
theorem rhF.mmin {idx : Nat} {v w : Int32} (hd : decode cc pc = .ok (.invokestatic idx, 3)) (hl : Cond.methodLink y.cls idx Lib.Math.min.name ∈ rhTs ∧ Cond.static Lib.Math.min.name ∈ rhTs ∧ Cond.initialized "java/lang/Math" ∈ rhTs ∧ Cond.code Lib.Math.min.name Lib.Math.min.code 2 (some .int) ∈ rhTs) (hd1 : 1 ≤ d) (hcat : (S.map rhcat).sum ≤ 8) (k : rhF E d nL y cc rt Γ0 emb x (pc + 3) L (rhI (if w < v then w else v) :: S) Γ M) : rhF E d nL y cc rt Γ0 emb x pc L (rhI w :: rhI v :: S) Γ M := by
  intro a ha
  obtain ⟨h1, h2, k⟩ := k a ha
  refine ⟨h1, h2, fun p l e s m args below meth c hX g1 g2 H locs ls hH hS hl' hA => ?_⟩
  have hts := hX.2.2.2.2.2.2.2.1
  have h3 := k p l e s m args below meth c hX g1 g2 H locs ls hH hS hl' hA
  refine va_mmin hX.1 hX.2.1 (hX.2.2.2.1.trans hl'.1.symm) hX.2.2.2.2.2.2.1 (hts _ hl.1) (hts _ hl.2.1) (hts _ hl.2.2.1) (hts _ hl.2.2.2) hd1 ?_ (by show _ ≤ (emb a).2.1.1 - Γ0.1; omega) (by show _ ≤ (emb a).2.1.2.1 - Γ0.2.1; omega) hd h3
  show ((S.map (rhv E)).map fun v => v.category).sum + 13 ≤ 40 * d
  rw [rhcats]
  omega
end RHN
end
section
/-! entry of a method, arraycopy -/
def rhargs : Nat → List rhV → List (Nat × rhV)
  | _, [] => []
  | i, v :: vs => (i, v) :: rhargs (if rhcat v = 2 then i + 2 else i + 1) vs
theorem rhargs_eq (E : rhE) : ∀ (vs : List rhV) (i : Nat), lv_args i (vs.map (rhv E)) = rhL E (rhargs i vs)
  | [], i => rfl
  | v :: vs, i => by
    rw [List.map_cons, lv_args, rhargs, rhL, List.map_cons, rhv_cat, rhargs_eq E vs]
    rfl
theorem rhargs_len (E : rhE) : ∀ (vs : List rhV), (lg_sl (vs.map (rhv E))).length = (vs.map rhcat).sum
  | [] => rfl
  | v :: vs => by
    have ih := rhargs_len E vs
    rw [List.map_cons, List.map_cons, List.sum_cons, ← ih, lg_sl, List.flatMap_cons, List.length_append, rhv_cat]
    rcases v with x | x | r | i <;> rfl
section RHE
variable {E : rhE} {d nL : Nat} {y : MethodName} {cc : ByteArray} {rt : Option FieldType} {Γ0 : rhG} {α : Type} {emb : α → rhO} {x x1 x2 : Option α} {pc : Nat} {L L' : List (Nat × rhV)} {S S' : List rhV} {Γ : rhG} {M : rhM}
theorem rhC.of {As : List rhV} {o : rhO} (hy : plainName y.cls = true) (hlen : (As.map rhcat).sum ≤ nL) (k : rhW E d nL y cc rt Γ o 0 (rhargs 0 As) [] Γ M) : rhC E d y cc nL rt As Γ M o := by
  obtain ⟨h1, h2, k⟩ := k
  refine ⟨h1, h2, fun l => ?_⟩
  refine Met.ofW (cc := cc) (maxL := nL) (ret := rt) hy rfl ?_
  intro p e s m args below meth c s₁ B hml hv
  obtain ⟨rfl, hH, hK, hS⟩ := hv
  have hts := atoms_spec (ws := Cond.code y cc nL rt :: rhTs) B.pre
  have hX : rhX E nL y cc rt p s m (As.map (rhv E)).toArray meth c := ⟨B.exec, B.bytes, B.returns, hml, B.notSynchronized, (name_of_methodNamed B.named B.method).1, findClass_of_methodNamed B.named, fun w hw => hts w (List.mem_cons_of_mem _ hw), hK, hS⟩
  have hl := lv_entry (As.map (rhv E)) (n := nL) (by rw [rhargs_len]; exact hlen)
  rw [rhargs_eq] at hl
  rw [lg_entry_eq]
  have h3 := k p l e s m (As.map (rhv E)).toArray below meth c hX (Nat.le_refl _) (Nat.le_refl _) s.heap [] _ hH va_S.rf hl hH.2.1
  rw [Nat.sub_self, Nat.sub_self] at h3
  exact h3
theorem rhF.met {As : List rhV} (hy : plainName y.cls = true) (hlen : (As.map rhcat).sum ≤ nL) (k : rhF E d nL y cc rt Γ emb x 0 (rhargs 0 As) [] Γ M) : ∀ a, x = some a → rhC E d y cc nL rt As Γ M (emb a) := fun a ha => rhC.of hy hlen (k a ha)
def rhcp (M : rhM) (a b : Nat) (sp dp n : Nat) : rhM := (fun r k => if r = b ∧ dp ≤ k ∧ k < dp + n then M.1 a (sp + (k - dp)) else M.1 r k, M.2)
theorem rhF.copyI {idx a b : Nat} {sp dp n : Int32} (hd : decode cc pc = .ok (.invokestatic idx, 3)) (hl : Cond.methodLink y.cls idx arraycopyName ∈ rhTs ∧ Cond.native arraycopyName ∈ rhTs ∧ Cond.static arraycopyName ∈ rhTs ∧ Cond.initialized "java/lang/System" ∈ rhTs) (ha : Γ.2.2.1 a = 15) (hb : Γ.2.2.1 b = 15)
    (h : 0 ≤ sp.toInt ∧ 0 ≤ dp.toInt ∧ 0 ≤ n.toInt ∧ sp.toInt + n.toInt ≤ (Γ.2.2.2 a : Int) ∧ dp.toInt + n.toInt ≤ (Γ.2.2.2 b : Int)) (hd1 : 1 ≤ d) (hcat : (S.map rhcat).sum ≤ 8) (k : rhF E d nL y cc rt Γ0 emb x (pc + 3) L S Γ (rhcp M a b sp.toNatClampNeg dp.toNatClampNeg n.toNatClampNeg)) : rhF E d nL y cc rt Γ0 emb x pc L (rhI n :: rhI dp :: rhR b :: rhI sp :: rhR a :: S) Γ M := by
  obtain ⟨g1, g2, g3, g4, g5⟩ := h
  have hnat : ∀ z : Int32, 0 ≤ z.toInt → (z.toNatClampNeg : Int) = z.toInt := fun z hz => by
    show ((z.toInt.toNat : Nat) : Int) = z.toInt
    omega
  have q1 := hnat sp g1
  have q2 := hnat dp g2
  have q3 := hnat n g3
  intro o ho
  obtain ⟨h1, h2, k⟩ := k o ho
  refine ⟨h1, h2, fun p l e s m args below meth c hX e1 e2 H locs ls hH hS hl' hA => ?_⟩
  have hts := hX.2.2.2.2.2.2.2.1
  obtain ⟨a1, a2⟩ := hH.2.2 a (by omega)
  obtain ⟨b1, b2⟩ := hH.2.2 b (by omega)
  rw [List.map_cons, List.map_cons, List.map_cons, List.map_cons, List.map_cons, rhv_ref a1, rhv_ref b1]
  have hca := hH.cell (r := a) (by omega)
  have hcb := hH.cell (r := b) (by omega)
  rw [rhc_I ha] at hca
  rw [rhc_I hb] at hcb
  refine va_copyi hX.1 hX.2.1 (hX.2.2.2.1.trans hl'.1.symm) hX.2.2.2.2.2.2.1 (hts _ hl.1) (hts _ hl.2.1) (hts _ hl.2.2.1) (hts _ hl.2.2.2) hX.2.2.2.2.2.2.2.2.1 hH.1 rhw_D hS (a - 1) (b - 1) 1 1 hca hcb rfl rfl rfl (rhpos g1) (rhpos g2) (rhpos g3) (by omega) (by omega) (fun i _ => rfl) hd1 ?_ hd (fun H1 locs1 hP1 _ hS1 => rh_sz (fun hz => ?_))
  · show ((S.map (rhv E)).map fun v => v.category).sum + _ ≤ 40 * d
    rw [rhcats]
    have : nativeFrameWords "java/lang/System" "arraycopy" 5 + 11 ≤ 32 := by decide +kernel
    omega
  · rw [rhw_set (M := M) (M' := rhcp M a b sp.toNatClampNeg dp.toNatClampNeg n.toNatClampNeg) b1 b2 (by rw [rhc_I hb]; congr 5; funext j; simp [rhcp, va_cpy]) (fun r hr => rhc_other (by funext j; simp [rhcp, hr]) rfl rfl)] at hP1
    exact k p l e s m args below meth c hX e1 e2 H1 locs1 ls (rhH.mk hP1 hH.2.2 (by omega) (by omega)) hS1 hl' hA
end RHE
end
section
/-! switches, comparisons of longs, guards, strings -/
/-- a guard -/
abbrev rhck {α : Type} (c : Prop) [Decidable c] (x : Option α) : Option α := if c then x else none
/-- a loop's fuel -/
def rhFU : Nat := 1000000000
def rhch (k : Nat) (i : Nat) : Int32 := (if k = 0 then rhby0 else rhby1).getD i 0
theorem rhzb {v : Int32} (h : v = 0 ∨ v = 1) : narrow .boolean (.int v) = .int v := by rcases h with h | h <;> rw [h] <;> rfl
theorem rhne {x k : Int32} {n : Int} (h : ¬ x = k) (hk : k.toInt = n) : n ≠ x.toInt := fun z => h (Int32.toInt_inj.mp (by omega))
theorem rhlkd : ∀ (ps : List (Int × Int)) (dflt k : Int), (∀ q ∈ ps, q.1 ≠ k) → Op.lookupswitch.offset ps dflt k = dflt
  | [], _, _, _ => rfl
  | (a, o) :: ps, dflt, k, h => by
    rw [Op.lookupswitch.offset_cons, if_neg (h (a, o) List.mem_cons_self)]
    exact rhlkd ps dflt k (fun q hq => h q (List.mem_cons_of_mem _ hq))
section RHQ
variable {E : rhE} {d nL : Nat} {y : MethodName} {cc : ByteArray} {rt : Option FieldType} {Γ0 : rhG} {α : Type} {emb : α → rhO} {x x1 x2 : Option α} {pc : Nat} {L L' : List (Nat × rhV)} {S S' : List rhV} {Γ : rhG} {M : rhM}
theorem rhF.ck {c : Prop} [Decidable c] (k : c → rhF E d nL y cc rt Γ0 emb x pc L S Γ M) : rhF E d nL y cc rt Γ0 emb (rhck c x) pc L S Γ M := rhF.ite k (fun _ => rhF.nope)
theorem rhF.tsIn {dflt lo hi off : Int} {offs : Array Int} {len : Nat} {v : Int32} (tgt : Nat) (n : Int) (hd : decode cc pc = .ok (.tableswitch dflt lo hi offs, len)) (hv : v.toInt = n) (h : lo ≤ n ∧ n ≤ hi) (ho : offs[(n - lo).toNat]? = some off) (ht : (pc : Int) + off = (tgt : Int)) (k : rhF E d nL y cc rt Γ0 emb x tgt L S Γ M) : rhF E d nL y cc rt Γ0 emb x pc L (rhI v :: S) Γ M :=
  rhF.step (fun p l e R s m args below meth c H locs cells slots Q ls hX hl kk => lv_tableIn (x := v) hX.1 hX.2.1 hd (by omega) (by omega) (by rw [hv]; exact ho) ht kk) k
theorem rhF.tsOut {dflt lo hi : Int} {offs : Array Int} {len : Nat} {v : Int32} (tgt : Nat) (hd : decode cc pc = .ok (.tableswitch dflt lo hi offs, len)) (h : v.toInt < lo ∨ hi < v.toInt) (ht : (pc : Int) + dflt = (tgt : Int)) (k : rhF E d nL y cc rt Γ0 emb x tgt L S Γ M) : rhF E d nL y cc rt Γ0 emb x pc L (rhI v :: S) Γ M :=
  rhF.step (fun p l e R s m args below meth c H locs cells slots Q ls hX hl kk => lv_tableOut (x := v) hX.1 hX.2.1 hd h ht kk) k
theorem rhF.ls {dflt off : Int} {ps : Array (Int × Int)} {len : Nat} {v : Int32} (tgt : Nat) (hd : decode cc pc = .ok (.lookupswitch dflt ps, len)) (hp : (ps.toList.zip (ps.toList.drop 1)).all (fun (a, next) => a.1 < next.1) = true) (ho : Op.lookupswitch.offset ps.toList dflt v.toInt = off) (ht : (pc : Int) + off = (tgt : Int)) (k : rhF E d nL y cc rt Γ0 emb x tgt L S Γ M) : rhF E d nL y cc rt Γ0 emb x pc L (rhI v :: S) Γ M :=
  rhF.step (fun p l e R s m args below meth c H locs cells slots Q ls hX hl kk => lv_lookup (x := v) hX.1 hX.2.1 hd hp ho ht kk) k
theorem rhF.lceq {v w : Int64} {off : Int} (tgt : Nat) (hd : decode cc pc = .ok (.lcmp, 1)) (hd2 : decode cc (pc + 1) = .ok (.ifCond .eq off, 3)) (ht : ((pc + 1 : Nat) : Int) + off = (tgt : Int)) (kt : v = w → rhF E d nL y cc rt Γ0 emb x1 tgt L S Γ M) (kf : ¬ v = w → rhF E d nL y cc rt Γ0 emb x2 (pc + 1 + 3) L S Γ M) : rhF E d nL y cc rt Γ0 emb (if v = w then x1 else x2) pc L (rhJ w :: rhJ v :: S) Γ M := by
  refine rhF.lcmp hd ?_
  by_cases h : v = w
  · rw [if_pos h]
    exact rhF.step (fun p l e R s m args below meth c H locs cells slots Q ls hX hl kk => lv_if_eq (tgt := tgt) hX.1 hX.2.1 hd2 ht (fun _ => kk) (fun q => absurd ((lg_cmp_eq v w).mpr h) q)) (kt h)
  · rw [if_neg h]
    exact rhF.step (fun p l e R s m args below meth c H locs cells slots Q ls hX hl kk => lv_if_eq (tgt := tgt) hX.1 hX.2.1 hd2 ht (fun q => absurd ((lg_cmp_eq v w).mp q) h) (fun _ => kk)) (kf h)
theorem rhF.lcne {v w : Int64} {off : Int} (tgt : Nat) (hd : decode cc pc = .ok (.lcmp, 1)) (hd2 : decode cc (pc + 1) = .ok (.ifCond .ne off, 3)) (ht : ((pc + 1 : Nat) : Int) + off = (tgt : Int)) (kt : v = w → rhF E d nL y cc rt Γ0 emb x1 (pc + 1 + 3) L S Γ M) (kf : ¬ v = w → rhF E d nL y cc rt Γ0 emb x2 tgt L S Γ M) : rhF E d nL y cc rt Γ0 emb (if v = w then x1 else x2) pc L (rhJ w :: rhJ v :: S) Γ M := by
  refine rhF.lcmp hd ?_
  by_cases h : v = w
  · rw [if_pos h]
    exact rhF.step (fun p l e R s m args below meth c H locs cells slots Q ls hX hl kk => lv_if_ne (tgt := tgt) hX.1 hX.2.1 hd2 ht (fun q => absurd ((lg_cmp_eq v w).mpr h) q) (fun _ => kk)) (kt h)
  · rw [if_neg h]
    exact rhF.step (fun p l e R s m args below meth c H locs cells slots Q ls hX hl kk => lv_if_ne (tgt := tgt) hX.1 hX.2.1 hd2 ht (fun _ => kk) (fun q => absurd ((lg_cmp_eq v w).mp q) h)) (kf h)
end RHQ
end
