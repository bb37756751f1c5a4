section
-- ===== PART A: goes FIRST, ahead of the names: the tables' words, and 'selects' of the private methods out of them =====
/-- a private method of a class that the tables say can be made, by its rows of tables_1 -/
def lw_okq (q : MethodName × Nat) : Prop := (q.1.cls ≠ "java/lang/invoke/MethodHandle" ∧ q.1.cls ≠ "java/lang/invoke/VarHandle") ∧ Cond.instantiable q.1.cls q.2 ∈ tables_1 ∧ Cond.privateMethod q.1 ∈ tables_1 ∧ Cond.instanceMethod q.1 ∈ tables_1
theorem lw_p0 : lw_okq (⟨"java/util/ArrayList", "add", "(Ljava/lang/Object;[Ljava/lang/Object;I)V"⟩, 3) := ⟨⟨by decide +kernel, by decide +kernel⟩, List.mem_of_getElem? (i := 36) (by decide +kernel), List.mem_of_getElem? (i := 99) (by decide +kernel), List.mem_of_getElem? (i := 100) (by decide +kernel)⟩
theorem lw_p1 : lw_okq (⟨"java/util/ArrayList", "grow", "()[Ljava/lang/Object;"⟩, 3) := ⟨⟨by decide +kernel, by decide +kernel⟩, List.mem_of_getElem? (i := 36) (by decide +kernel), List.mem_of_getElem? (i := 103) (by decide +kernel), List.mem_of_getElem? (i := 104) (by decide +kernel)⟩
theorem lw_p2 : lw_okq (⟨"java/util/ArrayList", "grow", "(I)[Ljava/lang/Object;"⟩, 3) := ⟨⟨by decide +kernel, by decide +kernel⟩, List.mem_of_getElem? (i := 36) (by decide +kernel), List.mem_of_getElem? (i := 107) (by decide +kernel), List.mem_of_getElem? (i := 108) (by decide +kernel)⟩
theorem lw_p3 : lw_okq (⟨"BuildingText$Edition", "find", "(I)I"⟩, 4) := ⟨⟨by decide +kernel, by decide +kernel⟩, List.mem_of_getElem? (i := 63) (by decide +kernel), List.mem_of_getElem? (i := 246) (by decide +kernel), List.mem_of_getElem? (i := 247) (by decide +kernel)⟩
theorem lw_p4 : lw_okq (⟨"BuildingText$Plan", "layOut", "(LBuildingText$Edition;)V"⟩, 2) := ⟨⟨by decide +kernel, by decide +kernel⟩, List.mem_of_getElem? (i := 198) (by decide +kernel), List.mem_of_getElem? (i := 278) (by decide +kernel), List.mem_of_getElem? (i := 279) (by decide +kernel)⟩
theorem lw_p5 : lw_okq (⟨"BuildingText$Plan", "layOutEmptyRows", "(I)V"⟩, 2) := ⟨⟨by decide +kernel, by decide +kernel⟩, List.mem_of_getElem? (i := 198) (by decide +kernel), List.mem_of_getElem? (i := 289) (by decide +kernel), List.mem_of_getElem? (i := 290) (by decide +kernel)⟩
theorem lw_p6 : lw_okq (⟨"BuildingText$Plan", "paintKind", "(LBuildingText$Edition;IC)V"⟩, 2) := ⟨⟨by decide +kernel, by decide +kernel⟩, List.mem_of_getElem? (i := 198) (by decide +kernel), List.mem_of_getElem? (i := 293) (by decide +kernel), List.mem_of_getElem? (i := 294) (by decide +kernel)⟩
theorem lw_p7 : lw_okq (⟨"BuildingText$Plan", "paintPlace", "(LBuildingText$Place;C)V"⟩, 2) := ⟨⟨by decide +kernel, by decide +kernel⟩, List.mem_of_getElem? (i := 198) (by decide +kernel), List.mem_of_getElem? (i := 297) (by decide +kernel), List.mem_of_getElem? (i := 298) (by decide +kernel)⟩
theorem lw_p8 : lw_okq (⟨"BuildingText$Plan", "paintStops", "(LBuildingText$Edition;)V"⟩, 2) := ⟨⟨by decide +kernel, by decide +kernel⟩, List.mem_of_getElem? (i := 198) (by decide +kernel), List.mem_of_getElem? (i := 301) (by decide +kernel), List.mem_of_getElem? (i := 302) (by decide +kernel)⟩
theorem lw_p9 : lw_okq (⟨"java/lang/Throwable", "fillInStackTrace", "(I)Ljava/lang/Throwable;"⟩, 6) := ⟨⟨by decide +kernel, by decide +kernel⟩, List.mem_of_getElem? (i := 357) (by decide +kernel), List.mem_of_getElem? (i := 355) (by decide +kernel), List.mem_of_getElem? (i := 356) (by decide +kernel)⟩
theorem lw_p10 : lw_okq (⟨"BuildingText$TextReader", "readLines", "()I"⟩, 6) := ⟨⟨by decide +kernel, by decide +kernel⟩, List.mem_of_getElem? (i := 410) (by decide +kernel), List.mem_of_getElem? (i := 435) (by decide +kernel), List.mem_of_getElem? (i := 436) (by decide +kernel)⟩
theorem lw_p11 : lw_okq (⟨"BuildingText$TextReader", "peek", "()I"⟩, 6) := ⟨⟨by decide +kernel, by decide +kernel⟩, List.mem_of_getElem? (i := 410) (by decide +kernel), List.mem_of_getElem? (i := 439) (by decide +kernel), List.mem_of_getElem? (i := 440) (by decide +kernel)⟩
theorem lw_p12 : lw_okq (⟨"BuildingText$TextReader", "readRack", "()V"⟩, 6) := ⟨⟨by decide +kernel, by decide +kernel⟩, List.mem_of_getElem? (i := 410) (by decide +kernel), List.mem_of_getElem? (i := 443) (by decide +kernel), List.mem_of_getElem? (i := 444) (by decide +kernel)⟩
theorem lw_p13 : lw_okq (⟨"BuildingText$TextReader", "readNewName", "()I"⟩, 6) := ⟨⟨by decide +kernel, by decide +kernel⟩, List.mem_of_getElem? (i := 410) (by decide +kernel), List.mem_of_getElem? (i := 447) (by decide +kernel), List.mem_of_getElem? (i := 448) (by decide +kernel)⟩
theorem lw_p14 : lw_okq (⟨"BuildingText$TextReader", "skip", "(I)V"⟩, 6) := ⟨⟨by decide +kernel, by decide +kernel⟩, List.mem_of_getElem? (i := 410) (by decide +kernel), List.mem_of_getElem? (i := 451) (by decide +kernel), List.mem_of_getElem? (i := 452) (by decide +kernel)⟩
theorem lw_p15 : lw_okq (⟨"BuildingText$TextReader", "refuse", "(I)V"⟩, 6) := ⟨⟨by decide +kernel, by decide +kernel⟩, List.mem_of_getElem? (i := 410) (by decide +kernel), List.mem_of_getElem? (i := 455) (by decide +kernel), List.mem_of_getElem? (i := 456) (by decide +kernel)⟩
def lw_privs_1 : List (MethodName × Nat) := [(⟨"java/util/ArrayList", "add", "(Ljava/lang/Object;[Ljava/lang/Object;I)V"⟩, 3), (⟨"java/util/ArrayList", "grow", "()[Ljava/lang/Object;"⟩, 3), (⟨"java/util/ArrayList", "grow", "(I)[Ljava/lang/Object;"⟩, 3), (⟨"BuildingText$Edition", "find", "(I)I"⟩, 4), (⟨"BuildingText$Plan", "layOut", "(LBuildingText$Edition;)V"⟩, 2), (⟨"BuildingText$Plan", "layOutEmptyRows", "(I)V"⟩, 2), (⟨"BuildingText$Plan", "paintKind", "(LBuildingText$Edition;IC)V"⟩, 2), (⟨"BuildingText$Plan", "paintPlace", "(LBuildingText$Place;C)V"⟩, 2), (⟨"BuildingText$Plan", "paintStops", "(LBuildingText$Edition;)V"⟩, 2), (⟨"java/lang/Throwable", "fillInStackTrace", "(I)Ljava/lang/Throwable;"⟩, 6), (⟨"BuildingText$TextReader", "readLines", "()I"⟩, 6), (⟨"BuildingText$TextReader", "peek", "()I"⟩, 6), (⟨"BuildingText$TextReader", "readRack", "()V"⟩, 6), (⟨"BuildingText$TextReader", "readNewName", "()I"⟩, 6), (⟨"BuildingText$TextReader", "skip", "(I)V"⟩, 6), (⟨"BuildingText$TextReader", "refuse", "(I)V"⟩, 6)]
theorem lw_r1 : ∀ q ∈ lw_privs_1, lw_okq q := List.forall_mem_cons.mpr ⟨lw_p0, List.forall_mem_cons.mpr ⟨lw_p1, List.forall_mem_cons.mpr ⟨lw_p2, List.forall_mem_cons.mpr ⟨lw_p3, List.forall_mem_cons.mpr ⟨lw_p4, List.forall_mem_cons.mpr ⟨lw_p5, List.forall_mem_cons.mpr ⟨lw_p6, List.forall_mem_cons.mpr ⟨lw_p7, List.forall_mem_cons.mpr ⟨lw_p8, List.forall_mem_cons.mpr ⟨lw_p9, List.forall_mem_cons.mpr ⟨lw_p10, List.forall_mem_cons.mpr ⟨lw_p11, List.forall_mem_cons.mpr ⟨lw_p12, List.forall_mem_cons.mpr ⟨lw_p13, List.forall_mem_cons.mpr ⟨lw_p14, List.forall_mem_cons.mpr ⟨lw_p15, fun _ h => absurd h List.not_mem_nil⟩⟩⟩⟩⟩⟩⟩⟩⟩⟩⟩⟩⟩⟩⟩⟩
theorem lw_p16 : lw_okq (⟨"BuildingText$TextReader", "readName", "()I"⟩, 6) := ⟨⟨by decide +kernel, by decide +kernel⟩, List.mem_of_getElem? (i := 410) (by decide +kernel), List.mem_of_getElem? (i := 459) (by decide +kernel), List.mem_of_getElem? (i := 460) (by decide +kernel)⟩
theorem lw_p17 : lw_okq (⟨"BuildingText$TextReader", "readArea", "(II)LBuildingText$Place;"⟩, 6) := ⟨⟨by decide +kernel, by decide +kernel⟩, List.mem_of_getElem? (i := 410) (by decide +kernel), List.mem_of_getElem? (i := 473) (by decide +kernel), List.mem_of_getElem? (i := 474) (by decide +kernel)⟩
theorem lw_p18 : lw_okq (⟨"BuildingText$TextReader", "readNumber", "(II)I"⟩, 6) := ⟨⟨by decide +kernel, by decide +kernel⟩, List.mem_of_getElem? (i := 410) (by decide +kernel), List.mem_of_getElem? (i := 477) (by decide +kernel), List.mem_of_getElem? (i := 478) (by decide +kernel)⟩
theorem lw_p19 : lw_okq (⟨"BuildingText$TextReader", "endsLine", "()Z"⟩, 6) := ⟨⟨by decide +kernel, by decide +kernel⟩, List.mem_of_getElem? (i := 410) (by decide +kernel), List.mem_of_getElem? (i := 551) (by decide +kernel), List.mem_of_getElem? (i := 552) (by decide +kernel)⟩
theorem lw_p20 : lw_okq (⟨"BuildingText$TextReader", "readBin", "()V"⟩, 6) := ⟨⟨by decide +kernel, by decide +kernel⟩, List.mem_of_getElem? (i := 410) (by decide +kernel), List.mem_of_getElem? (i := 556) (by decide +kernel), List.mem_of_getElem? (i := 557) (by decide +kernel)⟩
theorem lw_p21 : lw_okq (⟨"BuildingText$TextReader", "readUsedName", "(II)I"⟩, 6) := ⟨⟨by decide +kernel, by decide +kernel⟩, List.mem_of_getElem? (i := 410) (by decide +kernel), List.mem_of_getElem? (i := 560) (by decide +kernel), List.mem_of_getElem? (i := 561) (by decide +kernel)⟩
theorem lw_p22 : lw_okq (⟨"BuildingText$TextReader", "readPiece", "()V"⟩, 6) := ⟨⟨by decide +kernel, by decide +kernel⟩, List.mem_of_getElem? (i := 410) (by decide +kernel), List.mem_of_getElem? (i := 565) (by decide +kernel), List.mem_of_getElem? (i := 566) (by decide +kernel)⟩
theorem lw_p23 : lw_okq (⟨"BuildingText$TextReader", "readWay", "()V"⟩, 6) := ⟨⟨by decide +kernel, by decide +kernel⟩, List.mem_of_getElem? (i := 410) (by decide +kernel), List.mem_of_getElem? (i := 569) (by decide +kernel), List.mem_of_getElem? (i := 570) (by decide +kernel)⟩
theorem lw_p24 : lw_okq (⟨"BuildingText$Edition", "addWay", "(IIZ)V"⟩, 4) := ⟨⟨by decide +kernel, by decide +kernel⟩, List.mem_of_getElem? (i := 63) (by decide +kernel), List.mem_of_getElem? (i := 573) (by decide +kernel), List.mem_of_getElem? (i := 574) (by decide +kernel)⟩
theorem lw_p25 : lw_okq (⟨"BuildingText$TextReader", "readAtPiece", "(I)V"⟩, 6) := ⟨⟨by decide +kernel, by decide +kernel⟩, List.mem_of_getElem? (i := 410) (by decide +kernel), List.mem_of_getElem? (i := 600) (by decide +kernel), List.mem_of_getElem? (i := 601) (by decide +kernel)⟩
theorem lw_p26 : lw_okq (⟨"BuildingText$TextReader", "addAtPiece", "(III)V"⟩, 6) := ⟨⟨by decide +kernel, by decide +kernel⟩, List.mem_of_getElem? (i := 410) (by decide +kernel), List.mem_of_getElem? (i := 604) (by decide +kernel), List.mem_of_getElem? (i := 605) (by decide +kernel)⟩
theorem lw_p27 : lw_okq (⟨"BuildingText$TextReader", "readLift", "()V"⟩, 6) := ⟨⟨by decide +kernel, by decide +kernel⟩, List.mem_of_getElem? (i := 410) (by decide +kernel), List.mem_of_getElem? (i := 608) (by decide +kernel), List.mem_of_getElem? (i := 609) (by decide +kernel)⟩
theorem lw_p28 : lw_okq (⟨"BuildingText$Edition", "addStop", "(II)V"⟩, 4) := ⟨⟨by decide +kernel, by decide +kernel⟩, List.mem_of_getElem? (i := 63) (by decide +kernel), List.mem_of_getElem? (i := 613) (by decide +kernel), List.mem_of_getElem? (i := 614) (by decide +kernel)⟩
theorem lw_p29 : lw_okq (⟨"BuildingText$TextReader", "readServe", "()V"⟩, 6) := ⟨⟨by decide +kernel, by decide +kernel⟩, List.mem_of_getElem? (i := 410) (by decide +kernel), List.mem_of_getElem? (i := 617) (by decide +kernel), List.mem_of_getElem? (i := 618) (by decide +kernel)⟩
theorem lw_p30 : lw_okq (⟨"BuildingText$Edition", "addServe", "(II)V"⟩, 4) := ⟨⟨by decide +kernel, by decide +kernel⟩, List.mem_of_getElem? (i := 63) (by decide +kernel), List.mem_of_getElem? (i := 621) (by decide +kernel), List.mem_of_getElem? (i := 622) (by decide +kernel)⟩
theorem lw_p31 : lw_okq (⟨"BuildingText$Edition", "isTooLarge", "()Z"⟩, 4) := ⟨⟨by decide +kernel, by decide +kernel⟩, List.mem_of_getElem? (i := 63) (by decide +kernel), List.mem_of_getElem? (i := 625) (by decide +kernel), List.mem_of_getElem? (i := 626) (by decide +kernel)⟩
def lw_privs_2 : List (MethodName × Nat) := [(⟨"BuildingText$TextReader", "readName", "()I"⟩, 6), (⟨"BuildingText$TextReader", "readArea", "(II)LBuildingText$Place;"⟩, 6), (⟨"BuildingText$TextReader", "readNumber", "(II)I"⟩, 6), (⟨"BuildingText$TextReader", "endsLine", "()Z"⟩, 6), (⟨"BuildingText$TextReader", "readBin", "()V"⟩, 6), (⟨"BuildingText$TextReader", "readUsedName", "(II)I"⟩, 6), (⟨"BuildingText$TextReader", "readPiece", "()V"⟩, 6), (⟨"BuildingText$TextReader", "readWay", "()V"⟩, 6), (⟨"BuildingText$Edition", "addWay", "(IIZ)V"⟩, 4), (⟨"BuildingText$TextReader", "readAtPiece", "(I)V"⟩, 6), (⟨"BuildingText$TextReader", "addAtPiece", "(III)V"⟩, 6), (⟨"BuildingText$TextReader", "readLift", "()V"⟩, 6), (⟨"BuildingText$Edition", "addStop", "(II)V"⟩, 4), (⟨"BuildingText$TextReader", "readServe", "()V"⟩, 6), (⟨"BuildingText$Edition", "addServe", "(II)V"⟩, 4), (⟨"BuildingText$Edition", "isTooLarge", "()Z"⟩, 4)]
theorem lw_r2 : ∀ q ∈ lw_privs_2, lw_okq q := List.forall_mem_cons.mpr ⟨lw_p16, List.forall_mem_cons.mpr ⟨lw_p17, List.forall_mem_cons.mpr ⟨lw_p18, List.forall_mem_cons.mpr ⟨lw_p19, List.forall_mem_cons.mpr ⟨lw_p20, List.forall_mem_cons.mpr ⟨lw_p21, List.forall_mem_cons.mpr ⟨lw_p22, List.forall_mem_cons.mpr ⟨lw_p23, List.forall_mem_cons.mpr ⟨lw_p24, List.forall_mem_cons.mpr ⟨lw_p25, List.forall_mem_cons.mpr ⟨lw_p26, List.forall_mem_cons.mpr ⟨lw_p27, List.forall_mem_cons.mpr ⟨lw_p28, List.forall_mem_cons.mpr ⟨lw_p29, List.forall_mem_cons.mpr ⟨lw_p30, List.forall_mem_cons.mpr ⟨lw_p31, fun _ h => absurd h List.not_mem_nil⟩⟩⟩⟩⟩⟩⟩⟩⟩⟩⟩⟩⟩⟩⟩⟩
theorem lw_p32 : lw_okq (⟨"BuildingText", "take", "(LBuildingText$Edition;)V"⟩, 9) := ⟨⟨by decide +kernel, by decide +kernel⟩, List.mem_of_getElem? (i := 28) (by decide +kernel), List.mem_of_getElem? (i := 630) (by decide +kernel), List.mem_of_getElem? (i := 631) (by decide +kernel)⟩
theorem lw_p33 : lw_okq (⟨"BuildingText$Going", "learn", "(LBuildingText$Edition;)V"⟩, 7) := ⟨⟨by decide +kernel, by decide +kernel⟩, List.mem_of_getElem? (i := 156) (by decide +kernel), List.mem_of_getElem? (i := 634) (by decide +kernel), List.mem_of_getElem? (i := 635) (by decide +kernel)⟩
theorem lw_p34 : lw_okq (⟨"BuildingText$Going", "forget", "()V"⟩, 7) := ⟨⟨by decide +kernel, by decide +kernel⟩, List.mem_of_getElem? (i := 156) (by decide +kernel), List.mem_of_getElem? (i := 638) (by decide +kernel), List.mem_of_getElem? (i := 639) (by decide +kernel)⟩
theorem lw_p35 : lw_okq (⟨"BuildingText$Going", "learnWays", "(LBuildingText$Edition;)V"⟩, 7) := ⟨⟨by decide +kernel, by decide +kernel⟩, List.mem_of_getElem? (i := 156) (by decide +kernel), List.mem_of_getElem? (i := 643) (by decide +kernel), List.mem_of_getElem? (i := 644) (by decide +kernel)⟩
theorem lw_p36 : lw_okq (⟨"BuildingText$Going", "learnStep", "(II)V"⟩, 7) := ⟨⟨by decide +kernel, by decide +kernel⟩, List.mem_of_getElem? (i := 156) (by decide +kernel), List.mem_of_getElem? (i := 649) (by decide +kernel), List.mem_of_getElem? (i := 650) (by decide +kernel)⟩
theorem lw_p37 : lw_okq (⟨"BuildingText$Going", "learnLifts", "(LBuildingText$Edition;)V"⟩, 7) := ⟨⟨by decide +kernel, by decide +kernel⟩, List.mem_of_getElem? (i := 156) (by decide +kernel), List.mem_of_getElem? (i := 653) (by decide +kernel), List.mem_of_getElem? (i := 654) (by decide +kernel)⟩
theorem lw_p38 : lw_okq (⟨"BuildingText$Going", "spread", "([JJ)J"⟩, 7) := ⟨⟨by decide +kernel, by decide +kernel⟩, List.mem_of_getElem? (i := 156) (by decide +kernel), List.mem_of_getElem? (i := 658) (by decide +kernel), List.mem_of_getElem? (i := 659) (by decide +kernel)⟩
theorem lw_p39 : lw_okq (⟨"BuildingText$Going", "widen", "([JJ)J"⟩, 7) := ⟨⟨by decide +kernel, by decide +kernel⟩, List.mem_of_getElem? (i := 156) (by decide +kernel), List.mem_of_getElem? (i := 662) (by decide +kernel), List.mem_of_getElem? (i := 663) (by decide +kernel)⟩
theorem lw_p40 : lw_okq (⟨"BuildingText$Inspection", "inspect", "(LBuildingText$Edition;LBuildingText$Going;)V"⟩, 1) := ⟨⟨by decide +kernel, by decide +kernel⟩, List.mem_of_getElem? (i := 185) (by decide +kernel), List.mem_of_getElem? (i := 666) (by decide +kernel), List.mem_of_getElem? (i := 667) (by decide +kernel)⟩
theorem lw_p41 : lw_okq (⟨"BuildingText$Inspection", "inspectArea", "(LBuildingText$Edition;I)V"⟩, 1) := ⟨⟨by decide +kernel, by decide +kernel⟩, List.mem_of_getElem? (i := 185) (by decide +kernel), List.mem_of_getElem? (i := 677) (by decide +kernel), List.mem_of_getElem? (i := 678) (by decide +kernel)⟩
theorem lw_p42 : lw_okq (⟨"BuildingText$Place", "sharesArea", "(LBuildingText$Place;)Z"⟩, 11) := ⟨⟨by decide +kernel, by decide +kernel⟩, List.mem_of_getElem? (i := 482) (by decide +kernel), List.mem_of_getElem? (i := 681) (by decide +kernel), List.mem_of_getElem? (i := 682) (by decide +kernel)⟩
theorem lw_p43 : lw_okq (⟨"BuildingText$Inspection", "inspectBin", "(LBuildingText$Edition;ILBuildingText$Going;)V"⟩, 1) := ⟨⟨by decide +kernel, by decide +kernel⟩, List.mem_of_getElem? (i := 185) (by decide +kernel), List.mem_of_getElem? (i := 705) (by decide +kernel), List.mem_of_getElem? (i := 706) (by decide +kernel)⟩
theorem lw_p44 : lw_okq (⟨"BuildingText$Place", "contains", "(LBuildingText$Place;)Z"⟩, 11) := ⟨⟨by decide +kernel, by decide +kernel⟩, List.mem_of_getElem? (i := 482) (by decide +kernel), List.mem_of_getElem? (i := 709) (by decide +kernel), List.mem_of_getElem? (i := 710) (by decide +kernel)⟩
theorem lw_p45 : lw_okq (⟨"BuildingText$Going", "isReached", "(I)Z"⟩, 7) := ⟨⟨by decide +kernel, by decide +kernel⟩, List.mem_of_getElem? (i := 156) (by decide +kernel), List.mem_of_getElem? (i := 717) (by decide +kernel), List.mem_of_getElem? (i := 718) (by decide +kernel)⟩
theorem lw_p46 : lw_okq (⟨"BuildingText$Inspection", "inspectPiece", "(LBuildingText$Edition;ILBuildingText$Going;)V"⟩, 1) := ⟨⟨by decide +kernel, by decide +kernel⟩, List.mem_of_getElem? (i := 185) (by decide +kernel), List.mem_of_getElem? (i := 721) (by decide +kernel), List.mem_of_getElem? (i := 722) (by decide +kernel)⟩
theorem lw_p47 : lw_okq (⟨"BuildingText$Going", "isExiting", "(I)Z"⟩, 7) := ⟨⟨by decide +kernel, by decide +kernel⟩, List.mem_of_getElem? (i := 156) (by decide +kernel), List.mem_of_getElem? (i := 725) (by decide +kernel), List.mem_of_getElem? (i := 726) (by decide +kernel)⟩
def lw_privs_3 : List (MethodName × Nat) := [(⟨"BuildingText", "take", "(LBuildingText$Edition;)V"⟩, 9), (⟨"BuildingText$Going", "learn", "(LBuildingText$Edition;)V"⟩, 7), (⟨"BuildingText$Going", "forget", "()V"⟩, 7), (⟨"BuildingText$Going", "learnWays", "(LBuildingText$Edition;)V"⟩, 7), (⟨"BuildingText$Going", "learnStep", "(II)V"⟩, 7), (⟨"BuildingText$Going", "learnLifts", "(LBuildingText$Edition;)V"⟩, 7), (⟨"BuildingText$Going", "spread", "([JJ)J"⟩, 7), (⟨"BuildingText$Going", "widen", "([JJ)J"⟩, 7), (⟨"BuildingText$Inspection", "inspect", "(LBuildingText$Edition;LBuildingText$Going;)V"⟩, 1), (⟨"BuildingText$Inspection", "inspectArea", "(LBuildingText$Edition;I)V"⟩, 1), (⟨"BuildingText$Place", "sharesArea", "(LBuildingText$Place;)Z"⟩, 11), (⟨"BuildingText$Inspection", "inspectBin", "(LBuildingText$Edition;ILBuildingText$Going;)V"⟩, 1), (⟨"BuildingText$Place", "contains", "(LBuildingText$Place;)Z"⟩, 11), (⟨"BuildingText$Going", "isReached", "(I)Z"⟩, 7), (⟨"BuildingText$Inspection", "inspectPiece", "(LBuildingText$Edition;ILBuildingText$Going;)V"⟩, 1), (⟨"BuildingText$Going", "isExiting", "(I)Z"⟩, 7)]
theorem lw_r3 : ∀ q ∈ lw_privs_3, lw_okq q := List.forall_mem_cons.mpr ⟨lw_p32, List.forall_mem_cons.mpr ⟨lw_p33, List.forall_mem_cons.mpr ⟨lw_p34, List.forall_mem_cons.mpr ⟨lw_p35, List.forall_mem_cons.mpr ⟨lw_p36, List.forall_mem_cons.mpr ⟨lw_p37, List.forall_mem_cons.mpr ⟨lw_p38, List.forall_mem_cons.mpr ⟨lw_p39, List.forall_mem_cons.mpr ⟨lw_p40, List.forall_mem_cons.mpr ⟨lw_p41, List.forall_mem_cons.mpr ⟨lw_p42, List.forall_mem_cons.mpr ⟨lw_p43, List.forall_mem_cons.mpr ⟨lw_p44, List.forall_mem_cons.mpr ⟨lw_p45, List.forall_mem_cons.mpr ⟨lw_p46, List.forall_mem_cons.mpr ⟨lw_p47, fun _ h => absurd h List.not_mem_nil⟩⟩⟩⟩⟩⟩⟩⟩⟩⟩⟩⟩⟩⟩⟩⟩
theorem lw_p48 : lw_okq (⟨"BuildingText$Inspection", "inspectAtPiece", "(LBuildingText$Edition;I)V"⟩, 1) := ⟨⟨by decide +kernel, by decide +kernel⟩, List.mem_of_getElem? (i := 185) (by decide +kernel), List.mem_of_getElem? (i := 729) (by decide +kernel), List.mem_of_getElem? (i := 730) (by decide +kernel)⟩
theorem lw_p49 : lw_okq (⟨"BuildingText$Edition", "placeOrNull", "(I)LBuildingText$Place;"⟩, 4) := ⟨⟨by decide +kernel, by decide +kernel⟩, List.mem_of_getElem? (i := 63) (by decide +kernel), List.mem_of_getElem? (i := 740) (by decide +kernel), List.mem_of_getElem? (i := 741) (by decide +kernel)⟩
theorem lw_p50 : lw_okq (⟨"BuildingText$Edition", "findPiece", "(I)I"⟩, 4) := ⟨⟨by decide +kernel, by decide +kernel⟩, List.mem_of_getElem? (i := 63) (by decide +kernel), List.mem_of_getElem? (i := 779) (by decide +kernel), List.mem_of_getElem? (i := 780) (by decide +kernel)⟩
theorem lw_p51 : lw_okq (⟨"BuildingText$Going", "countOnward", "(I)I"⟩, 7) := ⟨⟨by decide +kernel, by decide +kernel⟩, List.mem_of_getElem? (i := 156) (by decide +kernel), List.mem_of_getElem? (i := 786) (by decide +kernel), List.mem_of_getElem? (i := 787) (by decide +kernel)⟩
theorem lw_p52 : lw_okq (⟨"BuildingText$Going", "stepsToDock", "(I)I"⟩, 7) := ⟨⟨by decide +kernel, by decide +kernel⟩, List.mem_of_getElem? (i := 156) (by decide +kernel), List.mem_of_getElem? (i := 796) (by decide +kernel), List.mem_of_getElem? (i := 797) (by decide +kernel)⟩
theorem lw_p53 : lw_okq (⟨"BuildingText", "editionOrNull", "(I)LBuildingText$Edition;"⟩, 9) := ⟨⟨by decide +kernel, by decide +kernel⟩, List.mem_of_getElem? (i := 28) (by decide +kernel), List.mem_of_getElem? (i := 817) (by decide +kernel), List.mem_of_getElem? (i := 818) (by decide +kernel)⟩
theorem lw_p54 : lw_okq (⟨"BuildingText$Edition", "keepsBin", "(LBuildingText$Place;LBuildingText$Edition;)Z"⟩, 4) := ⟨⟨by decide +kernel, by decide +kernel⟩, List.mem_of_getElem? (i := 63) (by decide +kernel), List.mem_of_getElem? (i := 831) (by decide +kernel), List.mem_of_getElem? (i := 832) (by decide +kernel)⟩
theorem lw_p55 : lw_okq (⟨"BuildingText$Place", "hasPointsOf", "(LBuildingText$Place;)Z"⟩, 11) := ⟨⟨by decide +kernel, by decide +kernel⟩, List.mem_of_getElem? (i := 482) (by decide +kernel), List.mem_of_getElem? (i := 837) (by decide +kernel), List.mem_of_getElem? (i := 838) (by decide +kernel)⟩
theorem lw_p56 : lw_okq (⟨"BuildingTextModel", "line", "()Z"⟩, 67) := ⟨⟨by decide +kernel, by decide +kernel⟩, List.mem_of_getElem? (i := 857) (by decide +kernel), List.mem_of_getElem? (i := 1081) (by decide +kernel), List.mem_of_getElem? (i := 1082) (by decide +kernel)⟩
theorem lw_p57 : lw_okq (⟨"BuildingTextModel", "next", "()I"⟩, 67) := ⟨⟨by decide +kernel, by decide +kernel⟩, List.mem_of_getElem? (i := 857) (by decide +kernel), List.mem_of_getElem? (i := 1085) (by decide +kernel), List.mem_of_getElem? (i := 1086) (by decide +kernel)⟩
theorem lw_p58 : lw_okq (⟨"BuildingTextModel", "wrong", "(I)Z"⟩, 67) := ⟨⟨by decide +kernel, by decide +kernel⟩, List.mem_of_getElem? (i := 857) (by decide +kernel), List.mem_of_getElem? (i := 1092) (by decide +kernel), List.mem_of_getElem? (i := 1093) (by decide +kernel)⟩
theorem lw_p59 : lw_okq (⟨"BuildingTextModel", "takesPlace", "(I)Z"⟩, 67) := ⟨⟨by decide +kernel, by decide +kernel⟩, List.mem_of_getElem? (i := 857) (by decide +kernel), List.mem_of_getElem? (i := 1096) (by decide +kernel), List.mem_of_getElem? (i := 1097) (by decide +kernel)⟩
theorem lw_p60 : lw_okq (⟨"BuildingTextModel", "takesRack", "()Z"⟩, 67) := ⟨⟨by decide +kernel, by decide +kernel⟩, List.mem_of_getElem? (i := 857) (by decide +kernel), List.mem_of_getElem? (i := 1100) (by decide +kernel), List.mem_of_getElem? (i := 1101) (by decide +kernel)⟩
theorem lw_p61 : lw_okq (⟨"BuildingTextModel", "takesNew", "()Z"⟩, 67) := ⟨⟨by decide +kernel, by decide +kernel⟩, List.mem_of_getElem? (i := 857) (by decide +kernel), List.mem_of_getElem? (i := 1104) (by decide +kernel), List.mem_of_getElem? (i := 1105) (by decide +kernel)⟩
theorem lw_p62 : lw_okq (⟨"BuildingTextModel", "takesName", "()Z"⟩, 67) := ⟨⟨by decide +kernel, by decide +kernel⟩, List.mem_of_getElem? (i := 857) (by decide +kernel), List.mem_of_getElem? (i := 1108) (by decide +kernel), List.mem_of_getElem? (i := 1109) (by decide +kernel)⟩
theorem lw_p63 : lw_okq (⟨"BuildingTextModel", "takes", "(I)Z"⟩, 67) := ⟨⟨by decide +kernel, by decide +kernel⟩, List.mem_of_getElem? (i := 857) (by decide +kernel), List.mem_of_getElem? (i := 1112) (by decide +kernel), List.mem_of_getElem? (i := 1113) (by decide +kernel)⟩
def lw_privs_4 : List (MethodName × Nat) := [(⟨"BuildingText$Inspection", "inspectAtPiece", "(LBuildingText$Edition;I)V"⟩, 1), (⟨"BuildingText$Edition", "placeOrNull", "(I)LBuildingText$Place;"⟩, 4), (⟨"BuildingText$Edition", "findPiece", "(I)I"⟩, 4), (⟨"BuildingText$Going", "countOnward", "(I)I"⟩, 7), (⟨"BuildingText$Going", "stepsToDock", "(I)I"⟩, 7), (⟨"BuildingText", "editionOrNull", "(I)LBuildingText$Edition;"⟩, 9), (⟨"BuildingText$Edition", "keepsBin", "(LBuildingText$Place;LBuildingText$Edition;)Z"⟩, 4), (⟨"BuildingText$Place", "hasPointsOf", "(LBuildingText$Place;)Z"⟩, 11), (⟨"BuildingTextModel", "line", "()Z"⟩, 67), (⟨"BuildingTextModel", "next", "()I"⟩, 67), (⟨"BuildingTextModel", "wrong", "(I)Z"⟩, 67), (⟨"BuildingTextModel", "takesPlace", "(I)Z"⟩, 67), (⟨"BuildingTextModel", "takesRack", "()Z"⟩, 67), (⟨"BuildingTextModel", "takesNew", "()Z"⟩, 67), (⟨"BuildingTextModel", "takesName", "()Z"⟩, 67), (⟨"BuildingTextModel", "takes", "(I)Z"⟩, 67)]
theorem lw_r4 : ∀ q ∈ lw_privs_4, lw_okq q := List.forall_mem_cons.mpr ⟨lw_p48, List.forall_mem_cons.mpr ⟨lw_p49, List.forall_mem_cons.mpr ⟨lw_p50, List.forall_mem_cons.mpr ⟨lw_p51, List.forall_mem_cons.mpr ⟨lw_p52, List.forall_mem_cons.mpr ⟨lw_p53, List.forall_mem_cons.mpr ⟨lw_p54, List.forall_mem_cons.mpr ⟨lw_p55, List.forall_mem_cons.mpr ⟨lw_p56, List.forall_mem_cons.mpr ⟨lw_p57, List.forall_mem_cons.mpr ⟨lw_p58, List.forall_mem_cons.mpr ⟨lw_p59, List.forall_mem_cons.mpr ⟨lw_p60, List.forall_mem_cons.mpr ⟨lw_p61, List.forall_mem_cons.mpr ⟨lw_p62, List.forall_mem_cons.mpr ⟨lw_p63, fun _ h => absurd h List.not_mem_nil⟩⟩⟩⟩⟩⟩⟩⟩⟩⟩⟩⟩⟩⟩⟩⟩
theorem lw_p64 : lw_okq (⟨"BuildingTextModel", "isLetter", "()Z"⟩, 67) := ⟨⟨by decide +kernel, by decide +kernel⟩, List.mem_of_getElem? (i := 857) (by decide +kernel), List.mem_of_getElem? (i := 1116) (by decide +kernel), List.mem_of_getElem? (i := 1117) (by decide +kernel)⟩
theorem lw_p65 : lw_okq (⟨"BuildingTextModel", "isDigit", "()Z"⟩, 67) := ⟨⟨by decide +kernel, by decide +kernel⟩, List.mem_of_getElem? (i := 857) (by decide +kernel), List.mem_of_getElem? (i := 1120) (by decide +kernel), List.mem_of_getElem? (i := 1121) (by decide +kernel)⟩
theorem lw_p66 : lw_okq (⟨"BuildingTextModel", "numberOf", "(I)I"⟩, 67) := ⟨⟨by decide +kernel, by decide +kernel⟩, List.mem_of_getElem? (i := 857) (by decide +kernel), List.mem_of_getElem? (i := 1124) (by decide +kernel), List.mem_of_getElem? (i := 1125) (by decide +kernel)⟩
theorem lw_p67 : lw_okq (⟨"BuildingTextModel", "takesArea", "()Z"⟩, 67) := ⟨⟨by decide +kernel, by decide +kernel⟩, List.mem_of_getElem? (i := 857) (by decide +kernel), List.mem_of_getElem? (i := 1128) (by decide +kernel), List.mem_of_getElem? (i := 1129) (by decide +kernel)⟩
theorem lw_p68 : lw_okq (⟨"BuildingTextModel", "takesNumber", "(II)Z"⟩, 67) := ⟨⟨by decide +kernel, by decide +kernel⟩, List.mem_of_getElem? (i := 857) (by decide +kernel), List.mem_of_getElem? (i := 1132) (by decide +kernel), List.mem_of_getElem? (i := 1133) (by decide +kernel)⟩
theorem lw_p69 : lw_okq (⟨"BuildingTextModel", "takesBin", "()Z"⟩, 67) := ⟨⟨by decide +kernel, by decide +kernel⟩, List.mem_of_getElem? (i := 857) (by decide +kernel), List.mem_of_getElem? (i := 1140) (by decide +kernel), List.mem_of_getElem? (i := 1141) (by decide +kernel)⟩
theorem lw_p70 : lw_okq (⟨"BuildingTextModel", "takesOld", "(I)Z"⟩, 67) := ⟨⟨by decide +kernel, by decide +kernel⟩, List.mem_of_getElem? (i := 857) (by decide +kernel), List.mem_of_getElem? (i := 1144) (by decide +kernel), List.mem_of_getElem? (i := 1145) (by decide +kernel)⟩
theorem lw_p71 : lw_okq (⟨"BuildingTextModel", "takesPiece", "()Z"⟩, 67) := ⟨⟨by decide +kernel, by decide +kernel⟩, List.mem_of_getElem? (i := 857) (by decide +kernel), List.mem_of_getElem? (i := 1148) (by decide +kernel), List.mem_of_getElem? (i := 1149) (by decide +kernel)⟩
theorem lw_p72 : lw_okq (⟨"BuildingTextModel", "takesLift", "()Z"⟩, 67) := ⟨⟨by decide +kernel, by decide +kernel⟩, List.mem_of_getElem? (i := 857) (by decide +kernel), List.mem_of_getElem? (i := 1152) (by decide +kernel), List.mem_of_getElem? (i := 1153) (by decide +kernel)⟩
theorem lw_p73 : lw_okq (⟨"BuildingTextModel", "takesAtPiece", "()Z"⟩, 67) := ⟨⟨by decide +kernel, by decide +kernel⟩, List.mem_of_getElem? (i := 857) (by decide +kernel), List.mem_of_getElem? (i := 1156) (by decide +kernel), List.mem_of_getElem? (i := 1157) (by decide +kernel)⟩
theorem lw_p74 : lw_okq (⟨"BuildingTextModel", "addPlace", "(I)V"⟩, 67) := ⟨⟨by decide +kernel, by decide +kernel⟩, List.mem_of_getElem? (i := 857) (by decide +kernel), List.mem_of_getElem? (i := 1160) (by decide +kernel), List.mem_of_getElem? (i := 1161) (by decide +kernel)⟩
theorem lw_p75 : lw_okq (⟨"BuildingTextModel", "takesWay", "()Z"⟩, 67) := ⟨⟨by decide +kernel, by decide +kernel⟩, List.mem_of_getElem? (i := 857) (by decide +kernel), List.mem_of_getElem? (i := 1164) (by decide +kernel), List.mem_of_getElem? (i := 1165) (by decide +kernel)⟩
theorem lw_p76 : lw_okq (⟨"BuildingTextModel", "takesServed", "()Z"⟩, 67) := ⟨⟨by decide +kernel, by decide +kernel⟩, List.mem_of_getElem? (i := 857) (by decide +kernel), List.mem_of_getElem? (i := 1168) (by decide +kernel), List.mem_of_getElem? (i := 1169) (by decide +kernel)⟩
theorem lw_p77 : lw_okq (⟨"BuildingTextModel", "keep", "(II)V"⟩, 67) := ⟨⟨by decide +kernel, by decide +kernel⟩, List.mem_of_getElem? (i := 857) (by decide +kernel), List.mem_of_getElem? (i := 1172) (by decide +kernel), List.mem_of_getElem? (i := 1173) (by decide +kernel)⟩
theorem lw_p78 : lw_okq (⟨"BuildingTextModel", "here", "()I"⟩, 67) := ⟨⟨by decide +kernel, by decide +kernel⟩, List.mem_of_getElem? (i := 857) (by decide +kernel), List.mem_of_getElem? (i := 1180) (by decide +kernel), List.mem_of_getElem? (i := 1181) (by decide +kernel)⟩
theorem lw_p79 : lw_okq (⟨"BuildingTextModel", "base", "()I"⟩, 67) := ⟨⟨by decide +kernel, by decide +kernel⟩, List.mem_of_getElem? (i := 857) (by decide +kernel), List.mem_of_getElem? (i := 1184) (by decide +kernel), List.mem_of_getElem? (i := 1185) (by decide +kernel)⟩
def lw_privs_5 : List (MethodName × Nat) := [(⟨"BuildingTextModel", "isLetter", "()Z"⟩, 67), (⟨"BuildingTextModel", "isDigit", "()Z"⟩, 67), (⟨"BuildingTextModel", "numberOf", "(I)I"⟩, 67), (⟨"BuildingTextModel", "takesArea", "()Z"⟩, 67), (⟨"BuildingTextModel", "takesNumber", "(II)Z"⟩, 67), (⟨"BuildingTextModel", "takesBin", "()Z"⟩, 67), (⟨"BuildingTextModel", "takesOld", "(I)Z"⟩, 67), (⟨"BuildingTextModel", "takesPiece", "()Z"⟩, 67), (⟨"BuildingTextModel", "takesLift", "()Z"⟩, 67), (⟨"BuildingTextModel", "takesAtPiece", "()Z"⟩, 67), (⟨"BuildingTextModel", "addPlace", "(I)V"⟩, 67), (⟨"BuildingTextModel", "takesWay", "()Z"⟩, 67), (⟨"BuildingTextModel", "takesServed", "()Z"⟩, 67), (⟨"BuildingTextModel", "keep", "(II)V"⟩, 67), (⟨"BuildingTextModel", "here", "()I"⟩, 67), (⟨"BuildingTextModel", "base", "()I"⟩, 67)]
theorem lw_r5 : ∀ q ∈ lw_privs_5, lw_okq q := List.forall_mem_cons.mpr ⟨lw_p64, List.forall_mem_cons.mpr ⟨lw_p65, List.forall_mem_cons.mpr ⟨lw_p66, List.forall_mem_cons.mpr ⟨lw_p67, List.forall_mem_cons.mpr ⟨lw_p68, List.forall_mem_cons.mpr ⟨lw_p69, List.forall_mem_cons.mpr ⟨lw_p70, List.forall_mem_cons.mpr ⟨lw_p71, List.forall_mem_cons.mpr ⟨lw_p72, List.forall_mem_cons.mpr ⟨lw_p73, List.forall_mem_cons.mpr ⟨lw_p74, List.forall_mem_cons.mpr ⟨lw_p75, List.forall_mem_cons.mpr ⟨lw_p76, List.forall_mem_cons.mpr ⟨lw_p77, List.forall_mem_cons.mpr ⟨lw_p78, List.forall_mem_cons.mpr ⟨lw_p79, fun _ h => absurd h List.not_mem_nil⟩⟩⟩⟩⟩⟩⟩⟩⟩⟩⟩⟩⟩⟩⟩⟩
theorem lw_p80 : lw_okq (⟨"BuildingTextModel", "linesAt", "(I)I"⟩, 67) := ⟨⟨by decide +kernel, by decide +kernel⟩, List.mem_of_getElem? (i := 857) (by decide +kernel), List.mem_of_getElem? (i := 1188) (by decide +kernel), List.mem_of_getElem? (i := 1189) (by decide +kernel)⟩
theorem lw_p81 : lw_okq (⟨"BuildingTextModel", "kindAt", "(I)I"⟩, 67) := ⟨⟨by decide +kernel, by decide +kernel⟩, List.mem_of_getElem? (i := 857) (by decide +kernel), List.mem_of_getElem? (i := 1192) (by decide +kernel), List.mem_of_getElem? (i := 1193) (by decide +kernel)⟩
theorem lw_p82 : lw_okq (⟨"BuildingTextModel", "findFaults", "()V"⟩, 67) := ⟨⟨by decide +kernel, by decide +kernel⟩, List.mem_of_getElem? (i := 857) (by decide +kernel), List.mem_of_getElem? (i := 1204) (by decide +kernel), List.mem_of_getElem? (i := 1205) (by decide +kernel)⟩
theorem lw_p83 : lw_okq (⟨"BuildingTextModel", "measure", "()V"⟩, 67) := ⟨⟨by decide +kernel, by decide +kernel⟩, List.mem_of_getElem? (i := 857) (by decide +kernel), List.mem_of_getElem? (i := 1208) (by decide +kernel), List.mem_of_getElem? (i := 1209) (by decide +kernel)⟩
theorem lw_p84 : lw_okq (⟨"BuildingTextModel", "step", "(II)V"⟩, 67) := ⟨⟨by decide +kernel, by decide +kernel⟩, List.mem_of_getElem? (i := 857) (by decide +kernel), List.mem_of_getElem? (i := 1212) (by decide +kernel), List.mem_of_getElem? (i := 1213) (by decide +kernel)⟩
theorem lw_p85 : lw_okq (⟨"BuildingTextModel", "shorten", "(III)V"⟩, 67) := ⟨⟨by decide +kernel, by decide +kernel⟩, List.mem_of_getElem? (i := 857) (by decide +kernel), List.mem_of_getElem? (i := 1216) (by decide +kernel), List.mem_of_getElem? (i := 1217) (by decide +kernel)⟩
theorem lw_p86 : lw_okq (⟨"BuildingTextModel", "isInside", "(II)Z"⟩, 67) := ⟨⟨by decide +kernel, by decide +kernel⟩, List.mem_of_getElem? (i := 857) (by decide +kernel), List.mem_of_getElem? (i := 1220) (by decide +kernel), List.mem_of_getElem? (i := 1221) (by decide +kernel)⟩
theorem lw_p87 : lw_okq (⟨"BuildingTextModel", "addFault", "(ZIII)V"⟩, 67) := ⟨⟨by decide +kernel, by decide +kernel⟩, List.mem_of_getElem? (i := 857) (by decide +kernel), List.mem_of_getElem? (i := 1224) (by decide +kernel), List.mem_of_getElem? (i := 1225) (by decide +kernel)⟩
theorem lw_p88 : lw_okq (⟨"BuildingTextModel", "firstMet", "(I)I"⟩, 67) := ⟨⟨by decide +kernel, by decide +kernel⟩, List.mem_of_getElem? (i := 857) (by decide +kernel), List.mem_of_getElem? (i := 1228) (by decide +kernel), List.mem_of_getElem? (i := 1229) (by decide +kernel)⟩
theorem lw_p89 : lw_okq (⟨"BuildingTextModel", "meets", "(II)Z"⟩, 67) := ⟨⟨by decide +kernel, by decide +kernel⟩, List.mem_of_getElem? (i := 857) (by decide +kernel), List.mem_of_getElem? (i := 1232) (by decide +kernel), List.mem_of_getElem? (i := 1233) (by decide +kernel)⟩
theorem lw_p90 : lw_okq (⟨"BuildingTextModel", "isServed", "(I)Z"⟩, 67) := ⟨⟨by decide +kernel, by decide +kernel⟩, List.mem_of_getElem? (i := 857) (by decide +kernel), List.mem_of_getElem? (i := 1236) (by decide +kernel), List.mem_of_getElem? (i := 1237) (by decide +kernel)⟩
theorem lw_p91 : lw_okq (⟨"BuildingTextModel", "isReached", "(I)Z"⟩, 67) := ⟨⟨by decide +kernel, by decide +kernel⟩, List.mem_of_getElem? (i := 857) (by decide +kernel), List.mem_of_getElem? (i := 1240) (by decide +kernel), List.mem_of_getElem? (i := 1241) (by decide +kernel)⟩
theorem lw_p92 : lw_okq (⟨"BuildingTextModel", "isLinked", "(I)Z"⟩, 67) := ⟨⟨by decide +kernel, by decide +kernel⟩, List.mem_of_getElem? (i := 857) (by decide +kernel), List.mem_of_getElem? (i := 1244) (by decide +kernel), List.mem_of_getElem? (i := 1245) (by decide +kernel)⟩
theorem lw_p93 : lw_okq (⟨"BuildingTextModel", "toDock", "(I)I"⟩, 67) := ⟨⟨by decide +kernel, by decide +kernel⟩, List.mem_of_getElem? (i := 857) (by decide +kernel), List.mem_of_getElem? (i := 1248) (by decide +kernel), List.mem_of_getElem? (i := 1249) (by decide +kernel)⟩
theorem lw_p94 : lw_okq (⟨"BuildingTextModel", "pieceAt", "(I)I"⟩, 67) := ⟨⟨by decide +kernel, by decide +kernel⟩, List.mem_of_getElem? (i := 857) (by decide +kernel), List.mem_of_getElem? (i := 1260) (by decide +kernel), List.mem_of_getElem? (i := 1261) (by decide +kernel)⟩
theorem lw_p95 : lw_okq (⟨"BuildingTextModel", "isEdition", "(I)Z"⟩, 67) := ⟨⟨by decide +kernel, by decide +kernel⟩, List.mem_of_getElem? (i := 857) (by decide +kernel), List.mem_of_getElem? (i := 1272) (by decide +kernel), List.mem_of_getElem? (i := 1273) (by decide +kernel)⟩
def lw_privs_6 : List (MethodName × Nat) := [(⟨"BuildingTextModel", "linesAt", "(I)I"⟩, 67), (⟨"BuildingTextModel", "kindAt", "(I)I"⟩, 67), (⟨"BuildingTextModel", "findFaults", "()V"⟩, 67), (⟨"BuildingTextModel", "measure", "()V"⟩, 67), (⟨"BuildingTextModel", "step", "(II)V"⟩, 67), (⟨"BuildingTextModel", "shorten", "(III)V"⟩, 67), (⟨"BuildingTextModel", "isInside", "(II)Z"⟩, 67), (⟨"BuildingTextModel", "addFault", "(ZIII)V"⟩, 67), (⟨"BuildingTextModel", "firstMet", "(I)I"⟩, 67), (⟨"BuildingTextModel", "meets", "(II)Z"⟩, 67), (⟨"BuildingTextModel", "isServed", "(I)Z"⟩, 67), (⟨"BuildingTextModel", "isReached", "(I)Z"⟩, 67), (⟨"BuildingTextModel", "isLinked", "(I)Z"⟩, 67), (⟨"BuildingTextModel", "toDock", "(I)I"⟩, 67), (⟨"BuildingTextModel", "pieceAt", "(I)I"⟩, 67), (⟨"BuildingTextModel", "isEdition", "(I)Z"⟩, 67)]
theorem lw_r6 : ∀ q ∈ lw_privs_6, lw_okq q := List.forall_mem_cons.mpr ⟨lw_p80, List.forall_mem_cons.mpr ⟨lw_p81, List.forall_mem_cons.mpr ⟨lw_p82, List.forall_mem_cons.mpr ⟨lw_p83, List.forall_mem_cons.mpr ⟨lw_p84, List.forall_mem_cons.mpr ⟨lw_p85, List.forall_mem_cons.mpr ⟨lw_p86, List.forall_mem_cons.mpr ⟨lw_p87, List.forall_mem_cons.mpr ⟨lw_p88, List.forall_mem_cons.mpr ⟨lw_p89, List.forall_mem_cons.mpr ⟨lw_p90, List.forall_mem_cons.mpr ⟨lw_p91, List.forall_mem_cons.mpr ⟨lw_p92, List.forall_mem_cons.mpr ⟨lw_p93, List.forall_mem_cons.mpr ⟨lw_p94, List.forall_mem_cons.mpr ⟨lw_p95, fun _ h => absurd h List.not_mem_nil⟩⟩⟩⟩⟩⟩⟩⟩⟩⟩⟩⟩⟩⟩⟩⟩
theorem lw_p96 : lw_okq (⟨"BuildingTextModel", "isKept", "(II)Z"⟩, 67) := ⟨⟨by decide +kernel, by decide +kernel⟩, List.mem_of_getElem? (i := 857) (by decide +kernel), List.mem_of_getElem? (i := 1280) (by decide +kernel), List.mem_of_getElem? (i := 1281) (by decide +kernel)⟩
theorem lw_p97 : lw_okq (⟨"BuildingTextModel", "signAt", "(II)I"⟩, 67) := ⟨⟨by decide +kernel, by decide +kernel⟩, List.mem_of_getElem? (i := 857) (by decide +kernel), List.mem_of_getElem? (i := 1292) (by decide +kernel), List.mem_of_getElem? (i := 1293) (by decide +kernel)⟩
theorem lw_p98 : lw_okq (⟨"BuildingTextModel", "stopsAt", "(III)Z"⟩, 67) := ⟨⟨by decide +kernel, by decide +kernel⟩, List.mem_of_getElem? (i := 857) (by decide +kernel), List.mem_of_getElem? (i := 1296) (by decide +kernel), List.mem_of_getElem? (i := 1297) (by decide +kernel)⟩
theorem lw_p99 : lw_okq (⟨"BuildingTextModel", "covers", "(III)Z"⟩, 67) := ⟨⟨by decide +kernel, by decide +kernel⟩, List.mem_of_getElem? (i := 857) (by decide +kernel), List.mem_of_getElem? (i := 1300) (by decide +kernel), List.mem_of_getElem? (i := 1301) (by decide +kernel)⟩
def lw_privs_7 : List (MethodName × Nat) := [(⟨"BuildingTextModel", "isKept", "(II)Z"⟩, 67), (⟨"BuildingTextModel", "signAt", "(II)I"⟩, 67), (⟨"BuildingTextModel", "stopsAt", "(III)Z"⟩, 67), (⟨"BuildingTextModel", "covers", "(III)Z"⟩, 67)]
theorem lw_r7 : ∀ q ∈ lw_privs_7, lw_okq q := List.forall_mem_cons.mpr ⟨lw_p96, List.forall_mem_cons.mpr ⟨lw_p97, List.forall_mem_cons.mpr ⟨lw_p98, List.forall_mem_cons.mpr ⟨lw_p99, fun _ h => absurd h List.not_mem_nil⟩⟩⟩⟩
def lw_privs : List (MethodName × Nat) := lw_privs_1 ++ (lw_privs_2 ++ (lw_privs_3 ++ (lw_privs_4 ++ (lw_privs_5 ++ (lw_privs_6 ++ (lw_privs_7))))))
def lw_tbl : List Cond := k2_sels lw_privs ++ tables_1
theorem lw_privs_ok : ∀ q ∈ lw_privs, lw_okq q := by
  show ∀ q ∈ lw_privs_1 ++ (lw_privs_2 ++ (lw_privs_3 ++ (lw_privs_4 ++ (lw_privs_5 ++ (lw_privs_6 ++ (lw_privs_7)))))), lw_okq q
  exact List.forall_mem_append.mpr ⟨lw_r1, List.forall_mem_append.mpr ⟨lw_r2, List.forall_mem_append.mpr ⟨lw_r3, List.forall_mem_append.mpr ⟨lw_r4, List.forall_mem_append.mpr ⟨lw_r5, List.forall_mem_append.mpr ⟨lw_r6, lw_r7⟩⟩⟩⟩⟩⟩
end
section
/-! printed by wip/gen/gen_tables.py out of the Statement: the classes, their fields, the methods, what the pool entries name -/
def xfT (l : List (String × String × String × Bool)) : u_T := fun k => l.getD k ("", "", "", false)
def xf0 : List (String × String × String × Bool) := [("BuildingText", "signs", "[C", true), ("BuildingText", "signCount", "I", false), ("BuildingText", "editions", "Ljava/util/ArrayList;", true), ("BuildingText", "latest", "LBuildingText$Edition;", false), ("BuildingText", "going", "LBuildingText$Going;", true), ("BuildingText", "inspection", "LBuildingText$Inspection;", true), ("BuildingText", "plan", "LBuildingText$Plan;", true), ("BuildingText", "found", "[I", true), ("BuildingText", "foundCount", "I", false)]
def xf1 : List (String × String × String × Bool) := [("BuildingText$Edition", "places", "Ljava/util/ArrayList;", true), ("BuildingText$Edition", "ways", "Ljava/util/ArrayList;", true), ("BuildingText$Edition", "serves", "Ljava/util/ArrayList;", true), ("BuildingText$Edition", "stops", "Ljava/util/ArrayList;", true)]
def xf2 : List (String × String × String × Bool) := [("BuildingText$Fault", "kind", "I", true), ("BuildingText$Fault", "place", "I", true), ("BuildingText$Fault", "other", "I", true)]
def xf3 : List (String × String × String × Bool) := [("BuildingText$Going", "onward", "[J", true), ("BuildingText$Going", "back", "[J", true), ("BuildingText$Going", "stopsOfLift", "[J", true), ("BuildingText$Going", "size", "I", false), ("BuildingText$Going", "docks", "J", false), ("BuildingText$Going", "reached", "J", false), ("BuildingText$Going", "exiting", "J", false)]
def xf4 : List (String × String × String × Bool) := [("BuildingText$Inspection", "faults", "Ljava/util/ArrayList;", true)]
def xf5 : List (String × String × String × Bool) := [("BuildingText$Link", "first", "I", true), ("BuildingText$Link", "second", "I", true), ("BuildingText$Link", "bothWays", "Z", true)]
def xf6 : List (String × String × String × Bool) := [("BuildingText$Place", "name", "I", true), ("BuildingText$Place", "kind", "I", true), ("BuildingText$Place", "x", "I", true), ("BuildingText$Place", "y", "I", true), ("BuildingText$Place", "w", "I", true), ("BuildingText$Place", "h", "I", true), ("BuildingText$Place", "level", "I", false), ("BuildingText$Place", "base", "I", false), ("BuildingText$Place", "lines", "I", false), ("BuildingText$Place", "hasWayOrLift", "Z", false), ("BuildingText$Place", "units", "I", false)]
def xf7 : List (String × String × String × Bool) := [("BuildingText$Plan", "signs", "[C", true), ("BuildingText$Plan", "length", "I", false)]
def xf8 : List (String × String × String × Bool) := [("BuildingText$TextReader", "text", "[C", true), ("BuildingText$TextReader", "end", "I", true), ("BuildingText$TextReader", "edition", "LBuildingText$Edition;", true), ("BuildingText$TextReader", "stops", "[I", true), ("BuildingText$TextReader", "next", "I", false), ("BuildingText$TextReader", "refused", "I", false)]
def xf9 : List (String × String × String × Bool) := [("BuildingTextModel", "code", "I", false), ("BuildingTextModel", "text", "[I", true), ("BuildingTextModel", "signs", "I", false), ("BuildingTextModel", "editions", "I", false), ("BuildingTextModel", "places", "[I", true), ("BuildingTextModel", "kind", "[I", true), ("BuildingTextModel", "name", "[I", true), ("BuildingTextModel", "px", "[I", true), ("BuildingTextModel", "py", "[I", true), ("BuildingTextModel", "pw", "[I", true), ("BuildingTextModel", "ph", "[I", true), ("BuildingTextModel", "level", "[I", true), ("BuildingTextModel", "of", "[I", true), ("BuildingTextModel", "units", "[I", true), ("BuildingTextModel", "ways", "I", false), ("BuildingTextModel", "wayFrom", "[I", true), ("BuildingTextModel", "wayTo", "[I", true), ("BuildingTextModel", "bothWays", "[Z", true), ("BuildingTextModel", "served", "I", false), ("BuildingTextModel", "servedBin", "[I", true), ("BuildingTextModel", "servedFrom", "[I", true), ("BuildingTextModel", "stopCount", "[I", true), ("BuildingTextModel", "stops", "[I", true), ("BuildingTextModel", "at", "I", false), ("BuildingTextModel", "fault", "I", false), ("BuildingTextModel", "full", "Z", false), ("BuildingTextModel", "n", "I", false), ("BuildingTextModel", "newWays", "I", false), ("BuildingTextModel", "newFrom", "[I", true), ("BuildingTextModel", "newTo", "[I", true), ("BuildingTextModel", "newBoth", "[Z", true), ("BuildingTextModel", "newServed", "I", false), ("BuildingTextModel", "newBin", "[I", true), ("BuildingTextModel", "newPiece", "[I", true), ("BuildingTextModel", "newStopCount", "[I", true), ("BuildingTextModel", "newStops", "[I", true), ("BuildingTextModel", "tKind", "[I", true), ("BuildingTextModel", "tName", "[I", true), ("BuildingTextModel", "tx", "[I", true), ("BuildingTextModel", "ty", "[I", true), ("BuildingTextModel", "tw", "[I", true), ("BuildingTextModel", "th", "[I", true), ("BuildingTextModel", "tLevel", "[I", true), ("BuildingTextModel", "tOf", "[I", true), ("BuildingTextModel", "moved", "[I", true), ("BuildingTextModel", "movedCount", "I", false), ("BuildingTextModel", "plan", "[I", true), ("BuildingTextModel", "planned", "I", false), ("BuildingTextModel", "number", "I", false), ("BuildingTextModel", "first", "I", false), ("BuildingTextModel", "lineName", "I", false), ("BuildingTextModel", "lineX", "I", false), ("BuildingTextModel", "lineY", "I", false), ("BuildingTextModel", "lineW", "I", false), ("BuildingTextModel", "lineH", "I", false), ("BuildingTextModel", "lineLevel", "I", false), ("BuildingTextModel", "lineOf", "I", false), ("BuildingTextModel", "lineStops", "[I", true), ("BuildingTextModel", "lineStopCount", "I", false), ("BuildingTextModel", "lineFrom", "I", false), ("BuildingTextModel", "lineTo", "I", false), ("BuildingTextModel", "lineBoth", "Z", false), ("BuildingTextModel", "far", "[I", true), ("BuildingTextModel", "faultKind", "[I", true), ("BuildingTextModel", "faultPlace", "[I", true), ("BuildingTextModel", "faultOther", "[I", true), ("BuildingTextModel", "faults", "I", false)]
def xf10 : List (String × String × String × Bool) := [("java/util/ArrayList", "elementData", "[Ljava/lang/Object;", false), ("java/util/ArrayList", "size", "I", false), ("java/util/AbstractList", "modCount", "I", false)]
def xf11 : List (String × String × String × Bool) := []
def xf12 : List (String × String × String × Bool) := []
def xf13 : List (String × String × String × Bool) := []
def xcl : List vw_C := [("BuildingText", xfT xf0, 9), ("BuildingText$Edition", xfT xf1, 4), ("BuildingText$Fault", xfT xf2, 3), ("BuildingText$Going", xfT xf3, 7), ("BuildingText$Inspection", xfT xf4, 1), ("BuildingText$Link", xfT xf5, 3), ("BuildingText$Place", xfT xf6, 11), ("BuildingText$Plan", xfT xf7, 2), ("BuildingText$TextReader", xfT xf8, 6), ("BuildingTextModel", xfT xf9, 67), ("java/util/ArrayList", xfT xf10, 3), ("java/lang/IllegalArgumentException", xfT xf11, 0), ("java/lang/UnsupportedOperationException", xfT xf12, 0), ("java/lang/IndexOutOfBoundsException", xfT xf13, 0)]
def xtys : List (List FieldType) := [[(.array .char), .int, (.object "java/util/ArrayList"), (.object "BuildingText$Edition"), (.object "BuildingText$Going"), (.object "BuildingText$Inspection"), (.object "BuildingText$Plan"), (.array .int), .int], [(.object "java/util/ArrayList"), (.object "java/util/ArrayList"), (.object "java/util/ArrayList"), (.object "java/util/ArrayList")], [.int, .int, .int], [(.array .long), (.array .long), (.array .long), .int, .long, .long, .long], [(.object "java/util/ArrayList")], [.int, .int, .boolean], [.int, .int, .int, .int, .int, .int, .int, .int, .int, .boolean, .int], [(.array .char), .int], [(.array .char), .int, (.object "BuildingText$Edition"), (.array .int), .int, .int], [.int, (.array .int), .int, .int, (.array .int), (.array .int), (.array .int), (.array .int), (.array .int), (.array .int), (.array .int), (.array .int), (.array .int), (.array .int), .int, (.array .int), (.array .int), (.array .boolean), .int, (.array .int), (.array .int), (.array .int), (.array .int), .int, .int, .boolean, .int, .int, (.array .int), (.array .int), (.array .boolean), .int, (.array .int), (.array .int), (.array .int), (.array .int), (.array .int), (.array .int), (.array .int), (.array .int), (.array .int), (.array .int), (.array .int), (.array .int), (.array .int), .int, (.array .int), .int, .int, .int, .int, .int, .int, .int, .int, .int, .int, (.array .int), .int, .int, .int, .boolean, (.array .int), (.array .int), (.array .int), (.array .int), .int], [(.array (.object "java/lang/Object")), .int, .int], [], [], []]
def xty (ci k : Nat) : FieldType := (xtys.getD ci []).getD k .int
def xob : Nat := 10
theorem xob_le : xob ≤ xcl.length := by decide
def xons : List String := ["BuildingText", "BuildingText$Edition", "BuildingText$Fault", "BuildingText$Going", "BuildingText$Inspection", "BuildingText$Link", "BuildingText$Place", "BuildingText$Plan", "BuildingText$TextReader", "BuildingTextModel", "java/util/ArrayList", "java/lang/IllegalArgumentException", "java/lang/UnsupportedOperationException", "java/lang/IndexOutOfBoundsException", "BuildingTextLaw", "java/util/AbstractList", "java/util/AbstractCollection", "jdk/internal/util/ArraysSupport", "java/lang/Math", "java/util/Arrays", "java/util/Objects", "jdk/internal/util/Preconditions", "java/lang/Long"]
def xon (o : Nat) : String := xons.getD o ""
def xows : List Nat := [0, 0, 0, 0, 0, 0, 0, 0, 0, 0, 0, 0, 0, 0, 0, 0, 0, 1, 1, 1, 1, 1, 1, 1, 1, 1, 2, 3, 3, 3, 3, 3, 3, 3, 3, 3, 3, 3, 3, 4, 4, 4, 4, 4, 4, 4, 5, 6, 6, 6, 6, 7, 7, 7, 7, 7, 7, 7, 8, 8, 8, 8, 8, 8, 8, 8, 8, 8, 8, 8, 8, 8, 8, 8, 8, 8, 8, 8, 8, 8, 9, 9, 9, 9, 9, 9, 9, 9, 9, 9, 9, 9, 9, 9, 9, 9, 9, 9, 9, 9, 9, 9, 9, 9, 9, 9, 9, 9, 9, 9, 9, 9, 9, 9, 9, 9, 9, 9, 9, 9, 9, 9, 9, 9, 9, 9, 9, 9, 9, 9, 9, 9, 9, 9, 9, 9, 9, 9, 9, 9, 9, 9, 9, 9, 10, 10, 10, 10, 10, 10, 10, 10, 10, 15, 16, 17, 20, 21, 22, 14, 14, 14, 14, 14, 14, 14, 14, 14, 14, 14]
def xow (j : Nat) : Nat := xows.getD j 0
def xnms : List (String × String) := [("<init>", "()V"), ("named", "(I)I"), ("check", "()I"), ("print", "()I"), ("count", "(I)I"), ("sign", "(I)V"), ("read", "()I"), ("take", "(LBuildingText$Edition;)V"), ("place", "(II)I"), ("fault", "(II)I"), ("piece", "(II)I"), ("inside", "(II)Z"), ("fill", "(III)V"), ("editionOrNull", "(I)LBuildingText$Edition;"), ("differ", "(I)I"), ("moved", "(I)I"), ("at", "(I)I"), ("<init>", "()V"), ("find", "(I)I"), ("addWay", "(IIZ)V"), ("addStop", "(II)V"), ("addServe", "(II)V"), ("isTooLarge", "()Z"), ("placeOrNull", "(I)LBuildingText$Place;"), ("findPiece", "(I)I"), ("keepsBin", "(LBuildingText$Place;LBuildingText$Edition;)Z"), ("<init>", "(III)V"), ("<init>", "()V"), ("learn", "(LBuildingText$Edition;)V"), ("forget", "()V"), ("learnWays", "(LBuildingText$Edition;)V"), ("learnStep", "(II)V"), ("learnLifts", "(LBuildingText$Edition;)V"), ("spread", "([JJ)J"), ("widen", "([JJ)J"), ("isReached", "(I)Z"), ("isExiting", "(I)Z"), ("countOnward", "(I)I"), ("stepsToDock", "(I)I"), ("<init>", "()V"), ("inspect", "(LBuildingText$Edition;LBuildingText$Going;)V"), ("inspectArea", "(LBuildingText$Edition;I)V"), ("inspectBin", "(LBuildingText$Edition;ILBuildingText$Going;)V"), ("isServed", "(LBuildingText$Edition;ILBuildingText$Going;)Z"), ("inspectPiece", "(LBuildingText$Edition;ILBuildingText$Going;)V"), ("inspectAtPiece", "(LBuildingText$Edition;I)V"), ("<init>", "(IIZ)V"), ("<init>", "(IIIIII)V"), ("sharesArea", "(LBuildingText$Place;)Z"), ("contains", "(LBuildingText$Place;)Z"), ("hasPointsOf", "(LBuildingText$Place;)Z"), ("<init>", "()V"), ("layOut", "(LBuildingText$Edition;)V"), ("countRows", "(LBuildingText$Edition;)I"), ("layOutEmptyRows", "(I)V"), ("paintKind", "(LBuildingText$Edition;IC)V"), ("paintPlace", "(LBuildingText$Place;C)V"), ("paintStops", "(LBuildingText$Edition;)V"), ("<init>", "([CILBuildingText$Edition;)V"), ("readLines", "()I"), ("peek", "()I"), ("readRack", "()V"), ("readNewName", "()I"), ("skip", "(I)V"), ("refuse", "(I)V"), ("readName", "()I"), ("isLetter", "(I)Z"), ("isNameSign", "(I)Z"), ("isDigit", "(I)Z"), ("readArea", "(II)LBuildingText$Place;"), ("readNumber", "(II)I"), ("endsLine", "()Z"), ("readBin", "()V"), ("readUsedName", "(II)I"), ("readPiece", "()V"), ("readWay", "()V"), ("readAtPiece", "(I)V"), ("addAtPiece", "(III)V"), ("readLift", "()V"), ("readServe", "()V"), ("<init>", "()V"), ("thrown", "()I"), ("sign", "(I)V"), ("in", "(III)Z"), ("read", "()I"), ("line", "()Z"), ("next", "()I"), ("kindOf", "(I)I"), ("wrong", "(I)Z"), ("takesPlace", "(I)Z"), ("takesRack", "()Z"), ("takesNew", "()Z"), ("takesName", "()Z"), ("takes", "(I)Z"), ("isLetter", "()Z"), ("isDigit", "()Z"), ("numberOf", "(I)I"), ("takesArea", "()Z"), ("takesNumber", "(II)Z"), ("takesBin", "()Z"), ("takesOld", "(I)Z"), ("takesPiece", "()Z"), ("takesLift", "()Z"), ("takesAtPiece", "()Z"), ("addPlace", "(I)V"), ("takesWay", "()Z"), ("takesServed", "()Z"), ("keep", "(II)V"), ("place", "(II)I"), ("here", "()I"), ("base", "()I"), ("linesAt", "(I)I"), ("kindAt", "(I)I"), ("named", "(I)I"), ("check", "()I"), ("findFaults", "()V"), ("measure", "()V"), ("step", "(II)V"), ("shorten", "(III)V"), ("isInside", "(II)Z"), ("addFault", "(ZIII)V"), ("firstMet", "(I)I"), ("meets", "(II)Z"), ("isServed", "(I)Z"), ("isReached", "(I)Z"), ("isLinked", "(I)Z"), ("toDock", "(I)I"), ("fault", "(II)I"), ("piece", "(II)I"), ("pieceAt", "(I)I"), ("inside", "(II)Z"), ("fill", "(III)V"), ("isEdition", "(I)Z"), ("differ", "(I)I"), ("isKept", "(II)Z"), ("moved", "(I)I"), ("print", "()I"), ("signAt", "(II)I"), ("stopsAt", "(III)Z"), ("covers", "(III)Z"), ("rankOf", "(I)I"), ("signOf", "(I)I"), ("at", "(I)I"), ("count", "(I)I"), ("<init>", "()V"), ("add", "(Ljava/lang/Object;)Z"), ("add", "(Ljava/lang/Object;[Ljava/lang/Object;I)V"), ("grow", "()[Ljava/lang/Object;"), ("grow", "(I)[Ljava/lang/Object;"), ("size", "()I"), ("get", "(I)Ljava/lang/Object;"), ("elementData", "(I)Ljava/lang/Object;"), ("clear", "()V"), ("<init>", "()V"), ("<init>", "()V"), ("newLength", "(III)I"), ("checkIndex", "(II)I"), ("checkIndex", "(IILjava/util/function/BiFunction;)I"), ("bitCount", "(J)I"), ("sign", "(LBuildingText;I)I"), ("read", "(LBuildingText;[J)I"), ("place", "(LBuildingText;II[J)I"), ("fault", "(LBuildingText;II[J)I"), ("piece", "(LBuildingText;II[J)I"), ("inside", "(LBuildingText;II[J)I"), ("fill", "(LBuildingText;III)I"), ("differ", "(LBuildingText;I[J)I"), ("moved", "(LBuildingText;I[J)I"), ("at", "(LBuildingText;I[J)I"), ("law", "([I)Z")]
def xnm (j : Nat) : String × String := xnms.getD j ("", "")
def xmn (j : Nat) : MethodName := ⟨xon (xow j), (xnm j).1, (xnm j).2⟩
def xccs : List ByteArray := [prog_1_method_1_code, prog_1_method_6_code, prog_1_method_7_code, prog_1_method_14_code, prog_1_method_16_code, prog_1_method_2_code, prog_1_method_3_code, prog_1_method_4_code, prog_1_method_5_code, prog_1_method_8_code, prog_1_method_9_code, prog_1_method_10_code, prog_1_method_11_code, prog_1_method_17_code, prog_1_method_12_code, prog_1_method_13_code, prog_1_method_15_code, prog_2_method_1_code, prog_2_method_4_code, prog_2_method_7_code, prog_2_method_9_code, prog_2_method_8_code, prog_2_method_2_code, prog_2_method_3_code, prog_2_method_5_code, prog_2_method_6_code, prog_3_method_1_code, prog_4_method_1_code, prog_4_method_2_code, prog_4_method_3_code, prog_4_method_4_code, prog_4_method_5_code, prog_4_method_6_code, prog_4_method_11_code, prog_4_method_12_code, prog_4_method_7_code, prog_4_method_8_code, prog_4_method_9_code, prog_4_method_10_code, prog_5_method_1_code, prog_5_method_2_code, prog_5_method_4_code, prog_5_method_3_code, prog_5_method_5_code, prog_5_method_7_code, prog_5_method_6_code, prog_6_method_1_code, prog_7_method_1_code, prog_7_method_3_code, prog_7_method_2_code, prog_7_method_4_code, prog_8_method_1_code, prog_8_method_2_code, prog_8_method_3_code, prog_8_method_4_code, prog_8_method_5_code, prog_8_method_7_code, prog_8_method_6_code, prog_9_method_1_code, prog_9_method_2_code, prog_9_method_19_code, prog_9_method_3_code, prog_9_method_12_code, prog_9_method_17_code, prog_9_method_18_code, prog_9_method_14_code, prog_9_method_20_code, prog_9_method_22_code, prog_9_method_21_code, prog_9_method_5_code, prog_9_method_15_code, prog_9_method_16_code, prog_9_method_4_code, prog_9_method_13_code, prog_9_method_6_code, prog_9_method_10_code, prog_9_method_7_code, prog_9_method_9_code, prog_9_method_8_code, prog_9_method_11_code, prog_11_method_1_code, prog_11_method_2_code, prog_11_method_4_code, prog_11_method_3_code, prog_11_method_27_code, prog_11_method_26_code, prog_11_method_5_code, prog_11_method_23_code, prog_11_method_6_code, prog_11_method_24_code, prog_11_method_16_code, prog_11_method_13_code, prog_11_method_11_code, prog_11_method_7_code, prog_11_method_8_code, prog_11_method_9_code, prog_11_method_12_code, prog_11_method_15_code, prog_11_method_10_code, prog_11_method_17_code, prog_11_method_14_code, prog_11_method_18_code, prog_11_method_20_code, prog_11_method_19_code, prog_11_method_25_code, prog_11_method_21_code, prog_11_method_22_code, prog_11_method_28_code, prog_11_method_33_code, prog_11_method_29_code, prog_11_method_30_code, prog_11_method_32_code, prog_11_method_31_code, prog_11_method_34_code, prog_11_method_47_code, prog_11_method_46_code, prog_11_method_36_code, prog_11_method_35_code, prog_11_method_37_code, prog_11_method_42_code, prog_11_method_41_code, prog_11_method_44_code, prog_11_method_43_code, prog_11_method_45_code, prog_11_method_38_code, prog_11_method_40_code, prog_11_method_39_code, prog_11_method_48_code, prog_11_method_50_code, prog_11_method_49_code, prog_11_method_51_code, prog_11_method_53_code, prog_11_method_52_code, prog_11_method_55_code, prog_11_method_54_code, prog_11_method_56_code, prog_11_method_62_code, prog_11_method_61_code, prog_11_method_58_code, prog_11_method_57_code, prog_11_method_59_code, prog_11_method_60_code, prog_11_method_63_code, prog_11_method_64_code, prog_27_method_2_code, prog_27_method_25_code, prog_27_method_24_code, prog_27_method_7_code, prog_27_method_6_code, prog_27_method_8_code, prog_27_method_20_code, prog_27_method_18_code, prog_27_method_40_code, prog_26_method_1_code, prog_25_method_1_code, prog_34_method_27_code, prog_31_method_17_code, prog_35_method_11_code, prog_18_method_50_code, method_3_code, method_4_code, method_5_code, method_6_code, method_7_code, method_8_code, method_9_code, method_10_code, method_11_code, method_12_code, code]
def xcc (j : Nat) : ByteArray := xccs.getD j ⟨#[]⟩
def xmls : List Nat := [1, 2, 1, 1, 2, 2, 4, 2, 4, 4, 4, 5, 6, 2, 6, 2, 2, 1, 3, 4, 3, 3, 1, 2, 4, 6, 4, 1, 4, 2, 4, 3, 4, 9, 7, 2, 2, 2, 5, 1, 4, 7, 5, 5, 4, 4, 4, 7, 2, 2, 2, 1, 2, 4, 3, 6, 5, 3, 4, 3, 1, 3, 3, 2, 2, 3, 1, 1, 1, 7, 6, 1, 5, 6, 4, 4, 4, 6, 5, 3, 1, 1, 2, 3, 3, 3, 1, 1, 2, 2, 1, 1, 2, 2, 1, 1, 3, 1, 5, 1, 3, 1, 1, 1, 5, 1, 1, 4, 4, 1, 1, 4, 2, 3, 1, 4, 5, 3, 7, 5, 5, 4, 5, 3, 3, 4, 5, 3, 6, 4, 4, 5, 2, 5, 6, 2, 4, 7, 5, 5, 1, 1, 2, 2, 1, 2, 4, 1, 4, 1, 2, 2, 4, 1, 1, 4, 2, 3, 2, 3, 3, 5, 5, 5, 5, 5, 4, 4, 4, 7]
def xml (j : Nat) : Nat := xmls.getD j 0
def xnas : List Nat := [0, 1, 0, 0, 1, 1, 0, 1, 2, 2, 2, 2, 3, 1, 1, 1, 1, 0, 1, 3, 2, 2, 0, 1, 1, 2, 3, 0, 1, 0, 1, 2, 1, 2, 2, 1, 1, 1, 1, 0, 2, 2, 3, 3, 3, 2, 3, 6, 1, 1, 1, 0, 1, 1, 1, 3, 2, 1, 3, 0, 0, 0, 0, 1, 1, 0, 1, 1, 1, 2, 2, 0, 0, 2, 0, 0, 1, 3, 0, 0, 0, 0, 1, 3, 0, 0, 0, 1, 1, 1, 0, 0, 0, 1, 0, 0, 1, 0, 2, 0, 1, 0, 0, 0, 1, 0, 0, 2, 2, 0, 0, 1, 1, 1, 0, 0, 0, 2, 3, 2, 4, 1, 2, 1, 1, 1, 1, 2, 2, 1, 2, 3, 1, 1, 2, 1, 0, 2, 3, 3, 1, 1, 1, 1, 0, 1, 3, 0, 1, 0, 1, 1, 0, 0, 0, 3, 2, 3, 1, 2, 2, 4, 4, 4, 4, 4, 3, 3, 3, 1]
def xna (j : Nat) : Nat := xnas.getD j 0
def xrcs : List Nat := [0, 0, 0, 0, 0, 0, 0, 0, 0, 0, 0, 0, 0, 0, 0, 0, 0, 1, 1, 1, 1, 1, 1, 1, 1, 1, 2, 3, 3, 3, 3, 3, 3, 3, 3, 3, 3, 3, 3, 4, 4, 4, 4, 4, 4, 4, 5, 6, 6, 6, 6, 7, 7, 7, 7, 7, 7, 7, 8, 8, 8, 8, 8, 8, 8, 8, 8, 8, 8, 8, 8, 8, 8, 8, 8, 8, 8, 8, 8, 8, 9, 9, 9, 9, 9, 9, 9, 9, 9, 9, 9, 9, 9, 9, 9, 9, 9, 9, 9, 9, 9, 9, 9, 9, 9, 9, 9, 9, 9, 9, 9, 9, 9, 9, 9, 9, 9, 9, 9, 9, 9, 9, 9, 9, 9, 9, 9, 9, 9, 9, 9, 9, 9, 9, 9, 9, 9, 9, 9, 9, 9, 9, 9, 9, 10, 10, 10, 10, 10, 10, 10, 10, 10, 99, 99, 99, 99, 99, 99, 99, 99, 99, 99, 99, 99, 99, 99, 99, 99, 99]
def xrc (j : Nat) : Nat := xrcs.getD j 0
def xrks : List Nat := [7, 4, 1, 5, 1, 6, 11, 10, 6, 6, 6, 6, 6, 3, 6, 6, 6, 4, 3, 7, 7, 7, 1, 3, 3, 4, 1, 1, 4, 0, 3, 0, 3, 1, 0, 0, 0, 2, 1, 4, 9, 7, 8, 3, 7, 7, 1, 1, 0, 0, 0, 1, 4, 3, 0, 3, 0, 3, 1, 9, 0, 7, 4, 1, 0, 2, 0, 1, 0, 3, 2, 2, 7, 4, 7, 8, 8, 7, 8, 8, 1, 0, 1, 0, 7, 6, 0, 0, 0, 5, 4, 3, 2, 1, 1, 1, 0, 3, 2, 4, 3, 4, 4, 4, 0, 4, 4, 0, 3, 0, 0, 2, 1, 1, 5, 4, 2, 0, 0, 1, 0, 2, 1, 3, 2, 2, 2, 5, 3, 2, 2, 2, 1, 2, 1, 1, 4, 3, 2, 1, 0, 0, 1, 0, 3, 6, 5, 4, 3, 0, 2, 0, 0, 2, 1, 1, 1, 0, 0, 7, 12, 7, 7, 7, 7, 7, 7, 7, 7, 13]
def xrk (j : Nat) : Nat := xrks.getD j 0
def xrls : List Nat := [172, 86, 20, 110, 20, 91, 266, 245, 91, 91, 91, 91, 91, 64, 111, 91, 91, 80, 64, 172, 172, 172, 20, 64, 64, 86, 20, 20, 87, 0, 64, 0, 64, 26, 0, 0, 0, 54, 26, 80, 222, 172, 198, 64, 172, 172, 20, 20, 0, 0, 0, 20, 89, 64, 0, 64, 0, 64, 20, 221, 0, 172, 86, 21, 0, 40, 0, 20, 0, 67, 42, 42, 172, 86, 172, 195, 197, 172, 197, 194, 20, 0, 22, 0, 149, 127, 0, 0, 0, 106, 86, 63, 42, 21, 22, 22, 0, 66, 42, 86, 63, 83, 85, 85, 0, 85, 85, 0, 64, 0, 0, 41, 20, 20, 108, 85, 41, 0, 0, 20, 0, 44, 20, 63, 41, 41, 41, 108, 65, 41, 44, 43, 22, 45, 20, 22, 94, 68, 44, 20, 0, 0, 22, 0, 60, 151, 128, 108, 85, 0, 43, 0, 0, 40, 20, 21, 22, 0, 0, 112, 289, 114, 114, 114, 115, 116, 136, 112, 112, 311]
def xrl (j : Nat) : Nat := xrls.getD j 0
def xkds : List Nat := [2, 0, 0, 0, 0, 0, 0, 0, 0, 0, 0, 0, 0, 0, 0, 0, 0, 2, 0, 0, 0, 0, 0, 0, 0, 0, 2, 2, 0, 0, 0, 0, 0, 0, 0, 0, 0, 0, 0, 2, 0, 0, 0, 1, 0, 0, 2, 2, 0, 0, 0, 2, 0, 1, 0, 0, 0, 0, 2, 0, 0, 0, 0, 0, 0, 0, 1, 1, 1, 0, 0, 0, 0, 0, 0, 0, 0, 0, 0, 0, 2, 0, 0, 1, 0, 0, 0, 1, 0, 0, 0, 0, 0, 0, 0, 0, 0, 0, 0, 0, 0, 0, 0, 0, 0, 0, 0, 0, 0, 0, 0, 0, 0, 0, 0, 0, 0, 0, 0, 0, 0, 0, 0, 0, 0, 0, 0, 0, 0, 0, 0, 0, 0, 0, 0, 0, 0, 0, 0, 0, 1, 1, 0, 0, 2, 0, 0, 0, 0, 0, 0, 0, 0, 2, 2, 1, 1, 1, 1, 4, 4, 4, 4, 4, 4, 4, 4, 4, 4, 5]
def xkd (j : Nat) : Nat := xkds.getD j 9
def xhds : List (List (Nat × Nat × Nat × Nat)) := [[], [], [], [], [], [], [], [], [], [], [], [], [], [], [], [], [], [], [], [], [], [], [], [], [], [], [], [], [], [], [], [], [], [], [], [], [], [], [], [], [], [], [], [], [], [], [], [], [], [], [], [], [], [], [], [], [], [], [], [], [], [], [], [], [], [], [], [], [], [], [], [], [], [], [], [], [], [], [], [], [], [], [], [], [], [], [], [], [], [], [], [], [], [], [], [], [], [], [], [], [], [], [], [], [], [], [], [], [], [], [], [], [], [], [], [], [], [], [], [], [], [], [], [], [], [], [], [], [], [], [], [], [], [], [], [], [], [], [], [], [], [], [], [], [], [], [], [], [], [], [], [], [], [], [], [], [], [], [], [(0, 5, 8, 11), (0, 5, 11, 12)], [(0, 8, 11, 12)], [(0, 10, 13, 11)], [(0, 10, 13, 13), (0, 10, 17, 11)], [(0, 10, 13, 13), (0, 10, 17, 11)], [(0, 17, 20, 11)], [(0, 7, 10, 11)], [(0, 9, 12, 11)], [(0, 9, 12, 13)], [(0, 9, 12, 13)], []]
/-- where method j catches, at pc, what is of class ci -/
def xhd (j pc ci : Nat) : Option Nat := ((xhds.getD j []).find? (fun e => decide (e.1 ≤ pc) && decide (pc < e.2.1) && decide (e.2.2.2 = ci))).map (fun e => e.2.2.1)
/-- the exception tables as they stand -/
def xexs : List (List (Nat × Nat × Nat × Nat)) := [[], [], [], [], [], [], [], [], [], [], [], [], [], [], [], [], [], [], [], [], [], [], [], [], [], [], [], [], [], [], [], [], [], [], [], [], [], [], [], [], [], [], [], [], [], [], [], [], [], [], [], [], [], [], [], [], [], [], [], [], [], [], [], [], [], [], [], [], [], [], [], [], [], [], [], [], [], [], [], [], [], [], [], [], [], [], [], [], [], [], [], [], [], [], [], [], [], [], [], [], [], [], [], [], [], [], [], [], [], [], [], [], [], [], [], [], [], [], [], [], [], [], [], [], [], [], [], [], [], [], [], [], [], [], [], [], [], [], [], [], [], [], [], [], [], [], [], [], [], [], [], [], [], [], [], [], [], [], [], [(0, 5, 8, 13), (0, 5, 11, 15)], [(0, 8, 11, 15)], [(0, 10, 13, 13)], [(0, 10, 13, 28), (0, 10, 17, 13)], [(0, 10, 13, 28), (0, 10, 17, 13)], [(0, 17, 20, 13)], [(0, 7, 10, 13)], [(0, 9, 12, 13)], [(0, 9, 12, 28)], [(0, 9, 12, 28)], []]
def xex (j : Nat) : List (Nat × Nat × Nat × Nat) := xexs.getD j []
/-- where 'throw new ..(text)' stands: method, pc, the text's entry, the constructor's -/
def xts : List (Nat × Nat × Nat × Nat) := [(5, 18, 58, 60), (5, 38, 69, 71), (6, 63, 88, 71), (8, 13, 108, 60), (8, 112, 136, 60), (9, 18, 147, 149), (9, 87, 136, 60), (10, 14, 166, 149), (10, 114, 136, 60), (11, 31, 181, 60), (11, 54, 183, 60), (12, 12, 193, 60), (12, 44, 181, 60), (12, 64, 195, 60), (14, 10, 193, 60), (15, 12, 207, 149), (16, 15, 215, 149)]
def xtf (j pc : Nat) : Option (Nat × Nat × Nat × Nat) := xts.find? (fun e => decide (e.1 = j) && decide (e.2.1 = pc))
def xsk : List (Nat × String) := [(58, "no sign of a text"), (69, "too many signs"), (88, "too large, or too many editions"), (108, "no such place"), (136, "no such what"), (147, "no such fault"), (166, "no such piece"), (181, "no such bin"), (183, "no such rack"), (193, "no such edition"), (195, "units out of range"), (207, "no such bin was found"), (215, "no such sign was laid out")]
def xnc : List (String × String) := [("java/lang/UnsupportedOperationException", "java/lang/IllegalArgumentException"), ("java/lang/IllegalArgumentException", "java/lang/IndexOutOfBoundsException")]
def xrts : List (Option FieldType) := [none, (some .int), (some .int), (some .int), (some .int), none, (some .int), none, (some .int), (some .int), (some .int), (some .boolean), none, (some (.object "BuildingText$Edition")), (some .int), (some .int), (some .int), none, (some .int), none, none, none, (some .boolean), (some (.object "BuildingText$Place")), (some .int), (some .boolean), none, none, none, none, none, none, none, (some .long), (some .long), (some .boolean), (some .boolean), (some .int), (some .int), none, none, none, none, (some .boolean), none, none, none, none, (some .boolean), (some .boolean), (some .boolean), none, none, (some .int), none, none, none, none, none, (some .int), (some .int), none, (some .int), none, none, (some .int), (some .boolean), (some .boolean), (some .boolean), (some (.object "BuildingText$Place")), (some .int), (some .boolean), none, (some .int), none, none, none, none, none, none, none, (some .int), none, (some .boolean), (some .int), (some .boolean), (some .int), (some .int), (some .boolean), (some .boolean), (some .boolean), (some .boolean), (some .boolean), (some .boolean), (some .boolean), (some .boolean), (some .int), (some .boolean), (some .boolean), (some .boolean), (some .boolean), (some .boolean), (some .boolean), (some .boolean), none, (some .boolean), (some .boolean), none, (some .int), (some .int), (some .int), (some .int), (some .int), (some .int), (some .int), none, none, none, none, (some .boolean), none, (some .int), (some .boolean), (some .boolean), (some .boolean), (some .boolean), (some .int), (some .int), (some .int), (some .int), (some .boolean), none, (some .boolean), (some .int), (some .boolean), (some .int), (some .int), (some .int), (some .boolean), (some .boolean), (some .int), (some .int), (some .int), (some .int), none, (some .boolean), none, (some (.array (.object "java/lang/Object"))), (some (.array (.object "java/lang/Object"))), (some .int), (some (.object "java/lang/Object")), (some (.object "java/lang/Object")), none, none, none, (some .int), (some .int), (some .int), (some .int), (some .int), (some .int), (some .int), (some .int), (some .int), (some .int), (some .int), (some .int), (some .int), (some .int), (some .boolean)]
def xrt (j : Nat) : Option FieldType := xrts.getD j none
def xlF : List (List (Nat × Nat × Nat)) := [[(9, 0, 0), (16, 0, 4), (23, 0, 6), (34, 0, 8), (41, 0, 10), (48, 0, 12), (52, 0, 14), (63, 0, 2), (94, 1, 1), (110, 6, 3), (115, 6, 5), (118, 6, 7), (121, 6, 9), (124, 6, 11), (127, 6, 13), (130, 6, 15), (133, 6, 17), (142, 4, 1), (156, 2, 1), (157, 2, 3), (160, 2, 5), (197, 6, 21), (200, 0, 16), (212, 7, 3), (217, 7, 1), (218, 1, 3), (221, 1, 5)], [(12, 1, 0), (18, 1, 2), (21, 1, 4), (24, 1, 6), (37, 6, 1), (41, 6, 3), (52, 6, 13), (59, 6, 15), (71, 6, 17), (74, 6, 19)], [(7, 2, 0), (13, 2, 2), (16, 2, 4)], [(9, 3, 0), (15, 3, 2), (18, 3, 4), (24, 1, 1), (36, 3, 6), (52, 6, 3), (55, 3, 8), (59, 6, 15), (66, 3, 10), (69, 3, 12), (72, 1, 3), (77, 5, 1), (80, 5, 3), (87, 5, 5), (91, 1, 7)], [(12, 4, 0), (21, 1, 1), (36, 6, 3), (54, 6, 15), (74, 6, 13), (80, 1, 5), (85, 5, 1), (88, 5, 3), (97, 6, 19)], [(7, 5, 0), (13, 5, 2), (16, 5, 4)], [(9, 6, 0), (15, 6, 2), (18, 6, 4), (21, 6, 6), (24, 6, 8), (27, 6, 10), (30, 6, 14)], [(11, 7, 0), (31, 1, 1), (49, 6, 7), (53, 6, 11), (62, 7, 2), (65, 6, 3), (72, 1, 7), (77, 5, 3), (80, 6, 5), (83, 6, 9)], [(9, 8, 0), (15, 8, 2), (19, 8, 4), (23, 8, 6), (27, 8, 10), (30, 8, 8), (73, 1, 1), (92, 6, 13), (97, 6, 15), (118, 6, 5), (121, 6, 7), (124, 6, 9), (127, 6, 11), (147, 6, 3)], [(7, 9, 2), (13, 9, 8), (16, 9, 10), (19, 9, 12), (22, 9, 14), (25, 9, 16), (28, 9, 18), (31, 9, 20), (34, 9, 22), (37, 9, 24), (40, 9, 26), (43, 9, 30), (46, 9, 32), (49, 9, 34), (53, 9, 38), (56, 9, 40), (59, 9, 42), (62, 9, 44), (65, 9, 56), (68, 9, 58), (71, 9, 60), (74, 9, 64), (77, 9, 66), (80, 9, 68), (83, 9, 70), (86, 9, 72), (89, 9, 74), (92, 9, 76), (95, 9, 78), (98, 9, 80), (101, 9, 82), (104, 9, 84), (107, 9, 86), (110, 9, 88), (113, 9, 92), (116, 9, 114), (119, 9, 124), (122, 9, 126), (125, 9, 128), (128, 9, 130), (131, 9, 0), (139, 9, 4), (142, 9, 46), (145, 9, 48), (159, 9, 98), (173, 9, 96), (179, 9, 52), (193, 9, 102), (196, 9, 104), (199, 9, 106), (202, 9, 108), (208, 9, 100), (217, 9, 112), (220, 9, 110), (223, 9, 116), (226, 9, 118), (229, 9, 120), (232, 9, 122), (267, 9, 54), (270, 9, 62), (273, 9, 50), (279, 9, 6), (286, 9, 28), (289, 9, 36), (311, 9, 132), (351, 9, 90), (369, 9, 94)], [(9, 10, 0), (48, 10, 2), (63, 10, 4)], [], [], [], [], [(7, 10, 4)], [], [], [], [], [], [], []]
def xlM : List (List (Nat × Nat × Nat)) := [[(1, 0, 2), (15, 144, 0), (22, 17, 1), (27, 145, 0), (33, 27, 1), (40, 39, 1), (47, 51, 1), (74, 58, 1), (77, 59, 1), (81, 22, 1), (85, 149, 0), (90, 7, 0), (97, 28, 1), (100, 40, 1), (104, 23, 1), (138, 18, 1), (150, 150, 0), (163, 24, 1), (168, 35, 1), (172, 36, 1), (175, 37, 1), (178, 38, 1), (185, 49, 1), (189, 13, 0), (203, 25, 1), (209, 52, 1)], [(3, 0, 2), (11, 144, 0), (27, 149, 0), (31, 150, 0), (44, 18, 0), (48, 23, 0), (55, 50, 1), (64, 46, 1), (67, 145, 0)], [(1, 0, 2)], [(3, 0, 2), (21, 29, 0), (30, 149, 0), (39, 30, 0), (43, 32, 0), (46, 150, 0), (62, 33, 0), (83, 31, 0), (94, 158, 0), (100, 34, 0)], [(3, 0, 2), (11, 144, 0), (18, 152, 0), (26, 149, 0), (30, 150, 0), (40, 41, 0), (44, 42, 0), (48, 44, 0), (51, 45, 0), (57, 49, 1), (63, 26, 1), (66, 145, 0), (70, 43, 0), (77, 48, 1), (91, 35, 1), (101, 36, 1)], [(1, 0, 2)], [(3, 0, 2)], [(3, 0, 2), (15, 53, 0), (19, 54, 0), (23, 55, 0), (27, 57, 0), (37, 149, 0), (43, 150, 0), (56, 0, 4), (68, 56, 0)], [(3, 0, 2), (33, 60, 0), (37, 61, 0), (40, 72, 0), (43, 74, 0), (46, 75, 0), (49, 76, 0), (53, 78, 0), (56, 79, 0), (59, 64, 0), (62, 62, 0), (65, 69, 0), (69, 71, 0), (79, 145, 0), (85, 73, 0), (89, 70, 0), (100, 47, 1), (103, 77, 0), (107, 149, 0), (110, 20, 1), (114, 150, 0), (130, 63, 0), (133, 19, 1), (137, 21, 1), (140, 65, 0), (143, 18, 1), (150, 66, 0), (154, 67, 0), (157, 68, 0), (160, 0, 5)], [(1, 0, 2), (135, 83, 0), (148, 86, 0), (152, 88, 0), (156, 93, 0), (162, 95, 0), (176, 94, 0), (182, 92, 0), (185, 96, 0), (189, 98, 0), (205, 91, 0), (211, 97, 0), (214, 100, 0), (236, 90, 0), (239, 99, 0), (242, 101, 0), (245, 102, 0), (248, 103, 0), (251, 87, 0), (254, 89, 0), (257, 104, 0), (261, 105, 0), (264, 106, 0), (276, 85, 0), (282, 107, 0), (292, 110, 0), (295, 112, 0), (298, 109, 0), (301, 111, 0), (304, 117, 0), (307, 118, 0), (314, 122, 0), (317, 124, 0), (320, 116, 0), (323, 119, 0), (326, 120, 0), (330, 121, 0), (333, 123, 0), (336, 125, 0), (339, 126, 0), (342, 115, 0), (345, 129, 0), (348, 132, 0), (354, 134, 0), (357, 139, 0), (360, 138, 0), (363, 140, 0), (366, 141, 0), (372, 137, 0)], [(1, 153, 0), (66, 0, 6), (69, 148, 0), (73, 155, 0), (79, 0, 4), (118, 156, 0), (123, 151, 0), (129, 147, 0), (131, 146, 0)], [], [], [], [(7, 5, 0), (17, 6, 0), (21, 8, 0), (25, 9, 0), (30, 10, 0), (33, 11, 0), (37, 12, 0), (41, 14, 0), (45, 15, 0), (48, 16, 0), (51, 0, 0), (54, 80, 0), (55, 159, 3), (60, 82, 0), (61, 81, 0), (64, 160, 3), (67, 84, 0), (68, 161, 3), (71, 108, 0), (72, 1, 0), (75, 113, 0), (76, 2, 0), (79, 114, 0), (80, 162, 3), (82, 127, 0), (83, 163, 3), (85, 128, 0), (86, 164, 3), (88, 130, 0), (89, 165, 3), (92, 131, 0), (93, 166, 3), (96, 133, 0), (97, 167, 3), (99, 135, 0), (100, 3, 0), (103, 136, 0), (104, 168, 3), (106, 142, 0), (107, 4, 0), (110, 143, 0)], [(1, 154, 0)], [(1, 0, 2)], [(194, 0, 4)], [], [], [(105, 157, 0)], [], []]
def xlC : List (List (Nat × Nat × Nat)) := [[(13, 10, 0), (20, 1, 0), (31, 3, 0), (38, 4, 0), (45, 7, 0), (56, 11, 1), (67, 12, 1), (72, 8, 0), (111, 6, 0), (145, 13, 1), (154, 2, 0)], [(9, 10, 0), (35, 6, 0), (62, 5, 0)], [], [(50, 6, 0), (75, 5, 0)], [(9, 10, 0), (34, 6, 0), (61, 2, 0), (83, 5, 0)], [], [], [(47, 6, 0), (75, 5, 0)], [(93, 6, 0)], [], [], [], [], [], [(8, 0, 0), (52, 9, 0)], [], [], [], [], [], [], [], []]
def xlN : List (List (Nat × Nat × Nat)) := [[], [], [], [], [], [], [], [], [], [(172, 1000001, 0)], [], [], [], [], [], [], [], [(200, 2147483639, 0)], [], [], [], [], []]
def xlJ : List (List (Nat × Nat × Nat)) := [[], [], [], [], [], [], [], [], [], [(166, 1000000, 0), (168, 10, 0), (170, 48, 0)], [], [], [], [], [], [], [], [], [], [], [], [], [(314, 6148914691236517205, 0), (316, 3689348814741910323, 0), (318, 1085102592571150095, 0)]]
def xlS : List (List (Nat × Nat × Nat)) := [[], [], [], [], [], [], [], [], [], [], [(39, 0, 0)], [], [], [], [], [], [], [], [], [], [], [], []]
def xlA : List (List (Nat × Nat × Nat)) := [[], [], [], [], [], [], [], [], [], [], [(7, 0, 0)], [], [], [], [], [], [], [], [], [], [], [], []]
end
section
/-! the words: which lie in the table, where -/
def Tg : List Cond := lw_tbl.filter goodWord
def sm_isnw (w : Cond) : Bool := match w with
  | .fieldLinkNest .. | .methodLinkNest .. | .castable .. | .declares _ | .arrayOver (.object _) => true
  | _ => false
def NW : List Cond := lw_tbl.filter sm_isnw
theorem tg {w : Cond} (i : Nat) (h : tables_1[i]? = some w) (g : goodWord w = true) : w ∈ Tg := List.mem_filter.mpr ⟨List.mem_append_right _ (List.mem_of_getElem? h), g⟩
theorem tn {w : Cond} (i : Nat) (h : tables_1[i]? = some w) (g : sm_isnw w = true) : w ∈ NW := List.mem_filter.mpr ⟨List.mem_append_right _ (List.mem_of_getElem? h), g⟩
theorem tp {y : MethodName} {n : Nat} (i : Nat) (h : lw_privs[i]? = some (y, n)) (g : goodWord (Cond.selects y.cls y y) = true) : Cond.selects y.cls y y ∈ Tg := List.mem_filter.mpr ⟨List.mem_append_left _ (List.mem_map.mpr ⟨(y, n), List.mem_of_getElem? h, rfl⟩), g⟩
end
section
theorem tw_0 : (Cond.initialized "BuildingTextLaw") ∈ Tg := tg 0 (by decide +kernel) (by decide +kernel)
theorem tw_1 : (Cond.initialized "BuildingText") ∈ Tg := tg 1 (by decide +kernel) (by decide +kernel)
theorem tw_2 : (Cond.initialized "java/util/AbstractCollection") ∈ Tg := tg 2 (by decide +kernel) (by decide +kernel)
theorem tw_3 : (Cond.initialized "java/util/AbstractList") ∈ Tg := tg 3 (by decide +kernel) (by decide +kernel)
theorem tw_4 : (Cond.initialized "java/util/ArrayList") ∈ Tg := tg 4 (by decide +kernel) (by decide +kernel)
theorem tw_5 : (Cond.initialized "BuildingText$Edition") ∈ Tg := tg 5 (by decide +kernel) (by decide +kernel)
theorem tw_6 : (Cond.initialized "jdk/internal/util/ArraysSupport") ∈ Tg := tg 6 (by decide +kernel) (by decide +kernel)
theorem tw_7 : (Cond.initialized "java/lang/Math") ∈ Tg := tg 7 (by decide +kernel) (by decide +kernel)
theorem tw_8 : (Cond.initialized "java/util/Arrays") ∈ Tg := tg 8 (by decide +kernel) (by decide +kernel)
theorem tw_9 : (Cond.initialized "java/lang/System") ∈ Tg := tg 9 (by decide +kernel) (by decide +kernel)
theorem tw_10 : (Cond.initialized "BuildingText$Going") ∈ Tg := tg 10 (by decide +kernel) (by decide +kernel)
theorem tw_11 : (Cond.initialized "BuildingText$Inspection") ∈ Tg := tg 11 (by decide +kernel) (by decide +kernel)
theorem tw_12 : (Cond.initialized "BuildingText$Plan") ∈ Tg := tg 12 (by decide +kernel) (by decide +kernel)
theorem tw_13 : (Cond.initialized "BuildingTextModel") ∈ Tg := tg 13 (by decide +kernel) (by decide +kernel)
theorem tw_14 : (Cond.initialized "java/lang/Throwable") ∈ Tg := tg 14 (by decide +kernel) (by decide +kernel)
theorem tw_17 : (Cond.initialized "java/lang/IllegalArgumentException") ∈ Tg := tg 17 (by decide +kernel) (by decide +kernel)
theorem tw_18 : (Cond.initialized "java/lang/UnsupportedOperationException") ∈ Tg := tg 18 (by decide +kernel) (by decide +kernel)
theorem tw_19 : (Cond.initialized "BuildingText$TextReader") ∈ Tg := tg 19 (by decide +kernel) (by decide +kernel)
theorem tw_20 : (Cond.initialized "java/util/Objects") ∈ Tg := tg 20 (by decide +kernel) (by decide +kernel)
theorem tw_21 : (Cond.initialized "jdk/internal/util/Preconditions") ∈ Tg := tg 21 (by decide +kernel) (by decide +kernel)
theorem tw_22 : (Cond.initialized "BuildingText$Place") ∈ Tg := tg 22 (by decide +kernel) (by decide +kernel)
theorem tw_23 : (Cond.initialized "BuildingText$Link") ∈ Tg := tg 23 (by decide +kernel) (by decide +kernel)
theorem tw_24 : (Cond.initialized "BuildingText$Fault") ∈ Tg := tg 24 (by decide +kernel) (by decide +kernel)
theorem tw_25 : (Cond.initialized "java/lang/IndexOutOfBoundsException") ∈ Tg := tg 25 (by decide +kernel) (by decide +kernel)
theorem tw_26 : (Cond.initialized "java/lang/Long") ∈ Tg := tg 26 (by decide +kernel) (by decide +kernel)
theorem tw_27 : (Cond.classLink "BuildingTextLaw" 8 "BuildingText") ∈ Tg := tg 27 (by decide +kernel) (by decide +kernel)
theorem tw_28 : (Cond.instantiable "BuildingText" 9) ∈ Tg := tg 28 (by decide +kernel) (by decide +kernel)
theorem tw_29 : (Cond.methodLink "BuildingTextLaw" 51 ⟨"BuildingText", "<init>", "()V"⟩) ∈ Tg := tg 29 (by decide +kernel) (by decide +kernel)
theorem tw_30 : (Cond.instanceMethod ⟨"BuildingText", "<init>", "()V"⟩) ∈ Tg := tg 30 (by decide +kernel) (by decide +kernel)
theorem tw_31 : (Cond.code ⟨"BuildingText", "<init>", "()V"⟩ prog_1_method_1_code 1 none) ∈ Tg := tg 31 (by decide +kernel) (by decide +kernel)
theorem tw_32 : (Cond.methodLink "BuildingText" 1 ⟨"java/lang/Object", "<init>", "()V"⟩) ∈ Tg := tg 32 (by decide +kernel) (by decide +kernel)
theorem tw_33 : (Cond.instanceMethod ⟨"java/lang/Object", "<init>", "()V"⟩) ∈ Tg := tg 33 (by decide +kernel) (by decide +kernel)
theorem tw_34 : (Cond.code ⟨"java/lang/Object", "<init>", "()V"⟩ object_method_1_code 1 none) ∈ Tg := tg 34 (by decide +kernel) (by decide +kernel)
theorem tw_35 : (Cond.classLink "BuildingText" 13 "java/util/ArrayList") ∈ Tg := tg 35 (by decide +kernel) (by decide +kernel)
theorem tw_36 : (Cond.instantiable "java/util/ArrayList" 3) ∈ Tg := tg 36 (by decide +kernel) (by decide +kernel)
theorem tw_37 : (Cond.methodLink "BuildingText" 15 ⟨"java/util/ArrayList", "<init>", "()V"⟩) ∈ Tg := tg 37 (by decide +kernel) (by decide +kernel)
theorem tw_38 : (Cond.instanceMethod ⟨"java/util/ArrayList", "<init>", "()V"⟩) ∈ Tg := tg 38 (by decide +kernel) (by decide +kernel)
theorem tw_39 : (Cond.code ⟨"java/util/ArrayList", "<init>", "()V"⟩ prog_27_method_2_code 1 none) ∈ Tg := tg 39 (by decide +kernel) (by decide +kernel)
theorem tw_40 : (Cond.methodLink "java/util/ArrayList" 1 ⟨"java/util/AbstractList", "<init>", "()V"⟩) ∈ Tg := tg 40 (by decide +kernel) (by decide +kernel)
theorem tw_41 : (Cond.instanceMethod ⟨"java/util/AbstractList", "<init>", "()V"⟩) ∈ Tg := tg 41 (by decide +kernel) (by decide +kernel)
theorem tw_42 : (Cond.code ⟨"java/util/AbstractList", "<init>", "()V"⟩ prog_26_method_1_code 1 none) ∈ Tg := tg 42 (by decide +kernel) (by decide +kernel)
theorem tw_43 : (Cond.methodLink "java/util/AbstractList" 1 ⟨"java/util/AbstractCollection", "<init>", "()V"⟩) ∈ Tg := tg 43 (by decide +kernel) (by decide +kernel)
theorem tw_44 : (Cond.instanceMethod ⟨"java/util/AbstractCollection", "<init>", "()V"⟩) ∈ Tg := tg 44 (by decide +kernel) (by decide +kernel)
theorem tw_45 : (Cond.code ⟨"java/util/AbstractCollection", "<init>", "()V"⟩ prog_25_method_1_code 1 none) ∈ Tg := tg 45 (by decide +kernel) (by decide +kernel)
theorem tw_46 : (Cond.methodLink "java/util/AbstractCollection" 1 ⟨"java/lang/Object", "<init>", "()V"⟩) ∈ Tg := tg 46 (by decide +kernel) (by decide +kernel)
theorem tw_47 : (Cond.fieldLink "java/util/ArrayList" 39 "java/util/ArrayList" "DEFAULTCAPACITY_EMPTY_ELEMENTDATA" "[Ljava/lang/Object;") ∈ Tg := tg 47 (by decide +kernel) (by decide +kernel)
theorem tw_49 : (Cond.fieldLink "java/util/ArrayList" 9 "java/util/ArrayList" "elementData" "[Ljava/lang/Object;") ∈ Tg := tg 49 (by decide +kernel) (by decide +kernel)
theorem tw_50 : (Cond.fieldLink "java/util/ArrayList" 48 "java/util/ArrayList" "size" "I") ∈ Tg := tg 50 (by decide +kernel) (by decide +kernel)
theorem tw_51 : (Cond.fieldLink "java/util/AbstractList" 7 "java/util/AbstractList" "modCount" "I") ∈ Tg := tg 51 (by decide +kernel) (by decide +kernel)
theorem tw_52 : (Cond.fieldLink "java/util/ArrayList" 63 "java/util/ArrayList" "modCount" "I") ∈ Tg := tg 52 (by decide +kernel) (by decide +kernel)
theorem tw_53 : (Cond.sameField "java/util/ArrayList" "java/util/AbstractList" "modCount" "I") ∈ Tg := tg 53 (by decide +kernel) (by decide +kernel)
theorem tw_54 : (Cond.lays "java/util/ArrayList" "java/util/ArrayList" "elementData" "[Ljava/lang/Object;") ∈ Tg := tg 54 (by decide +kernel) (by decide +kernel)
theorem tw_56 : (Cond.lays "java/util/ArrayList" "java/util/ArrayList" "size" "I") ∈ Tg := tg 56 (by decide +kernel) (by decide +kernel)
theorem tw_58 : (Cond.lays "java/util/ArrayList" "java/util/AbstractList" "modCount" "I") ∈ Tg := tg 58 (by decide +kernel) (by decide +kernel)
theorem tw_62 : (Cond.classLink "BuildingText" 20 "BuildingText$Edition") ∈ Tg := tg 62 (by decide +kernel) (by decide +kernel)
theorem tw_63 : (Cond.instantiable "BuildingText$Edition" 4) ∈ Tg := tg 63 (by decide +kernel) (by decide +kernel)
theorem tw_65 : (Cond.instanceMethod ⟨"BuildingText$Edition", "<init>", "()V"⟩) ∈ Tg := tg 65 (by decide +kernel) (by decide +kernel)
theorem tw_66 : (Cond.code ⟨"BuildingText$Edition", "<init>", "()V"⟩ prog_2_method_1_code 1 none) ∈ Tg := tg 66 (by decide +kernel) (by decide +kernel)
theorem tw_67 : (Cond.methodLink "BuildingText$Edition" 3 ⟨"java/lang/Object", "<init>", "()V"⟩) ∈ Tg := tg 67 (by decide +kernel) (by decide +kernel)
theorem tw_68 : (Cond.classLink "BuildingText$Edition" 9 "java/util/ArrayList") ∈ Tg := tg 68 (by decide +kernel) (by decide +kernel)
theorem tw_69 : (Cond.methodLink "BuildingText$Edition" 11 ⟨"java/util/ArrayList", "<init>", "()V"⟩) ∈ Tg := tg 69 (by decide +kernel) (by decide +kernel)
theorem tw_70 : (Cond.fieldLink "BuildingText$Edition" 12 "BuildingText$Edition" "places" "Ljava/util/ArrayList;") ∈ Tg := tg 70 (by decide +kernel) (by decide +kernel)
theorem tw_76 : (Cond.fieldLink "BuildingText$Edition" 18 "BuildingText$Edition" "ways" "Ljava/util/ArrayList;") ∈ Tg := tg 76 (by decide +kernel) (by decide +kernel)
theorem tw_79 : (Cond.fieldLink "BuildingText$Edition" 21 "BuildingText$Edition" "serves" "Ljava/util/ArrayList;") ∈ Tg := tg 79 (by decide +kernel) (by decide +kernel)
theorem tw_82 : (Cond.fieldLink "BuildingText$Edition" 24 "BuildingText$Edition" "stops" "Ljava/util/ArrayList;") ∈ Tg := tg 82 (by decide +kernel) (by decide +kernel)
theorem tw_85 : (Cond.laysFinal "BuildingText$Edition" "BuildingText$Edition" "places" "Ljava/util/ArrayList;") ∈ Tg := tg 85 (by decide +kernel) (by decide +kernel)
theorem tw_87 : (Cond.laysFinal "BuildingText$Edition" "BuildingText$Edition" "ways" "Ljava/util/ArrayList;") ∈ Tg := tg 87 (by decide +kernel) (by decide +kernel)
theorem tw_89 : (Cond.laysFinal "BuildingText$Edition" "BuildingText$Edition" "serves" "Ljava/util/ArrayList;") ∈ Tg := tg 89 (by decide +kernel) (by decide +kernel)
theorem tw_91 : (Cond.laysFinal "BuildingText$Edition" "BuildingText$Edition" "stops" "Ljava/util/ArrayList;") ∈ Tg := tg 91 (by decide +kernel) (by decide +kernel)
theorem tw_94 : (Cond.methodLink "BuildingText" 27 ⟨"java/util/ArrayList", "add", "(Ljava/lang/Object;)Z"⟩) ∈ Tg := tg 94 (by decide +kernel) (by decide +kernel)
theorem tw_95 : (Cond.instanceMethod ⟨"java/util/ArrayList", "add", "(Ljava/lang/Object;)Z"⟩) ∈ Tg := tg 95 (by decide +kernel) (by decide +kernel)
theorem tw_96 : (Cond.selects "java/util/ArrayList" ⟨"java/util/ArrayList", "add", "(Ljava/lang/Object;)Z"⟩ ⟨"java/util/ArrayList", "add", "(Ljava/lang/Object;)Z"⟩) ∈ Tg := tg 96 (by decide +kernel) (by decide +kernel)
theorem tw_97 : (Cond.code ⟨"java/util/ArrayList", "add", "(Ljava/lang/Object;)Z"⟩ prog_27_method_25_code 2 (some .boolean)) ∈ Tg := tg 97 (by decide +kernel) (by decide +kernel)
theorem tw_98 : (Cond.methodLink "java/util/ArrayList" 131 ⟨"java/util/ArrayList", "add", "(Ljava/lang/Object;[Ljava/lang/Object;I)V"⟩) ∈ Tg := tg 98 (by decide +kernel) (by decide +kernel)
theorem tw_100 : (Cond.instanceMethod ⟨"java/util/ArrayList", "add", "(Ljava/lang/Object;[Ljava/lang/Object;I)V"⟩) ∈ Tg := tg 100 (by decide +kernel) (by decide +kernel)
theorem tw_101 : (Cond.code ⟨"java/util/ArrayList", "add", "(Ljava/lang/Object;[Ljava/lang/Object;I)V"⟩ prog_27_method_24_code 4 none) ∈ Tg := tg 101 (by decide +kernel) (by decide +kernel)
theorem tw_102 : (Cond.methodLink "java/util/ArrayList" 129 ⟨"java/util/ArrayList", "grow", "()[Ljava/lang/Object;"⟩) ∈ Tg := tg 102 (by decide +kernel) (by decide +kernel)
theorem tw_104 : (Cond.instanceMethod ⟨"java/util/ArrayList", "grow", "()[Ljava/lang/Object;"⟩) ∈ Tg := tg 104 (by decide +kernel) (by decide +kernel)
theorem tw_105 : (Cond.code ⟨"java/util/ArrayList", "grow", "()[Ljava/lang/Object;"⟩ prog_27_method_7_code 1 (some (.array (.object "java/lang/Object")))) ∈ Tg := tg 105 (by decide +kernel) (by decide +kernel)
theorem tw_106 : (Cond.methodLink "java/util/ArrayList" 69 ⟨"java/util/ArrayList", "grow", "(I)[Ljava/lang/Object;"⟩) ∈ Tg := tg 106 (by decide +kernel) (by decide +kernel)
theorem tw_108 : (Cond.instanceMethod ⟨"java/util/ArrayList", "grow", "(I)[Ljava/lang/Object;"⟩) ∈ Tg := tg 108 (by decide +kernel) (by decide +kernel)
theorem tw_109 : (Cond.code ⟨"java/util/ArrayList", "grow", "(I)[Ljava/lang/Object;"⟩ prog_27_method_6_code 4 (some (.array (.object "java/lang/Object")))) ∈ Tg := tg 109 (by decide +kernel) (by decide +kernel)
theorem tw_110 : (Cond.methodLink "java/util/ArrayList" 73 ⟨"jdk/internal/util/ArraysSupport", "newLength", "(III)I"⟩) ∈ Tg := tg 110 (by decide +kernel) (by decide +kernel)
theorem tw_111 : (Cond.static ⟨"jdk/internal/util/ArraysSupport", "newLength", "(III)I"⟩) ∈ Tg := tg 111 (by decide +kernel) (by decide +kernel)
theorem tw_112 : (Cond.code ⟨"jdk/internal/util/ArraysSupport", "newLength", "(III)I"⟩ prog_34_method_27_code 4 (some .int)) ∈ Tg := tg 112 (by decide +kernel) (by decide +kernel)
theorem tw_113 : (Cond.methodLink "jdk/internal/util/ArraysSupport" 194 ⟨"java/lang/Math", "max", "(II)I"⟩) ∈ Tg := tg 113 (by decide +kernel) (by decide +kernel)
theorem tw_114 : (Cond.static ⟨"java/lang/Math", "max", "(II)I"⟩) ∈ Tg := tg 114 (by decide +kernel) (by decide +kernel)
theorem tw_115 : (Cond.code ⟨"java/lang/Math", "max", "(II)I"⟩ prog_19_method_65_code 2 (some .int)) ∈ Tg := tg 115 (by decide +kernel) (by decide +kernel)
theorem tw_116 : (Cond.constant "jdk/internal/util/ArraysSupport" 200 2147483639) ∈ Tg := tg 116 (by decide +kernel) (by decide +kernel)
theorem tw_120 : (Cond.methodLink "java/util/ArrayList" 66 ⟨"java/util/Arrays", "copyOf", "([Ljava/lang/Object;I)[Ljava/lang/Object;"⟩) ∈ Tg := tg 120 (by decide +kernel) (by decide +kernel)
theorem tw_121 : (Cond.static ⟨"java/util/Arrays", "copyOf", "([Ljava/lang/Object;I)[Ljava/lang/Object;"⟩) ∈ Tg := tg 121 (by decide +kernel) (by decide +kernel)
theorem tw_122 : (Cond.code ⟨"java/util/Arrays", "copyOf", "([Ljava/lang/Object;I)[Ljava/lang/Object;"⟩ prog_28_method_119_code 2 (some (.array (.object "java/lang/Object")))) ∈ Tg := tg 122 (by decide +kernel) (by decide +kernel)
theorem tw_123 : (Cond.methodLink "java/util/Arrays" 86 ⟨"java/lang/Object", "getClass", "()Ljava/lang/Class;"⟩) ∈ Tg := tg 123 (by decide +kernel) (by decide +kernel)
theorem tw_124 : (Cond.instanceMethod ⟨"java/lang/Object", "getClass", "()Ljava/lang/Class;"⟩) ∈ Tg := tg 124 (by decide +kernel) (by decide +kernel)
theorem tw_125 : (Cond.sameMethod "java/lang/Object" "java/lang/Object" "getClass" "()Ljava/lang/Class;") ∈ Tg := tg 125 (by decide +kernel) (by decide +kernel)
theorem tw_140 : (Cond.native ⟨"java/lang/Object", "getClass", "()Ljava/lang/Class;"⟩) ∈ Tg := tg 140 (by decide +kernel) (by decide +kernel)
theorem tw_141 : (Cond.methodLink "java/util/Arrays" 300 ⟨"java/util/Arrays", "copyOf", "([Ljava/lang/Object;ILjava/lang/Class;)[Ljava/lang/Object;"⟩) ∈ Tg := tg 141 (by decide +kernel) (by decide +kernel)
theorem tw_142 : (Cond.static ⟨"java/util/Arrays", "copyOf", "([Ljava/lang/Object;ILjava/lang/Class;)[Ljava/lang/Object;"⟩) ∈ Tg := tg 142 (by decide +kernel) (by decide +kernel)
theorem tw_143 : (Cond.code ⟨"java/util/Arrays", "copyOf", "([Ljava/lang/Object;ILjava/lang/Class;)[Ljava/lang/Object;"⟩ prog_28_method_120_code 4 (some (.array (.object "java/lang/Object")))) ∈ Tg := tg 143 (by decide +kernel) (by decide +kernel)
theorem tw_144 : (Cond.classLink "java/util/Arrays" 110 "[Ljava/lang/Object;") ∈ Tg := tg 144 (by decide +kernel) (by decide +kernel)
theorem tw_146 : (Cond.classLink "java/util/Arrays" 2 "java/lang/Object") ∈ Tg := tg 146 (by decide +kernel) (by decide +kernel)
theorem tw_147 : (Cond.methodLink "java/util/Arrays" 304 ⟨"java/lang/Math", "min", "(II)I"⟩) ∈ Tg := tg 147 (by decide +kernel) (by decide +kernel)
theorem tw_148 : (Cond.static ⟨"java/lang/Math", "min", "(II)I"⟩) ∈ Tg := tg 148 (by decide +kernel) (by decide +kernel)
theorem tw_149 : (Cond.code ⟨"java/lang/Math", "min", "(II)I"⟩ prog_19_method_69_code 2 (some .int)) ∈ Tg := tg 149 (by decide +kernel) (by decide +kernel)
theorem tw_150 : (Cond.methodLink "java/util/Arrays" 150 ⟨"java/lang/System", "arraycopy", "(Ljava/lang/Object;ILjava/lang/Object;II)V"⟩) ∈ Tg := tg 150 (by decide +kernel) (by decide +kernel)
theorem tw_151 : (Cond.static ⟨"java/lang/System", "arraycopy", "(Ljava/lang/Object;ILjava/lang/Object;II)V"⟩) ∈ Tg := tg 151 (by decide +kernel) (by decide +kernel)
theorem tw_152 : (Cond.native ⟨"java/lang/System", "arraycopy", "(Ljava/lang/Object;ILjava/lang/Object;II)V"⟩) ∈ Tg := tg 152 (by decide +kernel) (by decide +kernel)
theorem tw_153 : (Cond.methodLink "java/util/ArrayList" 79 ⟨"java/lang/Math", "max", "(II)I"⟩) ∈ Tg := tg 153 (by decide +kernel) (by decide +kernel)
theorem tw_154 : (Cond.classLink "java/util/ArrayList" 7 "java/lang/Object") ∈ Tg := tg 154 (by decide +kernel) (by decide +kernel)
theorem tw_155 : (Cond.classLink "BuildingText" 31 "BuildingText$Going") ∈ Tg := tg 155 (by decide +kernel) (by decide +kernel)
theorem tw_156 : (Cond.instantiable "BuildingText$Going" 7) ∈ Tg := tg 156 (by decide +kernel) (by decide +kernel)
theorem tw_158 : (Cond.instanceMethod ⟨"BuildingText$Going", "<init>", "()V"⟩) ∈ Tg := tg 158 (by decide +kernel) (by decide +kernel)
theorem tw_159 : (Cond.code ⟨"BuildingText$Going", "<init>", "()V"⟩ prog_4_method_1_code 1 none) ∈ Tg := tg 159 (by decide +kernel) (by decide +kernel)
theorem tw_160 : (Cond.methodLink "BuildingText$Going" 3 ⟨"java/lang/Object", "<init>", "()V"⟩) ∈ Tg := tg 160 (by decide +kernel) (by decide +kernel)
theorem tw_161 : (Cond.fieldLink "BuildingText$Going" 9 "BuildingText$Going" "onward" "[J") ∈ Tg := tg 161 (by decide +kernel) (by decide +kernel)
theorem tw_162 : (Cond.fieldLink "BuildingText$Going" 15 "BuildingText$Going" "back" "[J") ∈ Tg := tg 162 (by decide +kernel) (by decide +kernel)
theorem tw_163 : (Cond.fieldLink "BuildingText$Going" 18 "BuildingText$Going" "stopsOfLift" "[J") ∈ Tg := tg 163 (by decide +kernel) (by decide +kernel)
theorem tw_164 : (Cond.fieldLink "BuildingText$Going" 36 "BuildingText$Going" "size" "I") ∈ Tg := tg 164 (by decide +kernel) (by decide +kernel)
theorem tw_165 : (Cond.fieldLink "BuildingText$Going" 55 "BuildingText$Going" "docks" "J") ∈ Tg := tg 165 (by decide +kernel) (by decide +kernel)
theorem tw_166 : (Cond.fieldLink "BuildingText$Going" 66 "BuildingText$Going" "reached" "J") ∈ Tg := tg 166 (by decide +kernel) (by decide +kernel)
theorem tw_167 : (Cond.fieldLink "BuildingText$Going" 69 "BuildingText$Going" "exiting" "J") ∈ Tg := tg 167 (by decide +kernel) (by decide +kernel)
theorem tw_168 : (Cond.laysFinal "BuildingText$Going" "BuildingText$Going" "onward" "[J") ∈ Tg := tg 168 (by decide +kernel) (by decide +kernel)
theorem tw_170 : (Cond.laysFinal "BuildingText$Going" "BuildingText$Going" "back" "[J") ∈ Tg := tg 170 (by decide +kernel) (by decide +kernel)
theorem tw_172 : (Cond.laysFinal "BuildingText$Going" "BuildingText$Going" "stopsOfLift" "[J") ∈ Tg := tg 172 (by decide +kernel) (by decide +kernel)
theorem tw_174 : (Cond.lays "BuildingText$Going" "BuildingText$Going" "size" "I") ∈ Tg := tg 174 (by decide +kernel) (by decide +kernel)
theorem tw_176 : (Cond.lays "BuildingText$Going" "BuildingText$Going" "docks" "J") ∈ Tg := tg 176 (by decide +kernel) (by decide +kernel)
theorem tw_178 : (Cond.lays "BuildingText$Going" "BuildingText$Going" "reached" "J") ∈ Tg := tg 178 (by decide +kernel) (by decide +kernel)
theorem tw_180 : (Cond.lays "BuildingText$Going" "BuildingText$Going" "exiting" "J") ∈ Tg := tg 180 (by decide +kernel) (by decide +kernel)
theorem tw_184 : (Cond.classLink "BuildingText" 38 "BuildingText$Inspection") ∈ Tg := tg 184 (by decide +kernel) (by decide +kernel)
theorem tw_185 : (Cond.instantiable "BuildingText$Inspection" 1) ∈ Tg := tg 185 (by decide +kernel) (by decide +kernel)
end
section
theorem tw_187 : (Cond.instanceMethod ⟨"BuildingText$Inspection", "<init>", "()V"⟩) ∈ Tg := tg 187 (by decide +kernel) (by decide +kernel)
theorem tw_188 : (Cond.code ⟨"BuildingText$Inspection", "<init>", "()V"⟩ prog_5_method_1_code 1 none) ∈ Tg := tg 188 (by decide +kernel) (by decide +kernel)
theorem tw_189 : (Cond.methodLink "BuildingText$Inspection" 3 ⟨"java/lang/Object", "<init>", "()V"⟩) ∈ Tg := tg 189 (by decide +kernel) (by decide +kernel)
theorem tw_190 : (Cond.classLink "BuildingText$Inspection" 9 "java/util/ArrayList") ∈ Tg := tg 190 (by decide +kernel) (by decide +kernel)
theorem tw_191 : (Cond.methodLink "BuildingText$Inspection" 11 ⟨"java/util/ArrayList", "<init>", "()V"⟩) ∈ Tg := tg 191 (by decide +kernel) (by decide +kernel)
theorem tw_192 : (Cond.fieldLink "BuildingText$Inspection" 12 "BuildingText$Inspection" "faults" "Ljava/util/ArrayList;") ∈ Tg := tg 192 (by decide +kernel) (by decide +kernel)
theorem tw_194 : (Cond.laysFinal "BuildingText$Inspection" "BuildingText$Inspection" "faults" "Ljava/util/ArrayList;") ∈ Tg := tg 194 (by decide +kernel) (by decide +kernel)
theorem tw_197 : (Cond.classLink "BuildingText" 45 "BuildingText$Plan") ∈ Tg := tg 197 (by decide +kernel) (by decide +kernel)
theorem tw_198 : (Cond.instantiable "BuildingText$Plan" 2) ∈ Tg := tg 198 (by decide +kernel) (by decide +kernel)
theorem tw_200 : (Cond.instanceMethod ⟨"BuildingText$Plan", "<init>", "()V"⟩) ∈ Tg := tg 200 (by decide +kernel) (by decide +kernel)
theorem tw_201 : (Cond.code ⟨"BuildingText$Plan", "<init>", "()V"⟩ prog_8_method_1_code 1 none) ∈ Tg := tg 201 (by decide +kernel) (by decide +kernel)
theorem tw_202 : (Cond.methodLink "BuildingText$Plan" 3 ⟨"java/lang/Object", "<init>", "()V"⟩) ∈ Tg := tg 202 (by decide +kernel) (by decide +kernel)
theorem tw_203 : (Cond.fieldLink "BuildingText$Plan" 11 "BuildingText$Plan" "signs" "[C") ∈ Tg := tg 203 (by decide +kernel) (by decide +kernel)
theorem tw_205 : (Cond.fieldLink "BuildingText$Plan" 62 "BuildingText$Plan" "length" "I") ∈ Tg := tg 205 (by decide +kernel) (by decide +kernel)
theorem tw_207 : (Cond.laysFinal "BuildingText$Plan" "BuildingText$Plan" "signs" "[C") ∈ Tg := tg 207 (by decide +kernel) (by decide +kernel)
theorem tw_209 : (Cond.lays "BuildingText$Plan" "BuildingText$Plan" "length" "I") ∈ Tg := tg 209 (by decide +kernel) (by decide +kernel)
theorem tw_212 : (Cond.fieldLink "BuildingText" 9 "BuildingText" "signs" "[C") ∈ Tg := tg 212 (by decide +kernel) (by decide +kernel)
theorem tw_213 : (Cond.fieldLink "BuildingText" 63 "BuildingText" "signCount" "I") ∈ Tg := tg 213 (by decide +kernel) (by decide +kernel)
theorem tw_214 : (Cond.fieldLink "BuildingText" 16 "BuildingText" "editions" "Ljava/util/ArrayList;") ∈ Tg := tg 214 (by decide +kernel) (by decide +kernel)
theorem tw_215 : (Cond.fieldLink "BuildingText" 23 "BuildingText" "latest" "LBuildingText$Edition;") ∈ Tg := tg 215 (by decide +kernel) (by decide +kernel)
theorem tw_216 : (Cond.fieldLink "BuildingText" 34 "BuildingText" "going" "LBuildingText$Going;") ∈ Tg := tg 216 (by decide +kernel) (by decide +kernel)
theorem tw_217 : (Cond.fieldLink "BuildingText" 41 "BuildingText" "inspection" "LBuildingText$Inspection;") ∈ Tg := tg 217 (by decide +kernel) (by decide +kernel)
theorem tw_218 : (Cond.fieldLink "BuildingText" 48 "BuildingText" "plan" "LBuildingText$Plan;") ∈ Tg := tg 218 (by decide +kernel) (by decide +kernel)
theorem tw_219 : (Cond.fieldLink "BuildingText" 52 "BuildingText" "found" "[I") ∈ Tg := tg 219 (by decide +kernel) (by decide +kernel)
theorem tw_220 : (Cond.fieldLink "BuildingText" 200 "BuildingText" "foundCount" "I") ∈ Tg := tg 220 (by decide +kernel) (by decide +kernel)
theorem tw_221 : (Cond.laysFinal "BuildingText" "BuildingText" "signs" "[C") ∈ Tg := tg 221 (by decide +kernel) (by decide +kernel)
theorem tw_223 : (Cond.lays "BuildingText" "BuildingText" "signCount" "I") ∈ Tg := tg 223 (by decide +kernel) (by decide +kernel)
theorem tw_225 : (Cond.laysFinal "BuildingText" "BuildingText" "editions" "Ljava/util/ArrayList;") ∈ Tg := tg 225 (by decide +kernel) (by decide +kernel)
theorem tw_227 : (Cond.lays "BuildingText" "BuildingText" "latest" "LBuildingText$Edition;") ∈ Tg := tg 227 (by decide +kernel) (by decide +kernel)
theorem tw_229 : (Cond.laysFinal "BuildingText" "BuildingText" "going" "LBuildingText$Going;") ∈ Tg := tg 229 (by decide +kernel) (by decide +kernel)
theorem tw_231 : (Cond.laysFinal "BuildingText" "BuildingText" "inspection" "LBuildingText$Inspection;") ∈ Tg := tg 231 (by decide +kernel) (by decide +kernel)
theorem tw_233 : (Cond.laysFinal "BuildingText" "BuildingText" "plan" "LBuildingText$Plan;") ∈ Tg := tg 233 (by decide +kernel) (by decide +kernel)
theorem tw_235 : (Cond.laysFinal "BuildingText" "BuildingText" "found" "[I") ∈ Tg := tg 235 (by decide +kernel) (by decide +kernel)
theorem tw_237 : (Cond.lays "BuildingText" "BuildingText" "foundCount" "I") ∈ Tg := tg 237 (by decide +kernel) (by decide +kernel)
theorem tw_241 : (Cond.methodLink "BuildingTextLaw" 72 ⟨"BuildingText", "named", "(I)I"⟩) ∈ Tg := tg 241 (by decide +kernel) (by decide +kernel)
theorem tw_242 : (Cond.instanceMethod ⟨"BuildingText", "named", "(I)I"⟩) ∈ Tg := tg 242 (by decide +kernel) (by decide +kernel)
theorem tw_243 : (Cond.selects "BuildingText" ⟨"BuildingText", "named", "(I)I"⟩ ⟨"BuildingText", "named", "(I)I"⟩) ∈ Tg := tg 243 (by decide +kernel) (by decide +kernel)
theorem tw_244 : (Cond.code ⟨"BuildingText", "named", "(I)I"⟩ prog_1_method_6_code 2 (some .int)) ∈ Tg := tg 244 (by decide +kernel) (by decide +kernel)
theorem tw_247 : (Cond.instanceMethod ⟨"BuildingText$Edition", "find", "(I)I"⟩) ∈ Tg := tg 247 (by decide +kernel) (by decide +kernel)
theorem tw_248 : (Cond.code ⟨"BuildingText$Edition", "find", "(I)I"⟩ prog_2_method_4_code 3 (some .int)) ∈ Tg := tg 248 (by decide +kernel) (by decide +kernel)
theorem tw_249 : (Cond.methodLink "BuildingText$Edition" 27 ⟨"java/util/ArrayList", "size", "()I"⟩) ∈ Tg := tg 249 (by decide +kernel) (by decide +kernel)
theorem tw_250 : (Cond.instanceMethod ⟨"java/util/ArrayList", "size", "()I"⟩) ∈ Tg := tg 250 (by decide +kernel) (by decide +kernel)
theorem tw_251 : (Cond.selects "java/util/ArrayList" ⟨"java/util/ArrayList", "size", "()I"⟩ ⟨"java/util/ArrayList", "size", "()I"⟩) ∈ Tg := tg 251 (by decide +kernel) (by decide +kernel)
theorem tw_252 : (Cond.code ⟨"java/util/ArrayList", "size", "()I"⟩ prog_27_method_8_code 1 (some .int)) ∈ Tg := tg 252 (by decide +kernel) (by decide +kernel)
theorem tw_253 : (Cond.methodLink "BuildingText$Edition" 31 ⟨"java/util/ArrayList", "get", "(I)Ljava/lang/Object;"⟩) ∈ Tg := tg 253 (by decide +kernel) (by decide +kernel)
theorem tw_254 : (Cond.instanceMethod ⟨"java/util/ArrayList", "get", "(I)Ljava/lang/Object;"⟩) ∈ Tg := tg 254 (by decide +kernel) (by decide +kernel)
theorem tw_255 : (Cond.selects "java/util/ArrayList" ⟨"java/util/ArrayList", "get", "(I)Ljava/lang/Object;"⟩ ⟨"java/util/ArrayList", "get", "(I)Ljava/lang/Object;"⟩) ∈ Tg := tg 255 (by decide +kernel) (by decide +kernel)
theorem tw_256 : (Cond.code ⟨"java/util/ArrayList", "get", "(I)Ljava/lang/Object;"⟩ prog_27_method_20_code 2 (some (.object "java/lang/Object"))) ∈ Tg := tg 256 (by decide +kernel) (by decide +kernel)
theorem tw_257 : (Cond.methodLink "java/util/ArrayList" 118 ⟨"java/util/Objects", "checkIndex", "(II)I"⟩) ∈ Tg := tg 257 (by decide +kernel) (by decide +kernel)
theorem tw_258 : (Cond.static ⟨"java/util/Objects", "checkIndex", "(II)I"⟩) ∈ Tg := tg 258 (by decide +kernel) (by decide +kernel)
theorem tw_259 : (Cond.code ⟨"java/util/Objects", "checkIndex", "(II)I"⟩ prog_31_method_17_code 2 (some .int)) ∈ Tg := tg 259 (by decide +kernel) (by decide +kernel)
theorem tw_260 : (Cond.methodLink "java/util/Objects" 105 ⟨"jdk/internal/util/Preconditions", "checkIndex", "(IILjava/util/function/BiFunction;)I"⟩) ∈ Tg := tg 260 (by decide +kernel) (by decide +kernel)
theorem tw_261 : (Cond.static ⟨"jdk/internal/util/Preconditions", "checkIndex", "(IILjava/util/function/BiFunction;)I"⟩) ∈ Tg := tg 261 (by decide +kernel) (by decide +kernel)
theorem tw_262 : (Cond.code ⟨"jdk/internal/util/Preconditions", "checkIndex", "(IILjava/util/function/BiFunction;)I"⟩ prog_35_method_11_code 3 (some .int)) ∈ Tg := tg 262 (by decide +kernel) (by decide +kernel)
theorem tw_263 : (Cond.methodLink "java/util/ArrayList" 123 ⟨"java/util/ArrayList", "elementData", "(I)Ljava/lang/Object;"⟩) ∈ Tg := tg 263 (by decide +kernel) (by decide +kernel)
theorem tw_264 : (Cond.instanceMethod ⟨"java/util/ArrayList", "elementData", "(I)Ljava/lang/Object;"⟩) ∈ Tg := tg 264 (by decide +kernel) (by decide +kernel)
theorem tw_265 : (Cond.selects "java/util/ArrayList" ⟨"java/util/ArrayList", "elementData", "(I)Ljava/lang/Object;"⟩ ⟨"java/util/ArrayList", "elementData", "(I)Ljava/lang/Object;"⟩) ∈ Tg := tg 265 (by decide +kernel) (by decide +kernel)
theorem tw_266 : (Cond.code ⟨"java/util/ArrayList", "elementData", "(I)Ljava/lang/Object;"⟩ prog_27_method_18_code 2 (some (.object "java/lang/Object"))) ∈ Tg := tg 266 (by decide +kernel) (by decide +kernel)
theorem tw_267 : (Cond.classLink "BuildingText$Edition" 35 "BuildingText$Place") ∈ Tg := tg 267 (by decide +kernel) (by decide +kernel)
theorem tw_268 : (Cond.methodLink "BuildingTextLaw" 76 ⟨"BuildingText", "check", "()I"⟩) ∈ Tg := tg 268 (by decide +kernel) (by decide +kernel)
theorem tw_269 : (Cond.instanceMethod ⟨"BuildingText", "check", "()I"⟩) ∈ Tg := tg 269 (by decide +kernel) (by decide +kernel)
theorem tw_270 : (Cond.selects "BuildingText" ⟨"BuildingText", "check", "()I"⟩ ⟨"BuildingText", "check", "()I"⟩) ∈ Tg := tg 270 (by decide +kernel) (by decide +kernel)
theorem tw_271 : (Cond.code ⟨"BuildingText", "check", "()I"⟩ prog_1_method_7_code 1 (some .int)) ∈ Tg := tg 271 (by decide +kernel) (by decide +kernel)
theorem tw_272 : (Cond.methodLink "BuildingText" 85 ⟨"java/util/ArrayList", "size", "()I"⟩) ∈ Tg := tg 272 (by decide +kernel) (by decide +kernel)
theorem tw_273 : (Cond.methodLink "BuildingTextLaw" 100 ⟨"BuildingText", "print", "()I"⟩) ∈ Tg := tg 273 (by decide +kernel) (by decide +kernel)
theorem tw_274 : (Cond.instanceMethod ⟨"BuildingText", "print", "()I"⟩) ∈ Tg := tg 274 (by decide +kernel) (by decide +kernel)
theorem tw_275 : (Cond.selects "BuildingText" ⟨"BuildingText", "print", "()I"⟩ ⟨"BuildingText", "print", "()I"⟩) ∈ Tg := tg 275 (by decide +kernel) (by decide +kernel)
theorem tw_276 : (Cond.code ⟨"BuildingText", "print", "()I"⟩ prog_1_method_14_code 1 (some .int)) ∈ Tg := tg 276 (by decide +kernel) (by decide +kernel)
theorem tw_279 : (Cond.instanceMethod ⟨"BuildingText$Plan", "layOut", "(LBuildingText$Edition;)V"⟩) ∈ Tg := tg 279 (by decide +kernel) (by decide +kernel)
theorem tw_280 : (Cond.code ⟨"BuildingText$Plan", "layOut", "(LBuildingText$Edition;)V"⟩ prog_8_method_2_code 2 none) ∈ Tg := tg 280 (by decide +kernel) (by decide +kernel)
theorem tw_281 : (Cond.methodLink "BuildingText$Plan" 15 ⟨"BuildingText$Plan", "countRows", "(LBuildingText$Edition;)I"⟩) ∈ Tg := tg 281 (by decide +kernel) (by decide +kernel)
theorem tw_282 : (Cond.static ⟨"BuildingText$Plan", "countRows", "(LBuildingText$Edition;)I"⟩) ∈ Tg := tg 282 (by decide +kernel) (by decide +kernel)
theorem tw_283 : (Cond.code ⟨"BuildingText$Plan", "countRows", "(LBuildingText$Edition;)I"⟩ prog_8_method_3_code 4 (some .int)) ∈ Tg := tg 283 (by decide +kernel) (by decide +kernel)
theorem tw_284 : (Cond.methodLink "BuildingText$Plan" 37 ⟨"java/util/ArrayList", "size", "()I"⟩) ∈ Tg := tg 284 (by decide +kernel) (by decide +kernel)
theorem tw_285 : (Cond.methodLink "BuildingText$Plan" 43 ⟨"java/util/ArrayList", "get", "(I)Ljava/lang/Object;"⟩) ∈ Tg := tg 285 (by decide +kernel) (by decide +kernel)
theorem tw_286 : (Cond.classLink "BuildingText$Plan" 47 "BuildingText$Place") ∈ Tg := tg 286 (by decide +kernel) (by decide +kernel)
theorem tw_287 : (Cond.methodLink "BuildingText$Plan" 56 ⟨"java/lang/Math", "max", "(II)I"⟩) ∈ Tg := tg 287 (by decide +kernel) (by decide +kernel)
theorem tw_288 : (Cond.methodLink "BuildingText$Plan" 19 ⟨"BuildingText$Plan", "layOutEmptyRows", "(I)V"⟩) ∈ Tg := tg 288 (by decide +kernel) (by decide +kernel)
theorem tw_290 : (Cond.instanceMethod ⟨"BuildingText$Plan", "layOutEmptyRows", "(I)V"⟩) ∈ Tg := tg 290 (by decide +kernel) (by decide +kernel)
theorem tw_291 : (Cond.code ⟨"BuildingText$Plan", "layOutEmptyRows", "(I)V"⟩ prog_8_method_4_code 3 none) ∈ Tg := tg 291 (by decide +kernel) (by decide +kernel)
theorem tw_292 : (Cond.methodLink "BuildingText$Plan" 23 ⟨"BuildingText$Plan", "paintKind", "(LBuildingText$Edition;IC)V"⟩) ∈ Tg := tg 292 (by decide +kernel) (by decide +kernel)
theorem tw_294 : (Cond.instanceMethod ⟨"BuildingText$Plan", "paintKind", "(LBuildingText$Edition;IC)V"⟩) ∈ Tg := tg 294 (by decide +kernel) (by decide +kernel)
theorem tw_295 : (Cond.code ⟨"BuildingText$Plan", "paintKind", "(LBuildingText$Edition;IC)V"⟩ prog_8_method_5_code 6 none) ∈ Tg := tg 295 (by decide +kernel) (by decide +kernel)
theorem tw_296 : (Cond.methodLink "BuildingText$Plan" 68 ⟨"BuildingText$Plan", "paintPlace", "(LBuildingText$Place;C)V"⟩) ∈ Tg := tg 296 (by decide +kernel) (by decide +kernel)
theorem tw_298 : (Cond.instanceMethod ⟨"BuildingText$Plan", "paintPlace", "(LBuildingText$Place;C)V"⟩) ∈ Tg := tg 298 (by decide +kernel) (by decide +kernel)
theorem tw_299 : (Cond.code ⟨"BuildingText$Plan", "paintPlace", "(LBuildingText$Place;C)V"⟩ prog_8_method_7_code 5 none) ∈ Tg := tg 299 (by decide +kernel) (by decide +kernel)
theorem tw_300 : (Cond.methodLink "BuildingText$Plan" 27 ⟨"BuildingText$Plan", "paintStops", "(LBuildingText$Edition;)V"⟩) ∈ Tg := tg 300 (by decide +kernel) (by decide +kernel)
theorem tw_302 : (Cond.instanceMethod ⟨"BuildingText$Plan", "paintStops", "(LBuildingText$Edition;)V"⟩) ∈ Tg := tg 302 (by decide +kernel) (by decide +kernel)
theorem tw_303 : (Cond.code ⟨"BuildingText$Plan", "paintStops", "(LBuildingText$Edition;)V"⟩ prog_8_method_6_code 3 none) ∈ Tg := tg 303 (by decide +kernel) (by decide +kernel)
theorem tw_304 : (Cond.classLink "BuildingText$Plan" 75 "BuildingText$Link") ∈ Tg := tg 304 (by decide +kernel) (by decide +kernel)
theorem tw_305 : (Cond.methodLink "BuildingTextLaw" 107 ⟨"BuildingText", "count", "(I)I"⟩) ∈ Tg := tg 305 (by decide +kernel) (by decide +kernel)
theorem tw_306 : (Cond.instanceMethod ⟨"BuildingText", "count", "(I)I"⟩) ∈ Tg := tg 306 (by decide +kernel) (by decide +kernel)
theorem tw_307 : (Cond.selects "BuildingText" ⟨"BuildingText", "count", "(I)I"⟩ ⟨"BuildingText", "count", "(I)I"⟩) ∈ Tg := tg 307 (by decide +kernel) (by decide +kernel)
theorem tw_308 : (Cond.code ⟨"BuildingText", "count", "(I)I"⟩ prog_1_method_16_code 2 (some .int)) ∈ Tg := tg 308 (by decide +kernel) (by decide +kernel)
theorem tw_309 : (Cond.methodLink "BuildingTextLaw" 55 ⟨"BuildingTextLaw", "sign", "(LBuildingText;I)I"⟩) ∈ Tg := tg 309 (by decide +kernel) (by decide +kernel)
theorem tw_310 : (Cond.static ⟨"BuildingTextLaw", "sign", "(LBuildingText;I)I"⟩) ∈ Tg := tg 310 (by decide +kernel) (by decide +kernel)
theorem tw_311 : (Cond.codeWith ⟨"BuildingTextLaw", "sign", "(LBuildingText;I)I"⟩ method_3_code 3 (some .int) [(0, 5, 8, 13), (0, 5, 11, 15)]) ∈ Tg := tg 311 (by decide +kernel) (by decide +kernel)
theorem tw_312 : (Cond.classLink "BuildingTextLaw" 13 "java/lang/IllegalArgumentException") ∈ Tg := tg 312 (by decide +kernel) (by decide +kernel)
theorem tw_313 : (Cond.classLink "BuildingTextLaw" 15 "java/lang/UnsupportedOperationException") ∈ Tg := tg 313 (by decide +kernel) (by decide +kernel)
theorem tw_314 : (Cond.methodLink "BuildingTextLaw" 7 ⟨"BuildingText", "sign", "(I)V"⟩) ∈ Tg := tg 314 (by decide +kernel) (by decide +kernel)
theorem tw_315 : (Cond.instanceMethod ⟨"BuildingText", "sign", "(I)V"⟩) ∈ Tg := tg 315 (by decide +kernel) (by decide +kernel)
theorem tw_316 : (Cond.selects "BuildingText" ⟨"BuildingText", "sign", "(I)V"⟩ ⟨"BuildingText", "sign", "(I)V"⟩) ∈ Tg := tg 316 (by decide +kernel) (by decide +kernel)
theorem tw_317 : (Cond.code ⟨"BuildingText", "sign", "(I)V"⟩ prog_1_method_2_code 2 none) ∈ Tg := tg 317 (by decide +kernel) (by decide +kernel)
theorem tw_318 : (Cond.classLink "BuildingText" 56 "java/lang/IllegalArgumentException") ∈ Tg := tg 318 (by decide +kernel) (by decide +kernel)
theorem tw_319 : (Cond.instantiable "java/lang/IllegalArgumentException" 6) ∈ Tg := tg 319 (by decide +kernel) (by decide +kernel)
theorem tw_327 : (Cond.selects "java/lang/IllegalArgumentException" ⟨"java/lang/Throwable", "fillInStackTrace", "(I)Ljava/lang/Throwable;"⟩ ⟨"java/lang/Throwable", "fillInStackTrace", "(I)Ljava/lang/Throwable;"⟩) ∈ Tg := tg 327 (by decide +kernel) (by decide +kernel)
theorem tw_328 : (Cond.selects "java/lang/IllegalArgumentException" ⟨"java/lang/Throwable", "fillInStackTrace", "()Ljava/lang/Throwable;"⟩ ⟨"java/lang/Throwable", "fillInStackTrace", "()Ljava/lang/Throwable;"⟩) ∈ Tg := tg 328 (by decide +kernel) (by decide +kernel)
theorem tw_329 : (Cond.lays "java/lang/IllegalArgumentException" "java/lang/Throwable" "cause" "Ljava/lang/Throwable;") ∈ Tg := tg 329 (by decide +kernel) (by decide +kernel)
theorem tw_330 : (Cond.lays "java/lang/Throwable" "java/lang/Throwable" "cause" "Ljava/lang/Throwable;") ∈ Tg := tg 330 (by decide +kernel) (by decide +kernel)
theorem tw_331 : (Cond.lays "java/lang/IllegalArgumentException" "java/lang/Throwable" "stackTrace" "[Ljava/lang/StackTraceElement;") ∈ Tg := tg 331 (by decide +kernel) (by decide +kernel)
theorem tw_332 : (Cond.lays "java/lang/Throwable" "java/lang/Throwable" "stackTrace" "[Ljava/lang/StackTraceElement;") ∈ Tg := tg 332 (by decide +kernel) (by decide +kernel)
theorem tw_333 : (Cond.lays "java/lang/IllegalArgumentException" "java/lang/Throwable" "suppressedExceptions" "Ljava/util/List;") ∈ Tg := tg 333 (by decide +kernel) (by decide +kernel)
theorem tw_334 : (Cond.lays "java/lang/Throwable" "java/lang/Throwable" "suppressedExceptions" "Ljava/util/List;") ∈ Tg := tg 334 (by decide +kernel) (by decide +kernel)
theorem tw_335 : (Cond.lays "java/lang/IllegalArgumentException" "java/lang/Throwable" "detailMessage" "Ljava/lang/String;") ∈ Tg := tg 335 (by decide +kernel) (by decide +kernel)
theorem tw_336 : (Cond.lays "java/lang/Throwable" "java/lang/Throwable" "detailMessage" "Ljava/lang/String;") ∈ Tg := tg 336 (by decide +kernel) (by decide +kernel)
theorem tw_337 : (Cond.lays "java/lang/IllegalArgumentException" "java/lang/Throwable" "backtrace" "Ljava/lang/Object;") ∈ Tg := tg 337 (by decide +kernel) (by decide +kernel)
theorem tw_338 : (Cond.lays "java/lang/Throwable" "java/lang/Throwable" "backtrace" "Ljava/lang/Object;") ∈ Tg := tg 338 (by decide +kernel) (by decide +kernel)
theorem tw_339 : (Cond.fieldLink "java/lang/Throwable" 198 "java/lang/Throwable" "backtrace" "Ljava/lang/Object;") ∈ Tg := tg 339 (by decide +kernel) (by decide +kernel)
theorem tw_340 : (Cond.superclass "java/lang/Throwable" "java/lang/Object") ∈ Tg := tg 340 (by decide +kernel) (by decide +kernel)
theorem tw_341 : (Cond.instanceMethod ⟨"java/lang/Throwable", "<init>", "()V"⟩) ∈ Tg := tg 341 (by decide +kernel) (by decide +kernel)
theorem tw_342 : (Cond.code ⟨"java/lang/Throwable", "<init>", "()V"⟩ prog_23_method_1_code 1 none) ∈ Tg := tg 342 (by decide +kernel) (by decide +kernel)
theorem tw_343 : (Cond.methodLink "java/lang/Throwable" 1 ⟨"java/lang/Object", "<init>", "()V"⟩) ∈ Tg := tg 343 (by decide +kernel) (by decide +kernel)
theorem tw_344 : (Cond.fieldLink "java/lang/Throwable" 13 "java/lang/Throwable" "UNASSIGNED_STACK" "[Ljava/lang/StackTraceElement;") ∈ Tg := tg 344 (by decide +kernel) (by decide +kernel)
theorem tw_346 : (Cond.fieldLink "java/lang/Throwable" 20 "java/lang/Throwable" "SUPPRESSED_SENTINEL" "Ljava/util/List;") ∈ Tg := tg 346 (by decide +kernel) (by decide +kernel)
theorem tw_348 : (Cond.methodLink "java/lang/Throwable" 27 ⟨"java/lang/Throwable", "fillInStackTrace", "()Ljava/lang/Throwable;"⟩) ∈ Tg := tg 348 (by decide +kernel) (by decide +kernel)
theorem tw_349 : (Cond.instanceMethod ⟨"java/lang/Throwable", "fillInStackTrace", "()Ljava/lang/Throwable;"⟩) ∈ Tg := tg 349 (by decide +kernel) (by decide +kernel)
theorem tw_351 : (Cond.selects "java/lang/IndexOutOfBoundsException" ⟨"java/lang/Throwable", "fillInStackTrace", "()Ljava/lang/Throwable;"⟩ ⟨"java/lang/Throwable", "fillInStackTrace", "()Ljava/lang/Throwable;"⟩) ∈ Tg := tg 351 (by decide +kernel) (by decide +kernel)
theorem tw_352 : (Cond.selects "java/lang/UnsupportedOperationException" ⟨"java/lang/Throwable", "fillInStackTrace", "()Ljava/lang/Throwable;"⟩ ⟨"java/lang/Throwable", "fillInStackTrace", "()Ljava/lang/Throwable;"⟩) ∈ Tg := tg 352 (by decide +kernel) (by decide +kernel)
theorem tw_353 : (Cond.codeSync ⟨"java/lang/Throwable", "fillInStackTrace", "()Ljava/lang/Throwable;"⟩ prog_23_method_18_code 1 (some (.object "java/lang/Throwable"))) ∈ Tg := tg 353 (by decide +kernel) (by decide +kernel)
theorem tw_354 : (Cond.methodLink "java/lang/Throwable" 202 ⟨"java/lang/Throwable", "fillInStackTrace", "(I)Ljava/lang/Throwable;"⟩) ∈ Tg := tg 354 (by decide +kernel) (by decide +kernel)
end
section
theorem tw_356 : (Cond.instanceMethod ⟨"java/lang/Throwable", "fillInStackTrace", "(I)Ljava/lang/Throwable;"⟩) ∈ Tg := tg 356 (by decide +kernel) (by decide +kernel)
theorem tw_358 : (Cond.native ⟨"java/lang/Throwable", "fillInStackTrace", "(I)Ljava/lang/Throwable;"⟩) ∈ Tg := tg 358 (by decide +kernel) (by decide +kernel)
theorem tw_360 : (Cond.methodLink "BuildingText" 60 ⟨"java/lang/IllegalArgumentException", "<init>", "(Ljava/lang/String;)V"⟩) ∈ Tg := tg 360 (by decide +kernel) (by decide +kernel)
theorem tw_361 : (Cond.instanceMethod ⟨"java/lang/IllegalArgumentException", "<init>", "(Ljava/lang/String;)V"⟩) ∈ Tg := tg 361 (by decide +kernel) (by decide +kernel)
theorem tw_362 : (Cond.code ⟨"java/lang/IllegalArgumentException", "<init>", "(Ljava/lang/String;)V"⟩ prog_15_method_2_code 2 none) ∈ Tg := tg 362 (by decide +kernel) (by decide +kernel)
theorem tw_363 : (Cond.methodLink "java/lang/IllegalArgumentException" 7 ⟨"java/lang/RuntimeException", "<init>", "(Ljava/lang/String;)V"⟩) ∈ Tg := tg 363 (by decide +kernel) (by decide +kernel)
theorem tw_364 : (Cond.instanceMethod ⟨"java/lang/RuntimeException", "<init>", "(Ljava/lang/String;)V"⟩) ∈ Tg := tg 364 (by decide +kernel) (by decide +kernel)
theorem tw_365 : (Cond.code ⟨"java/lang/RuntimeException", "<init>", "(Ljava/lang/String;)V"⟩ prog_20_method_2_code 2 none) ∈ Tg := tg 365 (by decide +kernel) (by decide +kernel)
theorem tw_366 : (Cond.methodLink "java/lang/RuntimeException" 7 ⟨"java/lang/Exception", "<init>", "(Ljava/lang/String;)V"⟩) ∈ Tg := tg 366 (by decide +kernel) (by decide +kernel)
theorem tw_367 : (Cond.instanceMethod ⟨"java/lang/Exception", "<init>", "(Ljava/lang/String;)V"⟩) ∈ Tg := tg 367 (by decide +kernel) (by decide +kernel)
theorem tw_368 : (Cond.code ⟨"java/lang/Exception", "<init>", "(Ljava/lang/String;)V"⟩ prog_14_method_2_code 2 none) ∈ Tg := tg 368 (by decide +kernel) (by decide +kernel)
theorem tw_369 : (Cond.methodLink "java/lang/Exception" 7 ⟨"java/lang/Throwable", "<init>", "(Ljava/lang/String;)V"⟩) ∈ Tg := tg 369 (by decide +kernel) (by decide +kernel)
theorem tw_370 : (Cond.instanceMethod ⟨"java/lang/Throwable", "<init>", "(Ljava/lang/String;)V"⟩) ∈ Tg := tg 370 (by decide +kernel) (by decide +kernel)
theorem tw_371 : (Cond.code ⟨"java/lang/Throwable", "<init>", "(Ljava/lang/String;)V"⟩ prog_23_method_2_code 2 none) ∈ Tg := tg 371 (by decide +kernel) (by decide +kernel)
theorem tw_373 : (Cond.fieldLink "java/lang/Throwable" 31 "java/lang/Throwable" "detailMessage" "Ljava/lang/String;") ∈ Tg := tg 373 (by decide +kernel) (by decide +kernel)
theorem tw_374 : (Cond.fieldLink "java/lang/Throwable" 7 "java/lang/Throwable" "cause" "Ljava/lang/Throwable;") ∈ Tg := tg 374 (by decide +kernel) (by decide +kernel)
theorem tw_375 : (Cond.fieldLink "java/lang/Throwable" 17 "java/lang/Throwable" "stackTrace" "[Ljava/lang/StackTraceElement;") ∈ Tg := tg 375 (by decide +kernel) (by decide +kernel)
theorem tw_376 : (Cond.fieldLink "java/lang/Throwable" 24 "java/lang/Throwable" "suppressedExceptions" "Ljava/util/List;") ∈ Tg := tg 376 (by decide +kernel) (by decide +kernel)
theorem tw_386 : (Cond.classLink "BuildingText" 67 "java/lang/UnsupportedOperationException") ∈ Tg := tg 386 (by decide +kernel) (by decide +kernel)
theorem tw_387 : (Cond.instantiable "java/lang/UnsupportedOperationException" 6) ∈ Tg := tg 387 (by decide +kernel) (by decide +kernel)
theorem tw_389 : (Cond.selects "java/lang/UnsupportedOperationException" ⟨"java/lang/Throwable", "fillInStackTrace", "(I)Ljava/lang/Throwable;"⟩ ⟨"java/lang/Throwable", "fillInStackTrace", "(I)Ljava/lang/Throwable;"⟩) ∈ Tg := tg 389 (by decide +kernel) (by decide +kernel)
theorem tw_390 : (Cond.lays "java/lang/UnsupportedOperationException" "java/lang/Throwable" "cause" "Ljava/lang/Throwable;") ∈ Tg := tg 390 (by decide +kernel) (by decide +kernel)
theorem tw_391 : (Cond.lays "java/lang/UnsupportedOperationException" "java/lang/Throwable" "stackTrace" "[Ljava/lang/StackTraceElement;") ∈ Tg := tg 391 (by decide +kernel) (by decide +kernel)
theorem tw_392 : (Cond.lays "java/lang/UnsupportedOperationException" "java/lang/Throwable" "suppressedExceptions" "Ljava/util/List;") ∈ Tg := tg 392 (by decide +kernel) (by decide +kernel)
theorem tw_393 : (Cond.lays "java/lang/UnsupportedOperationException" "java/lang/Throwable" "detailMessage" "Ljava/lang/String;") ∈ Tg := tg 393 (by decide +kernel) (by decide +kernel)
theorem tw_394 : (Cond.lays "java/lang/UnsupportedOperationException" "java/lang/Throwable" "backtrace" "Ljava/lang/Object;") ∈ Tg := tg 394 (by decide +kernel) (by decide +kernel)
theorem tw_396 : (Cond.methodLink "BuildingText" 71 ⟨"java/lang/UnsupportedOperationException", "<init>", "(Ljava/lang/String;)V"⟩) ∈ Tg := tg 396 (by decide +kernel) (by decide +kernel)
theorem tw_397 : (Cond.instanceMethod ⟨"java/lang/UnsupportedOperationException", "<init>", "(Ljava/lang/String;)V"⟩) ∈ Tg := tg 397 (by decide +kernel) (by decide +kernel)
theorem tw_398 : (Cond.code ⟨"java/lang/UnsupportedOperationException", "<init>", "(Ljava/lang/String;)V"⟩ prog_24_method_2_code 2 none) ∈ Tg := tg 398 (by decide +kernel) (by decide +kernel)
theorem tw_399 : (Cond.methodLink "java/lang/UnsupportedOperationException" 7 ⟨"java/lang/RuntimeException", "<init>", "(Ljava/lang/String;)V"⟩) ∈ Tg := tg 399 (by decide +kernel) (by decide +kernel)
theorem tw_402 : (Cond.methodLink "BuildingTextLaw" 64 ⟨"BuildingTextLaw", "read", "(LBuildingText;[J)I"⟩) ∈ Tg := tg 402 (by decide +kernel) (by decide +kernel)
theorem tw_403 : (Cond.static ⟨"BuildingTextLaw", "read", "(LBuildingText;[J)I"⟩) ∈ Tg := tg 403 (by decide +kernel) (by decide +kernel)
theorem tw_404 : (Cond.codeWith ⟨"BuildingTextLaw", "read", "(LBuildingText;[J)I"⟩ method_4_code 3 (some .int) [(0, 8, 11, 15)]) ∈ Tg := tg 404 (by decide +kernel) (by decide +kernel)
theorem tw_405 : (Cond.methodLink "BuildingTextLaw" 17 ⟨"BuildingText", "read", "()I"⟩) ∈ Tg := tg 405 (by decide +kernel) (by decide +kernel)
theorem tw_406 : (Cond.instanceMethod ⟨"BuildingText", "read", "()I"⟩) ∈ Tg := tg 406 (by decide +kernel) (by decide +kernel)
theorem tw_407 : (Cond.selects "BuildingText" ⟨"BuildingText", "read", "()I"⟩ ⟨"BuildingText", "read", "()I"⟩) ∈ Tg := tg 407 (by decide +kernel) (by decide +kernel)
theorem tw_408 : (Cond.code ⟨"BuildingText", "read", "()I"⟩ prog_1_method_3_code 4 (some .int)) ∈ Tg := tg 408 (by decide +kernel) (by decide +kernel)
theorem tw_409 : (Cond.classLink "BuildingText" 72 "BuildingText$TextReader") ∈ Tg := tg 409 (by decide +kernel) (by decide +kernel)
theorem tw_410 : (Cond.instantiable "BuildingText$TextReader" 6) ∈ Tg := tg 410 (by decide +kernel) (by decide +kernel)
theorem tw_412 : (Cond.instanceMethod ⟨"BuildingText$TextReader", "<init>", "([CILBuildingText$Edition;)V"⟩) ∈ Tg := tg 412 (by decide +kernel) (by decide +kernel)
theorem tw_413 : (Cond.code ⟨"BuildingText$TextReader", "<init>", "([CILBuildingText$Edition;)V"⟩ prog_9_method_1_code 4 none) ∈ Tg := tg 413 (by decide +kernel) (by decide +kernel)
theorem tw_414 : (Cond.methodLink "BuildingText$TextReader" 3 ⟨"java/lang/Object", "<init>", "()V"⟩) ∈ Tg := tg 414 (by decide +kernel) (by decide +kernel)
theorem tw_415 : (Cond.fieldLink "BuildingText$TextReader" 9 "BuildingText$TextReader" "text" "[C") ∈ Tg := tg 415 (by decide +kernel) (by decide +kernel)
theorem tw_416 : (Cond.fieldLink "BuildingText$TextReader" 15 "BuildingText$TextReader" "end" "I") ∈ Tg := tg 416 (by decide +kernel) (by decide +kernel)
theorem tw_417 : (Cond.fieldLink "BuildingText$TextReader" 19 "BuildingText$TextReader" "edition" "LBuildingText$Edition;") ∈ Tg := tg 417 (by decide +kernel) (by decide +kernel)
theorem tw_418 : (Cond.fieldLink "BuildingText$TextReader" 23 "BuildingText$TextReader" "stops" "[I") ∈ Tg := tg 418 (by decide +kernel) (by decide +kernel)
theorem tw_419 : (Cond.fieldLink "BuildingText$TextReader" 30 "BuildingText$TextReader" "next" "I") ∈ Tg := tg 419 (by decide +kernel) (by decide +kernel)
theorem tw_420 : (Cond.fieldLink "BuildingText$TextReader" 27 "BuildingText$TextReader" "refused" "I") ∈ Tg := tg 420 (by decide +kernel) (by decide +kernel)
theorem tw_421 : (Cond.laysFinal "BuildingText$TextReader" "BuildingText$TextReader" "text" "[C") ∈ Tg := tg 421 (by decide +kernel) (by decide +kernel)
theorem tw_423 : (Cond.laysFinal "BuildingText$TextReader" "BuildingText$TextReader" "end" "I") ∈ Tg := tg 423 (by decide +kernel) (by decide +kernel)
theorem tw_425 : (Cond.laysFinal "BuildingText$TextReader" "BuildingText$TextReader" "edition" "LBuildingText$Edition;") ∈ Tg := tg 425 (by decide +kernel) (by decide +kernel)
theorem tw_427 : (Cond.laysFinal "BuildingText$TextReader" "BuildingText$TextReader" "stops" "[I") ∈ Tg := tg 427 (by decide +kernel) (by decide +kernel)
theorem tw_429 : (Cond.lays "BuildingText$TextReader" "BuildingText$TextReader" "next" "I") ∈ Tg := tg 429 (by decide +kernel) (by decide +kernel)
theorem tw_431 : (Cond.lays "BuildingText$TextReader" "BuildingText$TextReader" "refused" "I") ∈ Tg := tg 431 (by decide +kernel) (by decide +kernel)
theorem tw_436 : (Cond.instanceMethod ⟨"BuildingText$TextReader", "readLines", "()I"⟩) ∈ Tg := tg 436 (by decide +kernel) (by decide +kernel)
theorem tw_437 : (Cond.code ⟨"BuildingText$TextReader", "readLines", "()I"⟩ prog_9_method_2_code 3 (some .int)) ∈ Tg := tg 437 (by decide +kernel) (by decide +kernel)
theorem tw_438 : (Cond.methodLink "BuildingText$TextReader" 33 ⟨"BuildingText$TextReader", "peek", "()I"⟩) ∈ Tg := tg 438 (by decide +kernel) (by decide +kernel)
theorem tw_440 : (Cond.instanceMethod ⟨"BuildingText$TextReader", "peek", "()I"⟩) ∈ Tg := tg 440 (by decide +kernel) (by decide +kernel)
theorem tw_441 : (Cond.code ⟨"BuildingText$TextReader", "peek", "()I"⟩ prog_9_method_19_code 1 (some .int)) ∈ Tg := tg 441 (by decide +kernel) (by decide +kernel)
theorem tw_442 : (Cond.methodLink "BuildingText$TextReader" 37 ⟨"BuildingText$TextReader", "readRack", "()V"⟩) ∈ Tg := tg 442 (by decide +kernel) (by decide +kernel)
theorem tw_444 : (Cond.instanceMethod ⟨"BuildingText$TextReader", "readRack", "()V"⟩) ∈ Tg := tg 444 (by decide +kernel) (by decide +kernel)
theorem tw_445 : (Cond.code ⟨"BuildingText$TextReader", "readRack", "()V"⟩ prog_9_method_3_code 3 none) ∈ Tg := tg 445 (by decide +kernel) (by decide +kernel)
theorem tw_446 : (Cond.methodLink "BuildingText$TextReader" 62 ⟨"BuildingText$TextReader", "readNewName", "()I"⟩) ∈ Tg := tg 446 (by decide +kernel) (by decide +kernel)
theorem tw_448 : (Cond.instanceMethod ⟨"BuildingText$TextReader", "readNewName", "()I"⟩) ∈ Tg := tg 448 (by decide +kernel) (by decide +kernel)
theorem tw_449 : (Cond.code ⟨"BuildingText$TextReader", "readNewName", "()I"⟩ prog_9_method_12_code 3 (some .int)) ∈ Tg := tg 449 (by decide +kernel) (by decide +kernel)
theorem tw_450 : (Cond.methodLink "BuildingText$TextReader" 130 ⟨"BuildingText$TextReader", "skip", "(I)V"⟩) ∈ Tg := tg 450 (by decide +kernel) (by decide +kernel)
theorem tw_452 : (Cond.instanceMethod ⟨"BuildingText$TextReader", "skip", "(I)V"⟩) ∈ Tg := tg 452 (by decide +kernel) (by decide +kernel)
theorem tw_453 : (Cond.code ⟨"BuildingText$TextReader", "skip", "(I)V"⟩ prog_9_method_17_code 2 none) ∈ Tg := tg 453 (by decide +kernel) (by decide +kernel)
theorem tw_454 : (Cond.methodLink "BuildingText$TextReader" 59 ⟨"BuildingText$TextReader", "refuse", "(I)V"⟩) ∈ Tg := tg 454 (by decide +kernel) (by decide +kernel)
theorem tw_456 : (Cond.instanceMethod ⟨"BuildingText$TextReader", "refuse", "(I)V"⟩) ∈ Tg := tg 456 (by decide +kernel) (by decide +kernel)
theorem tw_457 : (Cond.code ⟨"BuildingText$TextReader", "refuse", "(I)V"⟩ prog_9_method_18_code 2 none) ∈ Tg := tg 457 (by decide +kernel) (by decide +kernel)
theorem tw_458 : (Cond.methodLink "BuildingText$TextReader" 140 ⟨"BuildingText$TextReader", "readName", "()I"⟩) ∈ Tg := tg 458 (by decide +kernel) (by decide +kernel)
theorem tw_460 : (Cond.instanceMethod ⟨"BuildingText$TextReader", "readName", "()I"⟩) ∈ Tg := tg 460 (by decide +kernel) (by decide +kernel)
theorem tw_461 : (Cond.code ⟨"BuildingText$TextReader", "readName", "()I"⟩ prog_9_method_14_code 3 (some .int)) ∈ Tg := tg 461 (by decide +kernel) (by decide +kernel)
theorem tw_462 : (Cond.methodLink "BuildingText$TextReader" 150 ⟨"BuildingText$TextReader", "isLetter", "(I)Z"⟩) ∈ Tg := tg 462 (by decide +kernel) (by decide +kernel)
theorem tw_463 : (Cond.static ⟨"BuildingText$TextReader", "isLetter", "(I)Z"⟩) ∈ Tg := tg 463 (by decide +kernel) (by decide +kernel)
theorem tw_464 : (Cond.code ⟨"BuildingText$TextReader", "isLetter", "(I)Z"⟩ prog_9_method_20_code 1 (some .boolean)) ∈ Tg := tg 464 (by decide +kernel) (by decide +kernel)
theorem tw_465 : (Cond.methodLink "BuildingText$TextReader" 154 ⟨"BuildingText$TextReader", "isNameSign", "(I)Z"⟩) ∈ Tg := tg 465 (by decide +kernel) (by decide +kernel)
theorem tw_466 : (Cond.static ⟨"BuildingText$TextReader", "isNameSign", "(I)Z"⟩) ∈ Tg := tg 466 (by decide +kernel) (by decide +kernel)
theorem tw_467 : (Cond.code ⟨"BuildingText$TextReader", "isNameSign", "(I)Z"⟩ prog_9_method_22_code 1 (some .boolean)) ∈ Tg := tg 467 (by decide +kernel) (by decide +kernel)
theorem tw_468 : (Cond.methodLink "BuildingText$TextReader" 157 ⟨"BuildingText$TextReader", "isDigit", "(I)Z"⟩) ∈ Tg := tg 468 (by decide +kernel) (by decide +kernel)
theorem tw_469 : (Cond.static ⟨"BuildingText$TextReader", "isDigit", "(I)Z"⟩) ∈ Tg := tg 469 (by decide +kernel) (by decide +kernel)
theorem tw_470 : (Cond.code ⟨"BuildingText$TextReader", "isDigit", "(I)Z"⟩ prog_9_method_21_code 1 (some .boolean)) ∈ Tg := tg 470 (by decide +kernel) (by decide +kernel)
theorem tw_472 : (Cond.methodLink "BuildingText$TextReader" 65 ⟨"BuildingText$TextReader", "readArea", "(II)LBuildingText$Place;"⟩) ∈ Tg := tg 472 (by decide +kernel) (by decide +kernel)
theorem tw_474 : (Cond.instanceMethod ⟨"BuildingText$TextReader", "readArea", "(II)LBuildingText$Place;"⟩) ∈ Tg := tg 474 (by decide +kernel) (by decide +kernel)
theorem tw_475 : (Cond.code ⟨"BuildingText$TextReader", "readArea", "(II)LBuildingText$Place;"⟩ prog_9_method_5_code 7 (some (.object "BuildingText$Place"))) ∈ Tg := tg 475 (by decide +kernel) (by decide +kernel)
theorem tw_476 : (Cond.methodLink "BuildingText$TextReader" 89 ⟨"BuildingText$TextReader", "readNumber", "(II)I"⟩) ∈ Tg := tg 476 (by decide +kernel) (by decide +kernel)
theorem tw_478 : (Cond.instanceMethod ⟨"BuildingText$TextReader", "readNumber", "(II)I"⟩) ∈ Tg := tg 478 (by decide +kernel) (by decide +kernel)
theorem tw_479 : (Cond.code ⟨"BuildingText$TextReader", "readNumber", "(II)I"⟩ prog_9_method_15_code 6 (some .int)) ∈ Tg := tg 479 (by decide +kernel) (by decide +kernel)
theorem tw_480 : (Cond.methodLink "BuildingText$TextReader" 160 ⟨"java/lang/Math", "min", "(II)I"⟩) ∈ Tg := tg 480 (by decide +kernel) (by decide +kernel)
theorem tw_481 : (Cond.classLink "BuildingText$TextReader" 93 "BuildingText$Place") ∈ Tg := tg 481 (by decide +kernel) (by decide +kernel)
theorem tw_482 : (Cond.instantiable "BuildingText$Place" 11) ∈ Tg := tg 482 (by decide +kernel) (by decide +kernel)
theorem tw_484 : (Cond.instanceMethod ⟨"BuildingText$Place", "<init>", "(IIIIII)V"⟩) ∈ Tg := tg 484 (by decide +kernel) (by decide +kernel)
theorem tw_485 : (Cond.code ⟨"BuildingText$Place", "<init>", "(IIIIII)V"⟩ prog_7_method_1_code 7 none) ∈ Tg := tg 485 (by decide +kernel) (by decide +kernel)
theorem tw_486 : (Cond.methodLink "BuildingText$Place" 3 ⟨"java/lang/Object", "<init>", "()V"⟩) ∈ Tg := tg 486 (by decide +kernel) (by decide +kernel)
theorem tw_487 : (Cond.fieldLink "BuildingText$Place" 9 "BuildingText$Place" "name" "I") ∈ Tg := tg 487 (by decide +kernel) (by decide +kernel)
theorem tw_489 : (Cond.fieldLink "BuildingText$Place" 15 "BuildingText$Place" "kind" "I") ∈ Tg := tg 489 (by decide +kernel) (by decide +kernel)
theorem tw_496 : (Cond.fieldLink "BuildingText$Place" 18 "BuildingText$Place" "x" "I") ∈ Tg := tg 496 (by decide +kernel) (by decide +kernel)
theorem tw_500 : (Cond.fieldLink "BuildingText$Place" 21 "BuildingText$Place" "y" "I") ∈ Tg := tg 500 (by decide +kernel) (by decide +kernel)
theorem tw_504 : (Cond.fieldLink "BuildingText$Place" 24 "BuildingText$Place" "w" "I") ∈ Tg := tg 504 (by decide +kernel) (by decide +kernel)
theorem tw_508 : (Cond.fieldLink "BuildingText$Place" 27 "BuildingText$Place" "h" "I") ∈ Tg := tg 508 (by decide +kernel) (by decide +kernel)
theorem tw_516 : (Cond.fieldLink "BuildingText$Place" 30 "BuildingText$Place" "base" "I") ∈ Tg := tg 516 (by decide +kernel) (by decide +kernel)
theorem tw_527 : (Cond.laysFinal "BuildingText$Place" "BuildingText$Place" "name" "I") ∈ Tg := tg 527 (by decide +kernel) (by decide +kernel)
theorem tw_529 : (Cond.laysFinal "BuildingText$Place" "BuildingText$Place" "kind" "I") ∈ Tg := tg 529 (by decide +kernel) (by decide +kernel)
theorem tw_531 : (Cond.laysFinal "BuildingText$Place" "BuildingText$Place" "x" "I") ∈ Tg := tg 531 (by decide +kernel) (by decide +kernel)
theorem tw_533 : (Cond.laysFinal "BuildingText$Place" "BuildingText$Place" "y" "I") ∈ Tg := tg 533 (by decide +kernel) (by decide +kernel)
theorem tw_535 : (Cond.laysFinal "BuildingText$Place" "BuildingText$Place" "w" "I") ∈ Tg := tg 535 (by decide +kernel) (by decide +kernel)
theorem tw_537 : (Cond.laysFinal "BuildingText$Place" "BuildingText$Place" "h" "I") ∈ Tg := tg 537 (by decide +kernel) (by decide +kernel)
theorem tw_539 : (Cond.lays "BuildingText$Place" "BuildingText$Place" "level" "I") ∈ Tg := tg 539 (by decide +kernel) (by decide +kernel)
theorem tw_541 : (Cond.lays "BuildingText$Place" "BuildingText$Place" "base" "I") ∈ Tg := tg 541 (by decide +kernel) (by decide +kernel)
theorem tw_543 : (Cond.lays "BuildingText$Place" "BuildingText$Place" "lines" "I") ∈ Tg := tg 543 (by decide +kernel) (by decide +kernel)
theorem tw_545 : (Cond.lays "BuildingText$Place" "BuildingText$Place" "hasWayOrLift" "Z") ∈ Tg := tg 545 (by decide +kernel) (by decide +kernel)
theorem tw_547 : (Cond.lays "BuildingText$Place" "BuildingText$Place" "units" "I") ∈ Tg := tg 547 (by decide +kernel) (by decide +kernel)
theorem tw_550 : (Cond.methodLink "BuildingText$TextReader" 69 ⟨"BuildingText$TextReader", "endsLine", "()Z"⟩) ∈ Tg := tg 550 (by decide +kernel) (by decide +kernel)
theorem tw_552 : (Cond.instanceMethod ⟨"BuildingText$TextReader", "endsLine", "()Z"⟩) ∈ Tg := tg 552 (by decide +kernel) (by decide +kernel)
theorem tw_553 : (Cond.code ⟨"BuildingText$TextReader", "endsLine", "()Z"⟩ prog_9_method_16_code 1 (some .boolean)) ∈ Tg := tg 553 (by decide +kernel) (by decide +kernel)
theorem tw_554 : (Cond.methodLink "BuildingText$TextReader" 79 ⟨"java/util/ArrayList", "add", "(Ljava/lang/Object;)Z"⟩) ∈ Tg := tg 554 (by decide +kernel) (by decide +kernel)
theorem tw_555 : (Cond.methodLink "BuildingText$TextReader" 40 ⟨"BuildingText$TextReader", "readBin", "()V"⟩) ∈ Tg := tg 555 (by decide +kernel) (by decide +kernel)
theorem tw_557 : (Cond.instanceMethod ⟨"BuildingText$TextReader", "readBin", "()V"⟩) ∈ Tg := tg 557 (by decide +kernel) (by decide +kernel)
theorem tw_558 : (Cond.code ⟨"BuildingText$TextReader", "readBin", "()V"⟩ prog_9_method_4_code 5 none) ∈ Tg := tg 558 (by decide +kernel) (by decide +kernel)
theorem tw_559 : (Cond.methodLink "BuildingText$TextReader" 85 ⟨"BuildingText$TextReader", "readUsedName", "(II)I"⟩) ∈ Tg := tg 559 (by decide +kernel) (by decide +kernel)
theorem tw_561 : (Cond.instanceMethod ⟨"BuildingText$TextReader", "readUsedName", "(II)I"⟩) ∈ Tg := tg 561 (by decide +kernel) (by decide +kernel)
theorem tw_562 : (Cond.code ⟨"BuildingText$TextReader", "readUsedName", "(II)I"⟩ prog_9_method_13_code 6 (some .int)) ∈ Tg := tg 562 (by decide +kernel) (by decide +kernel)
theorem tw_563 : (Cond.methodLink "BuildingText$TextReader" 114 ⟨"java/util/ArrayList", "get", "(I)Ljava/lang/Object;"⟩) ∈ Tg := tg 563 (by decide +kernel) (by decide +kernel)
theorem tw_564 : (Cond.methodLink "BuildingText$TextReader" 43 ⟨"BuildingText$TextReader", "readPiece", "()V"⟩) ∈ Tg := tg 564 (by decide +kernel) (by decide +kernel)
theorem tw_566 : (Cond.instanceMethod ⟨"BuildingText$TextReader", "readPiece", "()V"⟩) ∈ Tg := tg 566 (by decide +kernel) (by decide +kernel)
theorem tw_567 : (Cond.code ⟨"BuildingText$TextReader", "readPiece", "()V"⟩ prog_9_method_6_code 4 none) ∈ Tg := tg 567 (by decide +kernel) (by decide +kernel)
theorem tw_568 : (Cond.methodLink "BuildingText$TextReader" 46 ⟨"BuildingText$TextReader", "readWay", "()V"⟩) ∈ Tg := tg 568 (by decide +kernel) (by decide +kernel)
theorem tw_570 : (Cond.instanceMethod ⟨"BuildingText$TextReader", "readWay", "()V"⟩) ∈ Tg := tg 570 (by decide +kernel) (by decide +kernel)
theorem tw_571 : (Cond.code ⟨"BuildingText$TextReader", "readWay", "()V"⟩ prog_9_method_10_code 4 none) ∈ Tg := tg 571 (by decide +kernel) (by decide +kernel)
end
section
theorem tw_574 : (Cond.instanceMethod ⟨"BuildingText$Edition", "addWay", "(IIZ)V"⟩) ∈ Tg := tg 574 (by decide +kernel) (by decide +kernel)
theorem tw_575 : (Cond.code ⟨"BuildingText$Edition", "addWay", "(IIZ)V"⟩ prog_2_method_7_code 4 none) ∈ Tg := tg 575 (by decide +kernel) (by decide +kernel)
theorem tw_576 : (Cond.classLink "BuildingText$Edition" 62 "BuildingText$Link") ∈ Tg := tg 576 (by decide +kernel) (by decide +kernel)
theorem tw_577 : (Cond.instantiable "BuildingText$Link" 3) ∈ Tg := tg 577 (by decide +kernel) (by decide +kernel)
theorem tw_579 : (Cond.instanceMethod ⟨"BuildingText$Link", "<init>", "(IIZ)V"⟩) ∈ Tg := tg 579 (by decide +kernel) (by decide +kernel)
theorem tw_580 : (Cond.code ⟨"BuildingText$Link", "<init>", "(IIZ)V"⟩ prog_6_method_1_code 4 none) ∈ Tg := tg 580 (by decide +kernel) (by decide +kernel)
theorem tw_581 : (Cond.methodLink "BuildingText$Link" 1 ⟨"java/lang/Object", "<init>", "()V"⟩) ∈ Tg := tg 581 (by decide +kernel) (by decide +kernel)
theorem tw_582 : (Cond.fieldLink "BuildingText$Link" 7 "BuildingText$Link" "first" "I") ∈ Tg := tg 582 (by decide +kernel) (by decide +kernel)
theorem tw_585 : (Cond.fieldLink "BuildingText$Link" 13 "BuildingText$Link" "second" "I") ∈ Tg := tg 585 (by decide +kernel) (by decide +kernel)
theorem tw_589 : (Cond.fieldLink "BuildingText$Link" 16 "BuildingText$Link" "bothWays" "Z") ∈ Tg := tg 589 (by decide +kernel) (by decide +kernel)
theorem tw_591 : (Cond.laysFinal "BuildingText$Link" "BuildingText$Link" "first" "I") ∈ Tg := tg 591 (by decide +kernel) (by decide +kernel)
theorem tw_593 : (Cond.laysFinal "BuildingText$Link" "BuildingText$Link" "second" "I") ∈ Tg := tg 593 (by decide +kernel) (by decide +kernel)
theorem tw_595 : (Cond.laysFinal "BuildingText$Link" "BuildingText$Link" "bothWays" "Z") ∈ Tg := tg 595 (by decide +kernel) (by decide +kernel)
theorem tw_598 : (Cond.methodLink "BuildingText$Edition" 67 ⟨"java/util/ArrayList", "add", "(Ljava/lang/Object;)Z"⟩) ∈ Tg := tg 598 (by decide +kernel) (by decide +kernel)
theorem tw_599 : (Cond.methodLink "BuildingText$TextReader" 49 ⟨"BuildingText$TextReader", "readAtPiece", "(I)V"⟩) ∈ Tg := tg 599 (by decide +kernel) (by decide +kernel)
theorem tw_601 : (Cond.instanceMethod ⟨"BuildingText$TextReader", "readAtPiece", "(I)V"⟩) ∈ Tg := tg 601 (by decide +kernel) (by decide +kernel)
theorem tw_602 : (Cond.code ⟨"BuildingText$TextReader", "readAtPiece", "(I)V"⟩ prog_9_method_7_code 4 none) ∈ Tg := tg 602 (by decide +kernel) (by decide +kernel)
theorem tw_603 : (Cond.methodLink "BuildingText$TextReader" 103 ⟨"BuildingText$TextReader", "addAtPiece", "(III)V"⟩) ∈ Tg := tg 603 (by decide +kernel) (by decide +kernel)
theorem tw_605 : (Cond.instanceMethod ⟨"BuildingText$TextReader", "addAtPiece", "(III)V"⟩) ∈ Tg := tg 605 (by decide +kernel) (by decide +kernel)
theorem tw_606 : (Cond.code ⟨"BuildingText$TextReader", "addAtPiece", "(III)V"⟩ prog_9_method_9_code 6 none) ∈ Tg := tg 606 (by decide +kernel) (by decide +kernel)
theorem tw_607 : (Cond.methodLink "BuildingText$TextReader" 53 ⟨"BuildingText$TextReader", "readLift", "()V"⟩) ∈ Tg := tg 607 (by decide +kernel) (by decide +kernel)
theorem tw_609 : (Cond.instanceMethod ⟨"BuildingText$TextReader", "readLift", "()V"⟩) ∈ Tg := tg 609 (by decide +kernel) (by decide +kernel)
theorem tw_610 : (Cond.code ⟨"BuildingText$TextReader", "readLift", "()V"⟩ prog_9_method_8_code 5 none) ∈ Tg := tg 610 (by decide +kernel) (by decide +kernel)
theorem tw_611 : (Cond.methodLink "BuildingText$TextReader" 107 ⟨"java/util/ArrayList", "size", "()I"⟩) ∈ Tg := tg 611 (by decide +kernel) (by decide +kernel)
theorem tw_614 : (Cond.instanceMethod ⟨"BuildingText$Edition", "addStop", "(II)V"⟩) ∈ Tg := tg 614 (by decide +kernel) (by decide +kernel)
theorem tw_615 : (Cond.code ⟨"BuildingText$Edition", "addStop", "(II)V"⟩ prog_2_method_9_code 3 none) ∈ Tg := tg 615 (by decide +kernel) (by decide +kernel)
theorem tw_616 : (Cond.methodLink "BuildingText$TextReader" 56 ⟨"BuildingText$TextReader", "readServe", "()V"⟩) ∈ Tg := tg 616 (by decide +kernel) (by decide +kernel)
theorem tw_618 : (Cond.instanceMethod ⟨"BuildingText$TextReader", "readServe", "()V"⟩) ∈ Tg := tg 618 (by decide +kernel) (by decide +kernel)
theorem tw_619 : (Cond.code ⟨"BuildingText$TextReader", "readServe", "()V"⟩ prog_9_method_11_code 3 none) ∈ Tg := tg 619 (by decide +kernel) (by decide +kernel)
theorem tw_622 : (Cond.instanceMethod ⟨"BuildingText$Edition", "addServe", "(II)V"⟩) ∈ Tg := tg 622 (by decide +kernel) (by decide +kernel)
theorem tw_623 : (Cond.code ⟨"BuildingText$Edition", "addServe", "(II)V"⟩ prog_2_method_8_code 3 none) ∈ Tg := tg 623 (by decide +kernel) (by decide +kernel)
theorem tw_626 : (Cond.instanceMethod ⟨"BuildingText$Edition", "isTooLarge", "()Z"⟩) ∈ Tg := tg 626 (by decide +kernel) (by decide +kernel)
theorem tw_627 : (Cond.code ⟨"BuildingText$Edition", "isTooLarge", "()Z"⟩ prog_2_method_2_code 1 (some .boolean)) ∈ Tg := tg 627 (by decide +kernel) (by decide +kernel)
theorem tw_629 : (Cond.methodLink "BuildingText" 90 ⟨"BuildingText", "take", "(LBuildingText$Edition;)V"⟩) ∈ Tg := tg 629 (by decide +kernel) (by decide +kernel)
theorem tw_631 : (Cond.instanceMethod ⟨"BuildingText", "take", "(LBuildingText$Edition;)V"⟩) ∈ Tg := tg 631 (by decide +kernel) (by decide +kernel)
theorem tw_632 : (Cond.code ⟨"BuildingText", "take", "(LBuildingText$Edition;)V"⟩ prog_1_method_4_code 2 none) ∈ Tg := tg 632 (by decide +kernel) (by decide +kernel)
theorem tw_635 : (Cond.instanceMethod ⟨"BuildingText$Going", "learn", "(LBuildingText$Edition;)V"⟩) ∈ Tg := tg 635 (by decide +kernel) (by decide +kernel)
theorem tw_636 : (Cond.code ⟨"BuildingText$Going", "learn", "(LBuildingText$Edition;)V"⟩ prog_4_method_2_code 4 none) ∈ Tg := tg 636 (by decide +kernel) (by decide +kernel)
theorem tw_637 : (Cond.methodLink "BuildingText$Going" 21 ⟨"BuildingText$Going", "forget", "()V"⟩) ∈ Tg := tg 637 (by decide +kernel) (by decide +kernel)
theorem tw_639 : (Cond.instanceMethod ⟨"BuildingText$Going", "forget", "()V"⟩) ∈ Tg := tg 639 (by decide +kernel) (by decide +kernel)
theorem tw_640 : (Cond.code ⟨"BuildingText$Going", "forget", "()V"⟩ prog_4_method_3_code 2 none) ∈ Tg := tg 640 (by decide +kernel) (by decide +kernel)
theorem tw_641 : (Cond.methodLink "BuildingText$Going" 30 ⟨"java/util/ArrayList", "size", "()I"⟩) ∈ Tg := tg 641 (by decide +kernel) (by decide +kernel)
theorem tw_642 : (Cond.methodLink "BuildingText$Going" 39 ⟨"BuildingText$Going", "learnWays", "(LBuildingText$Edition;)V"⟩) ∈ Tg := tg 642 (by decide +kernel) (by decide +kernel)
theorem tw_644 : (Cond.instanceMethod ⟨"BuildingText$Going", "learnWays", "(LBuildingText$Edition;)V"⟩) ∈ Tg := tg 644 (by decide +kernel) (by decide +kernel)
theorem tw_645 : (Cond.code ⟨"BuildingText$Going", "learnWays", "(LBuildingText$Edition;)V"⟩ prog_4_method_4_code 4 none) ∈ Tg := tg 645 (by decide +kernel) (by decide +kernel)
theorem tw_646 : (Cond.methodLink "BuildingText$Going" 46 ⟨"java/util/ArrayList", "get", "(I)Ljava/lang/Object;"⟩) ∈ Tg := tg 646 (by decide +kernel) (by decide +kernel)
theorem tw_647 : (Cond.classLink "BuildingText$Going" 75 "BuildingText$Link") ∈ Tg := tg 647 (by decide +kernel) (by decide +kernel)
theorem tw_648 : (Cond.methodLink "BuildingText$Going" 83 ⟨"BuildingText$Going", "learnStep", "(II)V"⟩) ∈ Tg := tg 648 (by decide +kernel) (by decide +kernel)
theorem tw_650 : (Cond.instanceMethod ⟨"BuildingText$Going", "learnStep", "(II)V"⟩) ∈ Tg := tg 650 (by decide +kernel) (by decide +kernel)
theorem tw_651 : (Cond.code ⟨"BuildingText$Going", "learnStep", "(II)V"⟩ prog_4_method_5_code 3 none) ∈ Tg := tg 651 (by decide +kernel) (by decide +kernel)
theorem tw_652 : (Cond.methodLink "BuildingText$Going" 43 ⟨"BuildingText$Going", "learnLifts", "(LBuildingText$Edition;)V"⟩) ∈ Tg := tg 652 (by decide +kernel) (by decide +kernel)
theorem tw_654 : (Cond.instanceMethod ⟨"BuildingText$Going", "learnLifts", "(LBuildingText$Edition;)V"⟩) ∈ Tg := tg 654 (by decide +kernel) (by decide +kernel)
theorem tw_655 : (Cond.code ⟨"BuildingText$Going", "learnLifts", "(LBuildingText$Edition;)V"⟩ prog_4_method_6_code 4 none) ∈ Tg := tg 655 (by decide +kernel) (by decide +kernel)
theorem tw_656 : (Cond.classLink "BuildingText$Going" 50 "BuildingText$Place") ∈ Tg := tg 656 (by decide +kernel) (by decide +kernel)
theorem tw_657 : (Cond.methodLink "BuildingText$Going" 62 ⟨"BuildingText$Going", "spread", "([JJ)J"⟩) ∈ Tg := tg 657 (by decide +kernel) (by decide +kernel)
theorem tw_659 : (Cond.instanceMethod ⟨"BuildingText$Going", "spread", "([JJ)J"⟩) ∈ Tg := tg 659 (by decide +kernel) (by decide +kernel)
theorem tw_660 : (Cond.code ⟨"BuildingText$Going", "spread", "([JJ)J"⟩ prog_4_method_11_code 9 (some .long)) ∈ Tg := tg 660 (by decide +kernel) (by decide +kernel)
theorem tw_661 : (Cond.methodLink "BuildingText$Going" 100 ⟨"BuildingText$Going", "widen", "([JJ)J"⟩) ∈ Tg := tg 661 (by decide +kernel) (by decide +kernel)
theorem tw_663 : (Cond.instanceMethod ⟨"BuildingText$Going", "widen", "([JJ)J"⟩) ∈ Tg := tg 663 (by decide +kernel) (by decide +kernel)
theorem tw_664 : (Cond.code ⟨"BuildingText$Going", "widen", "([JJ)J"⟩ prog_4_method_12_code 7 (some .long)) ∈ Tg := tg 664 (by decide +kernel) (by decide +kernel)
theorem tw_667 : (Cond.instanceMethod ⟨"BuildingText$Inspection", "inspect", "(LBuildingText$Edition;LBuildingText$Going;)V"⟩) ∈ Tg := tg 667 (by decide +kernel) (by decide +kernel)
theorem tw_668 : (Cond.code ⟨"BuildingText$Inspection", "inspect", "(LBuildingText$Edition;LBuildingText$Going;)V"⟩ prog_5_method_2_code 4 none) ∈ Tg := tg 668 (by decide +kernel) (by decide +kernel)
theorem tw_669 : (Cond.methodLink "BuildingText$Inspection" 18 ⟨"java/util/ArrayList", "clear", "()V"⟩) ∈ Tg := tg 669 (by decide +kernel) (by decide +kernel)
theorem tw_670 : (Cond.instanceMethod ⟨"java/util/ArrayList", "clear", "()V"⟩) ∈ Tg := tg 670 (by decide +kernel) (by decide +kernel)
theorem tw_671 : (Cond.selects "java/util/ArrayList" ⟨"java/util/ArrayList", "clear", "()V"⟩ ⟨"java/util/ArrayList", "clear", "()V"⟩) ∈ Tg := tg 671 (by decide +kernel) (by decide +kernel)
theorem tw_672 : (Cond.code ⟨"java/util/ArrayList", "clear", "()V"⟩ prog_27_method_40_code 4 none) ∈ Tg := tg 672 (by decide +kernel) (by decide +kernel)
theorem tw_673 : (Cond.methodLink "BuildingText$Inspection" 26 ⟨"java/util/ArrayList", "size", "()I"⟩) ∈ Tg := tg 673 (by decide +kernel) (by decide +kernel)
theorem tw_674 : (Cond.methodLink "BuildingText$Inspection" 30 ⟨"java/util/ArrayList", "get", "(I)Ljava/lang/Object;"⟩) ∈ Tg := tg 674 (by decide +kernel) (by decide +kernel)
theorem tw_675 : (Cond.classLink "BuildingText$Inspection" 34 "BuildingText$Place") ∈ Tg := tg 675 (by decide +kernel) (by decide +kernel)
theorem tw_676 : (Cond.methodLink "BuildingText$Inspection" 40 ⟨"BuildingText$Inspection", "inspectArea", "(LBuildingText$Edition;I)V"⟩) ∈ Tg := tg 676 (by decide +kernel) (by decide +kernel)
theorem tw_678 : (Cond.instanceMethod ⟨"BuildingText$Inspection", "inspectArea", "(LBuildingText$Edition;I)V"⟩) ∈ Tg := tg 678 (by decide +kernel) (by decide +kernel)
theorem tw_679 : (Cond.code ⟨"BuildingText$Inspection", "inspectArea", "(LBuildingText$Edition;I)V"⟩ prog_5_method_4_code 7 none) ∈ Tg := tg 679 (by decide +kernel) (by decide +kernel)
theorem tw_682 : (Cond.instanceMethod ⟨"BuildingText$Place", "sharesArea", "(LBuildingText$Place;)Z"⟩) ∈ Tg := tg 682 (by decide +kernel) (by decide +kernel)
theorem tw_683 : (Cond.code ⟨"BuildingText$Place", "sharesArea", "(LBuildingText$Place;)Z"⟩ prog_7_method_3_code 2 (some .boolean)) ∈ Tg := tg 683 (by decide +kernel) (by decide +kernel)
theorem tw_684 : (Cond.classLink "BuildingText$Inspection" 61 "BuildingText$Fault") ∈ Tg := tg 684 (by decide +kernel) (by decide +kernel)
theorem tw_685 : (Cond.instantiable "BuildingText$Fault" 3) ∈ Tg := tg 685 (by decide +kernel) (by decide +kernel)
theorem tw_687 : (Cond.instanceMethod ⟨"BuildingText$Fault", "<init>", "(III)V"⟩) ∈ Tg := tg 687 (by decide +kernel) (by decide +kernel)
theorem tw_688 : (Cond.code ⟨"BuildingText$Fault", "<init>", "(III)V"⟩ prog_3_method_1_code 4 none) ∈ Tg := tg 688 (by decide +kernel) (by decide +kernel)
theorem tw_689 : (Cond.methodLink "BuildingText$Fault" 1 ⟨"java/lang/Object", "<init>", "()V"⟩) ∈ Tg := tg 689 (by decide +kernel) (by decide +kernel)
theorem tw_690 : (Cond.fieldLink "BuildingText$Fault" 7 "BuildingText$Fault" "kind" "I") ∈ Tg := tg 690 (by decide +kernel) (by decide +kernel)
theorem tw_692 : (Cond.fieldLink "BuildingText$Fault" 13 "BuildingText$Fault" "place" "I") ∈ Tg := tg 692 (by decide +kernel) (by decide +kernel)
theorem tw_694 : (Cond.fieldLink "BuildingText$Fault" 16 "BuildingText$Fault" "other" "I") ∈ Tg := tg 694 (by decide +kernel) (by decide +kernel)
theorem tw_696 : (Cond.laysFinal "BuildingText$Fault" "BuildingText$Fault" "kind" "I") ∈ Tg := tg 696 (by decide +kernel) (by decide +kernel)
theorem tw_698 : (Cond.laysFinal "BuildingText$Fault" "BuildingText$Fault" "place" "I") ∈ Tg := tg 698 (by decide +kernel) (by decide +kernel)
theorem tw_700 : (Cond.laysFinal "BuildingText$Fault" "BuildingText$Fault" "other" "I") ∈ Tg := tg 700 (by decide +kernel) (by decide +kernel)
theorem tw_703 : (Cond.methodLink "BuildingText$Inspection" 66 ⟨"java/util/ArrayList", "add", "(Ljava/lang/Object;)Z"⟩) ∈ Tg := tg 703 (by decide +kernel) (by decide +kernel)
theorem tw_704 : (Cond.methodLink "BuildingText$Inspection" 44 ⟨"BuildingText$Inspection", "inspectBin", "(LBuildingText$Edition;ILBuildingText$Going;)V"⟩) ∈ Tg := tg 704 (by decide +kernel) (by decide +kernel)
theorem tw_706 : (Cond.instanceMethod ⟨"BuildingText$Inspection", "inspectBin", "(LBuildingText$Edition;ILBuildingText$Going;)V"⟩) ∈ Tg := tg 706 (by decide +kernel) (by decide +kernel)
theorem tw_707 : (Cond.code ⟨"BuildingText$Inspection", "inspectBin", "(LBuildingText$Edition;ILBuildingText$Going;)V"⟩ prog_5_method_3_code 5 none) ∈ Tg := tg 707 (by decide +kernel) (by decide +kernel)
theorem tw_710 : (Cond.instanceMethod ⟨"BuildingText$Place", "contains", "(LBuildingText$Place;)Z"⟩) ∈ Tg := tg 710 (by decide +kernel) (by decide +kernel)
theorem tw_711 : (Cond.code ⟨"BuildingText$Place", "contains", "(LBuildingText$Place;)Z"⟩ prog_7_method_2_code 2 (some .boolean)) ∈ Tg := tg 711 (by decide +kernel) (by decide +kernel)
theorem tw_712 : (Cond.methodLink "BuildingText$Inspection" 70 ⟨"BuildingText$Inspection", "isServed", "(LBuildingText$Edition;ILBuildingText$Going;)Z"⟩) ∈ Tg := tg 712 (by decide +kernel) (by decide +kernel)
theorem tw_713 : (Cond.static ⟨"BuildingText$Inspection", "isServed", "(LBuildingText$Edition;ILBuildingText$Going;)Z"⟩) ∈ Tg := tg 713 (by decide +kernel) (by decide +kernel)
theorem tw_714 : (Cond.code ⟨"BuildingText$Inspection", "isServed", "(LBuildingText$Edition;ILBuildingText$Going;)Z"⟩ prog_5_method_5_code 5 (some .boolean)) ∈ Tg := tg 714 (by decide +kernel) (by decide +kernel)
theorem tw_715 : (Cond.classLink "BuildingText$Inspection" 83 "BuildingText$Link") ∈ Tg := tg 715 (by decide +kernel) (by decide +kernel)
theorem tw_718 : (Cond.instanceMethod ⟨"BuildingText$Going", "isReached", "(I)Z"⟩) ∈ Tg := tg 718 (by decide +kernel) (by decide +kernel)
theorem tw_719 : (Cond.code ⟨"BuildingText$Going", "isReached", "(I)Z"⟩ prog_4_method_7_code 2 (some .boolean)) ∈ Tg := tg 719 (by decide +kernel) (by decide +kernel)
theorem tw_720 : (Cond.methodLink "BuildingText$Inspection" 48 ⟨"BuildingText$Inspection", "inspectPiece", "(LBuildingText$Edition;ILBuildingText$Going;)V"⟩) ∈ Tg := tg 720 (by decide +kernel) (by decide +kernel)
theorem tw_722 : (Cond.instanceMethod ⟨"BuildingText$Inspection", "inspectPiece", "(LBuildingText$Edition;ILBuildingText$Going;)V"⟩) ∈ Tg := tg 722 (by decide +kernel) (by decide +kernel)
theorem tw_723 : (Cond.code ⟨"BuildingText$Inspection", "inspectPiece", "(LBuildingText$Edition;ILBuildingText$Going;)V"⟩ prog_5_method_7_code 4 none) ∈ Tg := tg 723 (by decide +kernel) (by decide +kernel)
theorem tw_726 : (Cond.instanceMethod ⟨"BuildingText$Going", "isExiting", "(I)Z"⟩) ∈ Tg := tg 726 (by decide +kernel) (by decide +kernel)
theorem tw_727 : (Cond.code ⟨"BuildingText$Going", "isExiting", "(I)Z"⟩ prog_4_method_8_code 2 (some .boolean)) ∈ Tg := tg 727 (by decide +kernel) (by decide +kernel)
theorem tw_728 : (Cond.methodLink "BuildingText$Inspection" 51 ⟨"BuildingText$Inspection", "inspectAtPiece", "(LBuildingText$Edition;I)V"⟩) ∈ Tg := tg 728 (by decide +kernel) (by decide +kernel)
theorem tw_730 : (Cond.instanceMethod ⟨"BuildingText$Inspection", "inspectAtPiece", "(LBuildingText$Edition;I)V"⟩) ∈ Tg := tg 730 (by decide +kernel) (by decide +kernel)
theorem tw_731 : (Cond.code ⟨"BuildingText$Inspection", "inspectAtPiece", "(LBuildingText$Edition;I)V"⟩ prog_5_method_6_code 4 none) ∈ Tg := tg 731 (by decide +kernel) (by decide +kernel)
theorem tw_732 : (Cond.methodLink "BuildingTextLaw" 68 ⟨"BuildingTextLaw", "place", "(LBuildingText;II[J)I"⟩) ∈ Tg := tg 732 (by decide +kernel) (by decide +kernel)
theorem tw_733 : (Cond.static ⟨"BuildingTextLaw", "place", "(LBuildingText;II[J)I"⟩) ∈ Tg := tg 733 (by decide +kernel) (by decide +kernel)
theorem tw_734 : (Cond.codeWith ⟨"BuildingTextLaw", "place", "(LBuildingText;II[J)I"⟩ method_5_code 5 (some .int) [(0, 10, 13, 13)]) ∈ Tg := tg 734 (by decide +kernel) (by decide +kernel)
theorem tw_735 : (Cond.methodLink "BuildingTextLaw" 21 ⟨"BuildingText", "place", "(II)I"⟩) ∈ Tg := tg 735 (by decide +kernel) (by decide +kernel)
theorem tw_736 : (Cond.instanceMethod ⟨"BuildingText", "place", "(II)I"⟩) ∈ Tg := tg 736 (by decide +kernel) (by decide +kernel)
theorem tw_737 : (Cond.selects "BuildingText" ⟨"BuildingText", "place", "(II)I"⟩ ⟨"BuildingText", "place", "(II)I"⟩) ∈ Tg := tg 737 (by decide +kernel) (by decide +kernel)
theorem tw_738 : (Cond.code ⟨"BuildingText", "place", "(II)I"⟩ prog_1_method_5_code 4 (some .int)) ∈ Tg := tg 738 (by decide +kernel) (by decide +kernel)
theorem tw_741 : (Cond.instanceMethod ⟨"BuildingText$Edition", "placeOrNull", "(I)LBuildingText$Place;"⟩) ∈ Tg := tg 741 (by decide +kernel) (by decide +kernel)
theorem tw_742 : (Cond.code ⟨"BuildingText$Edition", "placeOrNull", "(I)LBuildingText$Place;"⟩ prog_2_method_3_code 2 (some (.object "BuildingText$Place"))) ∈ Tg := tg 742 (by decide +kernel) (by decide +kernel)
theorem tw_745 : (Cond.methodLink "BuildingTextLaw" 80 ⟨"BuildingTextLaw", "fault", "(LBuildingText;II[J)I"⟩) ∈ Tg := tg 745 (by decide +kernel) (by decide +kernel)
theorem tw_746 : (Cond.static ⟨"BuildingTextLaw", "fault", "(LBuildingText;II[J)I"⟩) ∈ Tg := tg 746 (by decide +kernel) (by decide +kernel)
theorem tw_747 : (Cond.codeWith ⟨"BuildingTextLaw", "fault", "(LBuildingText;II[J)I"⟩ method_6_code 5 (some .int) [(0, 10, 13, 28), (0, 10, 17, 13)]) ∈ Tg := tg 747 (by decide +kernel) (by decide +kernel)
theorem tw_748 : (Cond.classLink "BuildingTextLaw" 28 "java/lang/IndexOutOfBoundsException") ∈ Tg := tg 748 (by decide +kernel) (by decide +kernel)
theorem tw_749 : (Cond.methodLink "BuildingTextLaw" 25 ⟨"BuildingText", "fault", "(II)I"⟩) ∈ Tg := tg 749 (by decide +kernel) (by decide +kernel)
theorem tw_750 : (Cond.instanceMethod ⟨"BuildingText", "fault", "(II)I"⟩) ∈ Tg := tg 750 (by decide +kernel) (by decide +kernel)
theorem tw_751 : (Cond.selects "BuildingText" ⟨"BuildingText", "fault", "(II)I"⟩ ⟨"BuildingText", "fault", "(II)I"⟩) ∈ Tg := tg 751 (by decide +kernel) (by decide +kernel)
theorem tw_752 : (Cond.code ⟨"BuildingText", "fault", "(II)I"⟩ prog_1_method_8_code 4 (some .int)) ∈ Tg := tg 752 (by decide +kernel) (by decide +kernel)
theorem tw_753 : (Cond.classLink "BuildingText" 145 "java/lang/IndexOutOfBoundsException") ∈ Tg := tg 753 (by decide +kernel) (by decide +kernel)
theorem tw_754 : (Cond.instantiable "java/lang/IndexOutOfBoundsException" 6) ∈ Tg := tg 754 (by decide +kernel) (by decide +kernel)
theorem tw_756 : (Cond.selects "java/lang/IndexOutOfBoundsException" ⟨"java/lang/Throwable", "fillInStackTrace", "(I)Ljava/lang/Throwable;"⟩ ⟨"java/lang/Throwable", "fillInStackTrace", "(I)Ljava/lang/Throwable;"⟩) ∈ Tg := tg 756 (by decide +kernel) (by decide +kernel)
theorem tw_757 : (Cond.lays "java/lang/IndexOutOfBoundsException" "java/lang/Throwable" "cause" "Ljava/lang/Throwable;") ∈ Tg := tg 757 (by decide +kernel) (by decide +kernel)
theorem tw_758 : (Cond.lays "java/lang/IndexOutOfBoundsException" "java/lang/Throwable" "stackTrace" "[Ljava/lang/StackTraceElement;") ∈ Tg := tg 758 (by decide +kernel) (by decide +kernel)
theorem tw_759 : (Cond.lays "java/lang/IndexOutOfBoundsException" "java/lang/Throwable" "suppressedExceptions" "Ljava/util/List;") ∈ Tg := tg 759 (by decide +kernel) (by decide +kernel)
theorem tw_760 : (Cond.lays "java/lang/IndexOutOfBoundsException" "java/lang/Throwable" "detailMessage" "Ljava/lang/String;") ∈ Tg := tg 760 (by decide +kernel) (by decide +kernel)
theorem tw_761 : (Cond.lays "java/lang/IndexOutOfBoundsException" "java/lang/Throwable" "backtrace" "Ljava/lang/Object;") ∈ Tg := tg 761 (by decide +kernel) (by decide +kernel)
end
section
theorem tw_763 : (Cond.methodLink "BuildingText" 149 ⟨"java/lang/IndexOutOfBoundsException", "<init>", "(Ljava/lang/String;)V"⟩) ∈ Tg := tg 763 (by decide +kernel) (by decide +kernel)
theorem tw_764 : (Cond.instanceMethod ⟨"java/lang/IndexOutOfBoundsException", "<init>", "(Ljava/lang/String;)V"⟩) ∈ Tg := tg 764 (by decide +kernel) (by decide +kernel)
theorem tw_765 : (Cond.code ⟨"java/lang/IndexOutOfBoundsException", "<init>", "(Ljava/lang/String;)V"⟩ prog_16_method_2_code 2 none) ∈ Tg := tg 765 (by decide +kernel) (by decide +kernel)
theorem tw_766 : (Cond.methodLink "java/lang/IndexOutOfBoundsException" 7 ⟨"java/lang/RuntimeException", "<init>", "(Ljava/lang/String;)V"⟩) ∈ Tg := tg 766 (by decide +kernel) (by decide +kernel)
theorem tw_769 : (Cond.methodLink "BuildingText" 150 ⟨"java/util/ArrayList", "get", "(I)Ljava/lang/Object;"⟩) ∈ Tg := tg 769 (by decide +kernel) (by decide +kernel)
theorem tw_770 : (Cond.classLink "BuildingText" 154 "BuildingText$Fault") ∈ Tg := tg 770 (by decide +kernel) (by decide +kernel)
theorem tw_771 : (Cond.methodLink "BuildingTextLaw" 83 ⟨"BuildingTextLaw", "piece", "(LBuildingText;II[J)I"⟩) ∈ Tg := tg 771 (by decide +kernel) (by decide +kernel)
theorem tw_772 : (Cond.static ⟨"BuildingTextLaw", "piece", "(LBuildingText;II[J)I"⟩) ∈ Tg := tg 772 (by decide +kernel) (by decide +kernel)
theorem tw_773 : (Cond.codeWith ⟨"BuildingTextLaw", "piece", "(LBuildingText;II[J)I"⟩ method_7_code 5 (some .int) [(0, 10, 13, 28), (0, 10, 17, 13)]) ∈ Tg := tg 773 (by decide +kernel) (by decide +kernel)
theorem tw_774 : (Cond.methodLink "BuildingTextLaw" 30 ⟨"BuildingText", "piece", "(II)I"⟩) ∈ Tg := tg 774 (by decide +kernel) (by decide +kernel)
theorem tw_775 : (Cond.instanceMethod ⟨"BuildingText", "piece", "(II)I"⟩) ∈ Tg := tg 775 (by decide +kernel) (by decide +kernel)
theorem tw_776 : (Cond.selects "BuildingText" ⟨"BuildingText", "piece", "(II)I"⟩ ⟨"BuildingText", "piece", "(II)I"⟩) ∈ Tg := tg 776 (by decide +kernel) (by decide +kernel)
theorem tw_777 : (Cond.code ⟨"BuildingText", "piece", "(II)I"⟩ prog_1_method_9_code 4 (some .int)) ∈ Tg := tg 777 (by decide +kernel) (by decide +kernel)
theorem tw_780 : (Cond.instanceMethod ⟨"BuildingText$Edition", "findPiece", "(I)I"⟩) ∈ Tg := tg 780 (by decide +kernel) (by decide +kernel)
theorem tw_781 : (Cond.code ⟨"BuildingText$Edition", "findPiece", "(I)I"⟩ prog_2_method_5_code 4 (some .int)) ∈ Tg := tg 781 (by decide +kernel) (by decide +kernel)
theorem tw_787 : (Cond.instanceMethod ⟨"BuildingText$Going", "countOnward", "(I)I"⟩) ∈ Tg := tg 787 (by decide +kernel) (by decide +kernel)
theorem tw_788 : (Cond.code ⟨"BuildingText$Going", "countOnward", "(I)I"⟩ prog_4_method_9_code 2 (some .int)) ∈ Tg := tg 788 (by decide +kernel) (by decide +kernel)
theorem tw_789 : (Cond.methodLink "BuildingText$Going" 94 ⟨"java/lang/Long", "bitCount", "(J)I"⟩) ∈ Tg := tg 789 (by decide +kernel) (by decide +kernel)
theorem tw_790 : (Cond.static ⟨"java/lang/Long", "bitCount", "(J)I"⟩) ∈ Tg := tg 790 (by decide +kernel) (by decide +kernel)
theorem tw_791 : (Cond.code ⟨"java/lang/Long", "bitCount", "(J)I"⟩ prog_18_method_50_code 2 (some .int)) ∈ Tg := tg 791 (by decide +kernel) (by decide +kernel)
theorem tw_792 : (Cond.constantLong "java/lang/Long" 314 6148914691236517205) ∈ Tg := tg 792 (by decide +kernel) (by decide +kernel)
theorem tw_793 : (Cond.constantLong "java/lang/Long" 316 3689348814741910323) ∈ Tg := tg 793 (by decide +kernel) (by decide +kernel)
theorem tw_794 : (Cond.constantLong "java/lang/Long" 318 1085102592571150095) ∈ Tg := tg 794 (by decide +kernel) (by decide +kernel)
theorem tw_797 : (Cond.instanceMethod ⟨"BuildingText$Going", "stepsToDock", "(I)I"⟩) ∈ Tg := tg 797 (by decide +kernel) (by decide +kernel)
theorem tw_798 : (Cond.code ⟨"BuildingText$Going", "stepsToDock", "(I)I"⟩ prog_4_method_10_code 5 (some .int)) ∈ Tg := tg 798 (by decide +kernel) (by decide +kernel)
theorem tw_799 : (Cond.methodLink "BuildingTextLaw" 86 ⟨"BuildingTextLaw", "inside", "(LBuildingText;II[J)I"⟩) ∈ Tg := tg 799 (by decide +kernel) (by decide +kernel)
theorem tw_800 : (Cond.static ⟨"BuildingTextLaw", "inside", "(LBuildingText;II[J)I"⟩) ∈ Tg := tg 800 (by decide +kernel) (by decide +kernel)
theorem tw_801 : (Cond.codeWith ⟨"BuildingTextLaw", "inside", "(LBuildingText;II[J)I"⟩ method_8_code 5 (some .int) [(0, 17, 20, 13)]) ∈ Tg := tg 801 (by decide +kernel) (by decide +kernel)
theorem tw_802 : (Cond.methodLink "BuildingTextLaw" 33 ⟨"BuildingText", "inside", "(II)Z"⟩) ∈ Tg := tg 802 (by decide +kernel) (by decide +kernel)
theorem tw_803 : (Cond.instanceMethod ⟨"BuildingText", "inside", "(II)Z"⟩) ∈ Tg := tg 803 (by decide +kernel) (by decide +kernel)
theorem tw_804 : (Cond.selects "BuildingText" ⟨"BuildingText", "inside", "(II)Z"⟩ ⟨"BuildingText", "inside", "(II)Z"⟩) ∈ Tg := tg 804 (by decide +kernel) (by decide +kernel)
theorem tw_805 : (Cond.code ⟨"BuildingText", "inside", "(II)Z"⟩ prog_1_method_10_code 5 (some .boolean)) ∈ Tg := tg 805 (by decide +kernel) (by decide +kernel)
theorem tw_809 : (Cond.methodLink "BuildingTextLaw" 89 ⟨"BuildingTextLaw", "fill", "(LBuildingText;III)I"⟩) ∈ Tg := tg 809 (by decide +kernel) (by decide +kernel)
theorem tw_810 : (Cond.static ⟨"BuildingTextLaw", "fill", "(LBuildingText;III)I"⟩) ∈ Tg := tg 810 (by decide +kernel) (by decide +kernel)
theorem tw_811 : (Cond.codeWith ⟨"BuildingTextLaw", "fill", "(LBuildingText;III)I"⟩ method_9_code 5 (some .int) [(0, 7, 10, 13)]) ∈ Tg := tg 811 (by decide +kernel) (by decide +kernel)
theorem tw_812 : (Cond.methodLink "BuildingTextLaw" 37 ⟨"BuildingText", "fill", "(III)V"⟩) ∈ Tg := tg 812 (by decide +kernel) (by decide +kernel)
theorem tw_813 : (Cond.instanceMethod ⟨"BuildingText", "fill", "(III)V"⟩) ∈ Tg := tg 813 (by decide +kernel) (by decide +kernel)
theorem tw_814 : (Cond.selects "BuildingText" ⟨"BuildingText", "fill", "(III)V"⟩ ⟨"BuildingText", "fill", "(III)V"⟩) ∈ Tg := tg 814 (by decide +kernel) (by decide +kernel)
theorem tw_815 : (Cond.code ⟨"BuildingText", "fill", "(III)V"⟩ prog_1_method_11_code 6 none) ∈ Tg := tg 815 (by decide +kernel) (by decide +kernel)
theorem tw_816 : (Cond.methodLink "BuildingText" 189 ⟨"BuildingText", "editionOrNull", "(I)LBuildingText$Edition;"⟩) ∈ Tg := tg 816 (by decide +kernel) (by decide +kernel)
theorem tw_818 : (Cond.instanceMethod ⟨"BuildingText", "editionOrNull", "(I)LBuildingText$Edition;"⟩) ∈ Tg := tg 818 (by decide +kernel) (by decide +kernel)
theorem tw_819 : (Cond.code ⟨"BuildingText", "editionOrNull", "(I)LBuildingText$Edition;"⟩ prog_1_method_17_code 2 (some (.object "BuildingText$Edition"))) ∈ Tg := tg 819 (by decide +kernel) (by decide +kernel)
theorem tw_822 : (Cond.methodLink "BuildingTextLaw" 93 ⟨"BuildingTextLaw", "differ", "(LBuildingText;I[J)I"⟩) ∈ Tg := tg 822 (by decide +kernel) (by decide +kernel)
theorem tw_823 : (Cond.static ⟨"BuildingTextLaw", "differ", "(LBuildingText;I[J)I"⟩) ∈ Tg := tg 823 (by decide +kernel) (by decide +kernel)
theorem tw_824 : (Cond.codeWith ⟨"BuildingTextLaw", "differ", "(LBuildingText;I[J)I"⟩ method_10_code 4 (some .int) [(0, 9, 12, 13)]) ∈ Tg := tg 824 (by decide +kernel) (by decide +kernel)
theorem tw_825 : (Cond.methodLink "BuildingTextLaw" 41 ⟨"BuildingText", "differ", "(I)I"⟩) ∈ Tg := tg 825 (by decide +kernel) (by decide +kernel)
theorem tw_826 : (Cond.instanceMethod ⟨"BuildingText", "differ", "(I)I"⟩) ∈ Tg := tg 826 (by decide +kernel) (by decide +kernel)
theorem tw_827 : (Cond.selects "BuildingText" ⟨"BuildingText", "differ", "(I)I"⟩ ⟨"BuildingText", "differ", "(I)I"⟩) ∈ Tg := tg 827 (by decide +kernel) (by decide +kernel)
theorem tw_828 : (Cond.code ⟨"BuildingText", "differ", "(I)I"⟩ prog_1_method_12_code 6 (some .int)) ∈ Tg := tg 828 (by decide +kernel) (by decide +kernel)
theorem tw_829 : (Cond.classLink "BuildingText" 111 "BuildingText$Place") ∈ Tg := tg 829 (by decide +kernel) (by decide +kernel)
theorem tw_832 : (Cond.instanceMethod ⟨"BuildingText$Edition", "keepsBin", "(LBuildingText$Place;LBuildingText$Edition;)Z"⟩) ∈ Tg := tg 832 (by decide +kernel) (by decide +kernel)
theorem tw_833 : (Cond.code ⟨"BuildingText$Edition", "keepsBin", "(LBuildingText$Place;LBuildingText$Edition;)Z"⟩ prog_2_method_6_code 6 (some .boolean)) ∈ Tg := tg 833 (by decide +kernel) (by decide +kernel)
theorem tw_834 : (Cond.methodLink "BuildingText$Edition" 44 ⟨"BuildingText$Edition", "find", "(I)I"⟩) ∈ Tg := tg 834 (by decide +kernel) (by decide +kernel)
theorem tw_835 : (Cond.methodLink "BuildingText$Edition" 48 ⟨"BuildingText$Edition", "placeOrNull", "(I)LBuildingText$Place;"⟩) ∈ Tg := tg 835 (by decide +kernel) (by decide +kernel)
theorem tw_838 : (Cond.instanceMethod ⟨"BuildingText$Place", "hasPointsOf", "(LBuildingText$Place;)Z"⟩) ∈ Tg := tg 838 (by decide +kernel) (by decide +kernel)
theorem tw_839 : (Cond.code ⟨"BuildingText$Place", "hasPointsOf", "(LBuildingText$Place;)Z"⟩ prog_7_method_4_code 2 (some .boolean)) ∈ Tg := tg 839 (by decide +kernel) (by decide +kernel)
theorem tw_840 : (Cond.methodLink "BuildingTextLaw" 97 ⟨"BuildingTextLaw", "moved", "(LBuildingText;I[J)I"⟩) ∈ Tg := tg 840 (by decide +kernel) (by decide +kernel)
theorem tw_841 : (Cond.static ⟨"BuildingTextLaw", "moved", "(LBuildingText;I[J)I"⟩) ∈ Tg := tg 841 (by decide +kernel) (by decide +kernel)
theorem tw_842 : (Cond.codeWith ⟨"BuildingTextLaw", "moved", "(LBuildingText;I[J)I"⟩ method_11_code 4 (some .int) [(0, 9, 12, 28)]) ∈ Tg := tg 842 (by decide +kernel) (by decide +kernel)
theorem tw_843 : (Cond.methodLink "BuildingTextLaw" 45 ⟨"BuildingText", "moved", "(I)I"⟩) ∈ Tg := tg 843 (by decide +kernel) (by decide +kernel)
theorem tw_844 : (Cond.instanceMethod ⟨"BuildingText", "moved", "(I)I"⟩) ∈ Tg := tg 844 (by decide +kernel) (by decide +kernel)
theorem tw_845 : (Cond.selects "BuildingText" ⟨"BuildingText", "moved", "(I)I"⟩ ⟨"BuildingText", "moved", "(I)I"⟩) ∈ Tg := tg 845 (by decide +kernel) (by decide +kernel)
theorem tw_846 : (Cond.code ⟨"BuildingText", "moved", "(I)I"⟩ prog_1_method_13_code 2 (some .int)) ∈ Tg := tg 846 (by decide +kernel) (by decide +kernel)
theorem tw_848 : (Cond.methodLink "BuildingTextLaw" 104 ⟨"BuildingTextLaw", "at", "(LBuildingText;I[J)I"⟩) ∈ Tg := tg 848 (by decide +kernel) (by decide +kernel)
theorem tw_849 : (Cond.static ⟨"BuildingTextLaw", "at", "(LBuildingText;I[J)I"⟩) ∈ Tg := tg 849 (by decide +kernel) (by decide +kernel)
theorem tw_850 : (Cond.codeWith ⟨"BuildingTextLaw", "at", "(LBuildingText;I[J)I"⟩ method_12_code 4 (some .int) [(0, 9, 12, 28)]) ∈ Tg := tg 850 (by decide +kernel) (by decide +kernel)
theorem tw_851 : (Cond.methodLink "BuildingTextLaw" 48 ⟨"BuildingText", "at", "(I)I"⟩) ∈ Tg := tg 851 (by decide +kernel) (by decide +kernel)
theorem tw_852 : (Cond.instanceMethod ⟨"BuildingText", "at", "(I)I"⟩) ∈ Tg := tg 852 (by decide +kernel) (by decide +kernel)
theorem tw_853 : (Cond.selects "BuildingText" ⟨"BuildingText", "at", "(I)I"⟩ ⟨"BuildingText", "at", "(I)I"⟩) ∈ Tg := tg 853 (by decide +kernel) (by decide +kernel)
theorem tw_854 : (Cond.code ⟨"BuildingText", "at", "(I)I"⟩ prog_1_method_15_code 2 (some .int)) ∈ Tg := tg 854 (by decide +kernel) (by decide +kernel)
theorem tw_856 : (Cond.classLink "BuildingTextLaw" 52 "BuildingTextModel") ∈ Tg := tg 856 (by decide +kernel) (by decide +kernel)
theorem tw_857 : (Cond.instantiable "BuildingTextModel" 67) ∈ Tg := tg 857 (by decide +kernel) (by decide +kernel)
theorem tw_858 : (Cond.methodLink "BuildingTextLaw" 54 ⟨"BuildingTextModel", "<init>", "()V"⟩) ∈ Tg := tg 858 (by decide +kernel) (by decide +kernel)
theorem tw_859 : (Cond.instanceMethod ⟨"BuildingTextModel", "<init>", "()V"⟩) ∈ Tg := tg 859 (by decide +kernel) (by decide +kernel)
theorem tw_860 : (Cond.code ⟨"BuildingTextModel", "<init>", "()V"⟩ prog_11_method_1_code 1 none) ∈ Tg := tg 860 (by decide +kernel) (by decide +kernel)
theorem tw_861 : (Cond.methodLink "BuildingTextModel" 1 ⟨"java/lang/Object", "<init>", "()V"⟩) ∈ Tg := tg 861 (by decide +kernel) (by decide +kernel)
theorem tw_862 : (Cond.fieldLink "BuildingTextModel" 131 "BuildingTextModel" "code" "I") ∈ Tg := tg 862 (by decide +kernel) (by decide +kernel)
theorem tw_863 : (Cond.fieldLink "BuildingTextModel" 7 "BuildingTextModel" "text" "[I") ∈ Tg := tg 863 (by decide +kernel) (by decide +kernel)
theorem tw_864 : (Cond.fieldLink "BuildingTextModel" 139 "BuildingTextModel" "signs" "I") ∈ Tg := tg 864 (by decide +kernel) (by decide +kernel)
theorem tw_865 : (Cond.fieldLink "BuildingTextModel" 279 "BuildingTextModel" "editions" "I") ∈ Tg := tg 865 (by decide +kernel) (by decide +kernel)
theorem tw_866 : (Cond.fieldLink "BuildingTextModel" 13 "BuildingTextModel" "places" "[I") ∈ Tg := tg 866 (by decide +kernel) (by decide +kernel)
theorem tw_867 : (Cond.fieldLink "BuildingTextModel" 16 "BuildingTextModel" "kind" "[I") ∈ Tg := tg 867 (by decide +kernel) (by decide +kernel)
theorem tw_868 : (Cond.fieldLink "BuildingTextModel" 19 "BuildingTextModel" "name" "[I") ∈ Tg := tg 868 (by decide +kernel) (by decide +kernel)
theorem tw_869 : (Cond.fieldLink "BuildingTextModel" 22 "BuildingTextModel" "px" "[I") ∈ Tg := tg 869 (by decide +kernel) (by decide +kernel)
theorem tw_870 : (Cond.fieldLink "BuildingTextModel" 25 "BuildingTextModel" "py" "[I") ∈ Tg := tg 870 (by decide +kernel) (by decide +kernel)
theorem tw_871 : (Cond.fieldLink "BuildingTextModel" 28 "BuildingTextModel" "pw" "[I") ∈ Tg := tg 871 (by decide +kernel) (by decide +kernel)
theorem tw_872 : (Cond.fieldLink "BuildingTextModel" 31 "BuildingTextModel" "ph" "[I") ∈ Tg := tg 872 (by decide +kernel) (by decide +kernel)
theorem tw_873 : (Cond.fieldLink "BuildingTextModel" 34 "BuildingTextModel" "level" "[I") ∈ Tg := tg 873 (by decide +kernel) (by decide +kernel)
theorem tw_874 : (Cond.fieldLink "BuildingTextModel" 37 "BuildingTextModel" "of" "[I") ∈ Tg := tg 874 (by decide +kernel) (by decide +kernel)
theorem tw_875 : (Cond.fieldLink "BuildingTextModel" 40 "BuildingTextModel" "units" "[I") ∈ Tg := tg 875 (by decide +kernel) (by decide +kernel)
theorem tw_876 : (Cond.fieldLink "BuildingTextModel" 286 "BuildingTextModel" "ways" "I") ∈ Tg := tg 876 (by decide +kernel) (by decide +kernel)
theorem tw_877 : (Cond.fieldLink "BuildingTextModel" 43 "BuildingTextModel" "wayFrom" "[I") ∈ Tg := tg 877 (by decide +kernel) (by decide +kernel)
theorem tw_878 : (Cond.fieldLink "BuildingTextModel" 46 "BuildingTextModel" "wayTo" "[I") ∈ Tg := tg 878 (by decide +kernel) (by decide +kernel)
theorem tw_879 : (Cond.fieldLink "BuildingTextModel" 49 "BuildingTextModel" "bothWays" "[Z") ∈ Tg := tg 879 (by decide +kernel) (by decide +kernel)
theorem tw_880 : (Cond.fieldLink "BuildingTextModel" 289 "BuildingTextModel" "served" "I") ∈ Tg := tg 880 (by decide +kernel) (by decide +kernel)
theorem tw_881 : (Cond.fieldLink "BuildingTextModel" 53 "BuildingTextModel" "servedBin" "[I") ∈ Tg := tg 881 (by decide +kernel) (by decide +kernel)
theorem tw_882 : (Cond.fieldLink "BuildingTextModel" 56 "BuildingTextModel" "servedFrom" "[I") ∈ Tg := tg 882 (by decide +kernel) (by decide +kernel)
theorem tw_883 : (Cond.fieldLink "BuildingTextModel" 59 "BuildingTextModel" "stopCount" "[I") ∈ Tg := tg 883 (by decide +kernel) (by decide +kernel)
theorem tw_884 : (Cond.fieldLink "BuildingTextModel" 62 "BuildingTextModel" "stops" "[I") ∈ Tg := tg 884 (by decide +kernel) (by decide +kernel)
theorem tw_885 : (Cond.fieldLink "BuildingTextModel" 142 "BuildingTextModel" "at" "I") ∈ Tg := tg 885 (by decide +kernel) (by decide +kernel)
theorem tw_886 : (Cond.fieldLink "BuildingTextModel" 145 "BuildingTextModel" "fault" "I") ∈ Tg := tg 886 (by decide +kernel) (by decide +kernel)
theorem tw_887 : (Cond.fieldLink "BuildingTextModel" 273 "BuildingTextModel" "full" "Z") ∈ Tg := tg 887 (by decide +kernel) (by decide +kernel)
theorem tw_888 : (Cond.fieldLink "BuildingTextModel" 179 "BuildingTextModel" "n" "I") ∈ Tg := tg 888 (by decide +kernel) (by decide +kernel)
theorem tw_889 : (Cond.fieldLink "BuildingTextModel" 267 "BuildingTextModel" "newWays" "I") ∈ Tg := tg 889 (by decide +kernel) (by decide +kernel)
theorem tw_890 : (Cond.fieldLink "BuildingTextModel" 65 "BuildingTextModel" "newFrom" "[I") ∈ Tg := tg 890 (by decide +kernel) (by decide +kernel)
theorem tw_891 : (Cond.fieldLink "BuildingTextModel" 68 "BuildingTextModel" "newTo" "[I") ∈ Tg := tg 891 (by decide +kernel) (by decide +kernel)
theorem tw_892 : (Cond.fieldLink "BuildingTextModel" 71 "BuildingTextModel" "newBoth" "[Z") ∈ Tg := tg 892 (by decide +kernel) (by decide +kernel)
theorem tw_893 : (Cond.fieldLink "BuildingTextModel" 270 "BuildingTextModel" "newServed" "I") ∈ Tg := tg 893 (by decide +kernel) (by decide +kernel)
theorem tw_894 : (Cond.fieldLink "BuildingTextModel" 74 "BuildingTextModel" "newBin" "[I") ∈ Tg := tg 894 (by decide +kernel) (by decide +kernel)
theorem tw_895 : (Cond.fieldLink "BuildingTextModel" 77 "BuildingTextModel" "newPiece" "[I") ∈ Tg := tg 895 (by decide +kernel) (by decide +kernel)
theorem tw_896 : (Cond.fieldLink "BuildingTextModel" 80 "BuildingTextModel" "newStopCount" "[I") ∈ Tg := tg 896 (by decide +kernel) (by decide +kernel)
theorem tw_897 : (Cond.fieldLink "BuildingTextModel" 83 "BuildingTextModel" "newStops" "[I") ∈ Tg := tg 897 (by decide +kernel) (by decide +kernel)
theorem tw_898 : (Cond.fieldLink "BuildingTextModel" 86 "BuildingTextModel" "tKind" "[I") ∈ Tg := tg 898 (by decide +kernel) (by decide +kernel)
theorem tw_899 : (Cond.fieldLink "BuildingTextModel" 89 "BuildingTextModel" "tName" "[I") ∈ Tg := tg 899 (by decide +kernel) (by decide +kernel)
theorem tw_900 : (Cond.fieldLink "BuildingTextModel" 92 "BuildingTextModel" "tx" "[I") ∈ Tg := tg 900 (by decide +kernel) (by decide +kernel)
theorem tw_901 : (Cond.fieldLink "BuildingTextModel" 95 "BuildingTextModel" "ty" "[I") ∈ Tg := tg 901 (by decide +kernel) (by decide +kernel)
theorem tw_902 : (Cond.fieldLink "BuildingTextModel" 98 "BuildingTextModel" "tw" "[I") ∈ Tg := tg 902 (by decide +kernel) (by decide +kernel)
theorem tw_903 : (Cond.fieldLink "BuildingTextModel" 101 "BuildingTextModel" "th" "[I") ∈ Tg := tg 903 (by decide +kernel) (by decide +kernel)
theorem tw_904 : (Cond.fieldLink "BuildingTextModel" 104 "BuildingTextModel" "tLevel" "[I") ∈ Tg := tg 904 (by decide +kernel) (by decide +kernel)
theorem tw_905 : (Cond.fieldLink "BuildingTextModel" 107 "BuildingTextModel" "tOf" "[I") ∈ Tg := tg 905 (by decide +kernel) (by decide +kernel)
theorem tw_906 : (Cond.fieldLink "BuildingTextModel" 110 "BuildingTextModel" "moved" "[I") ∈ Tg := tg 906 (by decide +kernel) (by decide +kernel)
theorem tw_907 : (Cond.fieldLink "BuildingTextModel" 351 "BuildingTextModel" "movedCount" "I") ∈ Tg := tg 907 (by decide +kernel) (by decide +kernel)
theorem tw_908 : (Cond.fieldLink "BuildingTextModel" 113 "BuildingTextModel" "plan" "[I") ∈ Tg := tg 908 (by decide +kernel) (by decide +kernel)
theorem tw_909 : (Cond.fieldLink "BuildingTextModel" 369 "BuildingTextModel" "planned" "I") ∈ Tg := tg 909 (by decide +kernel) (by decide +kernel)
theorem tw_910 : (Cond.fieldLink "BuildingTextModel" 173 "BuildingTextModel" "number" "I") ∈ Tg := tg 910 (by decide +kernel) (by decide +kernel)
theorem tw_911 : (Cond.fieldLink "BuildingTextModel" 159 "BuildingTextModel" "first" "I") ∈ Tg := tg 911 (by decide +kernel) (by decide +kernel)
theorem tw_912 : (Cond.fieldLink "BuildingTextModel" 208 "BuildingTextModel" "lineName" "I") ∈ Tg := tg 912 (by decide +kernel) (by decide +kernel)
theorem tw_913 : (Cond.fieldLink "BuildingTextModel" 193 "BuildingTextModel" "lineX" "I") ∈ Tg := tg 913 (by decide +kernel) (by decide +kernel)
theorem tw_914 : (Cond.fieldLink "BuildingTextModel" 196 "BuildingTextModel" "lineY" "I") ∈ Tg := tg 914 (by decide +kernel) (by decide +kernel)
theorem tw_915 : (Cond.fieldLink "BuildingTextModel" 199 "BuildingTextModel" "lineW" "I") ∈ Tg := tg 915 (by decide +kernel) (by decide +kernel)
end
section
theorem tw_916 : (Cond.fieldLink "BuildingTextModel" 202 "BuildingTextModel" "lineH" "I") ∈ Tg := tg 916 (by decide +kernel) (by decide +kernel)
theorem tw_917 : (Cond.fieldLink "BuildingTextModel" 220 "BuildingTextModel" "lineLevel" "I") ∈ Tg := tg 917 (by decide +kernel) (by decide +kernel)
theorem tw_918 : (Cond.fieldLink "BuildingTextModel" 217 "BuildingTextModel" "lineOf" "I") ∈ Tg := tg 918 (by decide +kernel) (by decide +kernel)
theorem tw_919 : (Cond.fieldLink "BuildingTextModel" 116 "BuildingTextModel" "lineStops" "[I") ∈ Tg := tg 919 (by decide +kernel) (by decide +kernel)
theorem tw_920 : (Cond.fieldLink "BuildingTextModel" 223 "BuildingTextModel" "lineStopCount" "I") ∈ Tg := tg 920 (by decide +kernel) (by decide +kernel)
theorem tw_921 : (Cond.fieldLink "BuildingTextModel" 226 "BuildingTextModel" "lineFrom" "I") ∈ Tg := tg 921 (by decide +kernel) (by decide +kernel)
theorem tw_922 : (Cond.fieldLink "BuildingTextModel" 229 "BuildingTextModel" "lineTo" "I") ∈ Tg := tg 922 (by decide +kernel) (by decide +kernel)
theorem tw_923 : (Cond.fieldLink "BuildingTextModel" 232 "BuildingTextModel" "lineBoth" "Z") ∈ Tg := tg 923 (by decide +kernel) (by decide +kernel)
theorem tw_924 : (Cond.fieldLink "BuildingTextModel" 119 "BuildingTextModel" "far" "[I") ∈ Tg := tg 924 (by decide +kernel) (by decide +kernel)
theorem tw_925 : (Cond.fieldLink "BuildingTextModel" 122 "BuildingTextModel" "faultKind" "[I") ∈ Tg := tg 925 (by decide +kernel) (by decide +kernel)
theorem tw_926 : (Cond.fieldLink "BuildingTextModel" 125 "BuildingTextModel" "faultPlace" "[I") ∈ Tg := tg 926 (by decide +kernel) (by decide +kernel)
theorem tw_927 : (Cond.fieldLink "BuildingTextModel" 128 "BuildingTextModel" "faultOther" "[I") ∈ Tg := tg 927 (by decide +kernel) (by decide +kernel)
theorem tw_928 : (Cond.fieldLink "BuildingTextModel" 311 "BuildingTextModel" "faults" "I") ∈ Tg := tg 928 (by decide +kernel) (by decide +kernel)
theorem tw_929 : (Cond.lays "BuildingTextModel" "BuildingTextModel" "code" "I") ∈ Tg := tg 929 (by decide +kernel) (by decide +kernel)
theorem tw_931 : (Cond.laysFinal "BuildingTextModel" "BuildingTextModel" "text" "[I") ∈ Tg := tg 931 (by decide +kernel) (by decide +kernel)
theorem tw_933 : (Cond.lays "BuildingTextModel" "BuildingTextModel" "signs" "I") ∈ Tg := tg 933 (by decide +kernel) (by decide +kernel)
theorem tw_935 : (Cond.lays "BuildingTextModel" "BuildingTextModel" "editions" "I") ∈ Tg := tg 935 (by decide +kernel) (by decide +kernel)
theorem tw_937 : (Cond.laysFinal "BuildingTextModel" "BuildingTextModel" "places" "[I") ∈ Tg := tg 937 (by decide +kernel) (by decide +kernel)
theorem tw_939 : (Cond.laysFinal "BuildingTextModel" "BuildingTextModel" "kind" "[I") ∈ Tg := tg 939 (by decide +kernel) (by decide +kernel)
theorem tw_941 : (Cond.laysFinal "BuildingTextModel" "BuildingTextModel" "name" "[I") ∈ Tg := tg 941 (by decide +kernel) (by decide +kernel)
theorem tw_943 : (Cond.laysFinal "BuildingTextModel" "BuildingTextModel" "px" "[I") ∈ Tg := tg 943 (by decide +kernel) (by decide +kernel)
theorem tw_945 : (Cond.laysFinal "BuildingTextModel" "BuildingTextModel" "py" "[I") ∈ Tg := tg 945 (by decide +kernel) (by decide +kernel)
theorem tw_947 : (Cond.laysFinal "BuildingTextModel" "BuildingTextModel" "pw" "[I") ∈ Tg := tg 947 (by decide +kernel) (by decide +kernel)
theorem tw_949 : (Cond.laysFinal "BuildingTextModel" "BuildingTextModel" "ph" "[I") ∈ Tg := tg 949 (by decide +kernel) (by decide +kernel)
theorem tw_951 : (Cond.laysFinal "BuildingTextModel" "BuildingTextModel" "level" "[I") ∈ Tg := tg 951 (by decide +kernel) (by decide +kernel)
theorem tw_953 : (Cond.laysFinal "BuildingTextModel" "BuildingTextModel" "of" "[I") ∈ Tg := tg 953 (by decide +kernel) (by decide +kernel)
theorem tw_955 : (Cond.laysFinal "BuildingTextModel" "BuildingTextModel" "units" "[I") ∈ Tg := tg 955 (by decide +kernel) (by decide +kernel)
theorem tw_957 : (Cond.lays "BuildingTextModel" "BuildingTextModel" "ways" "I") ∈ Tg := tg 957 (by decide +kernel) (by decide +kernel)
theorem tw_959 : (Cond.laysFinal "BuildingTextModel" "BuildingTextModel" "wayFrom" "[I") ∈ Tg := tg 959 (by decide +kernel) (by decide +kernel)
theorem tw_961 : (Cond.laysFinal "BuildingTextModel" "BuildingTextModel" "wayTo" "[I") ∈ Tg := tg 961 (by decide +kernel) (by decide +kernel)
theorem tw_963 : (Cond.laysFinal "BuildingTextModel" "BuildingTextModel" "bothWays" "[Z") ∈ Tg := tg 963 (by decide +kernel) (by decide +kernel)
theorem tw_965 : (Cond.lays "BuildingTextModel" "BuildingTextModel" "served" "I") ∈ Tg := tg 965 (by decide +kernel) (by decide +kernel)
theorem tw_967 : (Cond.laysFinal "BuildingTextModel" "BuildingTextModel" "servedBin" "[I") ∈ Tg := tg 967 (by decide +kernel) (by decide +kernel)
theorem tw_969 : (Cond.laysFinal "BuildingTextModel" "BuildingTextModel" "servedFrom" "[I") ∈ Tg := tg 969 (by decide +kernel) (by decide +kernel)
theorem tw_971 : (Cond.laysFinal "BuildingTextModel" "BuildingTextModel" "stopCount" "[I") ∈ Tg := tg 971 (by decide +kernel) (by decide +kernel)
theorem tw_973 : (Cond.laysFinal "BuildingTextModel" "BuildingTextModel" "stops" "[I") ∈ Tg := tg 973 (by decide +kernel) (by decide +kernel)
theorem tw_975 : (Cond.lays "BuildingTextModel" "BuildingTextModel" "at" "I") ∈ Tg := tg 975 (by decide +kernel) (by decide +kernel)
theorem tw_977 : (Cond.lays "BuildingTextModel" "BuildingTextModel" "fault" "I") ∈ Tg := tg 977 (by decide +kernel) (by decide +kernel)
theorem tw_979 : (Cond.lays "BuildingTextModel" "BuildingTextModel" "full" "Z") ∈ Tg := tg 979 (by decide +kernel) (by decide +kernel)
theorem tw_981 : (Cond.lays "BuildingTextModel" "BuildingTextModel" "n" "I") ∈ Tg := tg 981 (by decide +kernel) (by decide +kernel)
theorem tw_983 : (Cond.lays "BuildingTextModel" "BuildingTextModel" "newWays" "I") ∈ Tg := tg 983 (by decide +kernel) (by decide +kernel)
theorem tw_985 : (Cond.laysFinal "BuildingTextModel" "BuildingTextModel" "newFrom" "[I") ∈ Tg := tg 985 (by decide +kernel) (by decide +kernel)
theorem tw_987 : (Cond.laysFinal "BuildingTextModel" "BuildingTextModel" "newTo" "[I") ∈ Tg := tg 987 (by decide +kernel) (by decide +kernel)
theorem tw_989 : (Cond.laysFinal "BuildingTextModel" "BuildingTextModel" "newBoth" "[Z") ∈ Tg := tg 989 (by decide +kernel) (by decide +kernel)
theorem tw_991 : (Cond.lays "BuildingTextModel" "BuildingTextModel" "newServed" "I") ∈ Tg := tg 991 (by decide +kernel) (by decide +kernel)
theorem tw_993 : (Cond.laysFinal "BuildingTextModel" "BuildingTextModel" "newBin" "[I") ∈ Tg := tg 993 (by decide +kernel) (by decide +kernel)
theorem tw_995 : (Cond.laysFinal "BuildingTextModel" "BuildingTextModel" "newPiece" "[I") ∈ Tg := tg 995 (by decide +kernel) (by decide +kernel)
theorem tw_997 : (Cond.laysFinal "BuildingTextModel" "BuildingTextModel" "newStopCount" "[I") ∈ Tg := tg 997 (by decide +kernel) (by decide +kernel)
theorem tw_999 : (Cond.laysFinal "BuildingTextModel" "BuildingTextModel" "newStops" "[I") ∈ Tg := tg 999 (by decide +kernel) (by decide +kernel)
theorem tw_1001 : (Cond.laysFinal "BuildingTextModel" "BuildingTextModel" "tKind" "[I") ∈ Tg := tg 1001 (by decide +kernel) (by decide +kernel)
theorem tw_1003 : (Cond.laysFinal "BuildingTextModel" "BuildingTextModel" "tName" "[I") ∈ Tg := tg 1003 (by decide +kernel) (by decide +kernel)
theorem tw_1005 : (Cond.laysFinal "BuildingTextModel" "BuildingTextModel" "tx" "[I") ∈ Tg := tg 1005 (by decide +kernel) (by decide +kernel)
theorem tw_1007 : (Cond.laysFinal "BuildingTextModel" "BuildingTextModel" "ty" "[I") ∈ Tg := tg 1007 (by decide +kernel) (by decide +kernel)
theorem tw_1009 : (Cond.laysFinal "BuildingTextModel" "BuildingTextModel" "tw" "[I") ∈ Tg := tg 1009 (by decide +kernel) (by decide +kernel)
theorem tw_1011 : (Cond.laysFinal "BuildingTextModel" "BuildingTextModel" "th" "[I") ∈ Tg := tg 1011 (by decide +kernel) (by decide +kernel)
theorem tw_1013 : (Cond.laysFinal "BuildingTextModel" "BuildingTextModel" "tLevel" "[I") ∈ Tg := tg 1013 (by decide +kernel) (by decide +kernel)
theorem tw_1015 : (Cond.laysFinal "BuildingTextModel" "BuildingTextModel" "tOf" "[I") ∈ Tg := tg 1015 (by decide +kernel) (by decide +kernel)
theorem tw_1017 : (Cond.laysFinal "BuildingTextModel" "BuildingTextModel" "moved" "[I") ∈ Tg := tg 1017 (by decide +kernel) (by decide +kernel)
theorem tw_1019 : (Cond.lays "BuildingTextModel" "BuildingTextModel" "movedCount" "I") ∈ Tg := tg 1019 (by decide +kernel) (by decide +kernel)
theorem tw_1021 : (Cond.laysFinal "BuildingTextModel" "BuildingTextModel" "plan" "[I") ∈ Tg := tg 1021 (by decide +kernel) (by decide +kernel)
theorem tw_1023 : (Cond.lays "BuildingTextModel" "BuildingTextModel" "planned" "I") ∈ Tg := tg 1023 (by decide +kernel) (by decide +kernel)
theorem tw_1025 : (Cond.lays "BuildingTextModel" "BuildingTextModel" "number" "I") ∈ Tg := tg 1025 (by decide +kernel) (by decide +kernel)
theorem tw_1027 : (Cond.lays "BuildingTextModel" "BuildingTextModel" "first" "I") ∈ Tg := tg 1027 (by decide +kernel) (by decide +kernel)
theorem tw_1029 : (Cond.lays "BuildingTextModel" "BuildingTextModel" "lineName" "I") ∈ Tg := tg 1029 (by decide +kernel) (by decide +kernel)
theorem tw_1031 : (Cond.lays "BuildingTextModel" "BuildingTextModel" "lineX" "I") ∈ Tg := tg 1031 (by decide +kernel) (by decide +kernel)
theorem tw_1033 : (Cond.lays "BuildingTextModel" "BuildingTextModel" "lineY" "I") ∈ Tg := tg 1033 (by decide +kernel) (by decide +kernel)
theorem tw_1035 : (Cond.lays "BuildingTextModel" "BuildingTextModel" "lineW" "I") ∈ Tg := tg 1035 (by decide +kernel) (by decide +kernel)
theorem tw_1037 : (Cond.lays "BuildingTextModel" "BuildingTextModel" "lineH" "I") ∈ Tg := tg 1037 (by decide +kernel) (by decide +kernel)
theorem tw_1039 : (Cond.lays "BuildingTextModel" "BuildingTextModel" "lineLevel" "I") ∈ Tg := tg 1039 (by decide +kernel) (by decide +kernel)
theorem tw_1041 : (Cond.lays "BuildingTextModel" "BuildingTextModel" "lineOf" "I") ∈ Tg := tg 1041 (by decide +kernel) (by decide +kernel)
theorem tw_1043 : (Cond.laysFinal "BuildingTextModel" "BuildingTextModel" "lineStops" "[I") ∈ Tg := tg 1043 (by decide +kernel) (by decide +kernel)
theorem tw_1045 : (Cond.lays "BuildingTextModel" "BuildingTextModel" "lineStopCount" "I") ∈ Tg := tg 1045 (by decide +kernel) (by decide +kernel)
theorem tw_1047 : (Cond.lays "BuildingTextModel" "BuildingTextModel" "lineFrom" "I") ∈ Tg := tg 1047 (by decide +kernel) (by decide +kernel)
theorem tw_1049 : (Cond.lays "BuildingTextModel" "BuildingTextModel" "lineTo" "I") ∈ Tg := tg 1049 (by decide +kernel) (by decide +kernel)
theorem tw_1051 : (Cond.lays "BuildingTextModel" "BuildingTextModel" "lineBoth" "Z") ∈ Tg := tg 1051 (by decide +kernel) (by decide +kernel)
theorem tw_1053 : (Cond.laysFinal "BuildingTextModel" "BuildingTextModel" "far" "[I") ∈ Tg := tg 1053 (by decide +kernel) (by decide +kernel)
theorem tw_1055 : (Cond.laysFinal "BuildingTextModel" "BuildingTextModel" "faultKind" "[I") ∈ Tg := tg 1055 (by decide +kernel) (by decide +kernel)
theorem tw_1057 : (Cond.laysFinal "BuildingTextModel" "BuildingTextModel" "faultPlace" "[I") ∈ Tg := tg 1057 (by decide +kernel) (by decide +kernel)
theorem tw_1059 : (Cond.laysFinal "BuildingTextModel" "BuildingTextModel" "faultOther" "[I") ∈ Tg := tg 1059 (by decide +kernel) (by decide +kernel)
theorem tw_1061 : (Cond.lays "BuildingTextModel" "BuildingTextModel" "faults" "I") ∈ Tg := tg 1061 (by decide +kernel) (by decide +kernel)
theorem tw_1065 : (Cond.methodLink "BuildingTextLaw" 61 ⟨"BuildingTextModel", "thrown", "()I"⟩) ∈ Tg := tg 1065 (by decide +kernel) (by decide +kernel)
theorem tw_1066 : (Cond.instanceMethod ⟨"BuildingTextModel", "thrown", "()I"⟩) ∈ Tg := tg 1066 (by decide +kernel) (by decide +kernel)
theorem tw_1067 : (Cond.selects "BuildingTextModel" ⟨"BuildingTextModel", "thrown", "()I"⟩ ⟨"BuildingTextModel", "thrown", "()I"⟩) ∈ Tg := tg 1067 (by decide +kernel) (by decide +kernel)
theorem tw_1068 : (Cond.code ⟨"BuildingTextModel", "thrown", "()I"⟩ prog_11_method_2_code 1 (some .int)) ∈ Tg := tg 1068 (by decide +kernel) (by decide +kernel)
theorem tw_1069 : (Cond.methodLink "BuildingTextLaw" 60 ⟨"BuildingTextModel", "sign", "(I)V"⟩) ∈ Tg := tg 1069 (by decide +kernel) (by decide +kernel)
theorem tw_1070 : (Cond.instanceMethod ⟨"BuildingTextModel", "sign", "(I)V"⟩) ∈ Tg := tg 1070 (by decide +kernel) (by decide +kernel)
theorem tw_1071 : (Cond.selects "BuildingTextModel" ⟨"BuildingTextModel", "sign", "(I)V"⟩ ⟨"BuildingTextModel", "sign", "(I)V"⟩) ∈ Tg := tg 1071 (by decide +kernel) (by decide +kernel)
theorem tw_1072 : (Cond.code ⟨"BuildingTextModel", "sign", "(I)V"⟩ prog_11_method_4_code 2 none) ∈ Tg := tg 1072 (by decide +kernel) (by decide +kernel)
theorem tw_1073 : (Cond.methodLink "BuildingTextModel" 135 ⟨"BuildingTextModel", "in", "(III)Z"⟩) ∈ Tg := tg 1073 (by decide +kernel) (by decide +kernel)
theorem tw_1074 : (Cond.static ⟨"BuildingTextModel", "in", "(III)Z"⟩) ∈ Tg := tg 1074 (by decide +kernel) (by decide +kernel)
theorem tw_1075 : (Cond.code ⟨"BuildingTextModel", "in", "(III)Z"⟩ prog_11_method_3_code 3 (some .boolean)) ∈ Tg := tg 1075 (by decide +kernel) (by decide +kernel)
theorem tw_1076 : (Cond.methodLink "BuildingTextLaw" 67 ⟨"BuildingTextModel", "read", "()I"⟩) ∈ Tg := tg 1076 (by decide +kernel) (by decide +kernel)
theorem tw_1077 : (Cond.instanceMethod ⟨"BuildingTextModel", "read", "()I"⟩) ∈ Tg := tg 1077 (by decide +kernel) (by decide +kernel)
theorem tw_1078 : (Cond.selects "BuildingTextModel" ⟨"BuildingTextModel", "read", "()I"⟩ ⟨"BuildingTextModel", "read", "()I"⟩) ∈ Tg := tg 1078 (by decide +kernel) (by decide +kernel)
theorem tw_1079 : (Cond.code ⟨"BuildingTextModel", "read", "()I"⟩ prog_11_method_27_code 3 (some .int)) ∈ Tg := tg 1079 (by decide +kernel) (by decide +kernel)
theorem tw_1080 : (Cond.methodLink "BuildingTextModel" 276 ⟨"BuildingTextModel", "line", "()Z"⟩) ∈ Tg := tg 1080 (by decide +kernel) (by decide +kernel)
theorem tw_1082 : (Cond.instanceMethod ⟨"BuildingTextModel", "line", "()Z"⟩) ∈ Tg := tg 1082 (by decide +kernel) (by decide +kernel)
theorem tw_1083 : (Cond.code ⟨"BuildingTextModel", "line", "()Z"⟩ prog_11_method_26_code 3 (some .boolean)) ∈ Tg := tg 1083 (by decide +kernel) (by decide +kernel)
theorem tw_1084 : (Cond.methodLink "BuildingTextModel" 148 ⟨"BuildingTextModel", "next", "()I"⟩) ∈ Tg := tg 1084 (by decide +kernel) (by decide +kernel)
theorem tw_1086 : (Cond.instanceMethod ⟨"BuildingTextModel", "next", "()I"⟩) ∈ Tg := tg 1086 (by decide +kernel) (by decide +kernel)
theorem tw_1087 : (Cond.code ⟨"BuildingTextModel", "next", "()I"⟩ prog_11_method_5_code 1 (some .int)) ∈ Tg := tg 1087 (by decide +kernel) (by decide +kernel)
theorem tw_1088 : (Cond.methodLink "BuildingTextModel" 251 ⟨"BuildingTextModel", "kindOf", "(I)I"⟩) ∈ Tg := tg 1088 (by decide +kernel) (by decide +kernel)
theorem tw_1089 : (Cond.static ⟨"BuildingTextModel", "kindOf", "(I)I"⟩) ∈ Tg := tg 1089 (by decide +kernel) (by decide +kernel)
theorem tw_1090 : (Cond.code ⟨"BuildingTextModel", "kindOf", "(I)I"⟩ prog_11_method_23_code 1 (some .int)) ∈ Tg := tg 1090 (by decide +kernel) (by decide +kernel)
theorem tw_1091 : (Cond.methodLink "BuildingTextModel" 152 ⟨"BuildingTextModel", "wrong", "(I)Z"⟩) ∈ Tg := tg 1091 (by decide +kernel) (by decide +kernel)
theorem tw_1093 : (Cond.instanceMethod ⟨"BuildingTextModel", "wrong", "(I)Z"⟩) ∈ Tg := tg 1093 (by decide +kernel) (by decide +kernel)
theorem tw_1094 : (Cond.code ⟨"BuildingTextModel", "wrong", "(I)Z"⟩ prog_11_method_6_code 2 (some .boolean)) ∈ Tg := tg 1094 (by decide +kernel) (by decide +kernel)
theorem tw_1095 : (Cond.methodLink "BuildingTextModel" 254 ⟨"BuildingTextModel", "takesPlace", "(I)Z"⟩) ∈ Tg := tg 1095 (by decide +kernel) (by decide +kernel)
theorem tw_1097 : (Cond.instanceMethod ⟨"BuildingTextModel", "takesPlace", "(I)Z"⟩) ∈ Tg := tg 1097 (by decide +kernel) (by decide +kernel)
theorem tw_1098 : (Cond.code ⟨"BuildingTextModel", "takesPlace", "(I)Z"⟩ prog_11_method_24_code 2 (some .boolean)) ∈ Tg := tg 1098 (by decide +kernel) (by decide +kernel)
theorem tw_1099 : (Cond.methodLink "BuildingTextModel" 236 ⟨"BuildingTextModel", "takesRack", "()Z"⟩) ∈ Tg := tg 1099 (by decide +kernel) (by decide +kernel)
theorem tw_1101 : (Cond.instanceMethod ⟨"BuildingTextModel", "takesRack", "()Z"⟩) ∈ Tg := tg 1101 (by decide +kernel) (by decide +kernel)
theorem tw_1102 : (Cond.code ⟨"BuildingTextModel", "takesRack", "()Z"⟩ prog_11_method_16_code 1 (some .boolean)) ∈ Tg := tg 1102 (by decide +kernel) (by decide +kernel)
theorem tw_1103 : (Cond.methodLink "BuildingTextModel" 205 ⟨"BuildingTextModel", "takesNew", "()Z"⟩) ∈ Tg := tg 1103 (by decide +kernel) (by decide +kernel)
theorem tw_1105 : (Cond.instanceMethod ⟨"BuildingTextModel", "takesNew", "()Z"⟩) ∈ Tg := tg 1105 (by decide +kernel) (by decide +kernel)
theorem tw_1106 : (Cond.code ⟨"BuildingTextModel", "takesNew", "()Z"⟩ prog_11_method_13_code 1 (some .boolean)) ∈ Tg := tg 1106 (by decide +kernel) (by decide +kernel)
theorem tw_1107 : (Cond.methodLink "BuildingTextModel" 182 ⟨"BuildingTextModel", "takesName", "()Z"⟩) ∈ Tg := tg 1107 (by decide +kernel) (by decide +kernel)
theorem tw_1109 : (Cond.instanceMethod ⟨"BuildingTextModel", "takesName", "()Z"⟩) ∈ Tg := tg 1109 (by decide +kernel) (by decide +kernel)
theorem tw_1110 : (Cond.code ⟨"BuildingTextModel", "takesName", "()Z"⟩ prog_11_method_11_code 2 (some .boolean)) ∈ Tg := tg 1110 (by decide +kernel) (by decide +kernel)
theorem tw_1111 : (Cond.methodLink "BuildingTextModel" 156 ⟨"BuildingTextModel", "takes", "(I)Z"⟩) ∈ Tg := tg 1111 (by decide +kernel) (by decide +kernel)
theorem tw_1113 : (Cond.instanceMethod ⟨"BuildingTextModel", "takes", "(I)Z"⟩) ∈ Tg := tg 1113 (by decide +kernel) (by decide +kernel)
theorem tw_1114 : (Cond.code ⟨"BuildingTextModel", "takes", "(I)Z"⟩ prog_11_method_7_code 2 (some .boolean)) ∈ Tg := tg 1114 (by decide +kernel) (by decide +kernel)
theorem tw_1115 : (Cond.methodLink "BuildingTextModel" 176 ⟨"BuildingTextModel", "isLetter", "()Z"⟩) ∈ Tg := tg 1115 (by decide +kernel) (by decide +kernel)
theorem tw_1117 : (Cond.instanceMethod ⟨"BuildingTextModel", "isLetter", "()Z"⟩) ∈ Tg := tg 1117 (by decide +kernel) (by decide +kernel)
theorem tw_1118 : (Cond.code ⟨"BuildingTextModel", "isLetter", "()Z"⟩ prog_11_method_8_code 1 (some .boolean)) ∈ Tg := tg 1118 (by decide +kernel) (by decide +kernel)
theorem tw_1119 : (Cond.methodLink "BuildingTextModel" 162 ⟨"BuildingTextModel", "isDigit", "()Z"⟩) ∈ Tg := tg 1119 (by decide +kernel) (by decide +kernel)
theorem tw_1121 : (Cond.instanceMethod ⟨"BuildingTextModel", "isDigit", "()Z"⟩) ∈ Tg := tg 1121 (by decide +kernel) (by decide +kernel)
theorem tw_1122 : (Cond.code ⟨"BuildingTextModel", "isDigit", "()Z"⟩ prog_11_method_9_code 1 (some .boolean)) ∈ Tg := tg 1122 (by decide +kernel) (by decide +kernel)
theorem tw_1123 : (Cond.methodLink "BuildingTextModel" 185 ⟨"BuildingTextModel", "numberOf", "(I)I"⟩) ∈ Tg := tg 1123 (by decide +kernel) (by decide +kernel)
theorem tw_1125 : (Cond.instanceMethod ⟨"BuildingTextModel", "numberOf", "(I)I"⟩) ∈ Tg := tg 1125 (by decide +kernel) (by decide +kernel)
end
section
theorem tw_1126 : (Cond.code ⟨"BuildingTextModel", "numberOf", "(I)I"⟩ prog_11_method_12_code 3 (some .int)) ∈ Tg := tg 1126 (by decide +kernel) (by decide +kernel)
theorem tw_1127 : (Cond.methodLink "BuildingTextModel" 211 ⟨"BuildingTextModel", "takesArea", "()Z"⟩) ∈ Tg := tg 1127 (by decide +kernel) (by decide +kernel)
theorem tw_1129 : (Cond.instanceMethod ⟨"BuildingTextModel", "takesArea", "()Z"⟩) ∈ Tg := tg 1129 (by decide +kernel) (by decide +kernel)
theorem tw_1130 : (Cond.code ⟨"BuildingTextModel", "takesArea", "()Z"⟩ prog_11_method_15_code 1 (some .boolean)) ∈ Tg := tg 1130 (by decide +kernel) (by decide +kernel)
theorem tw_1131 : (Cond.methodLink "BuildingTextModel" 189 ⟨"BuildingTextModel", "takesNumber", "(II)Z"⟩) ∈ Tg := tg 1131 (by decide +kernel) (by decide +kernel)
theorem tw_1133 : (Cond.instanceMethod ⟨"BuildingTextModel", "takesNumber", "(II)Z"⟩) ∈ Tg := tg 1133 (by decide +kernel) (by decide +kernel)
theorem tw_1134 : (Cond.code ⟨"BuildingTextModel", "takesNumber", "(II)Z"⟩ prog_11_method_10_code 5 (some .boolean)) ∈ Tg := tg 1134 (by decide +kernel) (by decide +kernel)
theorem tw_1135 : (Cond.constantLong "BuildingTextModel" 166 1000000) ∈ Tg := tg 1135 (by decide +kernel) (by decide +kernel)
theorem tw_1136 : (Cond.constantLong "BuildingTextModel" 168 10) ∈ Tg := tg 1136 (by decide +kernel) (by decide +kernel)
theorem tw_1137 : (Cond.constantLong "BuildingTextModel" 170 48) ∈ Tg := tg 1137 (by decide +kernel) (by decide +kernel)
theorem tw_1138 : (Cond.constant "BuildingTextModel" 172 1000001) ∈ Tg := tg 1138 (by decide +kernel) (by decide +kernel)
theorem tw_1139 : (Cond.methodLink "BuildingTextModel" 239 ⟨"BuildingTextModel", "takesBin", "()Z"⟩) ∈ Tg := tg 1139 (by decide +kernel) (by decide +kernel)
theorem tw_1141 : (Cond.instanceMethod ⟨"BuildingTextModel", "takesBin", "()Z"⟩) ∈ Tg := tg 1141 (by decide +kernel) (by decide +kernel)
theorem tw_1142 : (Cond.code ⟨"BuildingTextModel", "takesBin", "()Z"⟩ prog_11_method_17_code 1 (some .boolean)) ∈ Tg := tg 1142 (by decide +kernel) (by decide +kernel)
theorem tw_1143 : (Cond.methodLink "BuildingTextModel" 214 ⟨"BuildingTextModel", "takesOld", "(I)Z"⟩) ∈ Tg := tg 1143 (by decide +kernel) (by decide +kernel)
theorem tw_1145 : (Cond.instanceMethod ⟨"BuildingTextModel", "takesOld", "(I)Z"⟩) ∈ Tg := tg 1145 (by decide +kernel) (by decide +kernel)
theorem tw_1146 : (Cond.code ⟨"BuildingTextModel", "takesOld", "(I)Z"⟩ prog_11_method_14_code 3 (some .boolean)) ∈ Tg := tg 1146 (by decide +kernel) (by decide +kernel)
theorem tw_1147 : (Cond.methodLink "BuildingTextModel" 242 ⟨"BuildingTextModel", "takesPiece", "()Z"⟩) ∈ Tg := tg 1147 (by decide +kernel) (by decide +kernel)
theorem tw_1149 : (Cond.instanceMethod ⟨"BuildingTextModel", "takesPiece", "()Z"⟩) ∈ Tg := tg 1149 (by decide +kernel) (by decide +kernel)
theorem tw_1150 : (Cond.code ⟨"BuildingTextModel", "takesPiece", "()Z"⟩ prog_11_method_18_code 1 (some .boolean)) ∈ Tg := tg 1150 (by decide +kernel) (by decide +kernel)
theorem tw_1151 : (Cond.methodLink "BuildingTextModel" 245 ⟨"BuildingTextModel", "takesLift", "()Z"⟩) ∈ Tg := tg 1151 (by decide +kernel) (by decide +kernel)
theorem tw_1153 : (Cond.instanceMethod ⟨"BuildingTextModel", "takesLift", "()Z"⟩) ∈ Tg := tg 1153 (by decide +kernel) (by decide +kernel)
theorem tw_1154 : (Cond.code ⟨"BuildingTextModel", "takesLift", "()Z"⟩ prog_11_method_20_code 1 (some .boolean)) ∈ Tg := tg 1154 (by decide +kernel) (by decide +kernel)
theorem tw_1155 : (Cond.methodLink "BuildingTextModel" 248 ⟨"BuildingTextModel", "takesAtPiece", "()Z"⟩) ∈ Tg := tg 1155 (by decide +kernel) (by decide +kernel)
theorem tw_1157 : (Cond.instanceMethod ⟨"BuildingTextModel", "takesAtPiece", "()Z"⟩) ∈ Tg := tg 1157 (by decide +kernel) (by decide +kernel)
theorem tw_1158 : (Cond.code ⟨"BuildingTextModel", "takesAtPiece", "()Z"⟩ prog_11_method_19_code 1 (some .boolean)) ∈ Tg := tg 1158 (by decide +kernel) (by decide +kernel)
theorem tw_1159 : (Cond.methodLink "BuildingTextModel" 257 ⟨"BuildingTextModel", "addPlace", "(I)V"⟩) ∈ Tg := tg 1159 (by decide +kernel) (by decide +kernel)
theorem tw_1161 : (Cond.instanceMethod ⟨"BuildingTextModel", "addPlace", "(I)V"⟩) ∈ Tg := tg 1161 (by decide +kernel) (by decide +kernel)
theorem tw_1162 : (Cond.code ⟨"BuildingTextModel", "addPlace", "(I)V"⟩ prog_11_method_25_code 5 none) ∈ Tg := tg 1162 (by decide +kernel) (by decide +kernel)
theorem tw_1163 : (Cond.methodLink "BuildingTextModel" 261 ⟨"BuildingTextModel", "takesWay", "()Z"⟩) ∈ Tg := tg 1163 (by decide +kernel) (by decide +kernel)
theorem tw_1165 : (Cond.instanceMethod ⟨"BuildingTextModel", "takesWay", "()Z"⟩) ∈ Tg := tg 1165 (by decide +kernel) (by decide +kernel)
theorem tw_1166 : (Cond.code ⟨"BuildingTextModel", "takesWay", "()Z"⟩ prog_11_method_21_code 1 (some .boolean)) ∈ Tg := tg 1166 (by decide +kernel) (by decide +kernel)
theorem tw_1167 : (Cond.methodLink "BuildingTextModel" 264 ⟨"BuildingTextModel", "takesServed", "()Z"⟩) ∈ Tg := tg 1167 (by decide +kernel) (by decide +kernel)
theorem tw_1169 : (Cond.instanceMethod ⟨"BuildingTextModel", "takesServed", "()Z"⟩) ∈ Tg := tg 1169 (by decide +kernel) (by decide +kernel)
theorem tw_1170 : (Cond.code ⟨"BuildingTextModel", "takesServed", "()Z"⟩ prog_11_method_22_code 1 (some .boolean)) ∈ Tg := tg 1170 (by decide +kernel) (by decide +kernel)
theorem tw_1171 : (Cond.methodLink "BuildingTextModel" 282 ⟨"BuildingTextModel", "keep", "(II)V"⟩) ∈ Tg := tg 1171 (by decide +kernel) (by decide +kernel)
theorem tw_1173 : (Cond.instanceMethod ⟨"BuildingTextModel", "keep", "(II)V"⟩) ∈ Tg := tg 1173 (by decide +kernel) (by decide +kernel)
theorem tw_1174 : (Cond.code ⟨"BuildingTextModel", "keep", "(II)V"⟩ prog_11_method_28_code 4 none) ∈ Tg := tg 1174 (by decide +kernel) (by decide +kernel)
theorem tw_1175 : (Cond.methodLink "BuildingTextLaw" 71 ⟨"BuildingTextModel", "place", "(II)I"⟩) ∈ Tg := tg 1175 (by decide +kernel) (by decide +kernel)
theorem tw_1176 : (Cond.instanceMethod ⟨"BuildingTextModel", "place", "(II)I"⟩) ∈ Tg := tg 1176 (by decide +kernel) (by decide +kernel)
theorem tw_1177 : (Cond.selects "BuildingTextModel" ⟨"BuildingTextModel", "place", "(II)I"⟩ ⟨"BuildingTextModel", "place", "(II)I"⟩) ∈ Tg := tg 1177 (by decide +kernel) (by decide +kernel)
theorem tw_1178 : (Cond.code ⟨"BuildingTextModel", "place", "(II)I"⟩ prog_11_method_33_code 4 (some .int)) ∈ Tg := tg 1178 (by decide +kernel) (by decide +kernel)
theorem tw_1179 : (Cond.methodLink "BuildingTextModel" 298 ⟨"BuildingTextModel", "here", "()I"⟩) ∈ Tg := tg 1179 (by decide +kernel) (by decide +kernel)
theorem tw_1181 : (Cond.instanceMethod ⟨"BuildingTextModel", "here", "()I"⟩) ∈ Tg := tg 1181 (by decide +kernel) (by decide +kernel)
theorem tw_1182 : (Cond.code ⟨"BuildingTextModel", "here", "()I"⟩ prog_11_method_29_code 1 (some .int)) ∈ Tg := tg 1182 (by decide +kernel) (by decide +kernel)
theorem tw_1183 : (Cond.methodLink "BuildingTextModel" 292 ⟨"BuildingTextModel", "base", "()I"⟩) ∈ Tg := tg 1183 (by decide +kernel) (by decide +kernel)
theorem tw_1185 : (Cond.instanceMethod ⟨"BuildingTextModel", "base", "()I"⟩) ∈ Tg := tg 1185 (by decide +kernel) (by decide +kernel)
theorem tw_1186 : (Cond.code ⟨"BuildingTextModel", "base", "()I"⟩ prog_11_method_30_code 1 (some .int)) ∈ Tg := tg 1186 (by decide +kernel) (by decide +kernel)
theorem tw_1187 : (Cond.methodLink "BuildingTextModel" 301 ⟨"BuildingTextModel", "linesAt", "(I)I"⟩) ∈ Tg := tg 1187 (by decide +kernel) (by decide +kernel)
theorem tw_1189 : (Cond.instanceMethod ⟨"BuildingTextModel", "linesAt", "(I)I"⟩) ∈ Tg := tg 1189 (by decide +kernel) (by decide +kernel)
theorem tw_1190 : (Cond.code ⟨"BuildingTextModel", "linesAt", "(I)I"⟩ prog_11_method_32_code 4 (some .int)) ∈ Tg := tg 1190 (by decide +kernel) (by decide +kernel)
theorem tw_1191 : (Cond.methodLink "BuildingTextModel" 295 ⟨"BuildingTextModel", "kindAt", "(I)I"⟩) ∈ Tg := tg 1191 (by decide +kernel) (by decide +kernel)
theorem tw_1193 : (Cond.instanceMethod ⟨"BuildingTextModel", "kindAt", "(I)I"⟩) ∈ Tg := tg 1193 (by decide +kernel) (by decide +kernel)
theorem tw_1194 : (Cond.code ⟨"BuildingTextModel", "kindAt", "(I)I"⟩ prog_11_method_31_code 2 (some .int)) ∈ Tg := tg 1194 (by decide +kernel) (by decide +kernel)
theorem tw_1195 : (Cond.methodLink "BuildingTextLaw" 75 ⟨"BuildingTextModel", "named", "(I)I"⟩) ∈ Tg := tg 1195 (by decide +kernel) (by decide +kernel)
theorem tw_1196 : (Cond.instanceMethod ⟨"BuildingTextModel", "named", "(I)I"⟩) ∈ Tg := tg 1196 (by decide +kernel) (by decide +kernel)
theorem tw_1197 : (Cond.selects "BuildingTextModel" ⟨"BuildingTextModel", "named", "(I)I"⟩ ⟨"BuildingTextModel", "named", "(I)I"⟩) ∈ Tg := tg 1197 (by decide +kernel) (by decide +kernel)
theorem tw_1198 : (Cond.code ⟨"BuildingTextModel", "named", "(I)I"⟩ prog_11_method_34_code 3 (some .int)) ∈ Tg := tg 1198 (by decide +kernel) (by decide +kernel)
theorem tw_1199 : (Cond.methodLink "BuildingTextLaw" 79 ⟨"BuildingTextModel", "check", "()I"⟩) ∈ Tg := tg 1199 (by decide +kernel) (by decide +kernel)
theorem tw_1200 : (Cond.instanceMethod ⟨"BuildingTextModel", "check", "()I"⟩) ∈ Tg := tg 1200 (by decide +kernel) (by decide +kernel)
theorem tw_1201 : (Cond.selects "BuildingTextModel" ⟨"BuildingTextModel", "check", "()I"⟩ ⟨"BuildingTextModel", "check", "()I"⟩) ∈ Tg := tg 1201 (by decide +kernel) (by decide +kernel)
theorem tw_1202 : (Cond.code ⟨"BuildingTextModel", "check", "()I"⟩ prog_11_method_47_code 1 (some .int)) ∈ Tg := tg 1202 (by decide +kernel) (by decide +kernel)
theorem tw_1203 : (Cond.methodLink "BuildingTextModel" 342 ⟨"BuildingTextModel", "findFaults", "()V"⟩) ∈ Tg := tg 1203 (by decide +kernel) (by decide +kernel)
theorem tw_1205 : (Cond.instanceMethod ⟨"BuildingTextModel", "findFaults", "()V"⟩) ∈ Tg := tg 1205 (by decide +kernel) (by decide +kernel)
theorem tw_1206 : (Cond.code ⟨"BuildingTextModel", "findFaults", "()V"⟩ prog_11_method_46_code 4 none) ∈ Tg := tg 1206 (by decide +kernel) (by decide +kernel)
theorem tw_1207 : (Cond.methodLink "BuildingTextModel" 320 ⟨"BuildingTextModel", "measure", "()V"⟩) ∈ Tg := tg 1207 (by decide +kernel) (by decide +kernel)
theorem tw_1209 : (Cond.instanceMethod ⟨"BuildingTextModel", "measure", "()V"⟩) ∈ Tg := tg 1209 (by decide +kernel) (by decide +kernel)
theorem tw_1210 : (Cond.code ⟨"BuildingTextModel", "measure", "()V"⟩ prog_11_method_36_code 5 none) ∈ Tg := tg 1210 (by decide +kernel) (by decide +kernel)
theorem tw_1211 : (Cond.methodLink "BuildingTextModel" 304 ⟨"BuildingTextModel", "step", "(II)V"⟩) ∈ Tg := tg 1211 (by decide +kernel) (by decide +kernel)
theorem tw_1213 : (Cond.instanceMethod ⟨"BuildingTextModel", "step", "(II)V"⟩) ∈ Tg := tg 1213 (by decide +kernel) (by decide +kernel)
theorem tw_1214 : (Cond.code ⟨"BuildingTextModel", "step", "(II)V"⟩ prog_11_method_35_code 3 none) ∈ Tg := tg 1214 (by decide +kernel) (by decide +kernel)
theorem tw_1215 : (Cond.methodLink "BuildingTextModel" 307 ⟨"BuildingTextModel", "shorten", "(III)V"⟩) ∈ Tg := tg 1215 (by decide +kernel) (by decide +kernel)
theorem tw_1217 : (Cond.instanceMethod ⟨"BuildingTextModel", "shorten", "(III)V"⟩) ∈ Tg := tg 1217 (by decide +kernel) (by decide +kernel)
theorem tw_1218 : (Cond.code ⟨"BuildingTextModel", "shorten", "(III)V"⟩ prog_11_method_37_code 7 none) ∈ Tg := tg 1218 (by decide +kernel) (by decide +kernel)
theorem tw_1219 : (Cond.methodLink "BuildingTextModel" 323 ⟨"BuildingTextModel", "isInside", "(II)Z"⟩) ∈ Tg := tg 1219 (by decide +kernel) (by decide +kernel)
theorem tw_1221 : (Cond.instanceMethod ⟨"BuildingTextModel", "isInside", "(II)Z"⟩) ∈ Tg := tg 1221 (by decide +kernel) (by decide +kernel)
theorem tw_1222 : (Cond.code ⟨"BuildingTextModel", "isInside", "(II)Z"⟩ prog_11_method_42_code 5 (some .boolean)) ∈ Tg := tg 1222 (by decide +kernel) (by decide +kernel)
theorem tw_1223 : (Cond.methodLink "BuildingTextModel" 326 ⟨"BuildingTextModel", "addFault", "(ZIII)V"⟩) ∈ Tg := tg 1223 (by decide +kernel) (by decide +kernel)
theorem tw_1225 : (Cond.instanceMethod ⟨"BuildingTextModel", "addFault", "(ZIII)V"⟩) ∈ Tg := tg 1225 (by decide +kernel) (by decide +kernel)
theorem tw_1226 : (Cond.code ⟨"BuildingTextModel", "addFault", "(ZIII)V"⟩ prog_11_method_41_code 5 none) ∈ Tg := tg 1226 (by decide +kernel) (by decide +kernel)
theorem tw_1227 : (Cond.methodLink "BuildingTextModel" 330 ⟨"BuildingTextModel", "firstMet", "(I)I"⟩) ∈ Tg := tg 1227 (by decide +kernel) (by decide +kernel)
theorem tw_1229 : (Cond.instanceMethod ⟨"BuildingTextModel", "firstMet", "(I)I"⟩) ∈ Tg := tg 1229 (by decide +kernel) (by decide +kernel)
theorem tw_1230 : (Cond.code ⟨"BuildingTextModel", "firstMet", "(I)I"⟩ prog_11_method_44_code 4 (some .int)) ∈ Tg := tg 1230 (by decide +kernel) (by decide +kernel)
theorem tw_1231 : (Cond.methodLink "BuildingTextModel" 314 ⟨"BuildingTextModel", "meets", "(II)Z"⟩) ∈ Tg := tg 1231 (by decide +kernel) (by decide +kernel)
theorem tw_1233 : (Cond.instanceMethod ⟨"BuildingTextModel", "meets", "(II)Z"⟩) ∈ Tg := tg 1233 (by decide +kernel) (by decide +kernel)
theorem tw_1234 : (Cond.code ⟨"BuildingTextModel", "meets", "(II)Z"⟩ prog_11_method_43_code 5 (some .boolean)) ∈ Tg := tg 1234 (by decide +kernel) (by decide +kernel)
theorem tw_1235 : (Cond.methodLink "BuildingTextModel" 333 ⟨"BuildingTextModel", "isServed", "(I)Z"⟩) ∈ Tg := tg 1235 (by decide +kernel) (by decide +kernel)
theorem tw_1237 : (Cond.instanceMethod ⟨"BuildingTextModel", "isServed", "(I)Z"⟩) ∈ Tg := tg 1237 (by decide +kernel) (by decide +kernel)
theorem tw_1238 : (Cond.code ⟨"BuildingTextModel", "isServed", "(I)Z"⟩ prog_11_method_45_code 3 (some .boolean)) ∈ Tg := tg 1238 (by decide +kernel) (by decide +kernel)
theorem tw_1239 : (Cond.methodLink "BuildingTextModel" 317 ⟨"BuildingTextModel", "isReached", "(I)Z"⟩) ∈ Tg := tg 1239 (by decide +kernel) (by decide +kernel)
theorem tw_1241 : (Cond.instanceMethod ⟨"BuildingTextModel", "isReached", "(I)Z"⟩) ∈ Tg := tg 1241 (by decide +kernel) (by decide +kernel)
theorem tw_1242 : (Cond.code ⟨"BuildingTextModel", "isReached", "(I)Z"⟩ prog_11_method_38_code 3 (some .boolean)) ∈ Tg := tg 1242 (by decide +kernel) (by decide +kernel)
theorem tw_1243 : (Cond.methodLink "BuildingTextModel" 336 ⟨"BuildingTextModel", "isLinked", "(I)Z"⟩) ∈ Tg := tg 1243 (by decide +kernel) (by decide +kernel)
theorem tw_1245 : (Cond.instanceMethod ⟨"BuildingTextModel", "isLinked", "(I)Z"⟩) ∈ Tg := tg 1245 (by decide +kernel) (by decide +kernel)
theorem tw_1246 : (Cond.code ⟨"BuildingTextModel", "isLinked", "(I)Z"⟩ prog_11_method_40_code 4 (some .boolean)) ∈ Tg := tg 1246 (by decide +kernel) (by decide +kernel)
theorem tw_1247 : (Cond.methodLink "BuildingTextModel" 339 ⟨"BuildingTextModel", "toDock", "(I)I"⟩) ∈ Tg := tg 1247 (by decide +kernel) (by decide +kernel)
theorem tw_1249 : (Cond.instanceMethod ⟨"BuildingTextModel", "toDock", "(I)I"⟩) ∈ Tg := tg 1249 (by decide +kernel) (by decide +kernel)
theorem tw_1250 : (Cond.code ⟨"BuildingTextModel", "toDock", "(I)I"⟩ prog_11_method_39_code 5 (some .int)) ∈ Tg := tg 1250 (by decide +kernel) (by decide +kernel)
theorem tw_1251 : (Cond.methodLink "BuildingTextLaw" 82 ⟨"BuildingTextModel", "fault", "(II)I"⟩) ∈ Tg := tg 1251 (by decide +kernel) (by decide +kernel)
theorem tw_1252 : (Cond.instanceMethod ⟨"BuildingTextModel", "fault", "(II)I"⟩) ∈ Tg := tg 1252 (by decide +kernel) (by decide +kernel)
theorem tw_1253 : (Cond.selects "BuildingTextModel" ⟨"BuildingTextModel", "fault", "(II)I"⟩ ⟨"BuildingTextModel", "fault", "(II)I"⟩) ∈ Tg := tg 1253 (by decide +kernel) (by decide +kernel)
theorem tw_1254 : (Cond.code ⟨"BuildingTextModel", "fault", "(II)I"⟩ prog_11_method_48_code 3 (some .int)) ∈ Tg := tg 1254 (by decide +kernel) (by decide +kernel)
theorem tw_1255 : (Cond.methodLink "BuildingTextLaw" 85 ⟨"BuildingTextModel", "piece", "(II)I"⟩) ∈ Tg := tg 1255 (by decide +kernel) (by decide +kernel)
theorem tw_1256 : (Cond.instanceMethod ⟨"BuildingTextModel", "piece", "(II)I"⟩) ∈ Tg := tg 1256 (by decide +kernel) (by decide +kernel)
theorem tw_1257 : (Cond.selects "BuildingTextModel" ⟨"BuildingTextModel", "piece", "(II)I"⟩ ⟨"BuildingTextModel", "piece", "(II)I"⟩) ∈ Tg := tg 1257 (by decide +kernel) (by decide +kernel)
theorem tw_1258 : (Cond.code ⟨"BuildingTextModel", "piece", "(II)I"⟩ prog_11_method_50_code 6 (some .int)) ∈ Tg := tg 1258 (by decide +kernel) (by decide +kernel)
theorem tw_1259 : (Cond.methodLink "BuildingTextModel" 345 ⟨"BuildingTextModel", "pieceAt", "(I)I"⟩) ∈ Tg := tg 1259 (by decide +kernel) (by decide +kernel)
theorem tw_1261 : (Cond.instanceMethod ⟨"BuildingTextModel", "pieceAt", "(I)I"⟩) ∈ Tg := tg 1261 (by decide +kernel) (by decide +kernel)
theorem tw_1262 : (Cond.code ⟨"BuildingTextModel", "pieceAt", "(I)I"⟩ prog_11_method_49_code 4 (some .int)) ∈ Tg := tg 1262 (by decide +kernel) (by decide +kernel)
theorem tw_1263 : (Cond.methodLink "BuildingTextLaw" 88 ⟨"BuildingTextModel", "inside", "(II)Z"⟩) ∈ Tg := tg 1263 (by decide +kernel) (by decide +kernel)
theorem tw_1264 : (Cond.instanceMethod ⟨"BuildingTextModel", "inside", "(II)Z"⟩) ∈ Tg := tg 1264 (by decide +kernel) (by decide +kernel)
theorem tw_1265 : (Cond.selects "BuildingTextModel" ⟨"BuildingTextModel", "inside", "(II)Z"⟩ ⟨"BuildingTextModel", "inside", "(II)Z"⟩) ∈ Tg := tg 1265 (by decide +kernel) (by decide +kernel)
theorem tw_1266 : (Cond.code ⟨"BuildingTextModel", "inside", "(II)Z"⟩ prog_11_method_51_code 4 (some .boolean)) ∈ Tg := tg 1266 (by decide +kernel) (by decide +kernel)
theorem tw_1267 : (Cond.methodLink "BuildingTextLaw" 92 ⟨"BuildingTextModel", "fill", "(III)V"⟩) ∈ Tg := tg 1267 (by decide +kernel) (by decide +kernel)
theorem tw_1268 : (Cond.instanceMethod ⟨"BuildingTextModel", "fill", "(III)V"⟩) ∈ Tg := tg 1268 (by decide +kernel) (by decide +kernel)
theorem tw_1269 : (Cond.selects "BuildingTextModel" ⟨"BuildingTextModel", "fill", "(III)V"⟩ ⟨"BuildingTextModel", "fill", "(III)V"⟩) ∈ Tg := tg 1269 (by decide +kernel) (by decide +kernel)
theorem tw_1270 : (Cond.code ⟨"BuildingTextModel", "fill", "(III)V"⟩ prog_11_method_53_code 5 none) ∈ Tg := tg 1270 (by decide +kernel) (by decide +kernel)
theorem tw_1271 : (Cond.methodLink "BuildingTextModel" 348 ⟨"BuildingTextModel", "isEdition", "(I)Z"⟩) ∈ Tg := tg 1271 (by decide +kernel) (by decide +kernel)
theorem tw_1273 : (Cond.instanceMethod ⟨"BuildingTextModel", "isEdition", "(I)Z"⟩) ∈ Tg := tg 1273 (by decide +kernel) (by decide +kernel)
theorem tw_1274 : (Cond.code ⟨"BuildingTextModel", "isEdition", "(I)Z"⟩ prog_11_method_52_code 2 (some .boolean)) ∈ Tg := tg 1274 (by decide +kernel) (by decide +kernel)
theorem tw_1275 : (Cond.methodLink "BuildingTextLaw" 96 ⟨"BuildingTextModel", "differ", "(I)I"⟩) ∈ Tg := tg 1275 (by decide +kernel) (by decide +kernel)
theorem tw_1276 : (Cond.instanceMethod ⟨"BuildingTextModel", "differ", "(I)I"⟩) ∈ Tg := tg 1276 (by decide +kernel) (by decide +kernel)
theorem tw_1277 : (Cond.selects "BuildingTextModel" ⟨"BuildingTextModel", "differ", "(I)I"⟩ ⟨"BuildingTextModel", "differ", "(I)I"⟩) ∈ Tg := tg 1277 (by decide +kernel) (by decide +kernel)
theorem tw_1278 : (Cond.code ⟨"BuildingTextModel", "differ", "(I)I"⟩ prog_11_method_55_code 5 (some .int)) ∈ Tg := tg 1278 (by decide +kernel) (by decide +kernel)
theorem tw_1279 : (Cond.methodLink "BuildingTextModel" 354 ⟨"BuildingTextModel", "isKept", "(II)Z"⟩) ∈ Tg := tg 1279 (by decide +kernel) (by decide +kernel)
theorem tw_1281 : (Cond.instanceMethod ⟨"BuildingTextModel", "isKept", "(II)Z"⟩) ∈ Tg := tg 1281 (by decide +kernel) (by decide +kernel)
theorem tw_1282 : (Cond.code ⟨"BuildingTextModel", "isKept", "(II)Z"⟩ prog_11_method_54_code 6 (some .boolean)) ∈ Tg := tg 1282 (by decide +kernel) (by decide +kernel)
theorem tw_1283 : (Cond.methodLink "BuildingTextLaw" 99 ⟨"BuildingTextModel", "moved", "(I)I"⟩) ∈ Tg := tg 1283 (by decide +kernel) (by decide +kernel)
theorem tw_1284 : (Cond.instanceMethod ⟨"BuildingTextModel", "moved", "(I)I"⟩) ∈ Tg := tg 1284 (by decide +kernel) (by decide +kernel)
theorem tw_1285 : (Cond.selects "BuildingTextModel" ⟨"BuildingTextModel", "moved", "(I)I"⟩ ⟨"BuildingTextModel", "moved", "(I)I"⟩) ∈ Tg := tg 1285 (by decide +kernel) (by decide +kernel)
end
section
theorem tw_1286 : (Cond.code ⟨"BuildingTextModel", "moved", "(I)I"⟩ prog_11_method_56_code 2 (some .int)) ∈ Tg := tg 1286 (by decide +kernel) (by decide +kernel)
theorem tw_1287 : (Cond.methodLink "BuildingTextLaw" 103 ⟨"BuildingTextModel", "print", "()I"⟩) ∈ Tg := tg 1287 (by decide +kernel) (by decide +kernel)
theorem tw_1288 : (Cond.instanceMethod ⟨"BuildingTextModel", "print", "()I"⟩) ∈ Tg := tg 1288 (by decide +kernel) (by decide +kernel)
theorem tw_1289 : (Cond.selects "BuildingTextModel" ⟨"BuildingTextModel", "print", "()I"⟩ ⟨"BuildingTextModel", "print", "()I"⟩) ∈ Tg := tg 1289 (by decide +kernel) (by decide +kernel)
theorem tw_1290 : (Cond.code ⟨"BuildingTextModel", "print", "()I"⟩ prog_11_method_62_code 4 (some .int)) ∈ Tg := tg 1290 (by decide +kernel) (by decide +kernel)
theorem tw_1291 : (Cond.methodLink "BuildingTextModel" 372 ⟨"BuildingTextModel", "signAt", "(II)I"⟩) ∈ Tg := tg 1291 (by decide +kernel) (by decide +kernel)
theorem tw_1293 : (Cond.instanceMethod ⟨"BuildingTextModel", "signAt", "(II)I"⟩) ∈ Tg := tg 1293 (by decide +kernel) (by decide +kernel)
theorem tw_1294 : (Cond.code ⟨"BuildingTextModel", "signAt", "(II)I"⟩ prog_11_method_61_code 7 (some .int)) ∈ Tg := tg 1294 (by decide +kernel) (by decide +kernel)
theorem tw_1295 : (Cond.methodLink "BuildingTextModel" 360 ⟨"BuildingTextModel", "stopsAt", "(III)Z"⟩) ∈ Tg := tg 1295 (by decide +kernel) (by decide +kernel)
theorem tw_1297 : (Cond.instanceMethod ⟨"BuildingTextModel", "stopsAt", "(III)Z"⟩) ∈ Tg := tg 1297 (by decide +kernel) (by decide +kernel)
theorem tw_1298 : (Cond.code ⟨"BuildingTextModel", "stopsAt", "(III)Z"⟩ prog_11_method_58_code 5 (some .boolean)) ∈ Tg := tg 1298 (by decide +kernel) (by decide +kernel)
theorem tw_1299 : (Cond.methodLink "BuildingTextModel" 357 ⟨"BuildingTextModel", "covers", "(III)Z"⟩) ∈ Tg := tg 1299 (by decide +kernel) (by decide +kernel)
theorem tw_1301 : (Cond.instanceMethod ⟨"BuildingTextModel", "covers", "(III)Z"⟩) ∈ Tg := tg 1301 (by decide +kernel) (by decide +kernel)
theorem tw_1302 : (Cond.code ⟨"BuildingTextModel", "covers", "(III)Z"⟩ prog_11_method_57_code 5 (some .boolean)) ∈ Tg := tg 1302 (by decide +kernel) (by decide +kernel)
theorem tw_1303 : (Cond.methodLink "BuildingTextModel" 363 ⟨"BuildingTextModel", "rankOf", "(I)I"⟩) ∈ Tg := tg 1303 (by decide +kernel) (by decide +kernel)
theorem tw_1304 : (Cond.static ⟨"BuildingTextModel", "rankOf", "(I)I"⟩) ∈ Tg := tg 1304 (by decide +kernel) (by decide +kernel)
theorem tw_1305 : (Cond.code ⟨"BuildingTextModel", "rankOf", "(I)I"⟩ prog_11_method_59_code 1 (some .int)) ∈ Tg := tg 1305 (by decide +kernel) (by decide +kernel)
theorem tw_1306 : (Cond.methodLink "BuildingTextModel" 366 ⟨"BuildingTextModel", "signOf", "(I)I"⟩) ∈ Tg := tg 1306 (by decide +kernel) (by decide +kernel)
theorem tw_1307 : (Cond.static ⟨"BuildingTextModel", "signOf", "(I)I"⟩) ∈ Tg := tg 1307 (by decide +kernel) (by decide +kernel)
theorem tw_1308 : (Cond.code ⟨"BuildingTextModel", "signOf", "(I)I"⟩ prog_11_method_60_code 1 (some .int)) ∈ Tg := tg 1308 (by decide +kernel) (by decide +kernel)
theorem tw_1309 : (Cond.methodLink "BuildingTextLaw" 106 ⟨"BuildingTextModel", "at", "(I)I"⟩) ∈ Tg := tg 1309 (by decide +kernel) (by decide +kernel)
theorem tw_1310 : (Cond.instanceMethod ⟨"BuildingTextModel", "at", "(I)I"⟩) ∈ Tg := tg 1310 (by decide +kernel) (by decide +kernel)
theorem tw_1311 : (Cond.selects "BuildingTextModel" ⟨"BuildingTextModel", "at", "(I)I"⟩ ⟨"BuildingTextModel", "at", "(I)I"⟩) ∈ Tg := tg 1311 (by decide +kernel) (by decide +kernel)
theorem tw_1312 : (Cond.code ⟨"BuildingTextModel", "at", "(I)I"⟩ prog_11_method_63_code 2 (some .int)) ∈ Tg := tg 1312 (by decide +kernel) (by decide +kernel)
theorem tw_1313 : (Cond.methodLink "BuildingTextLaw" 110 ⟨"BuildingTextModel", "count", "(I)I"⟩) ∈ Tg := tg 1313 (by decide +kernel) (by decide +kernel)
theorem tw_1314 : (Cond.instanceMethod ⟨"BuildingTextModel", "count", "(I)I"⟩) ∈ Tg := tg 1314 (by decide +kernel) (by decide +kernel)
theorem tw_1315 : (Cond.selects "BuildingTextModel" ⟨"BuildingTextModel", "count", "(I)I"⟩ ⟨"BuildingTextModel", "count", "(I)I"⟩) ∈ Tg := tg 1315 (by decide +kernel) (by decide +kernel)
theorem tw_1316 : (Cond.code ⟨"BuildingTextModel", "count", "(I)I"⟩ prog_11_method_64_code 2 (some .int)) ∈ Tg := tg 1316 (by decide +kernel) (by decide +kernel)
theorem tw_1322 : (Cond.sameMethod "[Ljava/lang/Object;" "java/lang/Object" "getClass" "()Ljava/lang/Class;") ∈ Tg := tg 1322 (by decide +kernel) (by decide +kernel)
theorem tw_1323 : (Cond.selects "[Ljava/lang/Object;" ⟨"java/lang/Object", "getClass", "()Ljava/lang/Class;"⟩ ⟨"java/lang/Object", "getClass", "()Ljava/lang/Class;"⟩) ∈ Tg := tg 1323 (by decide +kernel) (by decide +kernel)
theorem nw_64 : (Cond.methodLinkNest "BuildingText" 22 ⟨"BuildingText$Edition", "<init>", "()V"⟩ "BuildingText") ∈ NW := tn 64 (by decide +kernel) (by decide +kernel)
theorem nw_71 : (Cond.fieldLinkNest "BuildingText$Going" 24 "BuildingText$Edition" "places" "Ljava/util/ArrayList;" "BuildingText") ∈ NW := tn 71 (by decide +kernel) (by decide +kernel)
theorem nw_72 : (Cond.fieldLinkNest "BuildingText$Inspection" 21 "BuildingText$Edition" "places" "Ljava/util/ArrayList;" "BuildingText") ∈ NW := tn 72 (by decide +kernel) (by decide +kernel)
theorem nw_73 : (Cond.fieldLinkNest "BuildingText$Plan" 31 "BuildingText$Edition" "places" "Ljava/util/ArrayList;" "BuildingText") ∈ NW := tn 73 (by decide +kernel) (by decide +kernel)
theorem nw_74 : (Cond.fieldLinkNest "BuildingText$TextReader" 73 "BuildingText$Edition" "places" "Ljava/util/ArrayList;" "BuildingText") ∈ NW := tn 74 (by decide +kernel) (by decide +kernel)
theorem nw_75 : (Cond.fieldLinkNest "BuildingText" 94 "BuildingText$Edition" "places" "Ljava/util/ArrayList;" "BuildingText") ∈ NW := tn 75 (by decide +kernel) (by decide +kernel)
theorem nw_77 : (Cond.fieldLinkNest "BuildingText$Going" 72 "BuildingText$Edition" "ways" "Ljava/util/ArrayList;" "BuildingText") ∈ NW := tn 77 (by decide +kernel) (by decide +kernel)
theorem nw_78 : (Cond.fieldLinkNest "BuildingText" 218 "BuildingText$Edition" "ways" "Ljava/util/ArrayList;" "BuildingText") ∈ NW := tn 78 (by decide +kernel) (by decide +kernel)
theorem nw_80 : (Cond.fieldLinkNest "BuildingText$Inspection" 80 "BuildingText$Edition" "serves" "Ljava/util/ArrayList;" "BuildingText") ∈ NW := tn 80 (by decide +kernel) (by decide +kernel)
theorem nw_81 : (Cond.fieldLinkNest "BuildingText" 221 "BuildingText$Edition" "serves" "Ljava/util/ArrayList;" "BuildingText") ∈ NW := tn 81 (by decide +kernel) (by decide +kernel)
theorem nw_83 : (Cond.fieldLinkNest "BuildingText$Going" 91 "BuildingText$Edition" "stops" "Ljava/util/ArrayList;" "BuildingText") ∈ NW := tn 83 (by decide +kernel) (by decide +kernel)
theorem nw_84 : (Cond.fieldLinkNest "BuildingText$Plan" 72 "BuildingText$Edition" "stops" "Ljava/util/ArrayList;" "BuildingText") ∈ NW := tn 84 (by decide +kernel) (by decide +kernel)
theorem nw_145 : (Cond.arrayOver (.object "java/lang/Object")) ∈ NW := tn 145 (by decide +kernel) (by decide +kernel)
theorem nw_157 : (Cond.methodLinkNest "BuildingText" 33 ⟨"BuildingText$Going", "<init>", "()V"⟩ "BuildingText") ∈ NW := tn 157 (by decide +kernel) (by decide +kernel)
theorem nw_186 : (Cond.methodLinkNest "BuildingText" 40 ⟨"BuildingText$Inspection", "<init>", "()V"⟩ "BuildingText") ∈ NW := tn 186 (by decide +kernel) (by decide +kernel)
theorem nw_193 : (Cond.fieldLinkNest "BuildingText" 142 "BuildingText$Inspection" "faults" "Ljava/util/ArrayList;" "BuildingText") ∈ NW := tn 193 (by decide +kernel) (by decide +kernel)
theorem nw_199 : (Cond.methodLinkNest "BuildingText" 47 ⟨"BuildingText$Plan", "<init>", "()V"⟩ "BuildingText") ∈ NW := tn 199 (by decide +kernel) (by decide +kernel)
theorem nw_204 : (Cond.fieldLinkNest "BuildingText" 217 "BuildingText$Plan" "signs" "[C" "BuildingText") ∈ NW := tn 204 (by decide +kernel) (by decide +kernel)
theorem nw_206 : (Cond.fieldLinkNest "BuildingText" 212 "BuildingText$Plan" "length" "I" "BuildingText") ∈ NW := tn 206 (by decide +kernel) (by decide +kernel)
theorem nw_245 : (Cond.methodLinkNest "BuildingText" 138 ⟨"BuildingText$Edition", "find", "(I)I"⟩ "BuildingText") ∈ NW := tn 245 (by decide +kernel) (by decide +kernel)
theorem nw_277 : (Cond.methodLinkNest "BuildingText" 209 ⟨"BuildingText$Plan", "layOut", "(LBuildingText$Edition;)V"⟩ "BuildingText") ∈ NW := tn 277 (by decide +kernel) (by decide +kernel)
theorem nw_320 : (Cond.castable "java/lang/IllegalArgumentException" "java/lang/IllegalArgumentException") ∈ NW := tn 320 (by decide +kernel) (by decide +kernel)
theorem nw_322 : (Cond.declares ⟨"java/lang/RuntimeException", "<init>", "(Ljava/lang/String;)V"⟩) ∈ NW := tn 322 (by decide +kernel) (by decide +kernel)
theorem nw_324 : (Cond.declares ⟨"java/lang/Exception", "<init>", "(Ljava/lang/String;)V"⟩) ∈ NW := tn 324 (by decide +kernel) (by decide +kernel)
theorem nw_326 : (Cond.declares ⟨"java/lang/Throwable", "<init>", "(Ljava/lang/String;)V"⟩) ∈ NW := tn 326 (by decide +kernel) (by decide +kernel)
theorem nw_388 : (Cond.castable "java/lang/UnsupportedOperationException" "java/lang/UnsupportedOperationException") ∈ NW := tn 388 (by decide +kernel) (by decide +kernel)
theorem nw_411 : (Cond.methodLinkNest "BuildingText" 74 ⟨"BuildingText$TextReader", "<init>", "([CILBuildingText$Edition;)V"⟩ "BuildingText") ∈ NW := tn 411 (by decide +kernel) (by decide +kernel)
theorem nw_434 : (Cond.methodLinkNest "BuildingText" 77 ⟨"BuildingText$TextReader", "readLines", "()I"⟩ "BuildingText") ∈ NW := tn 434 (by decide +kernel) (by decide +kernel)
theorem nw_471 : (Cond.methodLinkNest "BuildingText$TextReader" 143 ⟨"BuildingText$Edition", "find", "(I)I"⟩ "BuildingText") ∈ NW := tn 471 (by decide +kernel) (by decide +kernel)
theorem nw_483 : (Cond.methodLinkNest "BuildingText$TextReader" 100 ⟨"BuildingText$Place", "<init>", "(IIIIII)V"⟩ "BuildingText") ∈ NW := tn 483 (by decide +kernel) (by decide +kernel)
theorem nw_488 : (Cond.fieldLinkNest "BuildingText$Edition" 37 "BuildingText$Place" "name" "I" "BuildingText") ∈ NW := tn 488 (by decide +kernel) (by decide +kernel)
theorem nw_490 : (Cond.fieldLinkNest "BuildingText$Inspection" 36 "BuildingText$Place" "kind" "I" "BuildingText") ∈ NW := tn 490 (by decide +kernel) (by decide +kernel)
theorem nw_491 : (Cond.fieldLinkNest "BuildingText$Going" 52 "BuildingText$Place" "kind" "I" "BuildingText") ∈ NW := tn 491 (by decide +kernel) (by decide +kernel)
theorem nw_492 : (Cond.fieldLinkNest "BuildingText$Edition" 41 "BuildingText$Place" "kind" "I" "BuildingText") ∈ NW := tn 492 (by decide +kernel) (by decide +kernel)
theorem nw_493 : (Cond.fieldLinkNest "BuildingText$Plan" 65 "BuildingText$Place" "kind" "I" "BuildingText") ∈ NW := tn 493 (by decide +kernel) (by decide +kernel)
theorem nw_494 : (Cond.fieldLinkNest "BuildingText" 110 "BuildingText$Place" "kind" "I" "BuildingText") ∈ NW := tn 494 (by decide +kernel) (by decide +kernel)
theorem nw_495 : (Cond.fieldLinkNest "BuildingText$TextReader" 147 "BuildingText$Place" "kind" "I" "BuildingText") ∈ NW := tn 495 (by decide +kernel) (by decide +kernel)
theorem nw_497 : (Cond.fieldLinkNest "BuildingText" 115 "BuildingText$Place" "x" "I" "BuildingText") ∈ NW := tn 497 (by decide +kernel) (by decide +kernel)
theorem nw_498 : (Cond.fieldLinkNest "BuildingText$Plan" 80 "BuildingText$Place" "x" "I" "BuildingText") ∈ NW := tn 498 (by decide +kernel) (by decide +kernel)
theorem nw_499 : (Cond.fieldLinkNest "BuildingText$TextReader" 118 "BuildingText$Place" "x" "I" "BuildingText") ∈ NW := tn 499 (by decide +kernel) (by decide +kernel)
theorem nw_501 : (Cond.fieldLinkNest "BuildingText$Plan" 49 "BuildingText$Place" "y" "I" "BuildingText") ∈ NW := tn 501 (by decide +kernel) (by decide +kernel)
theorem nw_502 : (Cond.fieldLinkNest "BuildingText" 118 "BuildingText$Place" "y" "I" "BuildingText") ∈ NW := tn 502 (by decide +kernel) (by decide +kernel)
theorem nw_503 : (Cond.fieldLinkNest "BuildingText$TextReader" 121 "BuildingText$Place" "y" "I" "BuildingText") ∈ NW := tn 503 (by decide +kernel) (by decide +kernel)
theorem nw_505 : (Cond.fieldLinkNest "BuildingText" 121 "BuildingText$Place" "w" "I" "BuildingText") ∈ NW := tn 505 (by decide +kernel) (by decide +kernel)
theorem nw_506 : (Cond.fieldLinkNest "BuildingText$Plan" 83 "BuildingText$Place" "w" "I" "BuildingText") ∈ NW := tn 506 (by decide +kernel) (by decide +kernel)
theorem nw_507 : (Cond.fieldLinkNest "BuildingText$TextReader" 124 "BuildingText$Place" "w" "I" "BuildingText") ∈ NW := tn 507 (by decide +kernel) (by decide +kernel)
theorem nw_509 : (Cond.fieldLinkNest "BuildingText$Plan" 53 "BuildingText$Place" "h" "I" "BuildingText") ∈ NW := tn 509 (by decide +kernel) (by decide +kernel)
theorem nw_510 : (Cond.fieldLinkNest "BuildingText" 124 "BuildingText$Place" "h" "I" "BuildingText") ∈ NW := tn 510 (by decide +kernel) (by decide +kernel)
theorem nw_511 : (Cond.fieldLinkNest "BuildingText$TextReader" 127 "BuildingText$Place" "h" "I" "BuildingText") ∈ NW := tn 511 (by decide +kernel) (by decide +kernel)
theorem nw_512 : (Cond.fieldLinkNest "BuildingText$TextReader" 92 "BuildingText$Place" "level" "I" "BuildingText") ∈ NW := tn 512 (by decide +kernel) (by decide +kernel)
theorem nw_513 : (Cond.fieldLinkNest "BuildingText$Inspection" 74 "BuildingText$Place" "level" "I" "BuildingText") ∈ NW := tn 513 (by decide +kernel) (by decide +kernel)
theorem nw_514 : (Cond.fieldLinkNest "BuildingText" 127 "BuildingText$Place" "level" "I" "BuildingText") ∈ NW := tn 514 (by decide +kernel) (by decide +kernel)
theorem nw_515 : (Cond.fieldLinkNest "BuildingText$Edition" 52 "BuildingText$Place" "level" "I" "BuildingText") ∈ NW := tn 515 (by decide +kernel) (by decide +kernel)
theorem nw_517 : (Cond.fieldLinkNest "BuildingText$Going" 59 "BuildingText$Place" "base" "I" "BuildingText") ∈ NW := tn 517 (by decide +kernel) (by decide +kernel)
theorem nw_518 : (Cond.fieldLinkNest "BuildingText$Inspection" 54 "BuildingText$Place" "base" "I" "BuildingText") ∈ NW := tn 518 (by decide +kernel) (by decide +kernel)
theorem nw_519 : (Cond.fieldLinkNest "BuildingText$TextReader" 97 "BuildingText$Place" "base" "I" "BuildingText") ∈ NW := tn 519 (by decide +kernel) (by decide +kernel)
theorem nw_520 : (Cond.fieldLinkNest "BuildingText" 130 "BuildingText$Place" "base" "I" "BuildingText") ∈ NW := tn 520 (by decide +kernel) (by decide +kernel)
theorem nw_521 : (Cond.fieldLinkNest "BuildingText$Edition" 59 "BuildingText$Place" "base" "I" "BuildingText") ∈ NW := tn 521 (by decide +kernel) (by decide +kernel)
theorem nw_522 : (Cond.fieldLinkNest "BuildingText" 133 "BuildingText$Place" "lines" "I" "BuildingText") ∈ NW := tn 522 (by decide +kernel) (by decide +kernel)
theorem nw_523 : (Cond.fieldLinkNest "BuildingText$Edition" 71 "BuildingText$Place" "lines" "I" "BuildingText") ∈ NW := tn 523 (by decide +kernel) (by decide +kernel)
theorem nw_524 : (Cond.fieldLinkNest "BuildingText$Inspection" 97 "BuildingText$Place" "hasWayOrLift" "Z" "BuildingText") ∈ NW := tn 524 (by decide +kernel) (by decide +kernel)
theorem nw_525 : (Cond.fieldLinkNest "BuildingText$Edition" 74 "BuildingText$Place" "hasWayOrLift" "Z" "BuildingText") ∈ NW := tn 525 (by decide +kernel) (by decide +kernel)
theorem nw_526 : (Cond.fieldLinkNest "BuildingText" 197 "BuildingText$Place" "units" "I" "BuildingText") ∈ NW := tn 526 (by decide +kernel) (by decide +kernel)
theorem nw_572 : (Cond.methodLinkNest "BuildingText$TextReader" 133 ⟨"BuildingText$Edition", "addWay", "(IIZ)V"⟩ "BuildingText") ∈ NW := tn 572 (by decide +kernel) (by decide +kernel)
theorem nw_578 : (Cond.methodLinkNest "BuildingText$Edition" 64 ⟨"BuildingText$Link", "<init>", "(IIZ)V"⟩ "BuildingText") ∈ NW := tn 578 (by decide +kernel) (by decide +kernel)
theorem nw_583 : (Cond.fieldLinkNest "BuildingText$Going" 77 "BuildingText$Link" "first" "I" "BuildingText") ∈ NW := tn 583 (by decide +kernel) (by decide +kernel)
theorem nw_584 : (Cond.fieldLinkNest "BuildingText$Inspection" 85 "BuildingText$Link" "first" "I" "BuildingText") ∈ NW := tn 584 (by decide +kernel) (by decide +kernel)
theorem nw_586 : (Cond.fieldLinkNest "BuildingText$Going" 80 "BuildingText$Link" "second" "I" "BuildingText") ∈ NW := tn 586 (by decide +kernel) (by decide +kernel)
theorem nw_587 : (Cond.fieldLinkNest "BuildingText$Inspection" 88 "BuildingText$Link" "second" "I" "BuildingText") ∈ NW := tn 587 (by decide +kernel) (by decide +kernel)
theorem nw_588 : (Cond.fieldLinkNest "BuildingText$Plan" 77 "BuildingText$Link" "second" "I" "BuildingText") ∈ NW := tn 588 (by decide +kernel) (by decide +kernel)
theorem nw_590 : (Cond.fieldLinkNest "BuildingText$Going" 87 "BuildingText$Link" "bothWays" "Z" "BuildingText") ∈ NW := tn 590 (by decide +kernel) (by decide +kernel)
theorem nw_612 : (Cond.methodLinkNest "BuildingText$TextReader" 110 ⟨"BuildingText$Edition", "addStop", "(II)V"⟩ "BuildingText") ∈ NW := tn 612 (by decide +kernel) (by decide +kernel)
theorem nw_620 : (Cond.methodLinkNest "BuildingText$TextReader" 137 ⟨"BuildingText$Edition", "addServe", "(II)V"⟩ "BuildingText") ∈ NW := tn 620 (by decide +kernel) (by decide +kernel)
theorem nw_624 : (Cond.methodLinkNest "BuildingText" 81 ⟨"BuildingText$Edition", "isTooLarge", "()Z"⟩ "BuildingText") ∈ NW := tn 624 (by decide +kernel) (by decide +kernel)
theorem nw_633 : (Cond.methodLinkNest "BuildingText" 97 ⟨"BuildingText$Going", "learn", "(LBuildingText$Edition;)V"⟩ "BuildingText") ∈ NW := tn 633 (by decide +kernel) (by decide +kernel)
theorem nw_665 : (Cond.methodLinkNest "BuildingText" 100 ⟨"BuildingText$Inspection", "inspect", "(LBuildingText$Edition;LBuildingText$Going;)V"⟩ "BuildingText") ∈ NW := tn 665 (by decide +kernel) (by decide +kernel)
theorem nw_680 : (Cond.methodLinkNest "BuildingText$Inspection" 77 ⟨"BuildingText$Place", "sharesArea", "(LBuildingText$Place;)Z"⟩ "BuildingText") ∈ NW := tn 680 (by decide +kernel) (by decide +kernel)
theorem nw_686 : (Cond.methodLinkNest "BuildingText$Inspection" 63 ⟨"BuildingText$Fault", "<init>", "(III)V"⟩ "BuildingText") ∈ NW := tn 686 (by decide +kernel) (by decide +kernel)
theorem nw_691 : (Cond.fieldLinkNest "BuildingText" 156 "BuildingText$Fault" "kind" "I" "BuildingText") ∈ NW := tn 691 (by decide +kernel) (by decide +kernel)
theorem nw_693 : (Cond.fieldLinkNest "BuildingText" 157 "BuildingText$Fault" "place" "I" "BuildingText") ∈ NW := tn 693 (by decide +kernel) (by decide +kernel)
theorem nw_695 : (Cond.fieldLinkNest "BuildingText" 160 "BuildingText$Fault" "other" "I" "BuildingText") ∈ NW := tn 695 (by decide +kernel) (by decide +kernel)
theorem nw_708 : (Cond.methodLinkNest "BuildingText$Inspection" 57 ⟨"BuildingText$Place", "contains", "(LBuildingText$Place;)Z"⟩ "BuildingText") ∈ NW := tn 708 (by decide +kernel) (by decide +kernel)
theorem nw_716 : (Cond.methodLinkNest "BuildingText$Inspection" 91 ⟨"BuildingText$Going", "isReached", "(I)Z"⟩ "BuildingText") ∈ NW := tn 716 (by decide +kernel) (by decide +kernel)
theorem nw_724 : (Cond.methodLinkNest "BuildingText$Inspection" 101 ⟨"BuildingText$Going", "isExiting", "(I)Z"⟩ "BuildingText") ∈ NW := tn 724 (by decide +kernel) (by decide +kernel)
theorem nw_739 : (Cond.methodLinkNest "BuildingText" 104 ⟨"BuildingText$Edition", "placeOrNull", "(I)LBuildingText$Place;"⟩ "BuildingText") ∈ NW := tn 739 (by decide +kernel) (by decide +kernel)
theorem nw_755 : (Cond.castable "java/lang/IndexOutOfBoundsException" "java/lang/IndexOutOfBoundsException") ∈ NW := tn 755 (by decide +kernel) (by decide +kernel)
theorem nw_778 : (Cond.methodLinkNest "BuildingText" 163 ⟨"BuildingText$Edition", "findPiece", "(I)I"⟩ "BuildingText") ∈ NW := tn 778 (by decide +kernel) (by decide +kernel)
theorem nw_783 : (Cond.methodLinkNest "BuildingText" 168 ⟨"BuildingText$Going", "isReached", "(I)Z"⟩ "BuildingText") ∈ NW := tn 783 (by decide +kernel) (by decide +kernel)
theorem nw_784 : (Cond.methodLinkNest "BuildingText" 172 ⟨"BuildingText$Going", "isExiting", "(I)Z"⟩ "BuildingText") ∈ NW := tn 784 (by decide +kernel) (by decide +kernel)
theorem nw_785 : (Cond.methodLinkNest "BuildingText" 175 ⟨"BuildingText$Going", "countOnward", "(I)I"⟩ "BuildingText") ∈ NW := tn 785 (by decide +kernel) (by decide +kernel)
theorem nw_795 : (Cond.methodLinkNest "BuildingText" 178 ⟨"BuildingText$Going", "stepsToDock", "(I)I"⟩ "BuildingText") ∈ NW := tn 795 (by decide +kernel) (by decide +kernel)
theorem nw_808 : (Cond.methodLinkNest "BuildingText" 185 ⟨"BuildingText$Place", "contains", "(LBuildingText$Place;)Z"⟩ "BuildingText") ∈ NW := tn 808 (by decide +kernel) (by decide +kernel)
theorem nw_830 : (Cond.methodLinkNest "BuildingText" 203 ⟨"BuildingText$Edition", "keepsBin", "(LBuildingText$Place;LBuildingText$Edition;)Z"⟩ "BuildingText") ∈ NW := tn 830 (by decide +kernel) (by decide +kernel)
theorem nw_836 : (Cond.methodLinkNest "BuildingText$Edition" 55 ⟨"BuildingText$Place", "hasPointsOf", "(LBuildingText$Place;)Z"⟩ "BuildingText") ∈ NW := tn 836 (by decide +kernel) (by decide +kernel)
theorem nw_1324 : (Cond.declares ⟨"java/lang/Object", "getClass", "()Ljava/lang/Class;"⟩) ∈ NW := tn 1324 (by decide +kernel) (by decide +kernel)
theorem nw_1325 : (Cond.castable "BuildingText" "java/lang/Object") ∈ NW := tn 1325 (by decide +kernel) (by decide +kernel)
theorem nw_1326 : (Cond.castable "BuildingText$Edition" "java/lang/Object") ∈ NW := tn 1326 (by decide +kernel) (by decide +kernel)
theorem nw_1327 : (Cond.castable "BuildingText$Going" "java/lang/Object") ∈ NW := tn 1327 (by decide +kernel) (by decide +kernel)
theorem nw_1328 : (Cond.castable "BuildingText$Inspection" "java/lang/Object") ∈ NW := tn 1328 (by decide +kernel) (by decide +kernel)
theorem nw_1329 : (Cond.castable "BuildingText$Plan" "java/lang/Object") ∈ NW := tn 1329 (by decide +kernel) (by decide +kernel)
end
section
theorem nw_1330 : (Cond.castable "BuildingTextModel" "java/lang/Object") ∈ NW := tn 1330 (by decide +kernel) (by decide +kernel)
theorem nw_1331 : (Cond.castable "BuildingText$TextReader" "java/lang/Object") ∈ NW := tn 1331 (by decide +kernel) (by decide +kernel)
theorem nw_1332 : (Cond.castable "BuildingText$Place" "java/lang/Object") ∈ NW := tn 1332 (by decide +kernel) (by decide +kernel)
theorem nw_1333 : (Cond.castable "BuildingText$Link" "java/lang/Object") ∈ NW := tn 1333 (by decide +kernel) (by decide +kernel)
theorem nw_1334 : (Cond.castable "BuildingText$Fault" "java/lang/Object") ∈ NW := tn 1334 (by decide +kernel) (by decide +kernel)
theorem pw_0 : Cond.selects "java/util/ArrayList" ⟨"java/util/ArrayList", "add", "(Ljava/lang/Object;[Ljava/lang/Object;I)V"⟩ ⟨"java/util/ArrayList", "add", "(Ljava/lang/Object;[Ljava/lang/Object;I)V"⟩ ∈ Tg := tp (y := ⟨"java/util/ArrayList", "add", "(Ljava/lang/Object;[Ljava/lang/Object;I)V"⟩) (n := 3) 0 (by decide +kernel) (by decide +kernel)
theorem pw_1 : Cond.selects "java/util/ArrayList" ⟨"java/util/ArrayList", "grow", "()[Ljava/lang/Object;"⟩ ⟨"java/util/ArrayList", "grow", "()[Ljava/lang/Object;"⟩ ∈ Tg := tp (y := ⟨"java/util/ArrayList", "grow", "()[Ljava/lang/Object;"⟩) (n := 3) 1 (by decide +kernel) (by decide +kernel)
theorem pw_2 : Cond.selects "java/util/ArrayList" ⟨"java/util/ArrayList", "grow", "(I)[Ljava/lang/Object;"⟩ ⟨"java/util/ArrayList", "grow", "(I)[Ljava/lang/Object;"⟩ ∈ Tg := tp (y := ⟨"java/util/ArrayList", "grow", "(I)[Ljava/lang/Object;"⟩) (n := 3) 2 (by decide +kernel) (by decide +kernel)
theorem pw_3 : Cond.selects "BuildingText$Edition" ⟨"BuildingText$Edition", "find", "(I)I"⟩ ⟨"BuildingText$Edition", "find", "(I)I"⟩ ∈ Tg := tp (y := ⟨"BuildingText$Edition", "find", "(I)I"⟩) (n := 4) 3 (by decide +kernel) (by decide +kernel)
theorem pw_4 : Cond.selects "BuildingText$Plan" ⟨"BuildingText$Plan", "layOut", "(LBuildingText$Edition;)V"⟩ ⟨"BuildingText$Plan", "layOut", "(LBuildingText$Edition;)V"⟩ ∈ Tg := tp (y := ⟨"BuildingText$Plan", "layOut", "(LBuildingText$Edition;)V"⟩) (n := 2) 4 (by decide +kernel) (by decide +kernel)
theorem pw_5 : Cond.selects "BuildingText$Plan" ⟨"BuildingText$Plan", "layOutEmptyRows", "(I)V"⟩ ⟨"BuildingText$Plan", "layOutEmptyRows", "(I)V"⟩ ∈ Tg := tp (y := ⟨"BuildingText$Plan", "layOutEmptyRows", "(I)V"⟩) (n := 2) 5 (by decide +kernel) (by decide +kernel)
theorem pw_6 : Cond.selects "BuildingText$Plan" ⟨"BuildingText$Plan", "paintKind", "(LBuildingText$Edition;IC)V"⟩ ⟨"BuildingText$Plan", "paintKind", "(LBuildingText$Edition;IC)V"⟩ ∈ Tg := tp (y := ⟨"BuildingText$Plan", "paintKind", "(LBuildingText$Edition;IC)V"⟩) (n := 2) 6 (by decide +kernel) (by decide +kernel)
theorem pw_7 : Cond.selects "BuildingText$Plan" ⟨"BuildingText$Plan", "paintPlace", "(LBuildingText$Place;C)V"⟩ ⟨"BuildingText$Plan", "paintPlace", "(LBuildingText$Place;C)V"⟩ ∈ Tg := tp (y := ⟨"BuildingText$Plan", "paintPlace", "(LBuildingText$Place;C)V"⟩) (n := 2) 7 (by decide +kernel) (by decide +kernel)
theorem pw_8 : Cond.selects "BuildingText$Plan" ⟨"BuildingText$Plan", "paintStops", "(LBuildingText$Edition;)V"⟩ ⟨"BuildingText$Plan", "paintStops", "(LBuildingText$Edition;)V"⟩ ∈ Tg := tp (y := ⟨"BuildingText$Plan", "paintStops", "(LBuildingText$Edition;)V"⟩) (n := 2) 8 (by decide +kernel) (by decide +kernel)
theorem pw_10 : Cond.selects "BuildingText$TextReader" ⟨"BuildingText$TextReader", "readLines", "()I"⟩ ⟨"BuildingText$TextReader", "readLines", "()I"⟩ ∈ Tg := tp (y := ⟨"BuildingText$TextReader", "readLines", "()I"⟩) (n := 6) 10 (by decide +kernel) (by decide +kernel)
theorem pw_11 : Cond.selects "BuildingText$TextReader" ⟨"BuildingText$TextReader", "peek", "()I"⟩ ⟨"BuildingText$TextReader", "peek", "()I"⟩ ∈ Tg := tp (y := ⟨"BuildingText$TextReader", "peek", "()I"⟩) (n := 6) 11 (by decide +kernel) (by decide +kernel)
theorem pw_12 : Cond.selects "BuildingText$TextReader" ⟨"BuildingText$TextReader", "readRack", "()V"⟩ ⟨"BuildingText$TextReader", "readRack", "()V"⟩ ∈ Tg := tp (y := ⟨"BuildingText$TextReader", "readRack", "()V"⟩) (n := 6) 12 (by decide +kernel) (by decide +kernel)
theorem pw_13 : Cond.selects "BuildingText$TextReader" ⟨"BuildingText$TextReader", "readNewName", "()I"⟩ ⟨"BuildingText$TextReader", "readNewName", "()I"⟩ ∈ Tg := tp (y := ⟨"BuildingText$TextReader", "readNewName", "()I"⟩) (n := 6) 13 (by decide +kernel) (by decide +kernel)
theorem pw_14 : Cond.selects "BuildingText$TextReader" ⟨"BuildingText$TextReader", "skip", "(I)V"⟩ ⟨"BuildingText$TextReader", "skip", "(I)V"⟩ ∈ Tg := tp (y := ⟨"BuildingText$TextReader", "skip", "(I)V"⟩) (n := 6) 14 (by decide +kernel) (by decide +kernel)
theorem pw_15 : Cond.selects "BuildingText$TextReader" ⟨"BuildingText$TextReader", "refuse", "(I)V"⟩ ⟨"BuildingText$TextReader", "refuse", "(I)V"⟩ ∈ Tg := tp (y := ⟨"BuildingText$TextReader", "refuse", "(I)V"⟩) (n := 6) 15 (by decide +kernel) (by decide +kernel)
theorem pw_16 : Cond.selects "BuildingText$TextReader" ⟨"BuildingText$TextReader", "readName", "()I"⟩ ⟨"BuildingText$TextReader", "readName", "()I"⟩ ∈ Tg := tp (y := ⟨"BuildingText$TextReader", "readName", "()I"⟩) (n := 6) 16 (by decide +kernel) (by decide +kernel)
theorem pw_17 : Cond.selects "BuildingText$TextReader" ⟨"BuildingText$TextReader", "readArea", "(II)LBuildingText$Place;"⟩ ⟨"BuildingText$TextReader", "readArea", "(II)LBuildingText$Place;"⟩ ∈ Tg := tp (y := ⟨"BuildingText$TextReader", "readArea", "(II)LBuildingText$Place;"⟩) (n := 6) 17 (by decide +kernel) (by decide +kernel)
theorem pw_18 : Cond.selects "BuildingText$TextReader" ⟨"BuildingText$TextReader", "readNumber", "(II)I"⟩ ⟨"BuildingText$TextReader", "readNumber", "(II)I"⟩ ∈ Tg := tp (y := ⟨"BuildingText$TextReader", "readNumber", "(II)I"⟩) (n := 6) 18 (by decide +kernel) (by decide +kernel)
theorem pw_19 : Cond.selects "BuildingText$TextReader" ⟨"BuildingText$TextReader", "endsLine", "()Z"⟩ ⟨"BuildingText$TextReader", "endsLine", "()Z"⟩ ∈ Tg := tp (y := ⟨"BuildingText$TextReader", "endsLine", "()Z"⟩) (n := 6) 19 (by decide +kernel) (by decide +kernel)
theorem pw_20 : Cond.selects "BuildingText$TextReader" ⟨"BuildingText$TextReader", "readBin", "()V"⟩ ⟨"BuildingText$TextReader", "readBin", "()V"⟩ ∈ Tg := tp (y := ⟨"BuildingText$TextReader", "readBin", "()V"⟩) (n := 6) 20 (by decide +kernel) (by decide +kernel)
theorem pw_21 : Cond.selects "BuildingText$TextReader" ⟨"BuildingText$TextReader", "readUsedName", "(II)I"⟩ ⟨"BuildingText$TextReader", "readUsedName", "(II)I"⟩ ∈ Tg := tp (y := ⟨"BuildingText$TextReader", "readUsedName", "(II)I"⟩) (n := 6) 21 (by decide +kernel) (by decide +kernel)
theorem pw_22 : Cond.selects "BuildingText$TextReader" ⟨"BuildingText$TextReader", "readPiece", "()V"⟩ ⟨"BuildingText$TextReader", "readPiece", "()V"⟩ ∈ Tg := tp (y := ⟨"BuildingText$TextReader", "readPiece", "()V"⟩) (n := 6) 22 (by decide +kernel) (by decide +kernel)
theorem pw_23 : Cond.selects "BuildingText$TextReader" ⟨"BuildingText$TextReader", "readWay", "()V"⟩ ⟨"BuildingText$TextReader", "readWay", "()V"⟩ ∈ Tg := tp (y := ⟨"BuildingText$TextReader", "readWay", "()V"⟩) (n := 6) 23 (by decide +kernel) (by decide +kernel)
theorem pw_24 : Cond.selects "BuildingText$Edition" ⟨"BuildingText$Edition", "addWay", "(IIZ)V"⟩ ⟨"BuildingText$Edition", "addWay", "(IIZ)V"⟩ ∈ Tg := tp (y := ⟨"BuildingText$Edition", "addWay", "(IIZ)V"⟩) (n := 4) 24 (by decide +kernel) (by decide +kernel)
theorem pw_25 : Cond.selects "BuildingText$TextReader" ⟨"BuildingText$TextReader", "readAtPiece", "(I)V"⟩ ⟨"BuildingText$TextReader", "readAtPiece", "(I)V"⟩ ∈ Tg := tp (y := ⟨"BuildingText$TextReader", "readAtPiece", "(I)V"⟩) (n := 6) 25 (by decide +kernel) (by decide +kernel)
theorem pw_26 : Cond.selects "BuildingText$TextReader" ⟨"BuildingText$TextReader", "addAtPiece", "(III)V"⟩ ⟨"BuildingText$TextReader", "addAtPiece", "(III)V"⟩ ∈ Tg := tp (y := ⟨"BuildingText$TextReader", "addAtPiece", "(III)V"⟩) (n := 6) 26 (by decide +kernel) (by decide +kernel)
theorem pw_27 : Cond.selects "BuildingText$TextReader" ⟨"BuildingText$TextReader", "readLift", "()V"⟩ ⟨"BuildingText$TextReader", "readLift", "()V"⟩ ∈ Tg := tp (y := ⟨"BuildingText$TextReader", "readLift", "()V"⟩) (n := 6) 27 (by decide +kernel) (by decide +kernel)
theorem pw_28 : Cond.selects "BuildingText$Edition" ⟨"BuildingText$Edition", "addStop", "(II)V"⟩ ⟨"BuildingText$Edition", "addStop", "(II)V"⟩ ∈ Tg := tp (y := ⟨"BuildingText$Edition", "addStop", "(II)V"⟩) (n := 4) 28 (by decide +kernel) (by decide +kernel)
theorem pw_29 : Cond.selects "BuildingText$TextReader" ⟨"BuildingText$TextReader", "readServe", "()V"⟩ ⟨"BuildingText$TextReader", "readServe", "()V"⟩ ∈ Tg := tp (y := ⟨"BuildingText$TextReader", "readServe", "()V"⟩) (n := 6) 29 (by decide +kernel) (by decide +kernel)
theorem pw_30 : Cond.selects "BuildingText$Edition" ⟨"BuildingText$Edition", "addServe", "(II)V"⟩ ⟨"BuildingText$Edition", "addServe", "(II)V"⟩ ∈ Tg := tp (y := ⟨"BuildingText$Edition", "addServe", "(II)V"⟩) (n := 4) 30 (by decide +kernel) (by decide +kernel)
theorem pw_31 : Cond.selects "BuildingText$Edition" ⟨"BuildingText$Edition", "isTooLarge", "()Z"⟩ ⟨"BuildingText$Edition", "isTooLarge", "()Z"⟩ ∈ Tg := tp (y := ⟨"BuildingText$Edition", "isTooLarge", "()Z"⟩) (n := 4) 31 (by decide +kernel) (by decide +kernel)
theorem pw_32 : Cond.selects "BuildingText" ⟨"BuildingText", "take", "(LBuildingText$Edition;)V"⟩ ⟨"BuildingText", "take", "(LBuildingText$Edition;)V"⟩ ∈ Tg := tp (y := ⟨"BuildingText", "take", "(LBuildingText$Edition;)V"⟩) (n := 9) 32 (by decide +kernel) (by decide +kernel)
theorem pw_33 : Cond.selects "BuildingText$Going" ⟨"BuildingText$Going", "learn", "(LBuildingText$Edition;)V"⟩ ⟨"BuildingText$Going", "learn", "(LBuildingText$Edition;)V"⟩ ∈ Tg := tp (y := ⟨"BuildingText$Going", "learn", "(LBuildingText$Edition;)V"⟩) (n := 7) 33 (by decide +kernel) (by decide +kernel)
theorem pw_34 : Cond.selects "BuildingText$Going" ⟨"BuildingText$Going", "forget", "()V"⟩ ⟨"BuildingText$Going", "forget", "()V"⟩ ∈ Tg := tp (y := ⟨"BuildingText$Going", "forget", "()V"⟩) (n := 7) 34 (by decide +kernel) (by decide +kernel)
theorem pw_35 : Cond.selects "BuildingText$Going" ⟨"BuildingText$Going", "learnWays", "(LBuildingText$Edition;)V"⟩ ⟨"BuildingText$Going", "learnWays", "(LBuildingText$Edition;)V"⟩ ∈ Tg := tp (y := ⟨"BuildingText$Going", "learnWays", "(LBuildingText$Edition;)V"⟩) (n := 7) 35 (by decide +kernel) (by decide +kernel)
theorem pw_36 : Cond.selects "BuildingText$Going" ⟨"BuildingText$Going", "learnStep", "(II)V"⟩ ⟨"BuildingText$Going", "learnStep", "(II)V"⟩ ∈ Tg := tp (y := ⟨"BuildingText$Going", "learnStep", "(II)V"⟩) (n := 7) 36 (by decide +kernel) (by decide +kernel)
theorem pw_37 : Cond.selects "BuildingText$Going" ⟨"BuildingText$Going", "learnLifts", "(LBuildingText$Edition;)V"⟩ ⟨"BuildingText$Going", "learnLifts", "(LBuildingText$Edition;)V"⟩ ∈ Tg := tp (y := ⟨"BuildingText$Going", "learnLifts", "(LBuildingText$Edition;)V"⟩) (n := 7) 37 (by decide +kernel) (by decide +kernel)
theorem pw_38 : Cond.selects "BuildingText$Going" ⟨"BuildingText$Going", "spread", "([JJ)J"⟩ ⟨"BuildingText$Going", "spread", "([JJ)J"⟩ ∈ Tg := tp (y := ⟨"BuildingText$Going", "spread", "([JJ)J"⟩) (n := 7) 38 (by decide +kernel) (by decide +kernel)
theorem pw_39 : Cond.selects "BuildingText$Going" ⟨"BuildingText$Going", "widen", "([JJ)J"⟩ ⟨"BuildingText$Going", "widen", "([JJ)J"⟩ ∈ Tg := tp (y := ⟨"BuildingText$Going", "widen", "([JJ)J"⟩) (n := 7) 39 (by decide +kernel) (by decide +kernel)
theorem pw_40 : Cond.selects "BuildingText$Inspection" ⟨"BuildingText$Inspection", "inspect", "(LBuildingText$Edition;LBuildingText$Going;)V"⟩ ⟨"BuildingText$Inspection", "inspect", "(LBuildingText$Edition;LBuildingText$Going;)V"⟩ ∈ Tg := tp (y := ⟨"BuildingText$Inspection", "inspect", "(LBuildingText$Edition;LBuildingText$Going;)V"⟩) (n := 1) 40 (by decide +kernel) (by decide +kernel)
theorem pw_41 : Cond.selects "BuildingText$Inspection" ⟨"BuildingText$Inspection", "inspectArea", "(LBuildingText$Edition;I)V"⟩ ⟨"BuildingText$Inspection", "inspectArea", "(LBuildingText$Edition;I)V"⟩ ∈ Tg := tp (y := ⟨"BuildingText$Inspection", "inspectArea", "(LBuildingText$Edition;I)V"⟩) (n := 1) 41 (by decide +kernel) (by decide +kernel)
theorem pw_42 : Cond.selects "BuildingText$Place" ⟨"BuildingText$Place", "sharesArea", "(LBuildingText$Place;)Z"⟩ ⟨"BuildingText$Place", "sharesArea", "(LBuildingText$Place;)Z"⟩ ∈ Tg := tp (y := ⟨"BuildingText$Place", "sharesArea", "(LBuildingText$Place;)Z"⟩) (n := 11) 42 (by decide +kernel) (by decide +kernel)
theorem pw_43 : Cond.selects "BuildingText$Inspection" ⟨"BuildingText$Inspection", "inspectBin", "(LBuildingText$Edition;ILBuildingText$Going;)V"⟩ ⟨"BuildingText$Inspection", "inspectBin", "(LBuildingText$Edition;ILBuildingText$Going;)V"⟩ ∈ Tg := tp (y := ⟨"BuildingText$Inspection", "inspectBin", "(LBuildingText$Edition;ILBuildingText$Going;)V"⟩) (n := 1) 43 (by decide +kernel) (by decide +kernel)
theorem pw_44 : Cond.selects "BuildingText$Place" ⟨"BuildingText$Place", "contains", "(LBuildingText$Place;)Z"⟩ ⟨"BuildingText$Place", "contains", "(LBuildingText$Place;)Z"⟩ ∈ Tg := tp (y := ⟨"BuildingText$Place", "contains", "(LBuildingText$Place;)Z"⟩) (n := 11) 44 (by decide +kernel) (by decide +kernel)
theorem pw_45 : Cond.selects "BuildingText$Going" ⟨"BuildingText$Going", "isReached", "(I)Z"⟩ ⟨"BuildingText$Going", "isReached", "(I)Z"⟩ ∈ Tg := tp (y := ⟨"BuildingText$Going", "isReached", "(I)Z"⟩) (n := 7) 45 (by decide +kernel) (by decide +kernel)
theorem pw_46 : Cond.selects "BuildingText$Inspection" ⟨"BuildingText$Inspection", "inspectPiece", "(LBuildingText$Edition;ILBuildingText$Going;)V"⟩ ⟨"BuildingText$Inspection", "inspectPiece", "(LBuildingText$Edition;ILBuildingText$Going;)V"⟩ ∈ Tg := tp (y := ⟨"BuildingText$Inspection", "inspectPiece", "(LBuildingText$Edition;ILBuildingText$Going;)V"⟩) (n := 1) 46 (by decide +kernel) (by decide +kernel)
theorem pw_47 : Cond.selects "BuildingText$Going" ⟨"BuildingText$Going", "isExiting", "(I)Z"⟩ ⟨"BuildingText$Going", "isExiting", "(I)Z"⟩ ∈ Tg := tp (y := ⟨"BuildingText$Going", "isExiting", "(I)Z"⟩) (n := 7) 47 (by decide +kernel) (by decide +kernel)
theorem pw_48 : Cond.selects "BuildingText$Inspection" ⟨"BuildingText$Inspection", "inspectAtPiece", "(LBuildingText$Edition;I)V"⟩ ⟨"BuildingText$Inspection", "inspectAtPiece", "(LBuildingText$Edition;I)V"⟩ ∈ Tg := tp (y := ⟨"BuildingText$Inspection", "inspectAtPiece", "(LBuildingText$Edition;I)V"⟩) (n := 1) 48 (by decide +kernel) (by decide +kernel)
theorem pw_49 : Cond.selects "BuildingText$Edition" ⟨"BuildingText$Edition", "placeOrNull", "(I)LBuildingText$Place;"⟩ ⟨"BuildingText$Edition", "placeOrNull", "(I)LBuildingText$Place;"⟩ ∈ Tg := tp (y := ⟨"BuildingText$Edition", "placeOrNull", "(I)LBuildingText$Place;"⟩) (n := 4) 49 (by decide +kernel) (by decide +kernel)
theorem pw_50 : Cond.selects "BuildingText$Edition" ⟨"BuildingText$Edition", "findPiece", "(I)I"⟩ ⟨"BuildingText$Edition", "findPiece", "(I)I"⟩ ∈ Tg := tp (y := ⟨"BuildingText$Edition", "findPiece", "(I)I"⟩) (n := 4) 50 (by decide +kernel) (by decide +kernel)
theorem pw_51 : Cond.selects "BuildingText$Going" ⟨"BuildingText$Going", "countOnward", "(I)I"⟩ ⟨"BuildingText$Going", "countOnward", "(I)I"⟩ ∈ Tg := tp (y := ⟨"BuildingText$Going", "countOnward", "(I)I"⟩) (n := 7) 51 (by decide +kernel) (by decide +kernel)
theorem pw_52 : Cond.selects "BuildingText$Going" ⟨"BuildingText$Going", "stepsToDock", "(I)I"⟩ ⟨"BuildingText$Going", "stepsToDock", "(I)I"⟩ ∈ Tg := tp (y := ⟨"BuildingText$Going", "stepsToDock", "(I)I"⟩) (n := 7) 52 (by decide +kernel) (by decide +kernel)
theorem pw_53 : Cond.selects "BuildingText" ⟨"BuildingText", "editionOrNull", "(I)LBuildingText$Edition;"⟩ ⟨"BuildingText", "editionOrNull", "(I)LBuildingText$Edition;"⟩ ∈ Tg := tp (y := ⟨"BuildingText", "editionOrNull", "(I)LBuildingText$Edition;"⟩) (n := 9) 53 (by decide +kernel) (by decide +kernel)
theorem pw_54 : Cond.selects "BuildingText$Edition" ⟨"BuildingText$Edition", "keepsBin", "(LBuildingText$Place;LBuildingText$Edition;)Z"⟩ ⟨"BuildingText$Edition", "keepsBin", "(LBuildingText$Place;LBuildingText$Edition;)Z"⟩ ∈ Tg := tp (y := ⟨"BuildingText$Edition", "keepsBin", "(LBuildingText$Place;LBuildingText$Edition;)Z"⟩) (n := 4) 54 (by decide +kernel) (by decide +kernel)
theorem pw_55 : Cond.selects "BuildingText$Place" ⟨"BuildingText$Place", "hasPointsOf", "(LBuildingText$Place;)Z"⟩ ⟨"BuildingText$Place", "hasPointsOf", "(LBuildingText$Place;)Z"⟩ ∈ Tg := tp (y := ⟨"BuildingText$Place", "hasPointsOf", "(LBuildingText$Place;)Z"⟩) (n := 11) 55 (by decide +kernel) (by decide +kernel)
theorem pw_56 : Cond.selects "BuildingTextModel" ⟨"BuildingTextModel", "line", "()Z"⟩ ⟨"BuildingTextModel", "line", "()Z"⟩ ∈ Tg := tp (y := ⟨"BuildingTextModel", "line", "()Z"⟩) (n := 67) 56 (by decide +kernel) (by decide +kernel)
theorem pw_57 : Cond.selects "BuildingTextModel" ⟨"BuildingTextModel", "next", "()I"⟩ ⟨"BuildingTextModel", "next", "()I"⟩ ∈ Tg := tp (y := ⟨"BuildingTextModel", "next", "()I"⟩) (n := 67) 57 (by decide +kernel) (by decide +kernel)
theorem pw_58 : Cond.selects "BuildingTextModel" ⟨"BuildingTextModel", "wrong", "(I)Z"⟩ ⟨"BuildingTextModel", "wrong", "(I)Z"⟩ ∈ Tg := tp (y := ⟨"BuildingTextModel", "wrong", "(I)Z"⟩) (n := 67) 58 (by decide +kernel) (by decide +kernel)
theorem pw_59 : Cond.selects "BuildingTextModel" ⟨"BuildingTextModel", "takesPlace", "(I)Z"⟩ ⟨"BuildingTextModel", "takesPlace", "(I)Z"⟩ ∈ Tg := tp (y := ⟨"BuildingTextModel", "takesPlace", "(I)Z"⟩) (n := 67) 59 (by decide +kernel) (by decide +kernel)
theorem pw_60 : Cond.selects "BuildingTextModel" ⟨"BuildingTextModel", "takesRack", "()Z"⟩ ⟨"BuildingTextModel", "takesRack", "()Z"⟩ ∈ Tg := tp (y := ⟨"BuildingTextModel", "takesRack", "()Z"⟩) (n := 67) 60 (by decide +kernel) (by decide +kernel)
theorem pw_61 : Cond.selects "BuildingTextModel" ⟨"BuildingTextModel", "takesNew", "()Z"⟩ ⟨"BuildingTextModel", "takesNew", "()Z"⟩ ∈ Tg := tp (y := ⟨"BuildingTextModel", "takesNew", "()Z"⟩) (n := 67) 61 (by decide +kernel) (by decide +kernel)
theorem pw_62 : Cond.selects "BuildingTextModel" ⟨"BuildingTextModel", "takesName", "()Z"⟩ ⟨"BuildingTextModel", "takesName", "()Z"⟩ ∈ Tg := tp (y := ⟨"BuildingTextModel", "takesName", "()Z"⟩) (n := 67) 62 (by decide +kernel) (by decide +kernel)
theorem pw_63 : Cond.selects "BuildingTextModel" ⟨"BuildingTextModel", "takes", "(I)Z"⟩ ⟨"BuildingTextModel", "takes", "(I)Z"⟩ ∈ Tg := tp (y := ⟨"BuildingTextModel", "takes", "(I)Z"⟩) (n := 67) 63 (by decide +kernel) (by decide +kernel)
theorem pw_64 : Cond.selects "BuildingTextModel" ⟨"BuildingTextModel", "isLetter", "()Z"⟩ ⟨"BuildingTextModel", "isLetter", "()Z"⟩ ∈ Tg := tp (y := ⟨"BuildingTextModel", "isLetter", "()Z"⟩) (n := 67) 64 (by decide +kernel) (by decide +kernel)
theorem pw_65 : Cond.selects "BuildingTextModel" ⟨"BuildingTextModel", "isDigit", "()Z"⟩ ⟨"BuildingTextModel", "isDigit", "()Z"⟩ ∈ Tg := tp (y := ⟨"BuildingTextModel", "isDigit", "()Z"⟩) (n := 67) 65 (by decide +kernel) (by decide +kernel)
theorem pw_66 : Cond.selects "BuildingTextModel" ⟨"BuildingTextModel", "numberOf", "(I)I"⟩ ⟨"BuildingTextModel", "numberOf", "(I)I"⟩ ∈ Tg := tp (y := ⟨"BuildingTextModel", "numberOf", "(I)I"⟩) (n := 67) 66 (by decide +kernel) (by decide +kernel)
theorem pw_67 : Cond.selects "BuildingTextModel" ⟨"BuildingTextModel", "takesArea", "()Z"⟩ ⟨"BuildingTextModel", "takesArea", "()Z"⟩ ∈ Tg := tp (y := ⟨"BuildingTextModel", "takesArea", "()Z"⟩) (n := 67) 67 (by decide +kernel) (by decide +kernel)
theorem pw_68 : Cond.selects "BuildingTextModel" ⟨"BuildingTextModel", "takesNumber", "(II)Z"⟩ ⟨"BuildingTextModel", "takesNumber", "(II)Z"⟩ ∈ Tg := tp (y := ⟨"BuildingTextModel", "takesNumber", "(II)Z"⟩) (n := 67) 68 (by decide +kernel) (by decide +kernel)
theorem pw_69 : Cond.selects "BuildingTextModel" ⟨"BuildingTextModel", "takesBin", "()Z"⟩ ⟨"BuildingTextModel", "takesBin", "()Z"⟩ ∈ Tg := tp (y := ⟨"BuildingTextModel", "takesBin", "()Z"⟩) (n := 67) 69 (by decide +kernel) (by decide +kernel)
theorem pw_70 : Cond.selects "BuildingTextModel" ⟨"BuildingTextModel", "takesOld", "(I)Z"⟩ ⟨"BuildingTextModel", "takesOld", "(I)Z"⟩ ∈ Tg := tp (y := ⟨"BuildingTextModel", "takesOld", "(I)Z"⟩) (n := 67) 70 (by decide +kernel) (by decide +kernel)
theorem pw_71 : Cond.selects "BuildingTextModel" ⟨"BuildingTextModel", "takesPiece", "()Z"⟩ ⟨"BuildingTextModel", "takesPiece", "()Z"⟩ ∈ Tg := tp (y := ⟨"BuildingTextModel", "takesPiece", "()Z"⟩) (n := 67) 71 (by decide +kernel) (by decide +kernel)
theorem pw_72 : Cond.selects "BuildingTextModel" ⟨"BuildingTextModel", "takesLift", "()Z"⟩ ⟨"BuildingTextModel", "takesLift", "()Z"⟩ ∈ Tg := tp (y := ⟨"BuildingTextModel", "takesLift", "()Z"⟩) (n := 67) 72 (by decide +kernel) (by decide +kernel)
theorem pw_73 : Cond.selects "BuildingTextModel" ⟨"BuildingTextModel", "takesAtPiece", "()Z"⟩ ⟨"BuildingTextModel", "takesAtPiece", "()Z"⟩ ∈ Tg := tp (y := ⟨"BuildingTextModel", "takesAtPiece", "()Z"⟩) (n := 67) 73 (by decide +kernel) (by decide +kernel)
theorem pw_74 : Cond.selects "BuildingTextModel" ⟨"BuildingTextModel", "addPlace", "(I)V"⟩ ⟨"BuildingTextModel", "addPlace", "(I)V"⟩ ∈ Tg := tp (y := ⟨"BuildingTextModel", "addPlace", "(I)V"⟩) (n := 67) 74 (by decide +kernel) (by decide +kernel)
theorem pw_75 : Cond.selects "BuildingTextModel" ⟨"BuildingTextModel", "takesWay", "()Z"⟩ ⟨"BuildingTextModel", "takesWay", "()Z"⟩ ∈ Tg := tp (y := ⟨"BuildingTextModel", "takesWay", "()Z"⟩) (n := 67) 75 (by decide +kernel) (by decide +kernel)
theorem pw_76 : Cond.selects "BuildingTextModel" ⟨"BuildingTextModel", "takesServed", "()Z"⟩ ⟨"BuildingTextModel", "takesServed", "()Z"⟩ ∈ Tg := tp (y := ⟨"BuildingTextModel", "takesServed", "()Z"⟩) (n := 67) 76 (by decide +kernel) (by decide +kernel)
theorem pw_77 : Cond.selects "BuildingTextModel" ⟨"BuildingTextModel", "keep", "(II)V"⟩ ⟨"BuildingTextModel", "keep", "(II)V"⟩ ∈ Tg := tp (y := ⟨"BuildingTextModel", "keep", "(II)V"⟩) (n := 67) 77 (by decide +kernel) (by decide +kernel)
theorem pw_78 : Cond.selects "BuildingTextModel" ⟨"BuildingTextModel", "here", "()I"⟩ ⟨"BuildingTextModel", "here", "()I"⟩ ∈ Tg := tp (y := ⟨"BuildingTextModel", "here", "()I"⟩) (n := 67) 78 (by decide +kernel) (by decide +kernel)
theorem pw_79 : Cond.selects "BuildingTextModel" ⟨"BuildingTextModel", "base", "()I"⟩ ⟨"BuildingTextModel", "base", "()I"⟩ ∈ Tg := tp (y := ⟨"BuildingTextModel", "base", "()I"⟩) (n := 67) 79 (by decide +kernel) (by decide +kernel)
theorem pw_80 : Cond.selects "BuildingTextModel" ⟨"BuildingTextModel", "linesAt", "(I)I"⟩ ⟨"BuildingTextModel", "linesAt", "(I)I"⟩ ∈ Tg := tp (y := ⟨"BuildingTextModel", "linesAt", "(I)I"⟩) (n := 67) 80 (by decide +kernel) (by decide +kernel)
theorem pw_81 : Cond.selects "BuildingTextModel" ⟨"BuildingTextModel", "kindAt", "(I)I"⟩ ⟨"BuildingTextModel", "kindAt", "(I)I"⟩ ∈ Tg := tp (y := ⟨"BuildingTextModel", "kindAt", "(I)I"⟩) (n := 67) 81 (by decide +kernel) (by decide +kernel)
theorem pw_82 : Cond.selects "BuildingTextModel" ⟨"BuildingTextModel", "findFaults", "()V"⟩ ⟨"BuildingTextModel", "findFaults", "()V"⟩ ∈ Tg := tp (y := ⟨"BuildingTextModel", "findFaults", "()V"⟩) (n := 67) 82 (by decide +kernel) (by decide +kernel)
theorem pw_83 : Cond.selects "BuildingTextModel" ⟨"BuildingTextModel", "measure", "()V"⟩ ⟨"BuildingTextModel", "measure", "()V"⟩ ∈ Tg := tp (y := ⟨"BuildingTextModel", "measure", "()V"⟩) (n := 67) 83 (by decide +kernel) (by decide +kernel)
theorem pw_84 : Cond.selects "BuildingTextModel" ⟨"BuildingTextModel", "step", "(II)V"⟩ ⟨"BuildingTextModel", "step", "(II)V"⟩ ∈ Tg := tp (y := ⟨"BuildingTextModel", "step", "(II)V"⟩) (n := 67) 84 (by decide +kernel) (by decide +kernel)
theorem pw_85 : Cond.selects "BuildingTextModel" ⟨"BuildingTextModel", "shorten", "(III)V"⟩ ⟨"BuildingTextModel", "shorten", "(III)V"⟩ ∈ Tg := tp (y := ⟨"BuildingTextModel", "shorten", "(III)V"⟩) (n := 67) 85 (by decide +kernel) (by decide +kernel)
theorem pw_86 : Cond.selects "BuildingTextModel" ⟨"BuildingTextModel", "isInside", "(II)Z"⟩ ⟨"BuildingTextModel", "isInside", "(II)Z"⟩ ∈ Tg := tp (y := ⟨"BuildingTextModel", "isInside", "(II)Z"⟩) (n := 67) 86 (by decide +kernel) (by decide +kernel)
theorem pw_87 : Cond.selects "BuildingTextModel" ⟨"BuildingTextModel", "addFault", "(ZIII)V"⟩ ⟨"BuildingTextModel", "addFault", "(ZIII)V"⟩ ∈ Tg := tp (y := ⟨"BuildingTextModel", "addFault", "(ZIII)V"⟩) (n := 67) 87 (by decide +kernel) (by decide +kernel)
theorem pw_88 : Cond.selects "BuildingTextModel" ⟨"BuildingTextModel", "firstMet", "(I)I"⟩ ⟨"BuildingTextModel", "firstMet", "(I)I"⟩ ∈ Tg := tp (y := ⟨"BuildingTextModel", "firstMet", "(I)I"⟩) (n := 67) 88 (by decide +kernel) (by decide +kernel)
theorem pw_89 : Cond.selects "BuildingTextModel" ⟨"BuildingTextModel", "meets", "(II)Z"⟩ ⟨"BuildingTextModel", "meets", "(II)Z"⟩ ∈ Tg := tp (y := ⟨"BuildingTextModel", "meets", "(II)Z"⟩) (n := 67) 89 (by decide +kernel) (by decide +kernel)
theorem pw_90 : Cond.selects "BuildingTextModel" ⟨"BuildingTextModel", "isServed", "(I)Z"⟩ ⟨"BuildingTextModel", "isServed", "(I)Z"⟩ ∈ Tg := tp (y := ⟨"BuildingTextModel", "isServed", "(I)Z"⟩) (n := 67) 90 (by decide +kernel) (by decide +kernel)
theorem pw_91 : Cond.selects "BuildingTextModel" ⟨"BuildingTextModel", "isReached", "(I)Z"⟩ ⟨"BuildingTextModel", "isReached", "(I)Z"⟩ ∈ Tg := tp (y := ⟨"BuildingTextModel", "isReached", "(I)Z"⟩) (n := 67) 91 (by decide +kernel) (by decide +kernel)
theorem pw_92 : Cond.selects "BuildingTextModel" ⟨"BuildingTextModel", "isLinked", "(I)Z"⟩ ⟨"BuildingTextModel", "isLinked", "(I)Z"⟩ ∈ Tg := tp (y := ⟨"BuildingTextModel", "isLinked", "(I)Z"⟩) (n := 67) 92 (by decide +kernel) (by decide +kernel)
theorem pw_93 : Cond.selects "BuildingTextModel" ⟨"BuildingTextModel", "toDock", "(I)I"⟩ ⟨"BuildingTextModel", "toDock", "(I)I"⟩ ∈ Tg := tp (y := ⟨"BuildingTextModel", "toDock", "(I)I"⟩) (n := 67) 93 (by decide +kernel) (by decide +kernel)
theorem pw_94 : Cond.selects "BuildingTextModel" ⟨"BuildingTextModel", "pieceAt", "(I)I"⟩ ⟨"BuildingTextModel", "pieceAt", "(I)I"⟩ ∈ Tg := tp (y := ⟨"BuildingTextModel", "pieceAt", "(I)I"⟩) (n := 67) 94 (by decide +kernel) (by decide +kernel)
theorem pw_95 : Cond.selects "BuildingTextModel" ⟨"BuildingTextModel", "isEdition", "(I)Z"⟩ ⟨"BuildingTextModel", "isEdition", "(I)Z"⟩ ∈ Tg := tp (y := ⟨"BuildingTextModel", "isEdition", "(I)Z"⟩) (n := 67) 95 (by decide +kernel) (by decide +kernel)
theorem pw_96 : Cond.selects "BuildingTextModel" ⟨"BuildingTextModel", "isKept", "(II)Z"⟩ ⟨"BuildingTextModel", "isKept", "(II)Z"⟩ ∈ Tg := tp (y := ⟨"BuildingTextModel", "isKept", "(II)Z"⟩) (n := 67) 96 (by decide +kernel) (by decide +kernel)
theorem pw_97 : Cond.selects "BuildingTextModel" ⟨"BuildingTextModel", "signAt", "(II)I"⟩ ⟨"BuildingTextModel", "signAt", "(II)I"⟩ ∈ Tg := tp (y := ⟨"BuildingTextModel", "signAt", "(II)I"⟩) (n := 67) 97 (by decide +kernel) (by decide +kernel)
theorem pw_98 : Cond.selects "BuildingTextModel" ⟨"BuildingTextModel", "stopsAt", "(III)Z"⟩ ⟨"BuildingTextModel", "stopsAt", "(III)Z"⟩ ∈ Tg := tp (y := ⟨"BuildingTextModel", "stopsAt", "(III)Z"⟩) (n := 67) 98 (by decide +kernel) (by decide +kernel)
theorem pw_99 : Cond.selects "BuildingTextModel" ⟨"BuildingTextModel", "covers", "(III)Z"⟩ ⟨"BuildingTextModel", "covers", "(III)Z"⟩ ∈ Tg := tp (y := ⟨"BuildingTextModel", "covers", "(III)Z"⟩) (n := 67) 99 (by decide +kernel) (by decide +kernel)
end
section
/-! MY OWN LAYER: a small machine over the bytecode, with real values and real addresses; one theorem says that what it does the JVM's model does. Here: junk, local variables, and the instructions that move locals and operand stack alone. -/
/-- what a local variable holds of which nothing is known -/
abbrev jk : Value := .retAddr 0
/-- a long that stands at i is lost -/
def sm_kl (L : List Value) (i : Nat) : List Value := match L[i]? with
  | some v => if v.category = 2 then L.set i jk else L
  | none => L
def sm_pk (L : List Value) (i : Nat) : List Value := match i with
  | 0 => L
  | k + 1 => sm_kl L k
def sm_s1 (L : List Value) (i : Nat) (v : Value) : List Value := (sm_pk L i).set i v
def sm_s2 (L : List Value) (i : Nat) (v : Value) : List Value := ((sm_pk L i).set i v).set (i + 1) jk
def sm_as : Nat → List Value → List (Nat × Value)
  | _, [] => []
  | i, v :: vs => if v = jk then sm_as (i + 1) vs else (i, v) :: sm_as (i + 1) vs
theorem sm_mem : ∀ (L : List Value) (i j : Nat) (w : Value), (j, w) ∈ sm_as i L ↔ i ≤ j ∧ L[j - i]? = some w ∧ w ≠ jk
  | [], i, j, w => by simp [sm_as]
  | v :: vs, i, j, w => by
    have ih := sm_mem vs (i + 1) j w
    unfold sm_as
    by_cases hv : v = jk
    · rw [if_pos hv, ih]
      constructor
      · rintro ⟨h1, h2, h3⟩
        have e : j - i = (j - (i + 1)) + 1 := by omega
        exact ⟨by omega, by rw [e, List.getElem?_cons_succ]; exact h2, h3⟩
      · rintro ⟨h1, h2, h3⟩
        have hne : j ≠ i := by
          intro e
          subst e
          rw [Nat.sub_self, List.getElem?_cons_zero] at h2
          exact h3 ((Option.some.inj h2).symm.trans hv)
        have e : j - i = (j - (i + 1)) + 1 := by omega
        rw [e, List.getElem?_cons_succ] at h2
        exact ⟨by omega, h2, h3⟩
    · rw [if_neg hv, List.mem_cons, ih]
      constructor
      · rintro (h | ⟨h1, h2, h3⟩)
        · cases h
          exact ⟨Nat.le_refl _, by rw [Nat.sub_self, List.getElem?_cons_zero], hv⟩
        · have e : j - i = (j - (i + 1)) + 1 := by omega
          exact ⟨by omega, by rw [e, List.getElem?_cons_succ]; exact h2, h3⟩
      · rintro ⟨h1, h2, h3⟩
        by_cases hne : j = i
        · subst hne
          rw [Nat.sub_self, List.getElem?_cons_zero] at h2
          rw [Option.some.inj h2]
          exact Or.inl rfl
        · have e : j - i = (j - (i + 1)) + 1 := by omega
          rw [e, List.getElem?_cons_succ] at h2
          exact Or.inr ⟨by omega, h2, h3⟩
/-- the machine's local variables hold the list -/
def sm_lc (ls : Array Slot) (nL : Nat) (L : List Value) : Prop := L.length = nL ∧ lv_has ls nL (sm_as 0 L)
theorem sm_lc.get {ls : Array Slot} {nL : Nat} {L : List Value} (h : sm_lc ls nL L) {i : Nat} {v : Value} (hi : L[i]? = some v) (hv : v ≠ jk) : ls[i]? = some (.val v) :=
  h.2.2.2 (i, v) ((sm_mem L 0 i v).mpr ⟨Nat.zero_le _, by rw [Nat.sub_zero]; exact hi, hv⟩)
theorem sm_kl_len (L : List Value) (i : Nat) : (sm_kl L i).length = L.length := by
  unfold sm_kl
  split
  · split
    · exact List.length_set
    · rfl
  · rfl
theorem sm_pk_len (L : List Value) (i : Nat) : (sm_pk L i).length = L.length := by
  unfold sm_pk
  split
  · rfl
  · exact sm_kl_len _ _
theorem sm_kl_get {L : List Value} {i j : Nat} {w : Value} (h : (sm_kl L i)[j]? = some w) (hw : w ≠ jk) : L[j]? = some w ∧ (j = i → ¬ w.category = 2) := by
  unfold sm_kl at h
  split at h
  · rename_i v hv
    split at h
    · rename_i hc
      by_cases e : j = i
      · subst e
        have hlt : j < L.length := (List.getElem?_eq_some_iff.mp hv).1
        rw [List.getElem?_set_self hlt] at h
        exact absurd (Option.some.inj h).symm hw
      · rw [List.getElem?_set_ne (fun q => e q.symm)] at h
        exact ⟨h, fun q => absurd q e⟩
    · rename_i hc
      refine ⟨h, fun q => ?_⟩
      subst q
      rw [hv] at h
      rw [← Option.some.inj h]
      exact hc
  · rename_i hv
    refine ⟨h, fun q => ?_⟩
    subst q
    rw [hv] at h
    cases h
theorem sm_pk_get {L : List Value} {i j : Nat} {w : Value} (h : (sm_pk L i)[j]? = some w) (hw : w ≠ jk) : L[j]? = some w ∧ (j + 1 = i → ¬ w.category = 2) := by
  unfold sm_pk at h
  split at h
  · exact ⟨h, fun q => absurd q (by omega)⟩
  · obtain ⟨h1, h2⟩ := sm_kl_get h hw
    exact ⟨h1, fun q => h2 (by omega)⟩
theorem sm_lc.s1 {ls' : Array Slot} {nL i : Nat} {v : Value} {L : List Value} (hL : L.length = nL) (h : lv_has ls' nL ((i, v) :: (sm_as 0 L).filter (fun q => !(q.1 == i) && !(q.1 + 1 == i && q.2.category == 2)))) : sm_lc ls' nL (sm_s1 L i v) := by
  refine ⟨by unfold sm_s1; rw [List.length_set, sm_pk_len, hL], h.1, h.2.1, fun q hq => h.2.2 q ?_⟩
  obtain ⟨j, w⟩ := q
  obtain ⟨-, hj, hw⟩ := (sm_mem _ 0 j w).mp hq
  rw [Nat.sub_zero] at hj
  unfold sm_s1 at hj
  by_cases e : j = i
  · subst e
    rw [List.getElem?_set] at hj
    split at hj
    · split at hj
      · rw [Option.some.inj hj]
        exact List.mem_cons_self
      · cases hj
    · exact absurd rfl ‹_›
  · rw [List.getElem?_set_ne (fun q => e q.symm)] at hj
    obtain ⟨h1, h2⟩ := sm_pk_get hj hw
    refine List.mem_cons_of_mem _ (List.mem_filter.mpr ⟨(sm_mem L 0 j w).mpr ⟨Nat.zero_le _, by rw [Nat.sub_zero]; exact h1, hw⟩, ?_⟩)
    by_cases e2 : j + 1 = i
    · simp [e, h2 e2]
    · simp [e, e2]
theorem sm_lc.s2 {ls' : Array Slot} {nL i : Nat} {v : Value} {L : List Value} (hL : L.length = nL) (h : lv_has ls' nL ((i, v) :: (sm_as 0 L).filter (fun q => !(q.1 == i) && (!(q.1 == i + 1) && !(q.1 + 1 == i && q.2.category == 2))))) : sm_lc ls' nL (sm_s2 L i v) := by
  refine ⟨by unfold sm_s2; rw [List.length_set, List.length_set, sm_pk_len, hL], h.1, h.2.1, fun q hq => h.2.2 q ?_⟩
  obtain ⟨j, w⟩ := q
  obtain ⟨-, hj, hw⟩ := (sm_mem _ 0 j w).mp hq
  rw [Nat.sub_zero] at hj
  unfold sm_s2 at hj
  by_cases e1 : j = i + 1
  · subst e1
    rw [List.getElem?_set] at hj
    split at hj
    · split at hj
      · exact absurd (Option.some.inj hj).symm hw
      · cases hj
    · exact absurd rfl ‹_›
  · rw [List.getElem?_set_ne (fun q => e1 q.symm)] at hj
    by_cases e : j = i
    · subst e
      rw [List.getElem?_set] at hj
      split at hj
      · split at hj
        · rw [Option.some.inj hj]
          exact List.mem_cons_self
        · cases hj
      · exact absurd rfl ‹_›
    · rw [List.getElem?_set_ne (fun q => e q.symm)] at hj
      obtain ⟨h1, h2⟩ := sm_pk_get hj hw
      refine List.mem_cons_of_mem _ (List.mem_filter.mpr ⟨(sm_mem L 0 j w).mpr ⟨Nat.zero_le _, by rw [Nat.sub_zero]; exact h1, hw⟩, ?_⟩)
      by_cases e2 : j + 1 = i
      · simp [e, e1, h2 e2]
      · simp [e, e1, e2]
end
section
/-! the instructions that move locals and operand stack alone; d: what a table tells of a constant (d.2 = 0: the number d.1; else its negative) -/
def sm_k : Nat × Nat → Int32
  | (n, 0) => nI n
  | (n, _ + 1) => -(nI n)
def sm_ld (t : Nat) (L S : List Value) (i : Nat) : Option (List Value × List Value) := match t, L[i]? with
  | 0, some (.int x) => some (L, .int x :: S)
  | 1, some (.long x) => some (L, .long x :: S)
  | 2, some (.ref x) => some (L, .ref x :: S)
  | 2, some .null => some (L, .null :: S)
  | _, _ => none
def sm_si (L S : List Value) (i : Nat) : Option (List Value × List Value) := match S with
  | .int x :: r => if i < L.length then some (sm_s1 L i (.int x), r) else none
  | _ => none
def sm_sl (L S : List Value) (i : Nat) : Option (List Value × List Value) := match S with
  | .long x :: r => if i + 1 < L.length then some (sm_s2 L i (.long x), r) else none
  | _ => none
def sm_sr (L S : List Value) (i : Nat) : Option (List Value × List Value) := match S with
  | .ref x :: r => if i < L.length then some (sm_s1 L i (.ref x), r) else none
  | .null :: r => if i < L.length then some (sm_s1 L i .null, r) else none
  | _ => none
def sm_b2 (f : Int32 → Int32 → Int32) (L S : List Value) : Option (List Value × List Value) := match S with
  | .int y :: .int x :: r => some (L, .int (f x y) :: r)
  | _ => none
def sm_bl (f : Int64 → Int64 → Int64) (L S : List Value) : Option (List Value × List Value) := match S with
  | .long y :: .long x :: r => some (L, .long (f x y) :: r)
  | _ => none
def sm_sh (f : Int64 → Int32 → Int64) (L S : List Value) : Option (List Value × List Value) := match S with
  | .int y :: .long x :: r => some (L, .long (f x y) :: r)
  | _ => none
def sm_u1 (f : Int32 → Value) (L S : List Value) : Option (List Value × List Value) := match S with
  | .int x :: r => some (L, f x :: r)
  | _ => none
def sm_dv (f : Int32 → Int32 → Int32) (L S : List Value) : Option (List Value × List Value) := match S with
  | .int y :: .int x :: r => if y = 0 then none else some (L, .int (f x y) :: r)
  | _ => none
def sm_lf (f : Int64 → Int32) (L S : List Value) : Option (List Value × List Value) := match S with
  | .long x :: r => some (L, .int (f x) :: r)
  | _ => none
def sm_lc2 (L S : List Value) : Option (List Value × List Value) := match S with
  | .long y :: .long x :: r => some (L, .int (lg_cmp x y) :: r)
  | _ => none
def sm_du (L S : List Value) : Option (List Value × List Value) := match S with
  | a :: r => if a.category = 1 then some (L, a :: a :: r) else none
  | _ => none
def sm_po (L S : List Value) : Option (List Value × List Value) := match S with
  | a :: r => if a.category = 1 then some (L, r) else none
  | _ => none
def sm_dx (L S : List Value) : Option (List Value × List Value) := match S with
  | a :: b :: r => if a.category = 1 ∧ b.category = 1 then some (L, a :: b :: a :: r) else none
  | _ => none
def sm_d2 (L S : List Value) : Option (List Value × List Value) := match S with
  | a :: b :: r => if a.category = 1 ∧ b.category = 1 then some (L, a :: b :: a :: b :: r) else none
  | _ => none
def sm_inc (L S : List Value) (i : Nat) (c : Int32) : Option (List Value × List Value) := match L[i]? with
  | some (.int x) => some (sm_s1 L i (.int (x + c)), S)
  | _ => none
def sm_ps (i : Instr) (d : Nat × Nat) (L S : List Value) : Option (List Value × List Value) := match i with
  | .iconst _ => some (L, .int (sm_k d) :: S)
  | .bipush _ => some (L, .int (sm_k d) :: S)
  | .sipush _ => some (L, .int (sm_k d) :: S)
  | .lconst n => some (L, .long (lN n) :: S)
  | .aconst_null => some (L, .null :: S)
  | .iload_n k => sm_ld 0 L S k
  | .iload k => sm_ld 0 L S k
  | .lload_n k => sm_ld 1 L S k
  | .lload k => sm_ld 1 L S k
  | .aload_n k => sm_ld 2 L S k
  | .aload k => sm_ld 2 L S k
  | .istore_n k => sm_si L S k
  | .istore k => sm_si L S k
  | .lstore_n k => sm_sl L S k
  | .lstore k => sm_sl L S k
  | .astore_n k => sm_sr L S k
  | .astore k => sm_sr L S k
  | .iinc k _ => sm_inc L S k (sm_k d)
  | .iadd => sm_b2 (fun x y => x + y) L S
  | .isub => sm_b2 (fun x y => x - y) L S
  | .imul => sm_b2 (fun x y => x * y) L S
  | .iand => sm_b2 (fun x y => x &&& y) L S
  | .ior => sm_b2 (fun x y => x ||| y) L S
  | .ixor => sm_b2 (fun x y => x ^^^ y) L S
  | .ishl => sm_b2 (fun x y => x <<< (y &&& 31)) L S
  | .ishr => sm_b2 (fun x y => x >>> (y &&& 31)) L S
  | .ineg => sm_u1 (fun x => .int (-x)) L S
  | .idiv => sm_dv (fun x y => x / y) L S
  | .irem => sm_dv (fun x y => x - x / y * y) L S
  | .ladd => sm_bl (fun x y => x + y) L S
  | .lsub => sm_bl (fun x y => x - y) L S
  | .lmul => sm_bl (fun x y => x * y) L S
  | .land => sm_bl (fun x y => x &&& y) L S
  | .lor => sm_bl (fun x y => x ||| y) L S
  | .lxor => sm_bl (fun x y => x ^^^ y) L S
  | .lshl => sm_sh (fun x y => x <<< (y.toInt64 &&& 63)) L S
  | .lushr => sm_sh (fun x y => (x.toUInt64 >>> (y.toInt64.toUInt64 &&& Int64.toUInt64 63)).toInt64) L S
  | .i2l => sm_u1 (fun x => .long x.toInt64) L S
  | .i2c => sm_u1 (fun x => .int (x.toUInt32 % 65536).toInt32) L S
  | .l2i => sm_lf (fun x => x.toInt32) L S
  | .lcmp => sm_lc2 L S
  | .dup => sm_du L S
  | .pop => sm_po L S
  | .dup_x1 => sm_dx L S
  | .dup2 => sm_d2 L S
  | _ => none
/-- what the constants' table owes -/
def sm_kok (i : Instr) (d : Nat × Nat) : Prop := match i with
  | .iconst n => Int32.ofInt n = sm_k d
  | .bipush n => (Int8.ofInt n).toInt32 = sm_k d
  | .sipush n => (Int16.ofInt n).toInt32 = sm_k d
  | .iinc _ n => Int32.ofInt n = sm_k d
  | _ => True
/-- how long an instruction is -/
def sm_len (i : Instr) : Nat := match i with
  | .bipush _ | .iload _ | .lload _ | .aload _ | .istore _ | .lstore _ | .astore _ | .newarray _ | .ldc _ => 2
  | .sipush _ | .iinc _ _ | .getfield _ | .putfield _ | .getstatic _ | .invokevirtual _ | .invokespecial _ | .invokestatic _ | .new _ | .anewarray _ | .checkcast _ | .instanceof _ | .goto _ | .if_icmp _ _ | .ifCond _ _ | .if_acmp _ _ | .ifnull _ | .ifnonnull _ | .ldc2_w _ | .ldc_w _ => 3
  | _ => 1
section SMP
variable {p : Program} {l : Launch} {e : Env} {R : Room} {s : State} {m : MethodId} {args : Array Value} {below : List Frame} {meth : Method} {c : Code} {H : Heap} {locs : List Loc} {cells slots : Nat} {Q : State → Prop} {cc : ByteArray} {pc nL : Nat} {ls : Array Slot} {L S L' S' : List Value}
theorem sm_ld_some {t i : Nat} (h : sm_ld t L S i = some (L', S')) : L' = L ∧ ∃ v, L[i]? = some v ∧ S' = v :: S ∧ ((t = 0 ∧ ∃ x, v = .int x) ∨ (t = 1 ∧ ∃ x, v = .long x) ∨ (t = 2 ∧ ((∃ x, v = .ref x) ∨ v = .null))) := by
  unfold sm_ld at h
  split at h
  · rename_i x hx; cases h; exact ⟨rfl, _, hx, rfl, Or.inl ⟨rfl, _, rfl⟩⟩
  · rename_i x hx; cases h; exact ⟨rfl, _, hx, rfl, Or.inr (Or.inl ⟨rfl, _, rfl⟩)⟩
  · rename_i x hx; cases h; exact ⟨rfl, _, hx, rfl, Or.inr (Or.inr ⟨rfl, Or.inl ⟨_, rfl⟩⟩)⟩
  · rename_i hx; cases h; exact ⟨rfl, _, hx, rfl, Or.inr (Or.inr ⟨rfl, Or.inr rfl⟩)⟩
  · cases h
theorem sm_si_some {i : Nat} (h : sm_si L S i = some (L', S')) : ∃ x, S = .int x :: S' ∧ i < L.length ∧ L' = sm_s1 L i (.int x) := by
  unfold sm_si at h
  split at h
  · split at h
    · rename_i hi; cases h; exact ⟨_, rfl, hi, rfl⟩
    · cases h
  · cases h
theorem sm_sl_some {i : Nat} (h : sm_sl L S i = some (L', S')) : ∃ x, S = .long x :: S' ∧ i + 1 < L.length ∧ L' = sm_s2 L i (.long x) := by
  unfold sm_sl at h
  split at h
  · split at h
    · rename_i hi; cases h; exact ⟨_, rfl, hi, rfl⟩
    · cases h
  · cases h
theorem sm_sr_some {i : Nat} (h : sm_sr L S i = some (L', S')) : (∃ x, S = .ref x :: S' ∧ i < L.length ∧ L' = sm_s1 L i (.ref x)) ∨ (S = .null :: S' ∧ i < L.length ∧ L' = sm_s1 L i .null) := by
  unfold sm_sr at h
  split at h
  · split at h
    · rename_i hi; cases h; exact Or.inl ⟨_, rfl, hi, rfl⟩
    · cases h
  · split at h
    · rename_i hi; cases h; exact Or.inr ⟨rfl, hi, rfl⟩
    · cases h
  · cases h
theorem sm_b2_some {f : Int32 → Int32 → Int32} (h : sm_b2 f L S = some (L', S')) : ∃ x y r, S = .int y :: .int x :: r ∧ L' = L ∧ S' = .int (f x y) :: r := by
  unfold sm_b2 at h
  split at h
  · cases h; exact ⟨_, _, _, rfl, rfl, rfl⟩
  · cases h
theorem sm_bl_some {f : Int64 → Int64 → Int64} (h : sm_bl f L S = some (L', S')) : ∃ x y r, S = .long y :: .long x :: r ∧ L' = L ∧ S' = .long (f x y) :: r := by
  unfold sm_bl at h
  split at h
  · cases h; exact ⟨_, _, _, rfl, rfl, rfl⟩
  · cases h
theorem sm_sh_some {f : Int64 → Int32 → Int64} (h : sm_sh f L S = some (L', S')) : ∃ x y r, S = .int y :: .long x :: r ∧ L' = L ∧ S' = .long (f x y) :: r := by
  unfold sm_sh at h
  split at h
  · cases h; exact ⟨_, _, _, rfl, rfl, rfl⟩
  · cases h
theorem sm_u1_some {f : Int32 → Value} (h : sm_u1 f L S = some (L', S')) : ∃ x r, S = .int x :: r ∧ L' = L ∧ S' = f x :: r := by
  unfold sm_u1 at h
  split at h
  · cases h; exact ⟨_, _, rfl, rfl, rfl⟩
  · cases h
theorem sm_dv_some {f : Int32 → Int32 → Int32} (h : sm_dv f L S = some (L', S')) : ∃ x y r, S = .int y :: .int x :: r ∧ ¬ y = 0 ∧ L' = L ∧ S' = .int (f x y) :: r := by
  unfold sm_dv at h
  split at h
  · split at h
    · cases h
    · rename_i hy; cases h; exact ⟨_, _, _, rfl, hy, rfl, rfl⟩
  · cases h
theorem sm_lf_some {f : Int64 → Int32} (h : sm_lf f L S = some (L', S')) : ∃ x r, S = .long x :: r ∧ L' = L ∧ S' = .int (f x) :: r := by
  unfold sm_lf at h
  split at h
  · cases h; exact ⟨_, _, rfl, rfl, rfl⟩
  · cases h
theorem sm_lc2_some (h : sm_lc2 L S = some (L', S')) : ∃ x y r, S = .long y :: .long x :: r ∧ L' = L ∧ S' = .int (lg_cmp x y) :: r := by
  unfold sm_lc2 at h
  split at h
  · cases h; exact ⟨_, _, _, rfl, rfl, rfl⟩
  · cases h
theorem sm_du_some (h : sm_du L S = some (L', S')) : ∃ a r, S = a :: r ∧ a.category = 1 ∧ L' = L ∧ S' = a :: a :: r := by
  unfold sm_du at h
  split at h
  · split at h
    · rename_i hc; cases h; exact ⟨_, _, rfl, hc, rfl, rfl⟩
    · cases h
  · cases h
theorem sm_po_some (h : sm_po L S = some (L', S')) : ∃ a, S = a :: S' ∧ a.category = 1 ∧ L' = L := by
  unfold sm_po at h
  split at h
  · split at h
    · rename_i hc; cases h; exact ⟨_, rfl, hc, rfl⟩
    · cases h
  · cases h
theorem sm_dx_some (h : sm_dx L S = some (L', S')) : ∃ a b r, S = a :: b :: r ∧ (a.category = 1 ∧ b.category = 1) ∧ L' = L ∧ S' = a :: b :: a :: r := by
  unfold sm_dx at h
  split at h
  · split at h
    · rename_i hc; cases h; exact ⟨_, _, _, rfl, hc, rfl, rfl⟩
    · cases h
  · cases h
theorem sm_d2_some (h : sm_d2 L S = some (L', S')) : ∃ a b r, S = a :: b :: r ∧ (a.category = 1 ∧ b.category = 1) ∧ L' = L ∧ S' = a :: b :: a :: b :: r := by
  unfold sm_d2 at h
  split at h
  · split at h
    · rename_i hc; cases h; exact ⟨_, _, _, rfl, hc, rfl, rfl⟩
    · cases h
  · cases h
theorem sm_inc_some {i : Nat} {c : Int32} (h : sm_inc L S i c = some (L', S')) : ∃ x, L[i]? = some (.int x) ∧ L' = sm_s1 L i (.int (x + c)) ∧ S' = S := by
  unfold sm_inc at h
  split at h
  · rename_i hx; cases h; exact ⟨_, hx, rfl, rfl⟩
  · cases h
theorem sm_pure (hexec : p.tables.exec = Jvm.exec) (hb : c.code = cc) {i : Instr} {d : Nat × Nat} (hdg : decode cc pc = .ok (i, sm_len i)) (hk : sm_kok i d) (hl : sm_lc ls nL L) (h : sm_ps i d L S = some (L', S'))
    (k : ∀ ls' : Array Slot, sm_lc ls' nL L' → W p l e R s m args below meth c H locs cells slots Q (F0 m (pc + sm_len i) ls' S')) : W p l e R s m args below meth c H locs cells slots Q (F0 m pc ls S) := by
  cases i with
  | iconst n => cases h; exact lv_iconst hexec hb hdg hk (k _ hl)
  | bipush n => cases h; exact lv_bipush hexec hb hdg hk (k _ hl)
  | sipush n => cases h; exact lv_sipush hexec hb hdg hk (k _ hl)
  | lconst n => cases h; exact lv_lconst hexec hb hdg rfl (k _ hl)
  | aconst_null => cases h; exact lv_null hexec hb hdg (k _ hl)
  | iload_n n =>
    obtain ⟨rfl, v, hv, rfl, (⟨-, x, rfl⟩ | ⟨q, -⟩ | ⟨q, -⟩)⟩ := sm_ld_some h
    · exact lv_iload_n hexec hb hdg rfl (hl.get hv (fun q => by cases q)) (k _ hl)
    · cases q
    · cases q
  | iload n =>
    obtain ⟨rfl, v, hv, rfl, (⟨-, x, rfl⟩ | ⟨q, -⟩ | ⟨q, -⟩)⟩ := sm_ld_some h
    · exact lv_iload hexec hb hdg (hl.get hv (fun q => by cases q)) (k _ hl)
    · cases q
    · cases q
  | lload_n n =>
    obtain ⟨rfl, v, hv, rfl, (⟨q, -⟩ | ⟨-, x, rfl⟩ | ⟨q, -⟩)⟩ := sm_ld_some h
    · cases q
    · exact lv_lload_n hexec hb hdg rfl (hl.get hv (fun q => by cases q)) (k _ hl)
    · cases q
  | lload n =>
    obtain ⟨rfl, v, hv, rfl, (⟨q, -⟩ | ⟨-, x, rfl⟩ | ⟨q, -⟩)⟩ := sm_ld_some h
    · cases q
    · exact lv_lload hexec hb hdg (hl.get hv (fun q => by cases q)) (k _ hl)
    · cases q
  | aload_n n =>
    obtain ⟨rfl, v, hv, rfl, (⟨q, -⟩ | ⟨q, -⟩ | ⟨-, (⟨x, rfl⟩ | rfl)⟩)⟩ := sm_ld_some h
    · cases q
    · cases q
    · exact lv_aload_n hexec hb hdg rfl (hl.get hv (fun q => by cases q)) (k _ hl)
    · exact lv_aload_nN hexec hb hdg rfl (hl.get hv (fun q => by cases q)) (k _ hl)
  | aload n =>
    obtain ⟨rfl, v, hv, rfl, (⟨q, -⟩ | ⟨q, -⟩ | ⟨-, (⟨x, rfl⟩ | rfl)⟩)⟩ := sm_ld_some h
    · cases q
    · cases q
    · exact lv_aload hexec hb hdg (hl.get hv (fun q => by cases q)) (k _ hl)
    · exact lv_aloadN hexec hb hdg (hl.get hv (fun q => by cases q)) (k _ hl)
  | istore_n n =>
    obtain ⟨x, rfl, hi, rfl⟩ := sm_si_some h
    exact lv_istore_n hexec hb hdg rfl hl.2 (by have := hl.1; omega) rfl (fun ls' h' => k ls' (sm_lc.s1 hl.1 h'))
  | istore n =>
    obtain ⟨x, rfl, hi, rfl⟩ := sm_si_some h
    exact lv_istore hexec hb hdg hl.2 (by have := hl.1; omega) rfl (fun ls' h' => k ls' (sm_lc.s1 hl.1 h'))
  | lstore_n n =>
    obtain ⟨x, rfl, hi, rfl⟩ := sm_sl_some h
    exact lv_lstore_n hexec hb hdg rfl hl.2 (by have := hl.1; omega) rfl (fun ls' h' => k ls' (sm_lc.s2 hl.1 h'))
  | lstore n =>
    obtain ⟨x, rfl, hi, rfl⟩ := sm_sl_some h
    exact lv_lstore hexec hb hdg hl.2 (by have := hl.1; omega) rfl (fun ls' h' => k ls' (sm_lc.s2 hl.1 h'))
  | astore_n n =>
    obtain (⟨x, rfl, hi, rfl⟩ | ⟨rfl, hi, rfl⟩) := sm_sr_some h
    · exact lv_astore_n hexec hb hdg rfl hl.2 (by have := hl.1; omega) rfl (fun ls' h' => k ls' (sm_lc.s1 hl.1 h'))
    · exact lv_astore_nN hexec hb hdg rfl hl.2 (by have := hl.1; omega) rfl (fun ls' h' => k ls' (sm_lc.s1 hl.1 h'))
  | astore n =>
    obtain (⟨x, rfl, hi, rfl⟩ | ⟨rfl, hi, rfl⟩) := sm_sr_some h
    · exact lv_astore hexec hb hdg hl.2 (by have := hl.1; omega) rfl (fun ls' h' => k ls' (sm_lc.s1 hl.1 h'))
    · exact lv_astoreN hexec hb hdg hl.2 (by have := hl.1; omega) rfl (fun ls' h' => k ls' (sm_lc.s1 hl.1 h'))
  | iinc n z =>
    obtain ⟨x, hx, rfl, rfl⟩ := sm_inc_some h
    have hm := (sm_mem L 0 n (.int x)).mpr ⟨Nat.zero_le _, by rw [Nat.sub_zero]; exact hx, fun q => by cases q⟩
    obtain ⟨q, hq⟩ := List.getElem?_of_mem hm
    have hn : n < L.length := (List.getElem?_eq_some_iff.mp hx).1
    exact lv_iinc hexec hb hdg hl.2 hq (by rw [show Int32.ofInt z = sm_k d from hk]) (by have := hl.1; omega) rfl (fun ls' h' => k ls' (sm_lc.s1 hl.1 h'))
  | iadd => obtain ⟨x, y, r, rfl, rfl, rfl⟩ := sm_b2_some h; exact lv_iadd hexec hb hdg (k _ hl)
  | isub => obtain ⟨x, y, r, rfl, rfl, rfl⟩ := sm_b2_some h; exact lv_isub hexec hb hdg (k _ hl)
  | imul => obtain ⟨x, y, r, rfl, rfl, rfl⟩ := sm_b2_some h; exact lv_imul hexec hb hdg (k _ hl)
  | iand => obtain ⟨x, y, r, rfl, rfl, rfl⟩ := sm_b2_some h; exact lv_iand hexec hb hdg (k _ hl)
  | ior => obtain ⟨x, y, r, rfl, rfl, rfl⟩ := sm_b2_some h; exact lv_ior hexec hb hdg (k _ hl)
  | ixor => obtain ⟨x, y, r, rfl, rfl, rfl⟩ := sm_b2_some h; exact lv_ixor hexec hb hdg (k _ hl)
  | ishl => obtain ⟨x, y, r, rfl, rfl, rfl⟩ := sm_b2_some h; exact lv_ishl hexec hb hdg (k _ hl)
  | ishr => obtain ⟨x, y, r, rfl, rfl, rfl⟩ := sm_b2_some h; exact lv_ishr hexec hb hdg (k _ hl)
  | ineg => obtain ⟨x, r, rfl, rfl, rfl⟩ := sm_u1_some h; exact lv_ineg hexec hb hdg (k _ hl)
  | idiv => obtain ⟨x, y, r, rfl, hy, rfl, rfl⟩ := sm_dv_some h; exact lv_idiv hexec hb hdg hy (k _ hl)
  | irem => obtain ⟨x, y, r, rfl, hy, rfl, rfl⟩ := sm_dv_some h; exact lv_irem hexec hb hdg hy (k _ hl)
  | ladd => obtain ⟨x, y, r, rfl, rfl, rfl⟩ := sm_bl_some h; exact lv_ladd hexec hb hdg (k _ hl)
  | lsub => obtain ⟨x, y, r, rfl, rfl, rfl⟩ := sm_bl_some h; exact lv_lsub hexec hb hdg (k _ hl)
  | lmul => obtain ⟨x, y, r, rfl, rfl, rfl⟩ := sm_bl_some h; exact lv_lmul hexec hb hdg (k _ hl)
  | land => obtain ⟨x, y, r, rfl, rfl, rfl⟩ := sm_bl_some h; exact lv_land hexec hb hdg (k _ hl)
  | lor => obtain ⟨x, y, r, rfl, rfl, rfl⟩ := sm_bl_some h; exact lv_lor hexec hb hdg (k _ hl)
  | lxor => obtain ⟨x, y, r, rfl, rfl, rfl⟩ := sm_bl_some h; exact lv_lxor hexec hb hdg (k _ hl)
  | lshl => obtain ⟨x, y, r, rfl, rfl, rfl⟩ := sm_sh_some h; exact lv_lshl hexec hb hdg rfl (k _ hl)
  | lushr => obtain ⟨x, y, r, rfl, rfl, rfl⟩ := sm_sh_some h; exact lv_lushr hexec hb hdg rfl (k _ hl)
  | i2l => obtain ⟨x, r, rfl, rfl, rfl⟩ := sm_u1_some h; exact lv_i2l hexec hb hdg rfl (k _ hl)
  | i2c => obtain ⟨x, r, rfl, rfl, rfl⟩ := sm_u1_some h; exact lv_i2c hexec hb hdg rfl (k _ hl)
  | l2i => obtain ⟨x, r, rfl, rfl, rfl⟩ := sm_lf_some h; exact lv_l2i hexec hb hdg rfl (k _ hl)
  | lcmp => obtain ⟨x, y, r, rfl, rfl, rfl⟩ := sm_lc2_some h; exact W.lcmp hexec hb hdg (k _ hl)
  | dup => obtain ⟨a, r, rfl, hc, rfl, rfl⟩ := sm_du_some h; exact lv_dup hexec hb hdg hc (k _ hl)
  | pop => obtain ⟨a, rfl, hc, rfl⟩ := sm_po_some h; exact lv_pop hexec hb hdg hc (k _ hl)
  | dup_x1 => obtain ⟨a, b, r, rfl, hc, rfl, rfl⟩ := sm_dx_some h; exact lv_dup_x1 hexec hb hdg hc.1 hc.2 (k _ hl)
  | dup2 => obtain ⟨a, b, r, rfl, hc, rfl, rfl⟩ := sm_d2_some h; exact lv_dup2_11 hexec hb hdg hc.1 hc.2 (k _ hl)
  | _ => cases h
end SMP
end
section
/-! branches: d.1 is the target; the returns -/
def sm_cp (c : ClassFile.Cond) (x y : Int32) : Prop := match c with
  | .eq => x = y
  | .ne => ¬ x = y
  | .lt => x < y
  | .ge => y ≤ x
  | .gt => y < x
  | .le => x ≤ y
def sm_cz (c : ClassFile.Cond) (x : Int32) : Prop := match c with
  | .eq => x = 0
  | .ne => ¬ x = 0
  | .lt => x < 0
  | .ge => 0 ≤ x
  | .gt => 0 < x
  | .le => x ≤ 0
/-- where a branch goes: a condition, the target where it holds, the target else, the stack -/
def sm_br (i : Instr) (d : Nat × Nat) (pc : Nat) (S : List Value) : Option (Prop × Nat × Nat × List Value) := match i, S with
  | .goto _, S => some (True, d.1, d.1, S)
  | .if_icmp c _, .int y :: .int x :: r => some (sm_cp c x y, d.1, pc + 3, r)
  | .ifCond c _, .int x :: r => some (sm_cz c x, d.1, pc + 3, r)
  | .ifnull _, .null :: r => some (True, d.1, d.1, r)
  | .ifnull _, .ref _ :: r => some (True, pc + 3, pc + 3, r)
  | .ifnonnull _, .ref _ :: r => some (True, d.1, d.1, r)
  | .ifnonnull _, .null :: r => some (True, pc + 3, pc + 3, r)
  | .if_acmp .eq _, .ref y :: .ref x :: r => some (x = y, d.1, pc + 3, r)
  | .if_acmp .ne _, .ref y :: .ref x :: r => some (¬ x = y, d.1, pc + 3, r)
  | _, _ => none
def sm_tok (i : Instr) (d : Nat × Nat) (pc : Nat) : Prop := match i with
  | .goto o => (pc : Int) + o = (d.1 : Int)
  | .if_icmp _ o => (pc : Int) + o = (d.1 : Int)
  | .ifCond _ o => (pc : Int) + o = (d.1 : Int)
  | .ifnull o => (pc : Int) + o = (d.1 : Int)
  | .ifnonnull o => (pc : Int) + o = (d.1 : Int)
  | .if_acmp _ o => (pc : Int) + o = (d.1 : Int)
  | _ => True
/-- a switch: the target -/
def sm_sw (i : Instr) (pc : Nat) (S : List Value) : Option (Nat × List Value) := match i, S with
  | .tableswitch dflt lo hi offs, .int x :: r => if x.toInt < lo ∨ hi < x.toInt then (if 0 ≤ (pc : Int) + dflt then some (((pc : Int) + dflt).toNat, r) else none) else (match offs[(x.toInt - lo).toNat]? with
    | some o => if 0 ≤ (pc : Int) + o then some (((pc : Int) + o).toNat, r) else none
    | none => none)
  | .lookupswitch dflt ps, .int x :: r => if (ps.toList.zip (ps.toList.drop 1)).all (fun (a, next) => a.1 < next.1) = true ∧ 0 ≤ (pc : Int) + Op.lookupswitch.offset ps.toList dflt x.toInt then some (((pc : Int) + Op.lookupswitch.offset ps.toList dflt x.toInt).toNat, r) else none
  | _, _ => none
/-- what a method gives back -/
def sm_rt (i : Instr) (ret : Option FieldType) (S : List Value) : Option (Option Value) := match i, ret, S with
  | .ireturn, some ty, [.int x] => if narrow ty (.int x) = .int x then some (some (.int x)) else none
  | .lreturn, some .long, [.long x] => some (some (.long x))
  | .areturn, some (.object _), [.ref a] => some (some (.ref a))
  | .areturn, some (.object _), [.null] => some (some .null)
  | .areturn, some (.array _), [.ref a] => some (some (.ref a))
  | .areturn, some (.array _), [.null] => some (some .null)
  | .return_, none, [] => some none
  | _, _, _ => none
section SMB
variable {p : Program} {l : Launch} {e : Env} {R : Room} {s : State} {m : MethodId} {args : Array Value} {below : List Frame} {meth : Method} {c : Code} {H : Heap} {locs : List Loc} {cells slots : Nat} {Q : State → Prop} {cc : ByteArray} {pc : Nat} {ls : Array Slot} {S S' : List Value}
theorem sm_branch (hexec : p.tables.exec = Jvm.exec) (hb : c.code = cc) {i : Instr} {d : Nat × Nat} (hdg : decode cc pc = .ok (i, sm_len i)) (ht : sm_tok i d pc) {C : Prop} {t f : Nat} (h : sm_br i d pc S = some (C, t, f, S'))
    (k1 : C → W p l e R s m args below meth c H locs cells slots Q (F0 m t ls S')) (k2 : ¬ C → W p l e R s m args below meth c H locs cells slots Q (F0 m f ls S')) : W p l e R s m args below meth c H locs cells slots Q (F0 m pc ls S) := by
  unfold sm_br at h
  split at h
  · cases h; exact lv_goto hexec hb hdg ht (k1 trivial)
  · rename_i cd o y x r
    cases h
    cases cd
    · exact lv_icmp_eq hexec hb hdg ht k1 k2
    · exact lv_icmp_ne hexec hb hdg ht k1 (fun q => k2 (fun z => z q))
    · exact lv_icmp_lt hexec hb hdg ht k1 k2
    · exact lv_icmp_ge hexec hb hdg ht k1 k2
    · exact lv_icmp_gt hexec hb hdg ht k1 k2
    · exact lv_icmp_le hexec hb hdg ht k1 k2
  · rename_i cd o x r
    cases h
    cases cd
    · exact lv_if_eq hexec hb hdg ht k1 k2
    · exact lv_if_ne hexec hb hdg ht k1 (fun q => k2 (fun z => z q))
    · exact lv_if_lt hexec hb hdg ht k1 k2
    · exact lv_if_ge hexec hb hdg ht k1 k2
    · exact lv_if_gt hexec hb hdg ht k1 k2
    · exact lv_if_le hexec hb hdg ht k1 k2
  · cases h; exact lv_ifnullN hexec hb hdg ht (k1 trivial)
  · cases h; exact lv_ifnull hexec hb hdg (k1 trivial)
  · cases h; exact lv_ifnonnull hexec hb hdg ht (k1 trivial)
  · cases h; exact lv_ifnonnullN hexec hb hdg (k1 trivial)
  · rename_i o y x r
    cases h
    exact lv_acmp_eq (rx := some x) (ry := some y) hexec hb hdg ht (fun q => k1 (Option.some.inj q)) (fun q => k2 (fun z => q (congrArg some z)))
  · rename_i o y x r
    cases h
    exact lv_acmp_ne (rx := some x) (ry := some y) hexec hb hdg ht (fun q => k1 (fun z => q (congrArg some z))) (fun q => k2 (fun z => z (Option.some.inj q)))
  · cases h
theorem sm_switch (hexec : p.tables.exec = Jvm.exec) (hb : c.code = cc) {i : Instr} {len t : Nat} (hdg : decode cc pc = .ok (i, len)) (h : sm_sw i pc S = some (t, S'))
    (k : W p l e R s m args below meth c H locs cells slots Q (F0 m t ls S')) : W p l e R s m args below meth c H locs cells slots Q (F0 m pc ls S) := by
  unfold sm_sw at h
  split at h
  · rename_i dflt lo hi offs x r
    split at h
    · rename_i hq
      split at h
      · rename_i h0
        cases h
        exact lv_tableOut hexec hb hdg hq (by omega) k
      · cases h
    · rename_i hq
      split at h
      · rename_i o ho
        split at h
        · rename_i h0
          cases h
          exact lv_tableIn hexec hb hdg (fun z => hq (Or.inl z)) (fun z => hq (Or.inr z)) ho (by omega) k
        · cases h
      · cases h
  · rename_i dflt ps x r
    split at h
    · rename_i hq
      cases h
      exact lv_lookup hexec hb hdg hq.1 rfl (by have := hq.2; omega) k
    · cases h
  · cases h
theorem sm_return {Qc : Array Value → State → Outcome → State → Prop} {free : Addr → Prop} (hexec : p.tables.exec = Jvm.exec) (hb : c.code = cc) {i : Instr} (hdg : decode cc pc = .ok (i, sm_len i)) {ret : Option FieldType} (hr : meth.sig.returnType = ret) {v : Option Value} (h : sm_rt i ret S = some v) (hlocks : meth.locks = false)
    (hq : ∀ t : State, t.heap = H → s.WarmedH t.vm → Qc args s (.returned v) t) (hf : ∀ q ∈ locs, free q.base) : W p l e R s m args below meth c H locs cells slots (MQ below Qc args s cells slots free) (F0 m pc ls S) := by
  unfold sm_rt at h
  split at h
  · rename_i ty x
    split at h
    · rename_i hn
      cases h
      exact W.zret hexec hb hr hn hq hf hdg hlocks
    · cases h
  · cases h; exact W.lret hexec hb hr hq hf hdg hlocks
  · cases h; exact W.aret hexec hb hr (Or.inl ⟨_, rfl⟩) (Or.inr ⟨_, rfl⟩) hq hf hdg hlocks
  · cases h; exact W.aret hexec hb hr (Or.inl ⟨_, rfl⟩) (Or.inl rfl) hq hf hdg hlocks
  · cases h; exact W.aret hexec hb hr (Or.inr ⟨_, rfl⟩) (Or.inr ⟨_, rfl⟩) hq hf hdg hlocks
  · cases h; exact W.aret hexec hb hr (Or.inr ⟨_, rfl⟩) (Or.inl rfl) hq hf hdg hlocks
  · cases h; exact W.vret hexec hb hr hq hf hdg hlocks
  · cases h
end SMB
end
section
/-! THE HEAP of the small machine: where the next cell comes; how many slots; of an address its kind (0 nothing, 1 .. 15 an array, 16 + ci an object of class ci), its length, fields (number 128 * ci + k), elements; where the JDK's empty array lies -/
abbrev sm_H : Type := Nat × Nat × (Nat → Nat) × (Nat → Nat) × (Nat → Nat → Value) × (Nat → Nat → Value) × Nat
def hT (h : sm_H) : Nat := h.1
def hU (h : sm_H) : Nat := h.2.1
def hC (h : sm_H) (a : Nat) : Nat := h.2.2.1 a
def hL (h : sm_H) (a : Nat) : Nat := h.2.2.2.1 a
def hF (h : sm_H) (f a : Nat) : Value := h.2.2.2.2.1 f a
def hA (h : sm_H) (a i : Nat) : Value := h.2.2.2.2.2.1 a i
def hZ (h : sm_H) : Nat := h.2.2.2.2.2.2
def putF (h : sm_H) (f a : Nat) (v : Value) : sm_H := (hT h, hU h, hC h, hL h, fun g b => if g = f ∧ b = a then v else hF h g b, hA h, hZ h)
def putA (h : sm_H) (a i : Nat) (v : Value) : sm_H := (hT h, hU h, hC h, hL h, hF h, fun b j => if b = a ∧ j = i then v else hA h b j, hZ h)
def newO (h : sm_H) (ci n : Nat) (dv : Nat → Value) : sm_H := (hT h + 1, hU h + n, fun b => if b = hT h then 16 + ci else hC h b, hL h, fun g b => if b = hT h then dv g else hF h g b, hA h, hZ h)
def newA (h : sm_H) (t n : Nat) (dv : Value) : sm_H := (hT h + 1, hU h + n, fun b => if b = hT h then t else hC h b, fun b => if b = hT h then n else hL h b, hF h, fun b j => if b = hT h then dv else hA h b j, hZ h)
abbrev sm_in (i : Int32) (n : Nat) : Prop := ¬ i < 0 ∧ i.toNatClampNeg < n
/-- the component type of an array's kind -/
def sm_ty (t : Nat) : Option FieldType := match t with
  | 1 => some .int
  | 2 => some .long
  | 3 => some .char
  | 4 => some .byte
  | 5 => some .boolean
  | 7 => some (.object "java/lang/Object")
  | 14 => some (.object "java/lang/Object")
  | 15 => some .int
  | _ => none
def sm_nt (t : ArrayType) : Nat := match t with
  | .int => 1
  | .long => 2
  | .char => 3
  | .byte => 4
  | .boolean => 5
  | _ => 0
def sm_gf (ci k : Nat) (S : List Value) (h : sm_H) : Option (List Value × sm_H) := match S with
  | .ref a :: r => if hC h a = 16 + ci then some (hF h (128 * ci + k) a :: r, h) else none
  | _ => none
def sm_pf (ci k : Nat) (S : List Value) (h : sm_H) : Option (List Value × sm_H) := match S with
  | v :: .ref a :: r => if hC h a = 16 + ci ∧ narrow (xty ci k) v = v ∧ fits (xty ci k) v = true then some (r, putF h (128 * ci + k) a v) else none
  | _ => none
def sm_nw (ci : Nat) (S : List Value) (h : sm_H) : Option (List Value × sm_H) := match xcl[ci]? with
  | some q => some (.ref (hT h) :: S, newO h ci q.2.2 (fun g => defaultValue (xty ci (g - 128 * ci))))
  | none => none
def sm_na (t : ArrayType) (S : List Value) (h : sm_H) : Option (List Value × sm_H) := match S with
  | .int n :: r => if ¬ n < 0 ∧ n.toNatClampNeg * componentBytes (newarray.typeOf t) ≤ 536870912 ∧ sm_nt t ≠ 0 then some (.ref (hT h) :: r, newA h (sm_nt t) n.toNatClampNeg (defaultValue (newarray.typeOf t))) else none
  | _ => none
def sm_an (S : List Value) (h : sm_H) : Option (List Value × sm_H) := match S with
  | .int n :: r => if ¬ n < 0 ∧ n.toNatClampNeg * 4 ≤ 536870912 then some (.ref (hT h) :: r, newA h 7 n.toNatClampNeg .null) else none
  | _ => none
def sm_le (S : List Value) (h : sm_H) : Option (List Value × sm_H) := match S with
  | .ref a :: r => if (sm_ty (hC h a)).isSome = true then some (.int (nI (hL h a)) :: r, h) else none
  | _ => none
/-- a load out of an array whose component type is ty -/
def sm_al (ty : FieldType) (S : List Value) (h : sm_H) : Option (List Value × sm_H) := match S with
  | .int i :: .ref a :: r => if sm_ty (hC h a) = some ty ∧ sm_in i (hL h a) then some (hA h a i.toNatClampNeg :: r, h) else none
  | _ => none
def sm_ai (S : List Value) (h : sm_H) : Option (List Value × sm_H) := match S with
  | .int x :: .int i :: .ref a :: r => if hC h a = 1 ∧ sm_in i (hL h a) then some (r, putA h a i.toNatClampNeg (.int x)) else none
  | _ => none
def sm_aj (S : List Value) (h : sm_H) : Option (List Value × sm_H) := match S with
  | .long x :: .int i :: .ref a :: r => if hC h a = 2 ∧ sm_in i (hL h a) then some (r, putA h a i.toNatClampNeg (.long x)) else none
  | _ => none
def sm_ac (S : List Value) (h : sm_H) : Option (List Value × sm_H) := match S with
  | .int x :: .int i :: .ref a :: r => if hC h a = 3 ∧ sm_in i (hL h a) then some (r, putA h a i.toNatClampNeg (narrow .char (.int x))) else none
  | _ => none
def sm_ab (S : List Value) (h : sm_H) : Option (List Value × sm_H) := match S with
  | .int x :: .int i :: .ref a :: r => if hC h a = 4 ∧ sm_in i (hL h a) then some (r, putA h a i.toNatClampNeg (narrow .byte (.int x))) else (if hC h a = 5 ∧ sm_in i (hL h a) then some (r, putA h a i.toNatClampNeg (narrow .boolean (.int x))) else none)
  | _ => none
def sm_bl2 (S : List Value) (h : sm_H) : Option (List Value × sm_H) := match S with
  | .int i :: .ref a :: r => if (hC h a = 4 ∨ hC h a = 5) ∧ sm_in i (hL h a) then some (hA h a i.toNatClampNeg :: r, h) else none
  | _ => none
def sm_aa (S : List Value) (h : sm_H) : Option (List Value × sm_H) := match S with
  | .ref v :: .int i :: .ref a :: r => if hC h a = 7 ∧ sm_in i (hL h a) ∧ 16 ≤ hC h v ∧ hC h v < 16 + xob then some (r, putA h a i.toNatClampNeg (.ref v)) else none
  | .null :: .int i :: .ref a :: r => if hC h a = 7 ∧ sm_in i (hL h a) then some (r, putA h a i.toNatClampNeg .null) else none
  | _ => none
def sm_cc (ci : Nat) (S : List Value) (h : sm_H) : Option (List Value × sm_H) := match S with
  | .null :: r => some (.null :: r, h)
  | .ref a :: r => if hC h a = 16 + ci then some (.ref a :: r, h) else none
  | _ => none
/-- the instructions that read or write the heap -/
noncomputable def sm_hp (i : Instr) (d : Nat × Nat) (S : List Value) (h : sm_H) : Option (List Value × sm_H) := match i with
  | .getfield _ => sm_gf d.1 (d.2 / 2) S h
  | .putfield _ => sm_pf d.1 (d.2 / 2) S h
  | .new _ => if d.2 = 0 then sm_nw d.1 S h else none
  | .newarray t => sm_na t S h
  | .arraylength => sm_le S h
  | .iaload => sm_al .int S h
  | .laload => sm_al .long S h
  | .caload => sm_al .char S h
  | .baload => sm_bl2 S h
  | .iastore => sm_ai S h
  | .lastore => sm_aj S h
  | .castore => sm_ac S h
  | .bastore => sm_ab S h
  | .checkcast _ => sm_cc d.1 S h
  | .anewarray _ => sm_an S h
  | .aaload => sm_al (.object "java/lang/Object") S h
  | .aastore => sm_aa S h
  | .ldc _ => some (.int (sm_k d) :: S, h)
  | .ldc2_w _ => some (.long (lN d.1) :: S, h)
  | .getstatic _ => some (.ref (hZ h) :: S, h)
  | _ => none
end
section
/-! WHAT THE SMALL HEAP SAYS OF THE MACHINE's -/
def sm_ar (U : State) (H : Heap) (a : Nat) (ty : FieldType) (n : Nat) (f : Nat → Value) : Prop := ∃ cA : ClassId, ArrOfT U cA ty ∧ va_RA U cA ty ∧ H[a]? = some (arrV cA n f)
def sm_rd (U : State) (H : Heap) (a : Nat) (ty : FieldType) (n : Nat) (f : Nat → Value) : Prop := ∃ cell : Cell, H[a]? = some cell ∧ U.isArrayOf cell ty ∧ cell.vm ≠ .unknown ∧ cell.slots.size = n ∧ ∀ i, i < n → cell.slots[i]? = some (f i)
theorem sm_ar.rd {U : State} {H : Heap} {a : Nat} {ty : FieldType} {n : Nat} {f : Nat → Value} (h : sm_ar U H a ty n f) : sm_rd U H a ty n f := by
  obtain ⟨cA, h1, -, h3⟩ := h
  exact ⟨_, h3, h1 n f, fun q => (by cases q), arrV_size _ _ _, fun i hi => arrV_read _ _ hi⟩
theorem sm_ar.moved {u U : State} (hvm : u.vm.Alike U.vm) {H : Heap} {a : Nat} {ty : FieldType} {n : Nat} {f : Nat → Value} (h : sm_ar u H a ty n f) : sm_ar U H a ty n f := by
  obtain ⟨cA, h1, h2, h3⟩ := h
  exact ⟨cA, arrOfT_moved hvm h1, h2.moved hvm, h3⟩
theorem sm_rd.moved {u U : State} (hvm : u.vm.Alike U.vm) {H : Heap} {a : Nat} {ty : FieldType} {n : Nat} {f : Nat → Value} (h : sm_rd u H a ty n f) : sm_rd U H a ty n f := by
  obtain ⟨cell, h1, h2, h3⟩ := h
  exact ⟨cell, h1, State.isArrayOf_alike hvm h2, h3⟩
/-- the kinds that nobody writes: the script, the JDK's empty array -/
abbrev sm_ro (t : Nat) : Prop := t = 14 ∨ t = 15
/-- a static that holds a reference or null, and what 'laysStatic' says of it -/
def sm_LS (C n d : String) (A : Nat → Prop) (U : State) (H : Heap) : Prop := ∃ (c : ClassId) (k : Class) (i : Nat) (f : Field) (a : Nat) (cell : Cell), U.vm.findClass C = some c ∧ U.fieldFound? C n d = some (c, k, i, f) ∧ f.isStatic = true ∧ k.statics = some a ∧ H[a]? = some cell ∧ cell.vm.isStatics = true ∧ cell.cls = c ∧ f.slot < cell.slots.size ∧ k.staticTypes[f.slot]? = some f.type ∧ (cell.slots[f.slot]? = some .null ∨ ∃ q, cell.slots[f.slot]? = some (.ref q)) ∧ ¬ A a
theorem sm_LS.moved {C n d : String} {A : Nat → Prop} {u U : State} {H : Heap} (hvm : u.vm.Alike U.vm) (h : sm_LS C n d A u H) : sm_LS C n d A U H := by
  obtain ⟨c, k, i, f, a, cell, h0, h1, h2, h3, h4, h5, h6, h7, h8, h9⟩ := h
  obtain ⟨k', hi', he⟩ := State.fieldFound?_setVm hvm h1
  exact ⟨c, k', i, f, a, cell, by rw [hvm.findClass]; exact h0, hi', h2, by rw [he]; exact h3, h4, h5, h6, h7, by rw [he]; exact h8, h9⟩
theorem sm_LS.kept {C n d : String} {A : Nat → Prop} {U : State} {H H1 : Heap} (h : sm_LS C n d A U H) (hq : ∀ a : Nat, a < H.size → ¬ A a → H1[a]? = H[a]?) : sm_LS C n d A U H1 := by
  obtain ⟨c, k, i, f, a, cell, h0, h1, h2, h3, h4, h5, h6, h7, h8, h9, h10⟩ := h
  exact ⟨c, k, i, f, a, cell, h0, h1, h2, h3, by rw [hq a (Array.getElem?_eq_some_iff.mp h4).1 h10]; exact h4, h5, h6, h7, h8, h9, h10⟩
/-- what is known of statics: ArrayList's empty array, Throwable's two; no cell from base on holds statics -/
def sm_Zs (base z : Nat) (U : State) (H : Heap) : Prop := va_Z "java/util/ArrayList" "DEFAULTCAPACITY_EMPTY_ELEMENTDATA" "[Ljava/lang/Object;" (.ref z) (fun q => base ≤ q) U H ∧ sm_LS "java/lang/Throwable" "UNASSIGNED_STACK" "[Ljava/lang/StackTraceElement;" (fun q => base ≤ q) U H ∧ sm_LS "java/lang/Throwable" "SUPPRESSED_SENTINEL" "Ljava/util/List;" (fun q => base ≤ q) U H ∧ ∀ (a : Nat) (cell : Cell), base ≤ a → H[a]? = some cell → cell.vm.isStatics = false
theorem sm_Zs.moved {base z : Nat} {u U : State} {H : Heap} (hvm : u.vm.Alike U.vm) (h : sm_Zs base z u H) : sm_Zs base z U H := ⟨h.1.moved hvm, h.2.1.moved hvm, h.2.2.1.moved hvm, h.2.2.2⟩
def sm_R (D : va_G) (base : Nat) (U : State) (h : sm_H) (H : Heap) : Prop :=
  H.size = hT h ∧ (∀ a, hC h a ≠ 0 → ¬ sm_ro (hC h a) → base ≤ a) ∧
  (∀ a ci q, hC h a = 16 + ci → xcl[ci]? = some q → t_OB a (D.1 ci) q.2.2 (D.2 ci) H (fun k => hF h (128 * ci + k) a)) ∧
  (∀ a ty, ¬ sm_ro (hC h a) → sm_ty (hC h a) = some ty → sm_ar U H a ty (hL h a) (hA h a)) ∧
  (∀ a ty, sm_ro (hC h a) → sm_ty (hC h a) = some ty → sm_rd U H a ty (hL h a) (hA h a)) ∧
  sm_Zs base (hZ h) U H
theorem sm_R.moved {D : va_G} {base : Nat} {u U : State} (hvm : u.vm.Alike U.vm) {h : sm_H} {H : Heap} (hR : sm_R D base u h H) : sm_R D base U h H := by
  obtain ⟨h1, h2, h3, h4, h5, h6⟩ := hR
  exact ⟨h1, h2, h3, fun a ty p q => (h4 a ty p q).moved hvm, fun a ty p q => (h5 a ty p q).moved hvm, h6.moved hvm⟩
theorem sm_R.rd {D : va_G} {base : Nat} {U : State} {h : sm_H} {H : Heap} (hR : sm_R D base U h H) {a : Nat} {ty : FieldType} (ht : sm_ty (hC h a) = some ty) : sm_rd U H a ty (hL h a) (hA h a) := by
  by_cases e : sm_ro (hC h a)
  · exact hR.2.2.2.2.1 a ty e ht
  · exact (hR.2.2.2.1 a ty e ht).rd
theorem sm_Zk {base z : Nat} {U : State} {H H1 : Heap} (h : sm_Zs base z U H) {a : Nat} (hb : base ≤ a) (e3 : ∀ q, q ≠ a → H1[q]? = H[q]?) (e4 : ∀ cell : Cell, H1[a]? = some cell → cell.vm.isStatics = false) : sm_Zs base z U H1 := by
  have k : ∀ q : Nat, q < H.size → ¬ base ≤ q → H1[q]? = H[q]? := fun q _ h2 => e3 q (fun e => h2 (by rw [e]; exact hb))
  refine ⟨h.1.kept k, h.2.1.kept k, h.2.2.1.kept k, fun q cell hq hc => ?_⟩
  by_cases e : q = a
  · subst e; exact e4 cell hc
  · exact h.2.2.2 q cell hq (by rw [← e3 q e]; exact hc)
theorem sm_Zn {base z : Nat} {U : State} {H H1 : Heap} {k : Nat} (h : sm_Zs base z U H) (hk : H.size = k) (e2 : H1.size = k + 1) (e3 : ∀ q, q < k → H1[q]? = H[q]?) (e4 : ∀ cell : Cell, H1[k]? = some cell → cell.vm.isStatics = false) : sm_Zs base z U H1 := by
  have w : ∀ q : Nat, q < H.size → ¬ base ≤ q → H1[q]? = H[q]? := fun q h1 _ => e3 q (by omega)
  refine ⟨h.1.kept w, h.2.1.kept w, h.2.2.1.kept w, fun q cell hq hc => ?_⟩
  have hl : q < H1.size := (Array.getElem?_eq_some_iff.mp hc).1
  by_cases e : q = k
  · subst e; exact e4 cell hc
  · exact h.2.2.2 q cell hq (by rw [← e3 q (by omega)]; exact hc)
theorem sm_obS {o : Nat} {cC : ClassId} {N : Nat} {iS : Nat → Nat} {H : Heap} {V : Nat → Value} (h : t_OB o cC N iS H V) : ∀ cell : Cell, H[o]? = some cell → cell.vm.isStatics = false := by
  intro cell hc
  obtain ⟨cell', h1, -, h3, -⟩ := h
  rw [h1] at hc
  cases hc
  rw [h3]
  rfl
theorem sm_arS {H : Heap} {a n : Nat} {cA : ClassId} {f : Nat → Value} (h : H[a]? = some (arrV cA n f)) : ∀ cell : Cell, H[a]? = some cell → cell.vm.isStatics = false := by
  intro cell hc
  rw [h] at hc
  cases hc
  rfl
/-- a cell is written that is an array -/
theorem sm_R.setA {D : va_G} {base : Nat} {U : State} {h : sm_H} {H H1 : Heap} (hR : sm_R D base U h H) {a i : Nat} {v : Value} {cA : ClassId} {ty : FieldType} (h15 : ¬ sm_ro (hC h a)) (ht : sm_ty (hC h a) = some ty) (hA1 : ArrOfT U cA ty) (hA2 : va_RA U cA ty)
    (e1 : H1[a]? = some (arrV cA (hL h a) (updV (hA h a) i v))) (e2 : H1.size = H.size) (e3 : ∀ q, q ≠ a → H1[q]? = H[q]?) : sm_R D base U (putA h a i v) H1 := by
  obtain ⟨r1, r2, r3, r4, r5, r6⟩ := hR
  have hba : base ≤ a := r2 a (fun z => by rw [z] at ht; cases ht) h15
  refine ⟨e2.trans r1, r2, fun b ci q hb hq => ?_, fun b ty' hb hb' => ?_, fun b ty' hb hb' => ?_, sm_Zk r6 hba e3 (sm_arS e1)⟩
  · replace hb : hC h b = 16 + ci := hb
    have hne : b ≠ a := by
      intro e
      subst e
      rw [hb] at ht
      unfold sm_ty at ht
      split at ht <;> first | omega | cases ht
    exact (r3 b ci q hb hq).kept (e3 b hne)
  · replace hb : ¬ sm_ro (hC h b) := hb
    replace hb' : sm_ty (hC h b) = some ty' := hb'
    by_cases e : b = a
    · subst e
      rw [ht] at hb'
      cases hb'
      refine ⟨cA, hA1, hA2, e1.trans ?_⟩
      congr 2
      funext j
      show updV (hA h b) i v j = if b = b ∧ j = i then v else hA h b j
      by_cases ej : j = i
      · rw [updV, if_pos ej, if_pos ⟨rfl, ej⟩]
      · rw [updV, if_neg ej, if_neg (fun q => ej q.2)]
    · obtain ⟨cB, k1, k2, k3⟩ := r4 b ty' hb hb'
      refine ⟨cB, k1, k2, (e3 b e).trans (k3.trans ?_)⟩
      congr 2
      funext j
      show hA h b j = if b = a ∧ j = i then v else hA h b j
      rw [if_neg (fun q => e q.1)]
  · replace hb : sm_ro (hC h b) := hb
    have e : b ≠ a := fun q => h15 (q ▸ hb)
    obtain ⟨cell, k1, k2, k3, k4, k5⟩ := r5 b ty' hb hb'
    refine ⟨cell, (e3 b e).trans k1, k2, k3, k4, fun j hj => (k5 j hj).trans ?_⟩
    show some (hA h b j) = some (if b = a ∧ j = i then v else hA h b j)
    rw [if_neg (fun q => e q.1)]
/-- an object's field is written -/
theorem sm_R.setF {D : va_G} {base : Nat} {U : State} {h : sm_H} {H H1 : Heap} (hR : sm_R D base U h H) {a ci k : Nat} {v : Value} {q : vw_C} (hC1 : hC h a = 16 + ci) (hq : xcl[ci]? = some q) (hN : ∀ (cj : Nat) (r : vw_C), xcl[cj]? = some r → r.2.2 ≤ 128) (hk : k < 128)
    (e1 : t_OB a (D.1 ci) q.2.2 (D.2 ci) H1 (updV (fun j => hF h (128 * ci + j) a) k v)) (e2 : H1.size = H.size) (e3 : ∀ q, q ≠ a → H1[q]? = H[q]?) : sm_R D base U (putF h (128 * ci + k) a v) H1 := by
  obtain ⟨r1, r2, r3, r4, r5, r6⟩ := hR
  have hba : base ≤ a := r2 a (by omega) (fun z => by omega)
  refine ⟨e2.trans r1, r2, fun b cj r hb hr => ?_, fun b ty' hb hb' => ?_, fun b ty' hb hb' => ?_, sm_Zk r6 hba e3 (sm_obS e1)⟩
  · replace hb : hC h b = 16 + cj := hb
    by_cases e : b = a
    · subst e
      have ec : cj = ci := by omega
      subst ec
      rw [hq] at hr
      cases hr
      refine e1.to (fun j _ => ?_)
      show updV (fun j => hF h (128 * cj + j) b) k v j = if 128 * cj + j = 128 * cj + k ∧ b = b then v else hF h (128 * cj + j) b
      by_cases ej : j = k
      · rw [updV, if_pos ej, if_pos ⟨by omega, rfl⟩]
      · rw [updV, if_neg ej, if_neg (fun q => ej (by omega))]
    · refine ((r3 b cj r hb hr).kept (e3 b e)).to (fun j _ => ?_)
      show hF h (128 * cj + j) b = if 128 * cj + j = 128 * ci + k ∧ b = a then v else hF h (128 * cj + j) b
      rw [if_neg (fun q => e q.2)]
  · replace hb : ¬ sm_ro (hC h b) := hb
    replace hb' : sm_ty (hC h b) = some ty' := hb'
    have e : b ≠ a := by
      intro e
      subst e
      rw [hC1] at hb'
      unfold sm_ty at hb'
      split at hb' <;> first | omega | cases hb'
    obtain ⟨cB, k1, k2, k3⟩ := r4 b ty' hb hb'
    exact ⟨cB, k1, k2, (e3 b e).trans k3⟩
  · replace hb : sm_ro (hC h b) := hb
    have e : b ≠ a := fun q => by subst q; omega
    obtain ⟨cell, k1, k2⟩ := r5 b ty' hb hb'
    exact ⟨cell, (e3 b e).trans k1, k2⟩
theorem sm_R.lt {D : va_G} {base : Nat} {U : State} {h : sm_H} {H : Heap} (hR : sm_R D base U h H) {a : Nat} : (∀ ci q, hC h a = 16 + ci → xcl[ci]? = some q → a < H.size) ∧ (∀ ty, sm_ty (hC h a) = some ty → a < H.size) := by
  refine ⟨fun ci q h1 h2 => ?_, fun ty h1 => ?_⟩
  · obtain ⟨cell, h3, -⟩ := hR.2.2.1 a ci q h1 h2
    exact (Array.getElem?_eq_some_iff.mp h3).1
  · obtain ⟨cell, h3, -⟩ := hR.rd h1
    exact (Array.getElem?_eq_some_iff.mp h3).1
/-- a new object -/
theorem sm_R.mkO {D : va_G} {base : Nat} {U : State} {h : sm_H} {H H1 : Heap} (hR : sm_R D base U h H) {ci n : Nat} {dv : Nat → Value} {q : vw_C} (hb : base ≤ hT h) (hq : xcl[ci]? = some q)
    (e1 : t_OB (hT h) (D.1 ci) q.2.2 (D.2 ci) H1 (fun k => dv (128 * ci + k))) (e2 : H1.size = hT h + 1) (e3 : ∀ q, q < hT h → H1[q]? = H[q]?) : sm_R D base U (newO h ci n dv) H1 := by
  have hlt := fun (a : Nat) => hR.lt (a := a)
  obtain ⟨r1, r2, r3, r4, r5, r6⟩ := hR
  have hc : ∀ b, b ≠ hT h → hC (newO h ci n dv) b = hC h b := fun b e => if_neg e
  refine ⟨e2, fun b h1 h2 => ?_, fun b cj r h1 h2 => ?_, fun b ty' h1 h2 => ?_, fun b ty' h1 h2 => ?_, sm_Zn r6 r1 e2 e3 (sm_obS e1)⟩
  · by_cases e : b = hT h
    · rw [e]; exact hb
    · rw [hc b e] at h1 h2
      exact r2 b h1 h2
  · by_cases e : b = hT h
    · have h9 : hC (newO h ci n dv) b = 16 + ci := if_pos e
      have ec : cj = ci := by omega
      subst ec
      rw [hq] at h2
      cases h2
      subst e
      refine e1.to (fun j _ => ?_)
      show dv (128 * cj + j) = if hT h = hT h then dv (128 * cj + j) else _
      rw [if_pos rfl]
    · rw [hc b e] at h1
      have hl := (hlt b).1 cj r h1 h2
      rw [r1] at hl
      refine ((r3 b cj r h1 h2).kept (e3 b hl)).to (fun j _ => ?_)
      show hF h (128 * cj + j) b = if b = hT h then _ else hF h (128 * cj + j) b
      rw [if_neg e]
  · by_cases e : b = hT h
    · have h9 : hC (newO h ci n dv) b = 16 + ci := if_pos e
      rw [h9] at h2
      unfold sm_ty at h2
      split at h2 <;> first | omega | cases h2
    · rw [hc b e] at h1 h2
      have hl := (hlt b).2 ty' h2
      rw [r1] at hl
      obtain ⟨cB, k1, k2, k3⟩ := r4 b ty' h1 h2
      exact ⟨cB, k1, k2, (e3 b hl).trans k3⟩
  · by_cases e : b = hT h
    · have h9 : hC (newO h ci n dv) b = 16 + ci := if_pos e
      omega
    · rw [hc b e] at h1 h2
      have hl := (hlt b).2 ty' h2
      rw [r1] at hl
      obtain ⟨cell, k1, k2⟩ := r5 b ty' h1 h2
      exact ⟨cell, (e3 b hl).trans k1, k2⟩
/-- a new array -/
theorem sm_R.mkA {D : va_G} {base : Nat} {U : State} {h : sm_H} {H H1 : Heap} (hR : sm_R D base U h H) {t n : Nat} {dv : Value} {ty : FieldType} {cA : ClassId} (hb : base ≤ hT h) (ht : sm_ty t = some ty) (h15 : ¬ sm_ro t) (hA1 : ArrOfT U cA ty) (hA2 : va_RA U cA ty)
    (e1 : H1[hT h]? = some (arrV cA n (fun _ => dv))) (e2 : H1.size = hT h + 1) (e3 : ∀ q, q < hT h → H1[q]? = H[q]?) : sm_R D base U (newA h t n dv) H1 := by
  have hlt := fun (a : Nat) => hR.lt (a := a)
  obtain ⟨r1, r2, r3, r4, r5, r6⟩ := hR
  have hc : ∀ b, b ≠ hT h → hC (newA h t n dv) b = hC h b := fun b e => if_neg e
  have hl9 : ∀ b, b ≠ hT h → hL (newA h t n dv) b = hL h b := fun b e => if_neg e
  have ha9 : ∀ b, b ≠ hT h → hA (newA h t n dv) b = hA h b := fun b e => by
    funext j
    exact if_neg e
  have t16 : ∀ cj, t ≠ 16 + cj := by
    intro cj e
    rw [e] at ht
    unfold sm_ty at ht
    split at ht <;> first | omega | cases ht
  refine ⟨e2, fun b h1 h2 => ?_, fun b cj r h1 h2 => ?_, fun b ty' h1 h2 => ?_, fun b ty' h1 h2 => ?_, sm_Zn r6 r1 e2 e3 (sm_arS e1)⟩
  · by_cases e : b = hT h
    · rw [e]; exact hb
    · rw [hc b e] at h1 h2
      exact r2 b h1 h2
  · by_cases e : b = hT h
    · have h9 : hC (newA h t n dv) b = t := if_pos e
      exact absurd (h9.symm.trans h1) (t16 cj)
    · rw [hc b e] at h1
      have hl := (hlt b).1 cj r h1 h2
      rw [r1] at hl
      exact (r3 b cj r h1 h2).kept (e3 b hl)
  · by_cases e : b = hT h
    · have h9 : hC (newA h t n dv) b = t := if_pos e
      rw [h9, ht] at h2
      cases h2
      subst e
      refine ⟨cA, hA1, hA2, e1.trans ?_⟩
      have q1 : hL (newA h t n dv) (hT h) = n := if_pos rfl
      have q2 : hA (newA h t n dv) (hT h) = fun _ => dv := by
        funext j
        exact if_pos rfl
      rw [q1, q2]
    · rw [hc b e] at h1 h2
      have hl := (hlt b).2 ty' h2
      rw [r1] at hl
      obtain ⟨cB, k1, k2, k3⟩ := r4 b ty' h1 h2
      rw [hl9 b e, ha9 b e]
      exact ⟨cB, k1, k2, (e3 b hl).trans k3⟩
  · by_cases e : b = hT h
    · have h9 : hC (newA h t n dv) b = t := if_pos e
      exact absurd (by rw [h9] at h1; exact h1) h15
    · rw [hc b e] at h1 h2
      have hl := (hlt b).2 ty' h2
      rw [r1] at hl
      obtain ⟨cell, k1, k2⟩ := r5 b ty' h1 h2
      rw [hl9 b e, ha9 b e]
      exact ⟨cell, (e3 b hl).trans k1, k2⟩
end
section
/-! the heap's instructions: what the machine does -/
/-- what the tables say of the classes -/
def sm_cls (Ts : List Cond) : Prop := ∀ (ci : Nat) (q : vw_C), xcl[ci]? = some q → q.2.2 ≤ 128 ∧ (∀ w ∈ u_ws q.1 q.2.1 q.2.2, w ∈ Ts) ∧ (∀ k, k < q.2.2 → parseFieldDescriptor (q.2.1 k).2.2.1 = some (xty ci k)) ∧ (∀ a, a < q.2.2 → ∀ b, b < q.2.2 → a ≠ b → (q.2.1 a).2.1 ≠ (q.2.1 b).2.1)
/-- a field's link: k its place, z = 0 in its own class's reach, else a nest mate's -/
def sm_fok (Ts NW : List Cond) (own : String) (x ci k z : Nat) : Prop := ∃ (q : vw_C) (ref : String), xcl[ci]? = some q ∧ k < q.2.2 ∧ (ref = (q.2.1 k).1 ∨ Cond.sameField ref (q.2.1 k).1 (q.2.1 k).2.1 (q.2.1 k).2.2.1 ∈ Ts) ∧
  ((z = 0 ∧ Cond.fieldLink own x ref (q.2.1 k).2.1 (q.2.1 k).2.2.1 ∈ Ts) ∨ (z ≠ 0 ∧ ∃ host, Cond.fieldLinkNest own x ref (q.2.1 k).2.1 (q.2.1 k).2.2.1 host ∈ NW))
/-- a field that may be written there -/
def sm_wok (own mn : String) (ci k z : Nat) : Prop := ∃ q : vw_C, xcl[ci]? = some q ∧ ((q.2.1 k).2.2.2 = false ∨ ((q.2.1 k).2.2.2 = true ∧ z = 0 ∧ mn = "<init>" ∧ (q.2.1 k).1 = own))
def sm_hok (Ts NW : List Cond) (own mn : String) (i : Instr) (d : Nat × Nat) : Prop := match i with
  | .getfield x => sm_fok Ts NW own x d.1 (d.2 / 2) (d.2 % 2)
  | .putfield x => sm_fok Ts NW own x d.1 (d.2 / 2) (d.2 % 2) ∧ sm_wok own mn d.1 (d.2 / 2) (d.2 % 2)
  | .new x => d.2 = 0 → ∃ q : vw_C, xcl[d.1]? = some q ∧ Cond.classLink own x q.1 ∈ Ts ∧ Cond.instantiable q.1 q.2.2 ∈ Ts ∧ Cond.initialized q.1 ∈ Ts
  | .newarray t => Cond.arrayClass (newarray.typeOf t) ∈ Ts
  | .checkcast x => ∃ q : vw_C, xcl[d.1]? = some q ∧ Cond.classLink own x q.1 ∈ Ts
  | .anewarray x => Cond.classLink own x "java/lang/Object" ∈ Ts ∧ Cond.arrayOver (.object "java/lang/Object") ∈ NW
  | .aastore => ∀ (ci : Nat) (q : vw_C), ci < xob → xcl[ci]? = some q → Cond.castable q.1 "java/lang/Object" ∈ NW
  | .ldc x => Cond.constant own x (sm_k d) ∈ Ts
  | .ldc2_w x => Cond.constantLong own x (lN d.1) ∈ Ts
  | .getstatic x => Cond.fieldLink own x "java/util/ArrayList" "DEFAULTCAPACITY_EMPTY_ELEMENTDATA" "[Ljava/lang/Object;" ∈ Ts
  | _ => True
theorem sm_inn {i : Int32} {n m : Nat} (h : sm_in i n) (e : m = n) : ¬ (i < 0 ∨ m ≤ i.toNatClampNeg) := fun z => z.elim h.1 (fun z => by rw [e] at z; exact absurd h.2 (Nat.not_lt.mpr z))
section SMH
variable {p : Program} {l : Launch} {e : Env} {R : Room} {s : State} {m : MethodId} {args : Array Value} {below : List Frame} {meth : Method} {c : Code} {H : Heap} {locs : List Loc} {cells slots : Nat} {Q : State → Prop} {cc : ByteArray} {pc base : Nat} {ls : Array Slot} {S S' : List Value} {D : va_G} {h h' : sm_H} {Ts NW : List Cond} {own : String}
theorem sm_same {Ts : List Cond} (hts : ∀ w ∈ Ts, w.before args s = true) {ref o n t : String} (hs : ref = o ∨ Cond.sameField ref o n t ∈ Ts) : ∀ x, s.fieldFound? o n t = some x → s.fieldFound? ref n t = some x := by
  intro x hx
  rcases hs with rfl | hs
  · exact hx
  · exact u_same (hts _ hs) x hx
theorem sm_getf (hexec : p.tables.exec = Jvm.exec) (hb : c.code = cc) (hts : ∀ w ∈ Ts, w.before args s = true) (hnw : ∀ w ∈ NW, va_Nw w s) (hcl : sm_cls Ts) (hown : s.vm.findClass own = some m.cls) (hK : va_K D xcl [] s) (hR : sm_R D base s h H) {x ci k z a : Nat} {r : List Value} (hok : sm_fok Ts NW own x ci k z) (hC1 : hC h a = 16 + ci) (hdg : decode cc pc = .ok (.getfield x, 3))
    (kk : W p l e R s m args below meth c H locs cells slots Q (F0 m (pc + 3) ls (hF h (128 * ci + k) a :: r))) : W p l e R s m args below meth c H locs cells slots Q (F0 m pc ls (.ref a :: r)) := by
  obtain ⟨q, ref, hq, hk, hs, hlk⟩ := hok
  obtain ⟨-, hin, hty, -⟩ := hcl ci q hq
  obtain ⟨cell, q1, q2, q3, q4⟩ := hR.2.2.1 a ci q hC1 hq
  obtain ⟨hS, hfc, kC, hkC, hkind⟩ := hK.1 ci _ hq
  obtain ⟨cf, kf, fi, f, hi, hsl⟩ := hS k hk
  have hst := (u_facts hfc hkC (u_lays hts hin hk) hi).1
  rcases hlk with ⟨-, hl⟩ | ⟨-, host, hl⟩
  · exact W.getf hexec hb hown (hts _ hl) (sm_same hts hs _ hi) hst q1 (by rw [q3]; exact fun h => by cases h) (by rw [hsl]; exact q4 k hk) rfl rfl hdg kk
  · exact va_Wgetf hexec hb hown (va_Nw.use rfl (hnw _ hl)) (sm_same hts hs _ hi) hst q1 (by rw [q3]; exact fun h => by cases h) (by rw [hsl]; exact q4 k hk) rfl rfl hdg kk
theorem sm_putf (hexec : p.tables.exec = Jvm.exec) (hb : c.code = cc) (hts : ∀ w ∈ Ts, w.before args s = true) (hnw : ∀ w ∈ NW, va_Nw w s) (hcl : sm_cls Ts) (hown : s.vm.findClass own = some m.cls) (hK : va_K D xcl [] s) (hR : sm_R D base s h H) {x ci k z a : Nat} {v : Value} {r : List Value} (hok : sm_fok Ts NW own x ci k z) (hwk : sm_wok own meth.name ci k z) (hC1 : hC h a = 16 + ci) (hn : narrow (xty ci k) v = v) (hfit : fits (xty ci k) v = true) (hdg : decode cc pc = .ok (.putfield x, 3)) (hf : ∀ q ∈ locs, base ≤ q.base)
    (kk : ∀ (H' : Heap) (locs' : List Loc), sm_R D base s (putF h (128 * ci + k) a v) H' → (∀ q ∈ locs', base ≤ q.base) → W p l e R s m args below meth c H' locs' cells slots Q (F0 m (pc + 3) ls r)) : W p l e R s m args below meth c H locs cells slots Q (F0 m pc ls (v :: .ref a :: r)) := by
  obtain ⟨q, ref, hq, hk, hs, hlk⟩ := hok
  obtain ⟨q', hq', hwr⟩ := hwk
  rw [hq] at hq'
  cases hq'
  obtain ⟨hN, hin, hty, hnm⟩ := hcl ci q hq
  have hap := va_apart (own := own) (ci := ci) hts hin (xty ci) hty hnm hK hq
  obtain ⟨cell, q1, q2, q3, q4⟩ := hR.2.2.1 a ci q hC1 hq
  obtain ⟨hS, hfc, kC, hkC, hkind⟩ := hK.1 ci _ hq
  obtain ⟨cf, kf, fi, f, hi, hsl⟩ := hS k hk
  have hst := (u_facts hfc hkC (u_lays hts hin hk) hi).1
  have hba : base ≤ a := hR.2.1 a (by omega) (fun z => by omega)
  have done : ∀ H' : Heap, H'[a]? = some (cell.setSlot f.slot v) → H'.size = H.size → (∀ q, q ≠ a → H'[q]? = H[q]?) → W p l e R s m args below meth c H' (locs ++ [⟨a, f.slot⟩]) cells slots Q (F0 m (pc + 3) ls r) := by
    intro H' e1 e2 e3
    rw [hsl] at e1 ⊢
    refine kk H' _ (hR.setF hC1 hq (fun cj r hr => (hcl cj r hr).1) (by omega) ⟨_, e1, q2, q3, t_set q4 hap hk v⟩ e2 e3) (fun q hq => ?_)
    rcases List.mem_append.mp hq with h1 | h1
    · exact hf q h1
    · rw [List.mem_singleton.mp h1]
      exact hba
  have hlay := hts _ (hin _ (u_in_lay hk))
  unfold u_lay at hlay
  rcases hwr with hfin | ⟨hfin, hz, hmn, hdecl⟩
  · rw [if_neg (by rw [hfin]; decide)] at hlay
    have h6 := u_store hfc hkC hkind hlay hi (hty k hk) hn hfit
    rcases hlk with ⟨-, hl⟩ | ⟨-, host, hl⟩
    · exact W.putK hexec hb (f := f) ⟨hown, hts _ hl, ⟨_, _, _, sm_same hts hs _ hi⟩, hst⟩ (by rw [q2]; exact h6) q1 q3 (by rw [hsl]; exact k2_hasslot (q4 k hk)) rfl rfl hdg done
    · exact va_WputK hexec hb (f := f) hown (va_Nw.use rfl (hnw _ hl)) (sm_same hts hs _ hi) hst (by rw [q2]; exact h6) q1 q3 (by rw [hsl]; exact k2_hasslot (q4 k hk)) rfl rfl hdg done
  · rcases hlk with ⟨-, hl⟩ | ⟨h0, -⟩
    · rw [if_pos hfin] at hlay
      have hcf : m.cls = cf := by
        obtain ⟨_, _, c', _, _, _, -, -, hf', -, -, -, hown2, -⟩ := Cond.laysFinal_spec hlay
        have e1 : c' = cf := by have := hi.symm.trans hf'; simp at this; exact this.1.symm
        rw [hdecl] at hown2
        rw [← e1]; exact Option.some.inj (hown.symm.trans hown2)
      have h6 := u_fits hfc hkC hkind (Or.inr hlay) hi (hty k hk) hn hfit
      exact W.putFinK hexec hb hown (hts _ hl) (sm_same hts hs _ hi) hst hcf hmn (by rw [q2]; exact h6) q1 q3 (by rw [hsl]; exact k2_hasslot (q4 k hk)) rfl rfl hdg done
    · exact absurd hz h0
theorem sm_ast {a i : Nat} {v : Value} {ty : FieldType} (hR : sm_R D base s h H) (h15 : ¬ sm_ro (hC h a)) (ht : sm_ty (hC h a) = some ty) (hf : ∀ q ∈ locs, base ≤ q.base) {cA : ClassId} (hA1 : ArrOfT s cA ty) (hA2 : va_RA s cA ty)
    (kk : ∀ (H' : Heap) (locs' : List Loc), sm_R D base s (putA h a i v) H' → (∀ q ∈ locs', base ≤ q.base) → W p l e R s m args below meth c H' locs' cells slots Q (F0 m (pc + 1) ls S)) :
    ∀ H' : Heap, H'[a]? = some ((arrV cA (hL h a) (hA h a)).setSlot i v) → H'.size = H.size → (∀ q, q ≠ a → H'[q]? = H[q]?) → W p l e R s m args below meth c H' (locs ++ [⟨a, i⟩]) cells slots Q (F0 m (pc + 1) ls S) := by
  intro H' e1 e2 e3
  rw [arrV_store] at e1
  have hba : base ≤ a := hR.2.1 a (by intro z; rw [z] at ht; cases ht) h15
  refine kk H' _ (hR.setA h15 ht hA1 hA2 e1 e2 e3) (fun q hq => ?_)
  rcases List.mem_append.mp hq with h1 | h1
  · exact hf q h1
  · rw [List.mem_singleton.mp h1]
    exact hba
theorem sm_heap (hexec : p.tables.exec = Jvm.exec) (hb : c.code = cc) (hts : ∀ w ∈ Ts, w.before args s = true) (hnw : ∀ w ∈ NW, va_Nw w s) (hcl : sm_cls Ts) (hown : s.vm.findClass own = some m.cls) (hK : va_K D xcl [] s) (hR : sm_R D base s h H) {i : Instr} {d : Nat × Nat} (hdg : decode cc pc = .ok (i, sm_len i)) (hok : sm_hok Ts NW own meth.name i d) (hh : sm_hp i d S h = some (S', h'))
    (hf : ∀ q ∈ locs, base ≤ q.base) (hbs : base ≤ hT h) (hcells : cells + (hT h' - hT h) ≤ R.cells) (hslots : slots + (hU h' - hU h) ≤ R.slots)
    (kk : ∀ (H' : Heap) (locs' : List Loc), sm_R D base s h' H' → (∀ q ∈ locs', base ≤ q.base) → W p l e R s m args below meth c H' locs' (cells + (hT h' - hT h)) (slots + (hU h' - hU h)) Q (F0 m (pc + sm_len i) ls S')) : W p l e R s m args below meth c H locs cells slots Q (F0 m pc ls S) := by
  have z1 : ∀ t : sm_H, hT t - hT t = 0 := fun t => Nat.sub_self _
  have z2 : ∀ t : sm_H, hU t - hU t = 0 := fun t => Nat.sub_self _
  cases i with
  | getfield x =>
    replace hh : sm_gf d.1 (d.2 / 2) S h = some (S', h') := hh
    unfold sm_gf at hh
    split at hh
    · split at hh
      · rename_i hc
        cases hh
        refine sm_getf hexec hb hts hnw hcl hown hK hR hok hc hdg ?_
        have := kk H locs hR hf
        rw [z1, z2] at this
        exact this
      · cases hh
    · cases hh
  | putfield x =>
    replace hh : sm_pf d.1 (d.2 / 2) S h = some (S', h') := hh
    unfold sm_pf at hh
    split at hh
    · split at hh
      · rename_i hc
        cases hh
        exact sm_putf hexec hb hts hnw hcl hown hK hR hok.1 hok.2 hc.1 hc.2.1 hc.2.2 hdg hf (fun H' locs' r1 r2 => by
          have := kk H' locs' r1 r2
          rw [show hT (putF h (128 * d.1 + d.2 / 2) _ _) = hT h from rfl, show hU (putF h (128 * d.1 + d.2 / 2) _ _) = hU h from rfl, z1, z2] at this
          exact this)
      · cases hh
    · cases hh
  | new x =>
    replace hh : (if d.2 = 0 then sm_nw d.1 S h else none) = some (S', h') := hh
    split at hh
    · rename_i hd0
      unfold sm_nw at hh
      obtain ⟨q, hq, hl, hins, hini⟩ := hok hd0
      rw [hq] at hh
      cases hh
      obtain ⟨hN, hin, hty, hnm⟩ := hcl d.1 q hq
      have hKn := hK.1 d.1 q hq
      have w1 : hT h + 1 - hT h = 1 := by omega
      have w2 : hU h + q.2.2 - hU h = q.2.2 := by omega
      rw [show hT (newO h d.1 q.2.2 _) = hT h + 1 from rfl, w1] at hcells
      rw [show hU (newO h d.1 q.2.2 _) = hU h + q.2.2 from rfl, w2] at hslots
      refine W.newcK hexec hb hown (hts _ hl) (hts _ hins) (hts _ hini) rfl hdg hcells hslots hKn.2.1 hR.1 fun H1 kC hkC e1 e2 e3 => ?_
      have := kk H1 locs (hR.mkO (ci := d.1) (n := q.2.2) (dv := fun g => defaultValue (xty d.1 (g - 128 * d.1))) hbs hq ((u_born (xty d.1) hts hin hKn hkC e1 hty).to (fun j _ => by rw [show 128 * d.1 + j - 128 * d.1 = j by omega])) e2 e3) hf
      rw [show hT (newO h d.1 q.2.2 _) = hT h + 1 from rfl, w1, show hU (newO h d.1 q.2.2 _) = hU h + q.2.2 from rfl, w2] at this
      exact this
    · cases hh
  | newarray t =>
    replace hh : sm_na t S h = some (S', h') := hh
    unfold sm_na at hh
    split at hh
    · rename_i n r
      split at hh
      · rename_i hc
        cases hh
        have w1 : hT h + 1 - hT h = 1 := by omega
        have w2 : hU h + n.toNatClampNeg - hU h = n.toNatClampNeg := by omega
        rw [show hT (newA h (sm_nt t) n.toNatClampNeg _) = hT h + 1 from rfl, w1] at hcells
        rw [show hU (newA h (sm_nt t) n.toNatClampNeg _) = hU h + n.toNatClampNeg from rfl, w2] at hslots
        have ht : sm_ty (sm_nt t) = some (newarray.typeOf t) ∧ ¬ sm_ro (sm_nt t) := by
          have := hc.2.2
          cases t <;> first | exact ⟨rfl, by decide⟩ | exact absurd rfl this
        refine va_newaK hexec hb (hts _ hok) rfl hdg rfl hc.1 rfl hc.2.1 hcells hslots hR.1 fun H1 cA e1 e2 e3 hAr hNm => ?_
        have := kk H1 locs (hR.mkA hbs ht.1 ht.2 hAr (by cases t <;> exact hNm) e1 e2 e3) hf
        rw [show hT (newA h (sm_nt t) n.toNatClampNeg _) = hT h + 1 from rfl, w1, show hU (newA h (sm_nt t) n.toNatClampNeg _) = hU h + n.toNatClampNeg from rfl, w2] at this
        exact this
      · cases hh
    · cases hh
  | arraylength =>
    replace hh : sm_le S h = some (S', h') := hh
    unfold sm_le at hh
    split at hh
    · split at hh
      · rename_i a r hc
        cases hh
        obtain ⟨ty, ht⟩ := Option.isSome_iff_exists.mp hc
        obtain ⟨cell, c1, c2, c3, c4, c5⟩ := hR.rd ht
        refine W.alen hexec hb c1 c2 (n := nI (hL h a)) (by rw [c4]; rfl) rfl rfl hdg ?_
        have := kk H locs hR hf
        rw [z1, z2] at this
        exact this
      · cases hh
    · cases hh
  | iaload =>
    replace hh : sm_al .int S h = some (S', h') := hh
    unfold sm_al at hh
    split at hh
    · split at hh
      · rename_i a r hc
        cases hh
        obtain ⟨cell, c1, c2, c3, c4, c5⟩ := hR.rd hc.1
        have hn := sm_inn hc.2 c4
        refine W.iald hexec hb c1 c2 c3 hn (c5 _ hc.2.2) rfl rfl hdg ?_
        have := kk H locs hR hf
        rw [z1, z2] at this
        exact this
      · cases hh
    · cases hh
  | laload =>
    replace hh : sm_al .long S h = some (S', h') := hh
    unfold sm_al at hh
    split at hh
    · split at hh
      · rename_i a r hc
        cases hh
        obtain ⟨cell, c1, c2, c3, c4, c5⟩ := hR.rd hc.1
        have hn := sm_inn hc.2 c4
        refine W.lald hexec hb c1 c2 c3 hn (c5 _ hc.2.2) rfl rfl hdg ?_
        have := kk H locs hR hf
        rw [z1, z2] at this
        exact this
      · cases hh
    · cases hh
  | caload =>
    replace hh : sm_al .char S h = some (S', h') := hh
    unfold sm_al at hh
    split at hh
    · split at hh
      · rename_i a r hc
        cases hh
        obtain ⟨cell, c1, c2, c3, c4, c5⟩ := hR.rd hc.1
        have hn := sm_inn hc.2 c4
        refine W.cald hexec hb c1 c2 c3 hn (c5 _ hc.2.2) rfl rfl hdg ?_
        have := kk H locs hR hf
        rw [z1, z2] at this
        exact this
      · cases hh
    · cases hh
  | baload =>
    replace hh : sm_bl2 S h = some (S', h') := hh
    unfold sm_bl2 at hh
    split at hh
    · split at hh
      · rename_i a r hc
        cases hh
        rcases hc.1 with h4 | h4
        · obtain ⟨cell, c1, c2, c3, c4, c5⟩ := hR.rd (a := a) (ty := .byte) (by rw [h4]; rfl)
          have hn := sm_inn hc.2 c4
          refine W.bald hexec hb c1 c2 c3 hn (c5 _ hc.2.2) rfl rfl hdg ?_
          have := kk H locs hR hf
          rw [z1, z2] at this
          exact this
        · obtain ⟨cell, c1, c2, c3, c4, c5⟩ := hR.rd (a := a) (ty := .boolean) (by rw [h4]; rfl)
          have hn := sm_inn hc.2 c4
          refine W.zald hexec hb c1 c2 c3 hn (c5 _ hc.2.2) rfl rfl hdg ?_
          have := kk H locs hR hf
          rw [z1, z2] at this
          exact this
      · cases hh
    · cases hh
  | iastore =>
    replace hh : sm_ai S h = some (S', h') := hh
    unfold sm_ai at hh
    split at hh
    · split at hh
      · rename_i a r hc
        cases hh
        have h15 : ¬ sm_ro (hC h a) := by rw [hc.1]; decide
        have ht : sm_ty (hC h a) = some .int := by rw [hc.1]; rfl
        obtain ⟨cA, a1, a2, a3⟩ := hR.2.2.2.1 a .int h15 ht
        refine W.iast hexec hb a3 (a1 _ _) (fun q => by cases q) (by rw [arrV_size]; exact fun z => z.elim hc.2.1 (fun z => absurd hc.2.2 (Nat.not_lt.mpr z))) rfl rfl hdg (sm_ast hR h15 ht hf a1 a2 fun H' locs' r1 r2 => ?_)
        have := kk H' locs' r1 r2
        rw [show hT (putA h a _ _) = hT h from rfl, show hU (putA h a _ _) = hU h from rfl, z1, z2] at this
        exact this
      · cases hh
    · cases hh
  | lastore =>
    replace hh : sm_aj S h = some (S', h') := hh
    unfold sm_aj at hh
    split at hh
    · split at hh
      · rename_i a r hc
        cases hh
        have h15 : ¬ sm_ro (hC h a) := by rw [hc.1]; decide
        have ht : sm_ty (hC h a) = some .long := by rw [hc.1]; rfl
        obtain ⟨cA, a1, a2, a3⟩ := hR.2.2.2.1 a .long h15 ht
        refine W.last hexec hb a3 (a1 _ _) (fun q => by cases q) (by rw [arrV_size]; exact fun z => z.elim hc.2.1 (fun z => absurd hc.2.2 (Nat.not_lt.mpr z))) rfl rfl hdg (sm_ast hR h15 ht hf a1 a2 fun H' locs' r1 r2 => ?_)
        have := kk H' locs' r1 r2
        rw [show hT (putA h a _ _) = hT h from rfl, show hU (putA h a _ _) = hU h from rfl, z1, z2] at this
        exact this
      · cases hh
    · cases hh
  | castore =>
    replace hh : sm_ac S h = some (S', h') := hh
    unfold sm_ac at hh
    split at hh
    · split at hh
      · rename_i a r hc
        cases hh
        have h15 : ¬ sm_ro (hC h a) := by rw [hc.1]; decide
        have ht : sm_ty (hC h a) = some .char := by rw [hc.1]; rfl
        obtain ⟨cA, a1, a2, a3⟩ := hR.2.2.2.1 a .char h15 ht
        refine W.cast hexec hb a3 (a1 _ _) (fun q => by cases q) (by rw [arrV_size]; exact fun z => z.elim hc.2.1 (fun z => absurd hc.2.2 (Nat.not_lt.mpr z))) rfl rfl hdg (sm_ast hR h15 ht hf a1 a2 fun H' locs' r1 r2 => ?_)
        have := kk H' locs' r1 r2
        rw [show hT (putA h a _ _) = hT h from rfl, show hU (putA h a _ _) = hU h from rfl, z1, z2] at this
        exact this
      · cases hh
    · cases hh
  | bastore =>
    replace hh : sm_ab S h = some (S', h') := hh
    unfold sm_ab at hh
    split at hh
    · split at hh
      · rename_i a r hc
        cases hh
        have h15 : ¬ sm_ro (hC h a) := by rw [hc.1]; decide
        have ht : sm_ty (hC h a) = some .byte := by rw [hc.1]; rfl
        obtain ⟨cA, a1, a2, a3⟩ := hR.2.2.2.1 a .byte h15 ht
        refine W.bast hexec hb a3 (a1 _ _) (fun q => by cases q) (by rw [arrV_size]; exact fun z => z.elim hc.2.1 (fun z => absurd hc.2.2 (Nat.not_lt.mpr z))) rfl rfl hdg (sm_ast hR h15 ht hf a1 a2 fun H' locs' r1 r2 => ?_)
        have := kk H' locs' r1 r2
        rw [show hT (putA h a _ _) = hT h from rfl, show hU (putA h a _ _) = hU h from rfl, z1, z2] at this
        exact this
      · split at hh
        · rename_i a r _ hc
          cases hh
          have h15 : ¬ sm_ro (hC h a) := by rw [hc.1]; decide
          have ht : sm_ty (hC h a) = some .boolean := by rw [hc.1]; rfl
          obtain ⟨cA, a1, a2, a3⟩ := hR.2.2.2.1 a .boolean h15 ht
          refine W.zast hexec hb a3 (a1 _ _) (fun q => by cases q) (by rw [arrV_size]; exact fun z => z.elim hc.2.1 (fun z => absurd hc.2.2 (Nat.not_lt.mpr z))) rfl rfl hdg (sm_ast hR h15 ht hf a1 a2 fun H' locs' r1 r2 => ?_)
          have := kk H' locs' r1 r2
          rw [show hT (putA h a _ _) = hT h from rfl, show hU (putA h a _ _) = hU h from rfl, z1, z2] at this
          exact this
        · cases hh
    · cases hh
  | checkcast x =>
    replace hh : sm_cc d.1 S h = some (S', h') := hh
    unfold sm_cc at hh
    obtain ⟨q, hq, hl⟩ := hok
    split at hh
    · cases hh
      refine lv_castN hexec hb hdg ?_
      have := kk H locs hR hf
      rw [z1, z2] at this
      exact this
    · split at hh
      · rename_i a r hc
        cases hh
        obtain ⟨cell, q1, q2, q3, q4⟩ := hR.2.2.1 a d.1 q hc hq
        have hKn := hK.1 d.1 q hq
        refine va_castS hexec hb hown (hts _ hl) hKn.2 ⟨cell, q1, by rw [q3]; rfl, by rw [q2]; exact hKn.2.1⟩ hdg ?_
        have := kk H locs hR hf
        rw [z1, z2] at this
        exact this
      · cases hh
    · cases hh
  | anewarray x =>
    replace hh : sm_an S h = some (S', h') := hh
    unfold sm_an at hh
    split at hh
    · rename_i n r
      split at hh
      · rename_i hc
        cases hh
        have w1 : hT h + 1 - hT h = 1 := by omega
        have w2 : hU h + n.toNatClampNeg - hU h = n.toNatClampNeg := by omega
        rw [show hT (newA h 7 n.toNatClampNeg .null) = hT h + 1 from rfl, w1] at hcells
        rw [show hU (newA h 7 n.toNatClampNeg .null) = hU h + n.toNatClampNeg from rfl, w2] at hslots
        refine W.anew hexec hb hown (hts _ hok.1) (va_AO.use (C := "java/lang/Object") (hnw _ hok.2)) rfl hdg rfl hc.1 hc.2 hcells hslots fun cA kA comp f1 f2 f3 f4 => ?_
        have e1 : (H.push ({ cls := cA, slots := Array.replicate n.toNatClampNeg .null, vm := .none } : Cell))[hT h]? = some (arrV cA n.toNatClampNeg (fun _ => .null)) := by rw [← hR.1, Array.getElem?_push_size, ← arrV_new]
        have e2 : (H.push ({ cls := cA, slots := Array.replicate n.toNatClampNeg .null, vm := .none } : Cell)).size = hT h + 1 := by rw [Array.size_push, hR.1]
        have e3 : ∀ q : Nat, q < hT h → (H.push ({ cls := cA, slots := Array.replicate n.toNatClampNeg .null, vm := .none } : Cell))[q]? = H[q]? := fun q hq => by rw [Array.getElem?_push, if_neg (by rw [hR.1]; omega)]
        have := kk _ locs (hR.mkA (t := 7) (ty := .object "java/lang/Object") hbs rfl (by decide) (fun N z => ⟨(fun k h => by cases h), kA, f2, comp, f3⟩) ⟨kA, comp, f2, f3, f4, f1⟩ e1 e2 e3) hf
        rw [show hT (newA h 7 n.toNatClampNeg .null) = hT h + 1 from rfl, w1, show hU (newA h 7 n.toNatClampNeg .null) = hU h + n.toNatClampNeg from rfl, w2] at this
        rw [hR.1]
        exact this
      · cases hh
    · cases hh
  | aaload =>
    replace hh : sm_al (.object "java/lang/Object") S h = some (S', h') := hh
    unfold sm_al at hh
    split at hh
    · split at hh
      · rename_i a r hc
        cases hh
        obtain ⟨cell, c1, c2, c3, c4, c5⟩ := hR.rd hc.1
        have hn := sm_inn hc.2 c4
        refine W.aald hexec hb c1 c2 rfl c3 hn (c5 _ hc.2.2) rfl rfl hdg ?_
        have := kk H locs hR hf
        rw [z1, z2] at this
        exact this
      · cases hh
    · cases hh
  | aastore =>
    replace hh : sm_aa S h = some (S', h') := hh
    unfold sm_aa at hh
    split at hh
    · split at hh
      · rename_i v i a r hc
        cases hh
        have h15 : ¬ sm_ro (hC h a) := by rw [hc.1]; decide
        have ht : sm_ty (hC h a) = some (.object "java/lang/Object") := by rw [hc.1]; rfl
        obtain ⟨cA, a1, a2, a3⟩ := hR.2.2.2.1 a _ h15 ht
        obtain ⟨ci, hci⟩ : ∃ ci, hC h v = 16 + ci := ⟨hC h v - 16, by omega⟩
        have hlt : ci < xob := by omega
        obtain ⟨q, hq⟩ : ∃ q, xcl[ci]? = some q := ⟨_, List.getElem?_eq_getElem (Nat.lt_of_lt_of_le hlt xob_le)⟩
        obtain ⟨cellV, g1, g2, g3, -⟩ := hR.2.2.1 v ci q hci hq
        have hcls := (hK.1 ci q hq).2
        obtain ⟨kA, comp, k1, k2, k3, -⟩ := id a2
        obtain ⟨kE, hkE, -⟩ := Vm.findClass_spec k3
        obtain ⟨c0, t1, f1, f2, f3⟩ := Cond.castable_spec (va_Nw.use (A := args) rfl (hnw _ (hok ci q hlt hq)))
        cases hcls.1.symm.trans f1
        cases k3.symm.trans f2
        obtain ⟨kC, hkC, -⟩ := hcls.2
        refine W.aast hexec hb a3 (fun q h => by cases h) (fun h => by cases h) k1 k2 rfl hkE ⟨hc.2.1.1, by rw [arrV_size]; exact hc.2.1.2⟩ g1 (fun q h => by rw [g3] at h; cases h) (by rw [g2]; exact hkC) (by rw [g2]; exact f3) rfl rfl hdg (sm_ast hR h15 ht hf a1 a2 fun H' locs' r1 r2 => ?_)
        have := kk H' locs' r1 r2
        rw [show hT (putA h a _ _) = hT h from rfl, show hU (putA h a _ _) = hU h from rfl, z1, z2] at this
        exact this
      · cases hh
    · split at hh
      · rename_i i a r hc
        cases hh
        have h15 : ¬ sm_ro (hC h a) := by rw [hc.1]; decide
        have ht : sm_ty (hC h a) = some (.object "java/lang/Object") := by rw [hc.1]; rfl
        obtain ⟨cA, a1, a2, a3⟩ := hR.2.2.2.1 a _ h15 ht
        refine va_WaastN hexec hb a3 (a1 _ _) (fun q => by cases q) (by rw [arrV_size]; exact fun z => z.elim hc.2.1 (fun z => absurd hc.2.2 (Nat.not_lt.mpr z))) rfl rfl hdg (sm_ast hR h15 ht hf a1 a2 fun H' locs' r1 r2 => ?_)
        have := kk H' locs' r1 r2
        rw [show hT (putA h a _ _) = hT h from rfl, show hU (putA h a _ _) = hU h from rfl, z1, z2] at this
        exact this
      · cases hh
    · cases hh
  | ldc x =>
    cases hh
    refine lv_ldc hexec hb hown (hts _ hok) hdg ?_
    have := kk H locs hR hf
    rw [z1, z2] at this
    exact this
  | ldc2_w x =>
    cases hh
    refine lv_ldc2 hexec hb hown (hts _ hok) hdg ?_
    have := kk H locs hR hf
    rw [z1, z2] at this
    exact this
  | getstatic x =>
    cases hh
    obtain ⟨cf, kf, fi, f, a, cell, g1, g2, g3, g4, g5, g6, g7, g8⟩ := hR.2.2.2.2.2.1
    refine W.gets hexec hb hown (hts _ hok) g1 g2 g3 g4 g5 (fun e => by rw [e] at g6; cases g6) g7 rfl hdg ?_
    have := kk H locs hR hf
    rw [z1, z2] at this
    exact this
  | _ => cases hh
end SMH
end
section
/-! an instruction of method j at pc, with what the tables tell of it; nothing where they don't tell enough -/
def sm_isw (i : Instr) : Bool := match i with
  | .tableswitch _ _ _ _ | .lookupswitch _ _ => true
  | _ => false
def sm_kd (n : Int) : Nat × Nat := if 0 ≤ n then (n.toNat, 0) else ((-n).toNat, 1)
def xlk (t : List (List (Nat × Nat × Nat))) (o x : Nat) : Option (Nat × Nat) := ((t.getD o []).find? (fun e => e.1 == x)).map (fun e => e.2)
def xfin (ci k : Nat) : Bool := match xcl[ci]? with
  | some q => (q.2.1 k).2.2.2
  | none => true
def xtg (pc : Nat) (o : Int) : Option (Nat × Nat) := if (pc : Int) + o = ((((pc : Int) + o).toNat : Nat) : Int) then some (((pc : Int) + o).toNat, 0) else none
def xif (c : Bool) (d : Option (Nat × Nat)) : Option (Nat × Nat) := if c = true then d else none
def xroom (j k : Nat) : Bool := decide (xrk k + 1 ≤ xrk j) && decide (8 + (xml k + 11) + xrl k ≤ xrl j)
def xrs (j pc : Nat) (i : Instr) : Option (Nat × Nat) := match i with
  | .iconst n => xif (decide (Int32.ofInt n = sm_k (sm_kd n))) (some (sm_kd n))
  | .bipush n => xif (decide ((Int8.ofInt n).toInt32 = sm_k (sm_kd n))) (some (sm_kd n))
  | .sipush n => xif (decide ((Int16.ofInt n).toInt32 = sm_k (sm_kd n))) (some (sm_kd n))
  | .iinc _ n => xif (decide (Int32.ofInt n = sm_k (sm_kd n))) (some (sm_kd n))
  | .goto o => xtg pc o
  | .if_icmp _ o => xtg pc o
  | .ifCond _ o => xtg pc o
  | .ifnull o => xtg pc o
  | .ifnonnull o => xtg pc o
  | .if_acmp _ o => xtg pc o
  | .getfield x => xlk xlF (xow j) x
  | .putfield x => match xlk xlF (xow j) x with
    | some d => xif (!(xfin d.1 (d.2 / 2)) || (decide (xkd j = 2) && decide (d.2 % 2 = 0) && decide (d.1 = xow j))) (some d)
    | none => none
  | .new x => match xlk xlC (xow j) x with
    | some d => xif (decide (d.2 = 0) || (xtf j pc).isSome) (some d)
    | none => none
  | .newarray t => xif (decide (sm_nt t ≠ 0)) (some (0, 0))
  | .checkcast x => xlk xlC (xow j) x
  | .anewarray x => xlk xlA (xow j) x
  | .ldc x => xlk xlN (xow j) x
  | .ldc2_w x => xlk xlJ (xow j) x
  | .getstatic x => xlk xlS (xow j) x
  | .invokevirtual x => match xlk xlM (xow j) x with
    | some d => xif (decide (d.2 < 2) && decide (xkd d.1 = 0) && xroom j d.1) (some d)
    | none => none
  | .invokestatic x => match xlk xlM (xow j) x with
    | some d => xif ((decide (d.2 < 2) && decide (xkd d.1 = 1) && xroom j d.1) || (decide (d.2 = 3) && decide (xkd d.1 = 4) && xroom j d.1) || ((decide (d.2 = 4) || decide (d.2 = 5)) && decide (1 ≤ xrk j) && decide (21 ≤ xrl j)) || (decide (d.2 = 6) && decide (3 ≤ xrk j) && decide (85 ≤ xrl j))) (some d)
    | none => none
  | .invokespecial x => match xlk xlM (xow j) x with
    | some d => xif ((decide (d.2 = 2) && decide (1 ≤ xrk j) && decide (20 ≤ xrl j)) || (decide (d.2 < 2) && decide (xkd d.1 = 2) && xroom j d.1)) (some d)
    | none => none
  | _ => some (0, 0)
def xat (j pc : Nat) : Option (Instr × Nat × Nat) := match decode (xcc j) pc with
  | .ok (i, len) => if sm_isw i = true ∨ len = sm_len i then (match xrs j pc i with
    | some d => some (i, d)
    | none => none) else none
  | _ => none
end
section
/-! the code of each method as a list of (pc, instruction, what the tables tell of it); k_j: it is what xat tells -/
def sm_lk (pc : Nat) : List (Nat × Instr × Nat × Nat) → Option (Instr × Nat × Nat)
  | [] => none
  | e :: l => cond (Nat.beq e.1 pc) (some e.2) (sm_lk pc l)
theorem sm_lk_mem {pc : Nat} {x : Instr × Nat × Nat} : ∀ {l : List (Nat × Instr × Nat × Nat)}, sm_lk pc l = some x → (pc, x) ∈ l
  | [], h => by cases h
  | e :: l, h => by
    unfold sm_lk at h
    cases hb : Nat.beq e.1 pc with
    | true =>
      rw [hb] at h
      have h1 : e.1 = pc := Nat.eq_of_beq_eq_true hb
      have h2 : e.2 = x := Option.some.inj h
      rw [← h1, ← h2]
      exact List.mem_cons_self
    | false =>
      rw [hb] at h
      exact List.mem_cons_of_mem _ (sm_lk_mem h)
/-- a table of method j's code -/
def sm_tab (j : Nat) (t : Nat → Option (Instr × Nat × Nat)) : Prop := ∀ pc e, t pc = some e → xat j pc = some e
theorem sm_tabOf {j : Nat} {l : List (Nat × Instr × Nat × Nat)} (h : l.all (fun e => decide (xat j e.1 = some e.2)) = true) : sm_tab j (fun pc => sm_lk pc l) := by
  intro pc e he
  have h1 := List.all_eq_true.mp h (pc, e) (sm_lk_mem he)
  dsimp only at h1
  exact of_decide_eq_true h1
end
section
/-- BuildingText.<init>()V -/
def l_0 : List (Nat × Instr × Nat × Nat) := [(0, .aload_n 0, 0, 0), (1, .invokespecial 1, 0, 2), (4, .aload_n 0, 0, 0), (5, .sipush 3000, 3000, 0), (8, .newarray .char, 0, 0), (10, .putfield 9, 0, 0), (13, .aload_n 0, 0, 0), (14, .new 13, 10, 0), (17, .dup, 0, 0), (18, .invokespecial 15, 144, 0), (21, .putfield 16, 0, 4), (24, .aload_n 0, 0, 0), (25, .new 20, 1, 0), (28, .dup, 0, 0), (29, .invokespecial 22, 17, 1), (32, .putfield 23, 0, 6), (35, .aload_n 0, 0, 0), (36, .getfield 16, 0, 4), (39, .aload_n 0, 0, 0), (40, .getfield 23, 0, 6), (43, .invokevirtual 27, 145, 0), (46, .pop, 0, 0), (47, .aload_n 0, 0, 0), (48, .new 31, 3, 0), (51, .dup, 0, 0), (52, .invokespecial 33, 27, 1), (55, .putfield 34, 0, 8), (58, .aload_n 0, 0, 0), (59, .new 38, 4, 0), (62, .dup, 0, 0), (63, .invokespecial 40, 39, 1), (66, .putfield 41, 0, 10), (69, .aload_n 0, 0, 0), (70, .new 45, 7, 0), (73, .dup, 0, 0), (74, .invokespecial 47, 51, 1), (77, .putfield 48, 0, 12), (80, .aload_n 0, 0, 0), (81, .bipush 60, 60, 0), (83, .newarray .int, 0, 0), (85, .putfield 52, 0, 14), (88, .return_, 0, 0)]
theorem k_0 : sm_tab 0 (fun pc => sm_lk pc l_0) := sm_tabOf (by decide +kernel)
/-- BuildingText.named(I)I -/
def l_1 : List (Nat × Instr × Nat × Nat) := [(0, .aload_n 0, 0, 0), (1, .getfield 23, 0, 6), (4, .iload_n 1, 0, 0), (5, .invokevirtual 138, 18, 1), (8, .ireturn, 0, 0)]
theorem k_1 : sm_tab 1 (fun pc => sm_lk pc l_1) := sm_tabOf (by decide +kernel)
/-- BuildingText.check()I -/
def l_2 : List (Nat × Instr × Nat × Nat) := [(0, .aload_n 0, 0, 0), (1, .getfield 41, 0, 10), (4, .getfield 142, 4, 1), (7, .invokevirtual 85, 149, 0), (10, .ireturn, 0, 0)]
theorem k_2 : sm_tab 2 (fun pc => sm_lk pc l_2) := sm_tabOf (by decide +kernel)
/-- BuildingText.print()I -/
def l_3 : List (Nat × Instr × Nat × Nat) := [(0, .aload_n 0, 0, 0), (1, .getfield 48, 0, 12), (4, .aload_n 0, 0, 0), (5, .getfield 23, 0, 6), (8, .invokevirtual 209, 52, 1), (11, .aload_n 0, 0, 0), (12, .getfield 48, 0, 12), (15, .getfield 212, 7, 3), (18, .ireturn, 0, 0)]
theorem k_3 : sm_tab 3 (fun pc => sm_lk pc l_3) := sm_tabOf (by decide +kernel)
/-- BuildingText.count(I)I -/
def l_4 : List (Nat × Instr × Nat × Nat) := [(0, .iload_n 1, 0, 0), (1, .tableswitch 83 0 4 #[35, 46, 57, 68, 78], 0, 0), (36, .aload_n 0, 0, 0), (37, .getfield 23, 0, 6), (40, .getfield 94, 1, 1), (43, .invokevirtual 85, 149, 0), (46, .ireturn, 0, 0), (47, .aload_n 0, 0, 0), (48, .getfield 23, 0, 6), (51, .getfield 218, 1, 3), (54, .invokevirtual 85, 149, 0), (57, .ireturn, 0, 0), (58, .aload_n 0, 0, 0), (59, .getfield 23, 0, 6), (62, .getfield 221, 1, 5), (65, .invokevirtual 85, 149, 0), (68, .ireturn, 0, 0), (69, .aload_n 0, 0, 0), (70, .getfield 16, 0, 4), (73, .invokevirtual 85, 149, 0), (76, .iconst 1, 1, 0), (77, .isub, 0, 0), (78, .ireturn, 0, 0), (79, .aload_n 0, 0, 0), (80, .getfield 63, 0, 2), (83, .ireturn, 0, 0), (84, .iconst (-1), 1, 1), (85, .ireturn, 0, 0)]
theorem k_4 : sm_tab 4 (fun pc => sm_lk pc l_4) := sm_tabOf (by decide +kernel)
/-- BuildingText.sign(I)V -/
def l_5 : List (Nat × Instr × Nat × Nat) := [(0, .iload_n 1, 0, 0), (1, .bipush 10, 10, 0), (3, .if_icmp .eq 25, 28, 0), (6, .iload_n 1, 0, 0), (7, .bipush 32, 32, 0), (9, .if_icmp .lt 9, 18, 0), (12, .iload_n 1, 0, 0), (13, .bipush 126, 126, 0), (15, .if_icmp .le 13, 28, 0), (18, .new 56, 11, 1), (21, .dup, 0, 0), (27, .athrow, 0, 0), (28, .aload_n 0, 0, 0), (29, .getfield 63, 0, 2), (32, .sipush 3000, 3000, 0), (35, .if_icmp .lt 13, 48, 0), (38, .new 67, 12, 1), (41, .dup, 0, 0), (47, .athrow, 0, 0), (48, .aload_n 0, 0, 0), (49, .getfield 9, 0, 0), (52, .aload_n 0, 0, 0), (53, .getfield 63, 0, 2), (56, .iload_n 1, 0, 0), (57, .i2c, 0, 0), (58, .castore, 0, 0), (59, .aload_n 0, 0, 0), (60, .dup, 0, 0), (61, .getfield 63, 0, 2), (64, .iconst 1, 1, 0), (65, .iadd, 0, 0), (66, .putfield 63, 0, 2), (69, .return_, 0, 0)]
theorem k_5 : sm_tab 5 (fun pc => sm_lk pc l_5) := sm_tabOf (by decide +kernel)
/-- BuildingText.read()I -/
def l_6 : List (Nat × Instr × Nat × Nat) := [(0, .new 20, 1, 0), (3, .dup, 0, 0), (4, .invokespecial 22, 17, 1), (7, .astore_n 1, 0, 0), (8, .new 72, 8, 0), (11, .dup, 0, 0), (12, .aload_n 0, 0, 0), (13, .getfield 9, 0, 0), (16, .aload_n 0, 0, 0), (17, .getfield 63, 0, 2), (20, .aload_n 1, 0, 0), (21, .invokespecial 74, 58, 1), (24, .astore_n 2, 0, 0), (25, .aload_n 2, 0, 0), (26, .invokevirtual 77, 59, 1), (29, .istore_n 3, 0, 0), (30, .aload_n 0, 0, 0), (31, .iconst 0, 0, 0), (32, .putfield 63, 0, 2), (35, .iload_n 3, 0, 0), (36, .iconst (-1), 1, 1), (37, .if_icmp .eq 7, 44, 0), (40, .iconst (-1), 1, 1), (41, .iload_n 3, 0, 0), (42, .isub, 0, 0), (43, .ireturn, 0, 0), (44, .aload_n 1, 0, 0), (45, .invokevirtual 81, 22, 1), (48, .ifCond .ne 15, 63, 0), (51, .aload_n 0, 0, 0), (52, .getfield 16, 0, 4), (55, .invokevirtual 85, 149, 0), (58, .bipush 7, 7, 0), (60, .if_icmp .le 13, 73, 0), (63, .new 67, 12, 1), (66, .dup, 0, 0), (72, .athrow, 0, 0), (73, .aload_n 0, 0, 0), (74, .aload_n 1, 0, 0), (75, .invokevirtual 90, 7, 0), (78, .aload_n 1, 0, 0), (79, .getfield 94, 1, 1), (82, .invokevirtual 85, 149, 0), (85, .ireturn, 0, 0)]
theorem k_6 : sm_tab 6 (fun pc => sm_lk pc l_6) := sm_tabOf (by decide +kernel)
/-- BuildingText.take(LBuildingText$Edition;)V -/
def l_7 : List (Nat × Instr × Nat × Nat) := [(0, .aload_n 0, 0, 0), (1, .getfield 16, 0, 4), (4, .aload_n 1, 0, 0), (5, .invokevirtual 27, 145, 0), (8, .pop, 0, 0), (9, .aload_n 0, 0, 0), (10, .aload_n 1, 0, 0), (11, .putfield 23, 0, 6), (14, .aload_n 0, 0, 0), (15, .getfield 34, 0, 8), (18, .aload_n 1, 0, 0), (19, .invokevirtual 97, 28, 1), (22, .aload_n 0, 0, 0), (23, .getfield 41, 0, 10), (26, .aload_n 1, 0, 0), (27, .aload_n 0, 0, 0), (28, .getfield 34, 0, 8), (31, .invokevirtual 100, 40, 1), (34, .return_, 0, 0)]
theorem k_7 : sm_tab 7 (fun pc => sm_lk pc l_7) := sm_tabOf (by decide +kernel)
/-- BuildingText.place(II)I -/
def l_8 : List (Nat × Instr × Nat × Nat) := [(0, .aload_n 0, 0, 0), (1, .getfield 23, 0, 6), (4, .iload_n 1, 0, 0), (5, .invokevirtual 104, 23, 1), (8, .astore_n 3, 0, 0), (9, .aload_n 3, 0, 0), (10, .ifnonnull 13, 23, 0), (13, .new 56, 11, 1), (16, .dup, 0, 0), (22, .athrow, 0, 0), (23, .iload_n 2, 0, 0), (24, .tableswitch 88 0 7 #[48, 53, 58, 63, 68, 73, 78, 83], 0, 0), (72, .aload_n 3, 0, 0), (73, .getfield 110, 6, 3), (76, .ireturn, 0, 0), (77, .aload_n 3, 0, 0), (78, .getfield 115, 6, 5), (81, .ireturn, 0, 0), (82, .aload_n 3, 0, 0), (83, .getfield 118, 6, 7), (86, .ireturn, 0, 0), (87, .aload_n 3, 0, 0), (88, .getfield 121, 6, 9), (91, .ireturn, 0, 0), (92, .aload_n 3, 0, 0), (93, .getfield 124, 6, 11), (96, .ireturn, 0, 0), (97, .aload_n 3, 0, 0), (98, .getfield 127, 6, 13), (101, .ireturn, 0, 0), (102, .aload_n 3, 0, 0), (103, .getfield 130, 6, 15), (106, .ireturn, 0, 0), (107, .aload_n 3, 0, 0), (108, .getfield 133, 6, 17), (111, .ireturn, 0, 0), (112, .new 56, 11, 1), (115, .dup, 0, 0), (121, .athrow, 0, 0)]
theorem k_8 : sm_tab 8 (fun pc => sm_lk pc l_8) := sm_tabOf (by decide +kernel)
/-- BuildingText.fault(II)I -/
def l_9 : List (Nat × Instr × Nat × Nat) := [(0, .iload_n 1, 0, 0), (1, .ifCond .lt 17, 18, 0), (4, .iload_n 1, 0, 0), (5, .aload_n 0, 0, 0), (6, .getfield 41, 0, 10), (9, .getfield 142, 4, 1), (12, .invokevirtual 85, 149, 0), (15, .if_icmp .lt 13, 28, 0), (18, .new 145, 13, 1), (21, .dup, 0, 0), (27, .athrow, 0, 0), (28, .aload_n 0, 0, 0), (29, .getfield 41, 0, 10), (32, .getfield 142, 4, 1), (35, .iload_n 1, 0, 0), (36, .invokevirtual 150, 150, 0), (39, .checkcast 154, 2, 0), (42, .astore_n 3, 0, 0), (43, .iload_n 2, 0, 0), (44, .tableswitch 43 0 2 #[28, 33, 38], 0, 0), (72, .aload_n 3, 0, 0), (73, .getfield 156, 2, 1), (76, .ireturn, 0, 0), (77, .aload_n 3, 0, 0), (78, .getfield 157, 2, 3), (81, .ireturn, 0, 0), (82, .aload_n 3, 0, 0), (83, .getfield 160, 2, 5), (86, .ireturn, 0, 0), (87, .new 56, 11, 1), (90, .dup, 0, 0), (96, .athrow, 0, 0)]
theorem k_9 : sm_tab 9 (fun pc => sm_lk pc l_9) := sm_tabOf (by decide +kernel)
/-- BuildingText.piece(II)I -/
def l_10 : List (Nat × Instr × Nat × Nat) := [(0, .aload_n 0, 0, 0), (1, .getfield 23, 0, 6), (4, .iload_n 1, 0, 0), (5, .invokevirtual 163, 24, 1), (8, .istore_n 3, 0, 0), (9, .iload_n 3, 0, 0), (10, .iconst (-1), 1, 1), (11, .if_icmp .ne 13, 24, 0), (14, .new 145, 13, 1), (17, .dup, 0, 0), (23, .athrow, 0, 0), (24, .iload_n 2, 0, 0), (25, .tableswitch 89 0 4 #[35, 37, 54, 71, 80], 0, 0), (60, .iload_n 3, 0, 0), (61, .ireturn, 0, 0), (62, .aload_n 0, 0, 0), (63, .getfield 34, 0, 8), (66, .iload_n 3, 0, 0), (67, .invokevirtual 168, 35, 1), (70, .ifCond .eq 7, 77, 0), (73, .iconst 1, 1, 0), (74, .goto 4, 78, 0), (77, .iconst 0, 0, 0), (78, .ireturn, 0, 0), (79, .aload_n 0, 0, 0), (80, .getfield 34, 0, 8), (83, .iload_n 3, 0, 0), (84, .invokevirtual 172, 36, 1), (87, .ifCond .eq 7, 94, 0), (90, .iconst 1, 1, 0), (91, .goto 4, 95, 0), (94, .iconst 0, 0, 0), (95, .ireturn, 0, 0), (96, .aload_n 0, 0, 0), (97, .getfield 34, 0, 8), (100, .iload_n 3, 0, 0), (101, .invokevirtual 175, 37, 1), (104, .ireturn, 0, 0), (105, .aload_n 0, 0, 0), (106, .getfield 34, 0, 8), (109, .iload_n 3, 0, 0), (110, .invokevirtual 178, 38, 1), (113, .ireturn, 0, 0), (114, .new 56, 11, 1), (117, .dup, 0, 0), (123, .athrow, 0, 0)]
theorem k_10 : sm_tab 10 (fun pc => sm_lk pc l_10) := sm_tabOf (by decide +kernel)
/-- BuildingText.inside(II)Z -/
def l_11 : List (Nat × Instr × Nat × Nat) := [(0, .aload_n 0, 0, 0), (1, .getfield 23, 0, 6), (4, .iload_n 1, 0, 0), (5, .invokevirtual 104, 23, 1), (8, .astore_n 3, 0, 0), (9, .aload_n 0, 0, 0), (10, .getfield 23, 0, 6), (13, .iload_n 2, 0, 0), (14, .invokevirtual 104, 23, 1), (17, .astore 4, 0, 0), (19, .aload_n 3, 0, 0), (20, .ifnull 11, 31, 0), (23, .aload_n 3, 0, 0), (24, .getfield 110, 6, 3), (27, .iconst 1, 1, 0), (28, .if_icmp .eq 13, 41, 0), (31, .new 56, 11, 1), (34, .dup, 0, 0), (40, .athrow, 0, 0), (41, .aload 4, 0, 0), (43, .ifnull 11, 54, 0), (46, .aload 4, 0, 0), (48, .getfield 110, 6, 3), (51, .ifCond .eq 13, 64, 0), (54, .new 56, 11, 1), (57, .dup, 0, 0), (63, .athrow, 0, 0), (64, .aload 4, 0, 0), (66, .aload_n 3, 0, 0), (67, .invokevirtual 185, 49, 1), (70, .ireturn, 0, 0)]
theorem k_11 : sm_tab 11 (fun pc => sm_lk pc l_11) := sm_tabOf (by decide +kernel)
/-- BuildingText.fill(III)V -/
def l_12 : List (Nat × Instr × Nat × Nat) := [(0, .aload_n 0, 0, 0), (1, .iload_n 1, 0, 0), (2, .invokevirtual 189, 13, 0), (5, .astore 4, 0, 0), (7, .aload 4, 0, 0), (9, .ifnonnull 13, 22, 0), (12, .new 56, 11, 1), (15, .dup, 0, 0), (21, .athrow, 0, 0), (22, .aload 4, 0, 0), (24, .iload_n 2, 0, 0), (25, .invokevirtual 104, 23, 1), (28, .astore 5, 0, 0), (30, .aload 5, 0, 0), (32, .ifnull 12, 44, 0), (35, .aload 5, 0, 0), (37, .getfield 110, 6, 3), (40, .iconst 1, 1, 0), (41, .if_icmp .eq 13, 54, 0), (44, .new 56, 11, 1), (47, .dup, 0, 0), (53, .athrow, 0, 0), (54, .iload_n 3, 0, 0), (55, .ifCond .lt 9, 64, 0), (58, .iload_n 3, 0, 0), (59, .bipush 99, 99, 0), (61, .if_icmp .le 13, 74, 0), (64, .new 56, 11, 1), (67, .dup, 0, 0), (73, .athrow, 0, 0), (74, .aload 5, 0, 0), (76, .iload_n 3, 0, 0), (77, .putfield 197, 6, 21), (80, .return_, 0, 0)]
theorem k_12 : sm_tab 12 (fun pc => sm_lk pc l_12) := sm_tabOf (by decide +kernel)
/-- BuildingText.editionOrNull(I)LBuildingText$Edition; -/
def l_13 : List (Nat × Instr × Nat × Nat) := [(0, .iload_n 1, 0, 0), (1, .ifCond .lt 28, 29, 0), (4, .iload_n 1, 0, 0), (5, .aload_n 0, 0, 0), (6, .getfield 16, 0, 4), (9, .invokevirtual 85, 149, 0), (12, .if_icmp .ge 17, 29, 0), (15, .aload_n 0, 0, 0), (16, .getfield 16, 0, 4), (19, .iload_n 1, 0, 0), (20, .invokevirtual 150, 150, 0), (23, .checkcast 20, 1, 0), (26, .goto 4, 30, 0), (29, .aconst_null, 0, 0), (30, .areturn, 0, 0)]
theorem k_13 : sm_tab 13 (fun pc => sm_lk pc l_13) := sm_tabOf (by decide +kernel)
/-- BuildingText.differ(I)I -/
def l_14 : List (Nat × Instr × Nat × Nat) := [(0, .aload_n 0, 0, 0), (1, .iload_n 1, 0, 0), (2, .invokevirtual 189, 13, 0), (5, .astore_n 2, 0, 0), (6, .aload_n 2, 0, 0), (7, .ifnonnull 13, 20, 0), (10, .new 56, 11, 1), (13, .dup, 0, 0), (19, .athrow, 0, 0), (20, .aload_n 0, 0, 0), (21, .iconst 0, 0, 0), (22, .putfield 200, 0, 16), (25, .iconst 0, 0, 0), (26, .istore_n 3, 0, 0), (27, .iconst 0, 0, 0), (28, .istore 4, 0, 0), (30, .iload 4, 0, 0), (32, .aload_n 2, 0, 0), (33, .getfield 94, 1, 1), (36, .invokevirtual 85, 149, 0), (39, .if_icmp .ge 91, 130, 0), (42, .aload_n 0, 0, 0), (43, .getfield 200, 0, 16), (46, .bipush 60, 60, 0), (48, .if_icmp .ge 82, 130, 0), (51, .aload_n 2, 0, 0), (52, .getfield 94, 1, 1), (55, .iload 4, 0, 0), (57, .invokevirtual 150, 150, 0), (60, .checkcast 111, 6, 0), (63, .astore 5, 0, 0), (65, .aload 5, 0, 0), (67, .getfield 110, 6, 3), (70, .iconst 1, 1, 0), (71, .if_icmp .ne 53, 124, 0), (74, .aload 5, 0, 0), (76, .getfield 197, 6, 21), (79, .ifCond .le 45, 124, 0), (82, .aload_n 0, 0, 0), (83, .getfield 23, 0, 6), (86, .aload 5, 0, 0), (88, .aload_n 2, 0, 0), (89, .invokevirtual 203, 25, 1), (92, .ifCond .ne 32, 124, 0), (95, .aload_n 0, 0, 0), (96, .getfield 52, 0, 14), (99, .aload_n 0, 0, 0), (100, .getfield 200, 0, 16), (103, .iload 4, 0, 0), (105, .iastore, 0, 0), (106, .aload_n 0, 0, 0), (107, .dup, 0, 0), (108, .getfield 200, 0, 16), (111, .iconst 1, 1, 0), (112, .iadd, 0, 0), (113, .putfield 200, 0, 16), (116, .iload_n 3, 0, 0), (117, .aload 5, 0, 0), (119, .getfield 197, 6, 21), (122, .iadd, 0, 0), (123, .istore_n 3, 0, 0), (124, .iinc 4 1, 1, 0), (127, .goto (-97), 30, 0), (130, .iload_n 3, 0, 0), (131, .ireturn, 0, 0)]
theorem k_14 : sm_tab 14 (fun pc => sm_lk pc l_14) := sm_tabOf (by decide +kernel)
/-- BuildingText.moved(I)I -/
def l_15 : List (Nat × Instr × Nat × Nat) := [(0, .iload_n 1, 0, 0), (1, .ifCond .lt 11, 12, 0), (4, .iload_n 1, 0, 0), (5, .aload_n 0, 0, 0), (6, .getfield 200, 0, 16), (9, .if_icmp .lt 13, 22, 0), (12, .new 145, 13, 1), (15, .dup, 0, 0), (21, .athrow, 0, 0), (22, .aload_n 0, 0, 0), (23, .getfield 52, 0, 14), (26, .iload_n 1, 0, 0), (27, .iaload, 0, 0), (28, .ireturn, 0, 0)]
theorem k_15 : sm_tab 15 (fun pc => sm_lk pc l_15) := sm_tabOf (by decide +kernel)
/-- BuildingText.at(I)I -/
def l_16 : List (Nat × Instr × Nat × Nat) := [(0, .iload_n 1, 0, 0), (1, .ifCond .lt 14, 15, 0), (4, .iload_n 1, 0, 0), (5, .aload_n 0, 0, 0), (6, .getfield 48, 0, 12), (9, .getfield 212, 7, 3), (12, .if_icmp .lt 13, 25, 0), (15, .new 145, 13, 1), (18, .dup, 0, 0), (24, .athrow, 0, 0), (25, .aload_n 0, 0, 0), (26, .getfield 48, 0, 12), (29, .getfield 217, 7, 1), (32, .iload_n 1, 0, 0), (33, .caload, 0, 0), (34, .ireturn, 0, 0)]
theorem k_16 : sm_tab 16 (fun pc => sm_lk pc l_16) := sm_tabOf (by decide +kernel)
/-- BuildingText$Edition.<init>()V -/
def l_17 : List (Nat × Instr × Nat × Nat) := [(0, .aload_n 0, 0, 0), (1, .invokespecial 3, 0, 2), (4, .aload_n 0, 0, 0), (5, .new 9, 10, 0), (8, .dup, 0, 0), (9, .invokespecial 11, 144, 0), (12, .putfield 12, 1, 0), (15, .aload_n 0, 0, 0), (16, .new 9, 10, 0), (19, .dup, 0, 0), (20, .invokespecial 11, 144, 0), (23, .putfield 18, 1, 2), (26, .aload_n 0, 0, 0), (27, .new 9, 10, 0), (30, .dup, 0, 0), (31, .invokespecial 11, 144, 0), (34, .putfield 21, 1, 4), (37, .aload_n 0, 0, 0), (38, .new 9, 10, 0), (41, .dup, 0, 0), (42, .invokespecial 11, 144, 0), (45, .putfield 24, 1, 6), (48, .return_, 0, 0)]
theorem k_17 : sm_tab 17 (fun pc => sm_lk pc l_17) := sm_tabOf (by decide +kernel)
/-- BuildingText$Edition.find(I)I -/
def l_18 : List (Nat × Instr × Nat × Nat) := [(0, .iconst 0, 0, 0), (1, .istore_n 2, 0, 0), (2, .iload_n 2, 0, 0), (3, .aload_n 0, 0, 0), (4, .getfield 12, 1, 0), (7, .invokevirtual 27, 149, 0), (10, .if_icmp .ge 29, 39, 0), (13, .aload_n 0, 0, 0), (14, .getfield 12, 1, 0), (17, .iload_n 2, 0, 0), (18, .invokevirtual 31, 150, 0), (21, .checkcast 35, 6, 0), (24, .getfield 37, 6, 1), (27, .iload_n 1, 0, 0), (28, .if_icmp .ne 5, 33, 0), (31, .iload_n 2, 0, 0), (32, .ireturn, 0, 0), (33, .iinc 2 1, 1, 0), (36, .goto (-34), 2, 0), (39, .iconst (-1), 1, 1), (40, .ireturn, 0, 0)]
theorem k_18 : sm_tab 18 (fun pc => sm_lk pc l_18) := sm_tabOf (by decide +kernel)
/-- BuildingText$Edition.addWay(IIZ)V -/
def l_19 : List (Nat × Instr × Nat × Nat) := [(0, .aload_n 0, 0, 0), (1, .getfield 18, 1, 2), (4, .new 62, 5, 0), (7, .dup, 0, 0), (8, .iload_n 1, 0, 0), (9, .iload_n 2, 0, 0), (10, .iload_n 3, 0, 0), (11, .invokespecial 64, 46, 1), (14, .invokevirtual 67, 145, 0), (17, .pop, 0, 0), (18, .aload_n 0, 0, 0), (19, .getfield 12, 1, 0), (22, .iload_n 1, 0, 0), (23, .invokevirtual 31, 150, 0), (26, .checkcast 35, 6, 0), (29, .dup, 0, 0), (30, .getfield 71, 6, 17), (33, .iconst 1, 1, 0), (34, .iadd, 0, 0), (35, .putfield 71, 6, 17), (38, .aload_n 0, 0, 0), (39, .getfield 12, 1, 0), (42, .iload_n 2, 0, 0), (43, .invokevirtual 31, 150, 0), (46, .checkcast 35, 6, 0), (49, .dup, 0, 0), (50, .getfield 71, 6, 17), (53, .iconst 1, 1, 0), (54, .iadd, 0, 0), (55, .putfield 71, 6, 17), (58, .aload_n 0, 0, 0), (59, .getfield 12, 1, 0), (62, .iload_n 1, 0, 0), (63, .invokevirtual 31, 150, 0), (66, .checkcast 35, 6, 0), (69, .iconst 1, 1, 0), (70, .putfield 74, 6, 19), (73, .aload_n 0, 0, 0), (74, .getfield 12, 1, 0), (77, .iload_n 2, 0, 0), (78, .invokevirtual 31, 150, 0), (81, .checkcast 35, 6, 0), (84, .iconst 1, 1, 0), (85, .putfield 74, 6, 19), (88, .return_, 0, 0)]
theorem k_19 : sm_tab 19 (fun pc => sm_lk pc l_19) := sm_tabOf (by decide +kernel)
/-- BuildingText$Edition.addStop(II)V -/
def l_20 : List (Nat × Instr × Nat × Nat) := [(0, .aload_n 0, 0, 0), (1, .getfield 24, 1, 6), (4, .new 62, 5, 0), (7, .dup, 0, 0), (8, .iload_n 1, 0, 0), (9, .iload_n 2, 0, 0), (10, .iconst 1, 1, 0), (11, .invokespecial 64, 46, 1), (14, .invokevirtual 67, 145, 0), (17, .pop, 0, 0), (18, .aload_n 0, 0, 0), (19, .getfield 12, 1, 0), (22, .iload_n 1, 0, 0), (23, .invokevirtual 31, 150, 0), (26, .checkcast 35, 6, 0), (29, .dup, 0, 0), (30, .getfield 71, 6, 17), (33, .iconst 1, 1, 0), (34, .iadd, 0, 0), (35, .putfield 71, 6, 17), (38, .aload_n 0, 0, 0), (39, .getfield 12, 1, 0), (42, .iload_n 2, 0, 0), (43, .invokevirtual 31, 150, 0), (46, .checkcast 35, 6, 0), (49, .iconst 1, 1, 0), (50, .putfield 74, 6, 19), (53, .return_, 0, 0)]
theorem k_20 : sm_tab 20 (fun pc => sm_lk pc l_20) := sm_tabOf (by decide +kernel)
/-- BuildingText$Edition.addServe(II)V -/
def l_21 : List (Nat × Instr × Nat × Nat) := [(0, .aload_n 0, 0, 0), (1, .getfield 21, 1, 4), (4, .new 62, 5, 0), (7, .dup, 0, 0), (8, .iload_n 1, 0, 0), (9, .iload_n 2, 0, 0), (10, .iconst 0, 0, 0), (11, .invokespecial 64, 46, 1), (14, .invokevirtual 67, 145, 0), (17, .pop, 0, 0), (18, .aload_n 0, 0, 0), (19, .getfield 12, 1, 0), (22, .iload_n 1, 0, 0), (23, .invokevirtual 31, 150, 0), (26, .checkcast 35, 6, 0), (29, .dup, 0, 0), (30, .getfield 71, 6, 17), (33, .iconst 1, 1, 0), (34, .iadd, 0, 0), (35, .putfield 71, 6, 17), (38, .return_, 0, 0)]
theorem k_21 : sm_tab 21 (fun pc => sm_lk pc l_21) := sm_tabOf (by decide +kernel)
/-- BuildingText$Edition.isTooLarge()Z -/
def l_22 : List (Nat × Instr × Nat × Nat) := [(0, .aload_n 0, 0, 0), (1, .getfield 12, 1, 0), (4, .invokevirtual 27, 149, 0), (7, .bipush 60, 60, 0), (9, .if_icmp .gt 23, 32, 0), (12, .aload_n 0, 0, 0), (13, .getfield 18, 1, 2), (16, .invokevirtual 27, 149, 0), (19, .aload_n 0, 0, 0), (20, .getfield 21, 1, 4), (23, .invokevirtual 27, 149, 0), (26, .iadd, 0, 0), (27, .bipush 60, 60, 0), (29, .if_icmp .le 7, 36, 0), (32, .iconst 1, 1, 0), (33, .goto 4, 37, 0), (36, .iconst 0, 0, 0), (37, .ireturn, 0, 0)]
theorem k_22 : sm_tab 22 (fun pc => sm_lk pc l_22) := sm_tabOf (by decide +kernel)
/-- BuildingText$Edition.placeOrNull(I)LBuildingText$Place; -/
def l_23 : List (Nat × Instr × Nat × Nat) := [(0, .iload_n 1, 0, 0), (1, .ifCond .lt 28, 29, 0), (4, .iload_n 1, 0, 0), (5, .aload_n 0, 0, 0), (6, .getfield 12, 1, 0), (9, .invokevirtual 27, 149, 0), (12, .if_icmp .ge 17, 29, 0), (15, .aload_n 0, 0, 0), (16, .getfield 12, 1, 0), (19, .iload_n 1, 0, 0), (20, .invokevirtual 31, 150, 0), (23, .checkcast 35, 6, 0), (26, .goto 4, 30, 0), (29, .aconst_null, 0, 0), (30, .areturn, 0, 0)]
theorem k_23 : sm_tab 23 (fun pc => sm_lk pc l_23) := sm_tabOf (by decide +kernel)
/-- BuildingText$Edition.findPiece(I)I -/
def l_24 : List (Nat × Instr × Nat × Nat) := [(0, .iconst 0, 0, 0), (1, .istore_n 2, 0, 0), (2, .iconst 0, 0, 0), (3, .istore_n 3, 0, 0), (4, .iload_n 3, 0, 0), (5, .aload_n 0, 0, 0), (6, .getfield 12, 1, 0), (9, .invokevirtual 27, 149, 0), (12, .if_icmp .ge 37, 49, 0), (15, .aload_n 0, 0, 0), (16, .getfield 12, 1, 0), (19, .iload_n 3, 0, 0), (20, .invokevirtual 31, 150, 0), (23, .checkcast 35, 6, 0), (26, .getfield 41, 6, 3), (29, .iconst 2, 2, 0), (30, .if_icmp .ne 13, 43, 0), (33, .iload_n 2, 0, 0), (34, .iload_n 1, 0, 0), (35, .if_icmp .ne 5, 40, 0), (38, .iload_n 3, 0, 0), (39, .ireturn, 0, 0), (40, .iinc 2 1, 1, 0), (43, .iinc 3 1, 1, 0), (46, .goto (-42), 4, 0), (49, .iconst (-1), 1, 1), (50, .ireturn, 0, 0)]
theorem k_24 : sm_tab 24 (fun pc => sm_lk pc l_24) := sm_tabOf (by decide +kernel)
/-- BuildingText$Edition.keepsBin(LBuildingText$Place;LBuildingText$Edition;)Z -/
def l_25 : List (Nat × Instr × Nat × Nat) := [(0, .aload_n 0, 0, 0), (1, .aload_n 0, 0, 0), (2, .aload_n 1, 0, 0), (3, .getfield 37, 6, 1), (6, .invokevirtual 44, 18, 0), (9, .invokevirtual 48, 23, 0), (12, .astore_n 3, 0, 0), (13, .aload_n 3, 0, 0), (14, .ifnull 30, 44, 0), (17, .aload_n 3, 0, 0), (18, .getfield 41, 6, 3), (21, .iconst 1, 1, 0), (22, .if_icmp .ne 22, 44, 0), (25, .aload_n 3, 0, 0), (26, .getfield 52, 6, 13), (29, .aload_n 1, 0, 0), (30, .getfield 52, 6, 13), (33, .if_icmp .ne 11, 44, 0), (36, .aload_n 3, 0, 0), (37, .aload_n 1, 0, 0), (38, .invokevirtual 55, 50, 1), (41, .ifCond .ne 5, 46, 0), (44, .iconst 0, 0, 0), (45, .ireturn, 0, 0), (46, .aload_n 0, 0, 0), (47, .aload_n 3, 0, 0), (48, .getfield 59, 6, 15), (51, .invokevirtual 48, 23, 0), (54, .astore 4, 0, 0), (56, .aload_n 2, 0, 0), (57, .aload_n 1, 0, 0), (58, .getfield 59, 6, 15), (61, .invokevirtual 48, 23, 0), (64, .astore 5, 0, 0), (66, .aload 4, 0, 0), (68, .ifnull 25, 93, 0), (71, .aload 5, 0, 0), (73, .ifnull 20, 93, 0), (76, .aload 4, 0, 0), (78, .getfield 37, 6, 1), (81, .aload 5, 0, 0), (83, .getfield 37, 6, 1), (86, .if_icmp .ne 7, 93, 0), (89, .iconst 1, 1, 0), (90, .goto 4, 94, 0), (93, .iconst 0, 0, 0), (94, .ireturn, 0, 0)]
theorem k_25 : sm_tab 25 (fun pc => sm_lk pc l_25) := sm_tabOf (by decide +kernel)
/-- BuildingText$Fault.<init>(III)V -/
def l_26 : List (Nat × Instr × Nat × Nat) := [(0, .aload_n 0, 0, 0), (1, .invokespecial 1, 0, 2), (4, .aload_n 0, 0, 0), (5, .iload_n 1, 0, 0), (6, .putfield 7, 2, 0), (9, .aload_n 0, 0, 0), (10, .iload_n 2, 0, 0), (11, .putfield 13, 2, 2), (14, .aload_n 0, 0, 0), (15, .iload_n 3, 0, 0), (16, .putfield 16, 2, 4), (19, .return_, 0, 0)]
theorem k_26 : sm_tab 26 (fun pc => sm_lk pc l_26) := sm_tabOf (by decide +kernel)
end
section
/-- BuildingText$Going.<init>()V -/
def l_27 : List (Nat × Instr × Nat × Nat) := [(0, .aload_n 0, 0, 0), (1, .invokespecial 3, 0, 2), (4, .aload_n 0, 0, 0), (5, .bipush 60, 60, 0), (7, .newarray .long, 0, 0), (9, .putfield 9, 3, 0), (12, .aload_n 0, 0, 0), (13, .bipush 60, 60, 0), (15, .newarray .long, 0, 0), (17, .putfield 15, 3, 2), (20, .aload_n 0, 0, 0), (21, .bipush 60, 60, 0), (23, .newarray .long, 0, 0), (25, .putfield 18, 3, 4), (28, .return_, 0, 0)]
theorem k_27 : sm_tab 27 (fun pc => sm_lk pc l_27) := sm_tabOf (by decide +kernel)
/-- BuildingText$Going.learn(LBuildingText$Edition;)V -/
def l_28 : List (Nat × Instr × Nat × Nat) := [(0, .aload_n 0, 0, 0), (1, .invokevirtual 21, 29, 0), (4, .aload_n 0, 0, 0), (5, .aload_n 1, 0, 0), (6, .getfield 24, 1, 1), (9, .invokevirtual 30, 149, 0), (12, .putfield 36, 3, 6), (15, .aload_n 0, 0, 0), (16, .aload_n 1, 0, 0), (17, .invokevirtual 39, 30, 0), (20, .aload_n 0, 0, 0), (21, .aload_n 1, 0, 0), (22, .invokevirtual 43, 32, 0), (25, .iconst 0, 0, 0), (26, .istore_n 2, 0, 0), (27, .iload_n 2, 0, 0), (28, .aload_n 0, 0, 0), (29, .getfield 36, 3, 6), (32, .if_icmp .ge 44, 76, 0), (35, .aload_n 1, 0, 0), (36, .getfield 24, 1, 1), (39, .iload_n 2, 0, 0), (40, .invokevirtual 46, 150, 0), (43, .checkcast 50, 6, 0), (46, .astore_n 3, 0, 0), (47, .aload_n 3, 0, 0), (48, .getfield 52, 6, 3), (51, .iconst 3, 3, 0), (52, .if_icmp .ne 18, 70, 0), (55, .aload_n 0, 0, 0), (56, .dup, 0, 0), (57, .getfield 55, 3, 8), (60, .lconst 1, 0, 0), (61, .aload_n 3, 0, 0), (62, .getfield 59, 6, 15), (65, .lshl, 0, 0), (66, .lor, 0, 0), (67, .putfield 55, 3, 8), (70, .iinc 2 1, 1, 0), (73, .goto (-46), 27, 0), (76, .aload_n 0, 0, 0), (77, .aload_n 0, 0, 0), (78, .aload_n 0, 0, 0), (79, .getfield 9, 3, 0), (82, .aload_n 0, 0, 0), (83, .getfield 55, 3, 8), (86, .invokevirtual 62, 33, 0), (89, .putfield 66, 3, 10), (92, .aload_n 0, 0, 0), (93, .aload_n 0, 0, 0), (94, .aload_n 0, 0, 0), (95, .getfield 15, 3, 2), (98, .aload_n 0, 0, 0), (99, .getfield 55, 3, 8), (102, .invokevirtual 62, 33, 0), (105, .putfield 69, 3, 12), (108, .return_, 0, 0)]
theorem k_28 : sm_tab 28 (fun pc => sm_lk pc l_28) := sm_tabOf (by decide +kernel)
/-- BuildingText$Going.forget()V -/
def l_29 : List (Nat × Instr × Nat × Nat) := [(0, .iconst 0, 0, 0), (1, .istore_n 1, 0, 0), (2, .iload_n 1, 0, 0), (3, .bipush 60, 60, 0), (5, .if_icmp .ge 30, 35, 0), (8, .aload_n 0, 0, 0), (9, .getfield 9, 3, 0), (12, .iload_n 1, 0, 0), (13, .lconst 0, 0, 0), (14, .lastore, 0, 0), (15, .aload_n 0, 0, 0), (16, .getfield 15, 3, 2), (19, .iload_n 1, 0, 0), (20, .lconst 0, 0, 0), (21, .lastore, 0, 0), (22, .aload_n 0, 0, 0), (23, .getfield 18, 3, 4), (26, .iload_n 1, 0, 0), (27, .lconst 0, 0, 0), (28, .lastore, 0, 0), (29, .iinc 1 1, 1, 0), (32, .goto (-30), 2, 0), (35, .aload_n 0, 0, 0), (36, .lconst 0, 0, 0), (37, .putfield 55, 3, 8), (40, .return_, 0, 0)]
theorem k_29 : sm_tab 29 (fun pc => sm_lk pc l_29) := sm_tabOf (by decide +kernel)
/-- BuildingText$Going.learnWays(LBuildingText$Edition;)V -/
def l_30 : List (Nat × Instr × Nat × Nat) := [(0, .iconst 0, 0, 0), (1, .istore_n 2, 0, 0), (2, .iload_n 2, 0, 0), (3, .aload_n 1, 0, 0), (4, .getfield 72, 1, 3), (7, .invokevirtual 30, 149, 0), (10, .if_icmp .ge 52, 62, 0), (13, .aload_n 1, 0, 0), (14, .getfield 72, 1, 3), (17, .iload_n 2, 0, 0), (18, .invokevirtual 46, 150, 0), (21, .checkcast 75, 5, 0), (24, .astore_n 3, 0, 0), (25, .aload_n 0, 0, 0), (26, .aload_n 3, 0, 0), (27, .getfield 77, 5, 1), (30, .aload_n 3, 0, 0), (31, .getfield 80, 5, 3), (34, .invokevirtual 83, 31, 0), (37, .aload_n 3, 0, 0), (38, .getfield 87, 5, 5), (41, .ifCond .eq 15, 56, 0), (44, .aload_n 0, 0, 0), (45, .aload_n 3, 0, 0), (46, .getfield 80, 5, 3), (49, .aload_n 3, 0, 0), (50, .getfield 77, 5, 1), (53, .invokevirtual 83, 31, 0), (56, .iinc 2 1, 1, 0), (59, .goto (-57), 2, 0), (62, .return_, 0, 0)]
theorem k_30 : sm_tab 30 (fun pc => sm_lk pc l_30) := sm_tabOf (by decide +kernel)
/-- BuildingText$Going.learnStep(II)V -/
def l_31 : List (Nat × Instr × Nat × Nat) := [(0, .aload_n 0, 0, 0), (1, .getfield 9, 3, 0), (4, .iload_n 1, 0, 0), (5, .dup2, 0, 0), (6, .laload, 0, 0), (7, .lconst 1, 0, 0), (8, .iload_n 2, 0, 0), (9, .lshl, 0, 0), (10, .lor, 0, 0), (11, .lastore, 0, 0), (12, .aload_n 0, 0, 0), (13, .getfield 15, 3, 2), (16, .iload_n 2, 0, 0), (17, .dup2, 0, 0), (18, .laload, 0, 0), (19, .lconst 1, 0, 0), (20, .iload_n 1, 0, 0), (21, .lshl, 0, 0), (22, .lor, 0, 0), (23, .lastore, 0, 0), (24, .return_, 0, 0)]
theorem k_31 : sm_tab 31 (fun pc => sm_lk pc l_31) := sm_tabOf (by decide +kernel)
/-- BuildingText$Going.learnLifts(LBuildingText$Edition;)V -/
def l_32 : List (Nat × Instr × Nat × Nat) := [(0, .iconst 0, 0, 0), (1, .istore_n 2, 0, 0), (2, .iload_n 2, 0, 0), (3, .aload_n 1, 0, 0), (4, .getfield 91, 1, 7), (7, .invokevirtual 30, 149, 0), (10, .if_icmp .ge 39, 49, 0), (13, .aload_n 1, 0, 0), (14, .getfield 91, 1, 7), (17, .iload_n 2, 0, 0), (18, .invokevirtual 46, 150, 0), (21, .checkcast 75, 5, 0), (24, .astore_n 3, 0, 0), (25, .aload_n 0, 0, 0), (26, .getfield 18, 3, 4), (29, .aload_n 3, 0, 0), (30, .getfield 77, 5, 1), (33, .dup2, 0, 0), (34, .laload, 0, 0), (35, .lconst 1, 0, 0), (36, .aload_n 3, 0, 0), (37, .getfield 80, 5, 3), (40, .lshl, 0, 0), (41, .lor, 0, 0), (42, .lastore, 0, 0), (43, .iinc 2 1, 1, 0), (46, .goto (-44), 2, 0), (49, .iconst 0, 0, 0), (50, .istore_n 2, 0, 0), (51, .iload_n 2, 0, 0), (52, .aload_n 1, 0, 0), (53, .getfield 91, 1, 7), (56, .invokevirtual 30, 149, 0), (59, .if_icmp .ge 63, 122, 0), (62, .aload_n 1, 0, 0), (63, .getfield 91, 1, 7), (66, .iload_n 2, 0, 0), (67, .invokevirtual 46, 150, 0), (70, .checkcast 75, 5, 0), (73, .astore_n 3, 0, 0), (74, .aload_n 0, 0, 0), (75, .getfield 9, 3, 0), (78, .aload_n 3, 0, 0), (79, .getfield 80, 5, 3), (82, .dup2, 0, 0), (83, .laload, 0, 0), (84, .aload_n 0, 0, 0), (85, .getfield 18, 3, 4), (88, .aload_n 3, 0, 0), (89, .getfield 77, 5, 1), (92, .laload, 0, 0), (93, .lor, 0, 0), (94, .lastore, 0, 0), (95, .aload_n 0, 0, 0), (96, .getfield 15, 3, 2), (99, .aload_n 3, 0, 0), (100, .getfield 80, 5, 3), (103, .dup2, 0, 0), (104, .laload, 0, 0), (105, .aload_n 0, 0, 0), (106, .getfield 18, 3, 4), (109, .aload_n 3, 0, 0), (110, .getfield 77, 5, 1), (113, .laload, 0, 0), (114, .lor, 0, 0), (115, .lastore, 0, 0), (116, .iinc 2 1, 1, 0), (119, .goto (-68), 51, 0), (122, .return_, 0, 0)]
theorem k_32 : sm_tab 32 (fun pc => sm_lk pc l_32) := sm_tabOf (by decide +kernel)
/-- BuildingText$Going.spread([JJ)J -/
def l_33 : List (Nat × Instr × Nat × Nat) := [(0, .lload_n 2, 0, 0), (1, .lstore 4, 0, 0), (3, .iconst 0, 0, 0), (4, .istore 6, 0, 0), (6, .iload 6, 0, 0), (8, .bipush 60, 60, 0), (10, .if_icmp .ge 33, 43, 0), (13, .aload_n 0, 0, 0), (14, .aload_n 1, 0, 0), (15, .lload 4, 0, 0), (17, .invokevirtual 100, 34, 0), (20, .lstore 7, 0, 0), (22, .lload 7, 0, 0), (24, .lload 4, 0, 0), (26, .lcmp, 0, 0), (27, .ifCond .ne 6, 33, 0), (30, .goto 13, 43, 0), (33, .lload 7, 0, 0), (35, .lstore 4, 0, 0), (37, .iinc 6 1, 1, 0), (40, .goto (-34), 6, 0), (43, .lload 4, 0, 0), (45, .lreturn, 0, 0)]
theorem k_33 : sm_tab 33 (fun pc => sm_lk pc l_33) := sm_tabOf (by decide +kernel)
/-- BuildingText$Going.widen([JJ)J -/
def l_34 : List (Nat × Instr × Nat × Nat) := [(0, .lload_n 2, 0, 0), (1, .lstore 4, 0, 0), (3, .iconst 0, 0, 0), (4, .istore 6, 0, 0), (6, .iload 6, 0, 0), (8, .aload_n 0, 0, 0), (9, .getfield 36, 3, 6), (12, .if_icmp .ge 29, 41, 0), (15, .lload_n 2, 0, 0), (16, .iload 6, 0, 0), (18, .lushr, 0, 0), (19, .lconst 1, 0, 0), (20, .land, 0, 0), (21, .lconst 1, 0, 0), (22, .lcmp, 0, 0), (23, .ifCond .ne 12, 35, 0), (26, .lload 4, 0, 0), (28, .aload_n 1, 0, 0), (29, .iload 6, 0, 0), (31, .laload, 0, 0), (32, .lor, 0, 0), (33, .lstore 4, 0, 0), (35, .iinc 6 1, 1, 0), (38, .goto (-32), 6, 0), (41, .lload 4, 0, 0), (43, .lreturn, 0, 0)]
theorem k_34 : sm_tab 34 (fun pc => sm_lk pc l_34) := sm_tabOf (by decide +kernel)
/-- BuildingText$Going.isReached(I)Z -/
def l_35 : List (Nat × Instr × Nat × Nat) := [(0, .aload_n 0, 0, 0), (1, .getfield 66, 3, 10), (4, .iload_n 1, 0, 0), (5, .lushr, 0, 0), (6, .lconst 1, 0, 0), (7, .land, 0, 0), (8, .lconst 1, 0, 0), (9, .lcmp, 0, 0), (10, .ifCond .ne 7, 17, 0), (13, .iconst 1, 1, 0), (14, .goto 4, 18, 0), (17, .iconst 0, 0, 0), (18, .ireturn, 0, 0)]
theorem k_35 : sm_tab 35 (fun pc => sm_lk pc l_35) := sm_tabOf (by decide +kernel)
/-- BuildingText$Going.isExiting(I)Z -/
def l_36 : List (Nat × Instr × Nat × Nat) := [(0, .aload_n 0, 0, 0), (1, .getfield 69, 3, 12), (4, .iload_n 1, 0, 0), (5, .lushr, 0, 0), (6, .lconst 1, 0, 0), (7, .land, 0, 0), (8, .lconst 1, 0, 0), (9, .lcmp, 0, 0), (10, .ifCond .ne 7, 17, 0), (13, .iconst 1, 1, 0), (14, .goto 4, 18, 0), (17, .iconst 0, 0, 0), (18, .ireturn, 0, 0)]
theorem k_36 : sm_tab 36 (fun pc => sm_lk pc l_36) := sm_tabOf (by decide +kernel)
/-- BuildingText$Going.countOnward(I)I -/
def l_37 : List (Nat × Instr × Nat × Nat) := [(0, .aload_n 0, 0, 0), (1, .aload_n 0, 0, 0), (2, .getfield 9, 3, 0), (5, .lconst 1, 0, 0), (6, .iload_n 1, 0, 0), (7, .lshl, 0, 0), (8, .invokevirtual 62, 33, 0), (11, .invokestatic 94, 158, 0), (14, .iconst 1, 1, 0), (15, .isub, 0, 0), (16, .ireturn, 0, 0)]
theorem k_37 : sm_tab 37 (fun pc => sm_lk pc l_37) := sm_tabOf (by decide +kernel)
/-- BuildingText$Going.stepsToDock(I)I -/
def l_38 : List (Nat × Instr × Nat × Nat) := [(0, .lconst 1, 0, 0), (1, .iload_n 1, 0, 0), (2, .lshl, 0, 0), (3, .lstore_n 2, 0, 0), (4, .iconst 0, 0, 0), (5, .istore 4, 0, 0), (7, .iload 4, 0, 0), (9, .bipush 60, 60, 0), (11, .if_icmp .ge 33, 44, 0), (14, .lload_n 2, 0, 0), (15, .aload_n 0, 0, 0), (16, .getfield 55, 3, 8), (19, .land, 0, 0), (20, .lconst 0, 0, 0), (21, .lcmp, 0, 0), (22, .ifCond .eq 6, 28, 0), (25, .iload 4, 0, 0), (27, .ireturn, 0, 0), (28, .aload_n 0, 0, 0), (29, .aload_n 0, 0, 0), (30, .getfield 9, 3, 0), (33, .lload_n 2, 0, 0), (34, .invokevirtual 100, 34, 0), (37, .lstore_n 2, 0, 0), (38, .iinc 4 1, 1, 0), (41, .goto (-34), 7, 0), (44, .iconst (-1), 1, 1), (45, .ireturn, 0, 0)]
theorem k_38 : sm_tab 38 (fun pc => sm_lk pc l_38) := sm_tabOf (by decide +kernel)
/-- BuildingText$Inspection.<init>()V -/
def l_39 : List (Nat × Instr × Nat × Nat) := [(0, .aload_n 0, 0, 0), (1, .invokespecial 3, 0, 2), (4, .aload_n 0, 0, 0), (5, .new 9, 10, 0), (8, .dup, 0, 0), (9, .invokespecial 11, 144, 0), (12, .putfield 12, 4, 0), (15, .return_, 0, 0)]
theorem k_39 : sm_tab 39 (fun pc => sm_lk pc l_39) := sm_tabOf (by decide +kernel)
/-- BuildingText$Inspection.inspect(LBuildingText$Edition;LBuildingText$Going;)V -/
def l_40 : List (Nat × Instr × Nat × Nat) := [(0, .aload_n 0, 0, 0), (1, .getfield 12, 4, 0), (4, .invokevirtual 18, 152, 0), (7, .iconst 0, 0, 0), (8, .istore_n 3, 0, 0), (9, .iload_n 3, 0, 0), (10, .aload_n 1, 0, 0), (11, .getfield 21, 1, 1), (14, .invokevirtual 26, 149, 0), (17, .if_icmp .ge 99, 116, 0), (20, .aload_n 1, 0, 0), (21, .getfield 21, 1, 1), (24, .iload_n 3, 0, 0), (25, .invokevirtual 30, 150, 0), (28, .checkcast 34, 6, 0), (31, .getfield 36, 6, 3), (34, .tableswitch 76 0 5 #[38, 47, 57, 67, 67, 67], 0, 0), (72, .aload_n 0, 0, 0), (73, .aload_n 1, 0, 0), (74, .iload_n 3, 0, 0), (75, .invokevirtual 40, 41, 0), (78, .goto 32, 110, 0), (81, .aload_n 0, 0, 0), (82, .aload_n 1, 0, 0), (83, .iload_n 3, 0, 0), (84, .aload_n 2, 0, 0), (85, .invokevirtual 44, 42, 0), (88, .goto 22, 110, 0), (91, .aload_n 0, 0, 0), (92, .aload_n 1, 0, 0), (93, .iload_n 3, 0, 0), (94, .aload_n 2, 0, 0), (95, .invokevirtual 48, 44, 0), (98, .goto 12, 110, 0), (101, .aload_n 0, 0, 0), (102, .aload_n 1, 0, 0), (103, .iload_n 3, 0, 0), (104, .invokevirtual 51, 45, 0), (107, .goto 3, 110, 0), (110, .iinc 3 1, 1, 0), (113, .goto (-104), 9, 0), (116, .return_, 0, 0)]
theorem k_40 : sm_tab 40 (fun pc => sm_lk pc l_40) := sm_tabOf (by decide +kernel)
/-- BuildingText$Inspection.inspectArea(LBuildingText$Edition;I)V -/
def l_41 : List (Nat × Instr × Nat × Nat) := [(0, .aload_n 1, 0, 0), (1, .getfield 21, 1, 1), (4, .iload_n 2, 0, 0), (5, .invokevirtual 30, 150, 0), (8, .checkcast 34, 6, 0), (11, .astore_n 3, 0, 0), (12, .iconst 0, 0, 0), (13, .istore 4, 0, 0), (15, .iload 4, 0, 0), (17, .iload_n 2, 0, 0), (18, .if_icmp .ge 100, 118, 0), (21, .aload_n 1, 0, 0), (22, .getfield 21, 1, 1), (25, .iload 4, 0, 0), (27, .invokevirtual 30, 150, 0), (30, .checkcast 34, 6, 0), (33, .astore 5, 0, 0), (35, .aload 5, 0, 0), (37, .getfield 36, 6, 3), (40, .aload_n 3, 0, 0), (41, .getfield 36, 6, 3), (44, .if_icmp .ne 31, 75, 0), (47, .aload 5, 0, 0), (49, .getfield 54, 6, 15), (52, .aload_n 3, 0, 0), (53, .getfield 54, 6, 15), (56, .if_icmp .ne 19, 75, 0), (59, .aload 5, 0, 0), (61, .getfield 74, 6, 13), (64, .aload_n 3, 0, 0), (65, .getfield 74, 6, 13), (68, .if_icmp .ne 7, 75, 0), (71, .iconst 1, 1, 0), (72, .goto 4, 76, 0), (75, .iconst 0, 0, 0), (76, .istore 6, 0, 0), (78, .iload 6, 0, 0), (80, .ifCond .eq 32, 112, 0), (83, .aload 5, 0, 0), (85, .aload_n 3, 0, 0), (86, .invokevirtual 77, 48, 1), (89, .ifCond .eq 23, 112, 0), (92, .aload_n 0, 0, 0), (93, .getfield 12, 4, 0), (96, .new 61, 2, 0), (99, .dup, 0, 0), (100, .iconst 2, 2, 0), (101, .iload_n 2, 0, 0), (102, .iload 4, 0, 0), (104, .invokespecial 63, 26, 1), (107, .invokevirtual 66, 145, 0), (110, .pop, 0, 0), (111, .return_, 0, 0), (112, .iinc 4 1, 1, 0), (115, .goto (-100), 15, 0), (118, .return_, 0, 0)]
theorem k_41 : sm_tab 41 (fun pc => sm_lk pc l_41) := sm_tabOf (by decide +kernel)
/-- BuildingText$Inspection.inspectBin(LBuildingText$Edition;ILBuildingText$Going;)V -/
def l_42 : List (Nat × Instr × Nat × Nat) := [(0, .aload_n 1, 0, 0), (1, .getfield 21, 1, 1), (4, .iload_n 2, 0, 0), (5, .invokevirtual 30, 150, 0), (8, .checkcast 34, 6, 0), (11, .astore 4, 0, 0), (13, .aload_n 1, 0, 0), (14, .getfield 21, 1, 1), (17, .aload 4, 0, 0), (19, .getfield 54, 6, 15), (22, .invokevirtual 30, 150, 0), (25, .checkcast 34, 6, 0), (28, .aload 4, 0, 0), (30, .invokevirtual 57, 49, 1), (33, .ifCond .ne 25, 58, 0), (36, .aload_n 0, 0, 0), (37, .getfield 12, 4, 0), (40, .new 61, 2, 0), (43, .dup, 0, 0), (44, .iconst 1, 1, 0), (45, .iload_n 2, 0, 0), (46, .aload 4, 0, 0), (48, .getfield 54, 6, 15), (51, .invokespecial 63, 26, 1), (54, .invokevirtual 66, 145, 0), (57, .pop, 0, 0), (58, .aload_n 0, 0, 0), (59, .aload_n 1, 0, 0), (60, .iload_n 2, 0, 0), (61, .invokevirtual 40, 41, 0), (64, .aload_n 1, 0, 0), (65, .iload_n 2, 0, 0), (66, .aload_n 3, 0, 0), (67, .invokestatic 70, 43, 0), (70, .ifCond .ne 21, 91, 0), (73, .aload_n 0, 0, 0), (74, .getfield 12, 4, 0), (77, .new 61, 2, 0), (80, .dup, 0, 0), (81, .iconst 3, 3, 0), (82, .iload_n 2, 0, 0), (83, .iconst (-1), 1, 1), (84, .invokespecial 63, 26, 1), (87, .invokevirtual 66, 145, 0), (90, .pop, 0, 0), (91, .return_, 0, 0)]
theorem k_42 : sm_tab 42 (fun pc => sm_lk pc l_42) := sm_tabOf (by decide +kernel)
/-- BuildingText$Inspection.isServed(LBuildingText$Edition;ILBuildingText$Going;)Z -/
def l_43 : List (Nat × Instr × Nat × Nat) := [(0, .iconst 0, 0, 0), (1, .istore_n 3, 0, 0), (2, .iload_n 3, 0, 0), (3, .aload_n 0, 0, 0), (4, .getfield 80, 1, 5), (7, .invokevirtual 26, 149, 0), (10, .if_icmp .ge 45, 55, 0), (13, .aload_n 0, 0, 0), (14, .getfield 80, 1, 5), (17, .iload_n 3, 0, 0), (18, .invokevirtual 30, 150, 0), (21, .checkcast 83, 5, 0), (24, .astore 4, 0, 0), (26, .aload 4, 0, 0), (28, .getfield 85, 5, 1), (31, .iload_n 1, 0, 0), (32, .if_icmp .ne 17, 49, 0), (35, .aload_n 2, 0, 0), (36, .aload 4, 0, 0), (38, .getfield 88, 5, 3), (41, .invokevirtual 91, 35, 1), (44, .ifCond .eq 5, 49, 0), (47, .iconst 1, 1, 0), (48, .ireturn, 0, 0), (49, .iinc 3 1, 1, 0), (52, .goto (-50), 2, 0), (55, .iconst 0, 0, 0), (56, .ireturn, 0, 0)]
theorem k_43 : sm_tab 43 (fun pc => sm_lk pc l_43) := sm_tabOf (by decide +kernel)
/-- BuildingText$Inspection.inspectPiece(LBuildingText$Edition;ILBuildingText$Going;)V -/
def l_44 : List (Nat × Instr × Nat × Nat) := [(0, .aload_n 1, 0, 0), (1, .getfield 21, 1, 1), (4, .iload_n 2, 0, 0), (5, .invokevirtual 30, 150, 0), (8, .checkcast 34, 6, 0), (11, .getfield 97, 6, 19), (14, .ifCond .eq 29, 43, 0), (17, .aload_n 3, 0, 0), (18, .iload_n 2, 0, 0), (19, .invokevirtual 101, 36, 1), (22, .ifCond .ne 21, 43, 0), (25, .aload_n 0, 0, 0), (26, .getfield 12, 4, 0), (29, .new 61, 2, 0), (32, .dup, 0, 0), (33, .iconst 5, 5, 0), (34, .iload_n 2, 0, 0), (35, .iconst (-1), 1, 1), (36, .invokespecial 63, 26, 1), (39, .invokevirtual 66, 145, 0), (42, .pop, 0, 0), (43, .return_, 0, 0)]
theorem k_44 : sm_tab 44 (fun pc => sm_lk pc l_44) := sm_tabOf (by decide +kernel)
/-- BuildingText$Inspection.inspectAtPiece(LBuildingText$Edition;I)V -/
def l_45 : List (Nat × Instr × Nat × Nat) := [(0, .aload_n 1, 0, 0), (1, .getfield 21, 1, 1), (4, .iload_n 2, 0, 0), (5, .invokevirtual 30, 150, 0), (8, .checkcast 34, 6, 0), (11, .getfield 54, 6, 15), (14, .istore_n 3, 0, 0), (15, .aload_n 1, 0, 0), (16, .getfield 21, 1, 1), (19, .iload_n 3, 0, 0), (20, .invokevirtual 30, 150, 0), (23, .checkcast 34, 6, 0), (26, .getfield 97, 6, 19), (29, .ifCond .ne 21, 50, 0), (32, .aload_n 0, 0, 0), (33, .getfield 12, 4, 0), (36, .new 61, 2, 0), (39, .dup, 0, 0), (40, .iconst 4, 4, 0), (41, .iload_n 2, 0, 0), (42, .iload_n 3, 0, 0), (43, .invokespecial 63, 26, 1), (46, .invokevirtual 66, 145, 0), (49, .pop, 0, 0), (50, .return_, 0, 0)]
theorem k_45 : sm_tab 45 (fun pc => sm_lk pc l_45) := sm_tabOf (by decide +kernel)
/-- BuildingText$Link.<init>(IIZ)V -/
def l_46 : List (Nat × Instr × Nat × Nat) := [(0, .aload_n 0, 0, 0), (1, .invokespecial 1, 0, 2), (4, .aload_n 0, 0, 0), (5, .iload_n 1, 0, 0), (6, .putfield 7, 5, 0), (9, .aload_n 0, 0, 0), (10, .iload_n 2, 0, 0), (11, .putfield 13, 5, 2), (14, .aload_n 0, 0, 0), (15, .iload_n 3, 0, 0), (16, .putfield 16, 5, 4), (19, .return_, 0, 0)]
theorem k_46 : sm_tab 46 (fun pc => sm_lk pc l_46) := sm_tabOf (by decide +kernel)
/-- BuildingText$Place.<init>(IIIIII)V -/
def l_47 : List (Nat × Instr × Nat × Nat) := [(0, .aload_n 0, 0, 0), (1, .invokespecial 3, 0, 2), (4, .aload_n 0, 0, 0), (5, .iload_n 1, 0, 0), (6, .putfield 9, 6, 0), (9, .aload_n 0, 0, 0), (10, .iload_n 2, 0, 0), (11, .putfield 15, 6, 2), (14, .aload_n 0, 0, 0), (15, .iload_n 3, 0, 0), (16, .putfield 18, 6, 4), (19, .aload_n 0, 0, 0), (20, .iload 4, 0, 0), (22, .putfield 21, 6, 6), (25, .aload_n 0, 0, 0), (26, .iload 5, 0, 0), (28, .putfield 24, 6, 8), (31, .aload_n 0, 0, 0), (32, .iload 6, 0, 0), (34, .putfield 27, 6, 10), (37, .aload_n 0, 0, 0), (38, .iconst (-1), 1, 1), (39, .putfield 30, 6, 14), (42, .return_, 0, 0)]
theorem k_47 : sm_tab 47 (fun pc => sm_lk pc l_47) := sm_tabOf (by decide +kernel)
/-- BuildingText$Place.sharesArea(LBuildingText$Place;)Z -/
def l_48 : List (Nat × Instr × Nat × Nat) := [(0, .aload_n 0, 0, 0), (1, .getfield 18, 6, 4), (4, .aload_n 1, 0, 0), (5, .getfield 18, 6, 4), (8, .aload_n 1, 0, 0), (9, .getfield 24, 6, 8), (12, .iadd, 0, 0), (13, .if_icmp .ge 55, 68, 0), (16, .aload_n 1, 0, 0), (17, .getfield 18, 6, 4), (20, .aload_n 0, 0, 0), (21, .getfield 18, 6, 4), (24, .aload_n 0, 0, 0), (25, .getfield 24, 6, 8), (28, .iadd, 0, 0), (29, .if_icmp .ge 39, 68, 0), (32, .aload_n 0, 0, 0), (33, .getfield 21, 6, 6), (36, .aload_n 1, 0, 0), (37, .getfield 21, 6, 6), (40, .aload_n 1, 0, 0), (41, .getfield 27, 6, 10), (44, .iadd, 0, 0), (45, .if_icmp .ge 23, 68, 0), (48, .aload_n 1, 0, 0), (49, .getfield 21, 6, 6), (52, .aload_n 0, 0, 0), (53, .getfield 21, 6, 6), (56, .aload_n 0, 0, 0), (57, .getfield 27, 6, 10), (60, .iadd, 0, 0), (61, .if_icmp .ge 7, 68, 0), (64, .iconst 1, 1, 0), (65, .goto 4, 69, 0), (68, .iconst 0, 0, 0), (69, .ireturn, 0, 0)]
theorem k_48 : sm_tab 48 (fun pc => sm_lk pc l_48) := sm_tabOf (by decide +kernel)
/-- BuildingText$Place.contains(LBuildingText$Place;)Z -/
def l_49 : List (Nat × Instr × Nat × Nat) := [(0, .aload_n 1, 0, 0), (1, .getfield 18, 6, 4), (4, .aload_n 0, 0, 0), (5, .getfield 18, 6, 4), (8, .if_icmp .lt 60, 68, 0), (11, .aload_n 1, 0, 0), (12, .getfield 18, 6, 4), (15, .aload_n 1, 0, 0), (16, .getfield 24, 6, 8), (19, .iadd, 0, 0), (20, .aload_n 0, 0, 0), (21, .getfield 18, 6, 4), (24, .aload_n 0, 0, 0), (25, .getfield 24, 6, 8), (28, .iadd, 0, 0), (29, .if_icmp .gt 39, 68, 0), (32, .aload_n 1, 0, 0), (33, .getfield 21, 6, 6), (36, .aload_n 0, 0, 0), (37, .getfield 21, 6, 6), (40, .if_icmp .lt 28, 68, 0), (43, .aload_n 1, 0, 0), (44, .getfield 21, 6, 6), (47, .aload_n 1, 0, 0), (48, .getfield 27, 6, 10), (51, .iadd, 0, 0), (52, .aload_n 0, 0, 0), (53, .getfield 21, 6, 6), (56, .aload_n 0, 0, 0), (57, .getfield 27, 6, 10), (60, .iadd, 0, 0), (61, .if_icmp .gt 7, 68, 0), (64, .iconst 1, 1, 0), (65, .goto 4, 69, 0), (68, .iconst 0, 0, 0), (69, .ireturn, 0, 0)]
theorem k_49 : sm_tab 49 (fun pc => sm_lk pc l_49) := sm_tabOf (by decide +kernel)
/-- BuildingText$Place.hasPointsOf(LBuildingText$Place;)Z -/
def l_50 : List (Nat × Instr × Nat × Nat) := [(0, .aload_n 0, 0, 0), (1, .getfield 18, 6, 4), (4, .aload_n 1, 0, 0), (5, .getfield 18, 6, 4), (8, .if_icmp .ne 40, 48, 0), (11, .aload_n 0, 0, 0), (12, .getfield 21, 6, 6), (15, .aload_n 1, 0, 0), (16, .getfield 21, 6, 6), (19, .if_icmp .ne 29, 48, 0), (22, .aload_n 0, 0, 0), (23, .getfield 24, 6, 8), (26, .aload_n 1, 0, 0), (27, .getfield 24, 6, 8), (30, .if_icmp .ne 18, 48, 0), (33, .aload_n 0, 0, 0), (34, .getfield 27, 6, 10), (37, .aload_n 1, 0, 0), (38, .getfield 27, 6, 10), (41, .if_icmp .ne 7, 48, 0), (44, .iconst 1, 1, 0), (45, .goto 4, 49, 0), (48, .iconst 0, 0, 0), (49, .ireturn, 0, 0)]
theorem k_50 : sm_tab 50 (fun pc => sm_lk pc l_50) := sm_tabOf (by decide +kernel)
/-- BuildingText$Plan.<init>()V -/
def l_51 : List (Nat × Instr × Nat × Nat) := [(0, .aload_n 0, 0, 0), (1, .invokespecial 3, 0, 2), (4, .aload_n 0, 0, 0), (5, .sipush 820, 820, 0), (8, .newarray .char, 0, 0), (10, .putfield 11, 7, 0), (13, .return_, 0, 0)]
theorem k_51 : sm_tab 51 (fun pc => sm_lk pc l_51) := sm_tabOf (by decide +kernel)
/-- BuildingText$Plan.layOut(LBuildingText$Edition;)V -/
def l_52 : List (Nat × Instr × Nat × Nat) := [(0, .aload_n 0, 0, 0), (1, .aload_n 1, 0, 0), (2, .invokestatic 15, 53, 0), (5, .invokevirtual 19, 54, 0), (8, .aload_n 0, 0, 0), (9, .aload_n 1, 0, 0), (10, .iconst 0, 0, 0), (11, .bipush 35, 35, 0), (13, .invokevirtual 23, 55, 0), (16, .aload_n 0, 0, 0), (17, .aload_n 1, 0, 0), (18, .iconst 1, 1, 0), (19, .bipush 98, 98, 0), (21, .invokevirtual 23, 55, 0), (24, .aload_n 0, 0, 0), (25, .aload_n 1, 0, 0), (26, .iconst 2, 2, 0), (27, .bipush 43, 43, 0), (29, .invokevirtual 23, 55, 0), (32, .aload_n 0, 0, 0), (33, .aload_n 1, 0, 0), (34, .invokevirtual 27, 57, 0), (37, .aload_n 0, 0, 0), (38, .aload_n 1, 0, 0), (39, .iconst 5, 5, 0), (40, .bipush 67, 67, 0), (42, .invokevirtual 23, 55, 0), (45, .aload_n 0, 0, 0), (46, .aload_n 1, 0, 0), (47, .iconst 4, 4, 0), (48, .bipush 83, 83, 0), (50, .invokevirtual 23, 55, 0), (53, .aload_n 0, 0, 0), (54, .aload_n 1, 0, 0), (55, .iconst 3, 3, 0), (56, .bipush 68, 68, 0), (58, .invokevirtual 23, 55, 0), (61, .return_, 0, 0)]
theorem k_52 : sm_tab 52 (fun pc => sm_lk pc l_52) := sm_tabOf (by decide +kernel)
/-- BuildingText$Plan.countRows(LBuildingText$Edition;)I -/
def l_53 : List (Nat × Instr × Nat × Nat) := [(0, .iconst 0, 0, 0), (1, .istore_n 1, 0, 0), (2, .iconst 0, 0, 0), (3, .istore_n 2, 0, 0), (4, .iload_n 2, 0, 0), (5, .aload_n 0, 0, 0), (6, .getfield 31, 1, 1), (9, .invokevirtual 37, 149, 0), (12, .if_icmp .ge 35, 47, 0), (15, .aload_n 0, 0, 0), (16, .getfield 31, 1, 1), (19, .iload_n 2, 0, 0), (20, .invokevirtual 43, 150, 0), (23, .checkcast 47, 6, 0), (26, .astore_n 3, 0, 0), (27, .iload_n 1, 0, 0), (28, .aload_n 3, 0, 0), (29, .getfield 49, 6, 7), (32, .aload_n 3, 0, 0), (33, .getfield 53, 6, 11), (36, .iadd, 0, 0), (37, .invokestatic 56, 0, 4), (40, .istore_n 1, 0, 0), (41, .iinc 2 1, 1, 0), (44, .goto (-40), 4, 0), (47, .iload_n 1, 0, 0), (48, .ireturn, 0, 0)]
theorem k_53 : sm_tab 53 (fun pc => sm_lk pc l_53) := sm_tabOf (by decide +kernel)
end
section
/-- BuildingText$Plan.layOutEmptyRows(I)V -/
def l_54 : List (Nat × Instr × Nat × Nat) := [(0, .aload_n 0, 0, 0), (1, .iload_n 1, 0, 0), (2, .bipush 41, 41, 0), (4, .imul, 0, 0), (5, .putfield 62, 7, 2), (8, .iconst 0, 0, 0), (9, .istore_n 2, 0, 0), (10, .iload_n 2, 0, 0), (11, .aload_n 0, 0, 0), (12, .getfield 62, 7, 2), (15, .if_icmp .ge 31, 46, 0), (18, .aload_n 0, 0, 0), (19, .getfield 11, 7, 0), (22, .iload_n 2, 0, 0), (23, .iload_n 2, 0, 0), (24, .bipush 41, 41, 0), (26, .irem, 0, 0), (27, .bipush 40, 40, 0), (29, .if_icmp .ne 8, 37, 0), (32, .bipush 10, 10, 0), (34, .goto 5, 39, 0), (37, .bipush 46, 46, 0), (39, .castore, 0, 0), (40, .iinc 2 1, 1, 0), (43, .goto (-33), 10, 0), (46, .return_, 0, 0)]
theorem k_54 : sm_tab 54 (fun pc => sm_lk pc l_54) := sm_tabOf (by decide +kernel)
/-- BuildingText$Plan.paintKind(LBuildingText$Edition;IC)V -/
def l_55 : List (Nat × Instr × Nat × Nat) := [(0, .iconst 0, 0, 0), (1, .istore 4, 0, 0), (3, .iload 4, 0, 0), (5, .aload_n 1, 0, 0), (6, .getfield 31, 1, 1), (9, .invokevirtual 37, 149, 0), (12, .if_icmp .ge 39, 51, 0), (15, .aload_n 1, 0, 0), (16, .getfield 31, 1, 1), (19, .iload 4, 0, 0), (21, .invokevirtual 43, 150, 0), (24, .checkcast 47, 6, 0), (27, .astore 5, 0, 0), (29, .aload 5, 0, 0), (31, .getfield 65, 6, 3), (34, .iload_n 2, 0, 0), (35, .if_icmp .ne 10, 45, 0), (38, .aload_n 0, 0, 0), (39, .aload 5, 0, 0), (41, .iload_n 3, 0, 0), (42, .invokevirtual 68, 56, 0), (45, .iinc 4 1, 1, 0), (48, .goto (-45), 3, 0), (51, .return_, 0, 0)]
theorem k_55 : sm_tab 55 (fun pc => sm_lk pc l_55) := sm_tabOf (by decide +kernel)
/-- BuildingText$Plan.paintPlace(LBuildingText$Place;C)V -/
def l_56 : List (Nat × Instr × Nat × Nat) := [(0, .aload_n 1, 0, 0), (1, .getfield 49, 6, 7), (4, .istore_n 3, 0, 0), (5, .iload_n 3, 0, 0), (6, .aload_n 1, 0, 0), (7, .getfield 49, 6, 7), (10, .aload_n 1, 0, 0), (11, .getfield 53, 6, 11), (14, .iadd, 0, 0), (15, .if_icmp .ge 48, 63, 0), (18, .aload_n 1, 0, 0), (19, .getfield 80, 6, 5), (22, .istore 4, 0, 0), (24, .iload 4, 0, 0), (26, .aload_n 1, 0, 0), (27, .getfield 80, 6, 5), (30, .aload_n 1, 0, 0), (31, .getfield 83, 6, 9), (34, .iadd, 0, 0), (35, .if_icmp .ge 22, 57, 0), (38, .aload_n 0, 0, 0), (39, .getfield 11, 7, 0), (42, .iload_n 3, 0, 0), (43, .bipush 41, 41, 0), (45, .imul, 0, 0), (46, .iload 4, 0, 0), (48, .iadd, 0, 0), (49, .iload_n 2, 0, 0), (50, .castore, 0, 0), (51, .iinc 4 1, 1, 0), (54, .goto (-30), 24, 0), (57, .iinc 3 1, 1, 0), (60, .goto (-55), 5, 0), (63, .return_, 0, 0)]
theorem k_56 : sm_tab 56 (fun pc => sm_lk pc l_56) := sm_tabOf (by decide +kernel)
/-- BuildingText$Plan.paintStops(LBuildingText$Edition;)V -/
def l_57 : List (Nat × Instr × Nat × Nat) := [(0, .iconst 0, 0, 0), (1, .istore_n 2, 0, 0), (2, .iload_n 2, 0, 0), (3, .aload_n 1, 0, 0), (4, .getfield 72, 1, 7), (7, .invokevirtual 37, 149, 0), (10, .if_icmp .ge 39, 49, 0), (13, .aload_n 0, 0, 0), (14, .aload_n 1, 0, 0), (15, .getfield 31, 1, 1), (18, .aload_n 1, 0, 0), (19, .getfield 72, 1, 7), (22, .iload_n 2, 0, 0), (23, .invokevirtual 43, 150, 0), (26, .checkcast 75, 5, 0), (29, .getfield 77, 5, 3), (32, .invokevirtual 43, 150, 0), (35, .checkcast 47, 6, 0), (38, .bipush 69, 69, 0), (40, .invokevirtual 68, 56, 0), (43, .iinc 2 1, 1, 0), (46, .goto (-44), 2, 0), (49, .return_, 0, 0)]
theorem k_57 : sm_tab 57 (fun pc => sm_lk pc l_57) := sm_tabOf (by decide +kernel)
/-- BuildingText$TextReader.<init>([CILBuildingText$Edition;)V -/
def l_58 : List (Nat × Instr × Nat × Nat) := [(0, .aload_n 0, 0, 0), (1, .invokespecial 3, 0, 2), (4, .aload_n 0, 0, 0), (5, .aload_n 1, 0, 0), (6, .putfield 9, 8, 0), (9, .aload_n 0, 0, 0), (10, .iload_n 2, 0, 0), (11, .putfield 15, 8, 2), (14, .aload_n 0, 0, 0), (15, .aload_n 3, 0, 0), (16, .putfield 19, 8, 4), (19, .aload_n 0, 0, 0), (20, .iconst 4, 4, 0), (21, .newarray .int, 0, 0), (23, .putfield 23, 8, 6), (26, .aload_n 0, 0, 0), (27, .iconst (-1), 1, 1), (28, .putfield 27, 8, 10), (31, .return_, 0, 0)]
theorem k_58 : sm_tab 58 (fun pc => sm_lk pc l_58) := sm_tabOf (by decide +kernel)
/-- BuildingText$TextReader.readLines()I -/
def l_59 : List (Nat × Instr × Nat × Nat) := [(0, .iconst 0, 0, 0), (1, .istore_n 1, 0, 0), (2, .iload_n 1, 0, 0), (3, .sipush 3000, 3000, 0), (6, .if_icmp .ge 228, 234, 0), (9, .aload_n 0, 0, 0), (10, .getfield 30, 8, 8), (13, .aload_n 0, 0, 0), (14, .getfield 15, 8, 2), (17, .if_icmp .ge 217, 234, 0), (20, .aload_n 0, 0, 0), (21, .getfield 27, 8, 10), (24, .iconst (-1), 1, 1), (25, .if_icmp .ne 209, 234, 0), (28, .aload_n 0, 0, 0), (29, .invokevirtual 33, 60, 0), (32, .istore_n 2, 0, 0), (33, .aload_n 0, 0, 0), (34, .dup, 0, 0), (35, .getfield 30, 8, 8), (38, .iconst 1, 1, 0), (39, .iadd, 0, 0), (40, .putfield 30, 8, 8), (43, .iload_n 2, 0, 0), (44, .tableswitch 174 65 87 #[167, 115, 152, 136, 160, 174, 174, 174, 174, 174, 174, 174, 174, 174, 174, 122, 174, 108, 144, 174, 174, 174, 129], 0, 0), (152, .aload_n 0, 0, 0), (153, .invokevirtual 37, 61, 0), (156, .goto 72, 228, 0), (159, .aload_n 0, 0, 0), (160, .invokevirtual 40, 72, 0), (163, .goto 65, 228, 0), (166, .aload_n 0, 0, 0), (167, .invokevirtual 43, 74, 0), (170, .goto 58, 228, 0), (173, .aload_n 0, 0, 0), (174, .invokevirtual 46, 75, 0), (177, .goto 51, 228, 0), (180, .aload_n 0, 0, 0), (181, .iconst 3, 3, 0), (182, .invokevirtual 49, 76, 0), (185, .goto 43, 228, 0), (188, .aload_n 0, 0, 0), (189, .iconst 4, 4, 0), (190, .invokevirtual 49, 76, 0), (193, .goto 35, 228, 0), (196, .aload_n 0, 0, 0), (197, .iconst 5, 5, 0), (198, .invokevirtual 49, 76, 0), (201, .goto 27, 228, 0), (204, .aload_n 0, 0, 0), (205, .invokevirtual 53, 78, 0), (208, .goto 20, 228, 0), (211, .aload_n 0, 0, 0), (212, .invokevirtual 56, 79, 0), (215, .goto 13, 228, 0), (218, .aload_n 0, 0, 0), (219, .aload_n 0, 0, 0), (220, .getfield 30, 8, 8), (223, .iconst 1, 1, 0), (224, .isub, 0, 0), (225, .invokevirtual 59, 64, 0), (228, .iinc 1 1, 1, 0), (231, .goto (-229), 2, 0), (234, .aload_n 0, 0, 0), (235, .getfield 27, 8, 10), (238, .ireturn, 0, 0)]
theorem k_59 : sm_tab 59 (fun pc => sm_lk pc l_59) := sm_tabOf (by decide +kernel)
/-- BuildingText$TextReader.peek()I -/
def l_60 : List (Nat × Instr × Nat × Nat) := [(0, .aload_n 0, 0, 0), (1, .getfield 30, 8, 8), (4, .aload_n 0, 0, 0), (5, .getfield 15, 8, 2), (8, .if_icmp .ge 15, 23, 0), (11, .aload_n 0, 0, 0), (12, .getfield 9, 8, 0), (15, .aload_n 0, 0, 0), (16, .getfield 30, 8, 8), (19, .caload, 0, 0), (20, .goto 4, 24, 0), (23, .iconst (-1), 1, 1), (24, .ireturn, 0, 0)]
theorem k_60 : sm_tab 60 (fun pc => sm_lk pc l_60) := sm_tabOf (by decide +kernel)
/-- BuildingText$TextReader.readRack()V -/
def l_61 : List (Nat × Instr × Nat × Nat) := [(0, .aload_n 0, 0, 0), (1, .invokevirtual 62, 62, 0), (4, .istore_n 1, 0, 0), (5, .aload_n 0, 0, 0), (6, .iload_n 1, 0, 0), (7, .iconst 0, 0, 0), (8, .invokevirtual 65, 69, 0), (11, .astore_n 2, 0, 0), (12, .aload_n 0, 0, 0), (13, .invokevirtual 69, 71, 0), (16, .ifCond .eq 15, 31, 0), (19, .aload_n 0, 0, 0), (20, .getfield 19, 8, 4), (23, .getfield 73, 1, 1), (26, .aload_n 2, 0, 0), (27, .invokevirtual 79, 145, 0), (30, .pop, 0, 0), (31, .return_, 0, 0)]
theorem k_61 : sm_tab 61 (fun pc => sm_lk pc l_61) := sm_tabOf (by decide +kernel)
/-- BuildingText$TextReader.readNewName()I -/
def l_62 : List (Nat × Instr × Nat × Nat) := [(0, .aload_n 0, 0, 0), (1, .bipush 32, 32, 0), (3, .invokevirtual 130, 63, 0), (6, .aload_n 0, 0, 0), (7, .getfield 30, 8, 8), (10, .istore_n 1, 0, 0), (11, .aload_n 0, 0, 0), (12, .invokevirtual 140, 65, 0), (15, .istore_n 2, 0, 0), (16, .aload_n 0, 0, 0), (17, .getfield 19, 8, 4), (20, .iload_n 2, 0, 0), (21, .invokevirtual 143, 18, 1), (24, .iconst (-1), 1, 1), (25, .if_icmp .eq 8, 33, 0), (28, .aload_n 0, 0, 0), (29, .iload_n 1, 0, 0), (30, .invokevirtual 59, 64, 0), (33, .iload_n 2, 0, 0), (34, .ireturn, 0, 0)]
theorem k_62 : sm_tab 62 (fun pc => sm_lk pc l_62) := sm_tabOf (by decide +kernel)
/-- BuildingText$TextReader.skip(I)V -/
def l_63 : List (Nat × Instr × Nat × Nat) := [(0, .aload_n 0, 0, 0), (1, .invokevirtual 33, 60, 0), (4, .iload_n 1, 0, 0), (5, .if_icmp .ne 16, 21, 0), (8, .aload_n 0, 0, 0), (9, .dup, 0, 0), (10, .getfield 30, 8, 8), (13, .iconst 1, 1, 0), (14, .iadd, 0, 0), (15, .putfield 30, 8, 8), (18, .goto 11, 29, 0), (21, .aload_n 0, 0, 0), (22, .aload_n 0, 0, 0), (23, .getfield 30, 8, 8), (26, .invokevirtual 59, 64, 0), (29, .return_, 0, 0)]
theorem k_63 : sm_tab 63 (fun pc => sm_lk pc l_63) := sm_tabOf (by decide +kernel)
/-- BuildingText$TextReader.refuse(I)V -/
def l_64 : List (Nat × Instr × Nat × Nat) := [(0, .aload_n 0, 0, 0), (1, .getfield 27, 8, 10), (4, .iconst (-1), 1, 1), (5, .if_icmp .ne 8, 13, 0), (8, .aload_n 0, 0, 0), (9, .iload_n 1, 0, 0), (10, .putfield 27, 8, 10), (13, .return_, 0, 0)]
theorem k_64 : sm_tab 64 (fun pc => sm_lk pc l_64) := sm_tabOf (by decide +kernel)
/-- BuildingText$TextReader.readName()I -/
def l_65 : List (Nat × Instr × Nat × Nat) := [(0, .aload_n 0, 0, 0), (1, .invokevirtual 33, 60, 0), (4, .invokestatic 150, 66, 0), (7, .ifCond .ne 11, 18, 0), (10, .aload_n 0, 0, 0), (11, .aload_n 0, 0, 0), (12, .getfield 30, 8, 8), (15, .invokevirtual 59, 64, 0), (18, .iconst 0, 0, 0), (19, .istore_n 1, 0, 0), (20, .iconst 0, 0, 0), (21, .istore_n 2, 0, 0), (22, .iload_n 2, 0, 0), (23, .iconst 4, 4, 0), (24, .if_icmp .ge 40, 64, 0), (27, .aload_n 0, 0, 0), (28, .invokevirtual 33, 60, 0), (31, .invokestatic 154, 67, 0), (34, .ifCond .eq 30, 64, 0), (37, .iload_n 1, 0, 0), (38, .sipush 256, 256, 0), (41, .imul, 0, 0), (42, .aload_n 0, 0, 0), (43, .invokevirtual 33, 60, 0), (46, .iadd, 0, 0), (47, .istore_n 1, 0, 0), (48, .aload_n 0, 0, 0), (49, .dup, 0, 0), (50, .getfield 30, 8, 8), (53, .iconst 1, 1, 0), (54, .iadd, 0, 0), (55, .putfield 30, 8, 8), (58, .iinc 2 1, 1, 0), (61, .goto (-39), 22, 0), (64, .iload_n 1, 0, 0), (65, .ireturn, 0, 0)]
theorem k_65 : sm_tab 65 (fun pc => sm_lk pc l_65) := sm_tabOf (by decide +kernel)
/-- BuildingText$TextReader.isLetter(I)Z -/
def l_66 : List (Nat × Instr × Nat × Nat) := [(0, .iload_n 0, 0, 0), (1, .bipush 97, 97, 0), (3, .if_icmp .lt 13, 16, 0), (6, .iload_n 0, 0, 0), (7, .bipush 122, 122, 0), (9, .if_icmp .gt 7, 16, 0), (12, .iconst 1, 1, 0), (13, .goto 4, 17, 0), (16, .iconst 0, 0, 0), (17, .ireturn, 0, 0)]
theorem k_66 : sm_tab 66 (fun pc => sm_lk pc l_66) := sm_tabOf (by decide +kernel)
/-- BuildingText$TextReader.isNameSign(I)Z -/
def l_67 : List (Nat × Instr × Nat × Nat) := [(0, .iload_n 0, 0, 0), (1, .invokestatic 150, 66, 0), (4, .ifCond .ne 10, 14, 0), (7, .iload_n 0, 0, 0), (8, .invokestatic 157, 68, 0), (11, .ifCond .eq 7, 18, 0), (14, .iconst 1, 1, 0), (15, .goto 4, 19, 0), (18, .iconst 0, 0, 0), (19, .ireturn, 0, 0)]
theorem k_67 : sm_tab 67 (fun pc => sm_lk pc l_67) := sm_tabOf (by decide +kernel)
/-- BuildingText$TextReader.isDigit(I)Z -/
def l_68 : List (Nat × Instr × Nat × Nat) := [(0, .iload_n 0, 0, 0), (1, .bipush 48, 48, 0), (3, .if_icmp .lt 13, 16, 0), (6, .iload_n 0, 0, 0), (7, .bipush 57, 57, 0), (9, .if_icmp .gt 7, 16, 0), (12, .iconst 1, 1, 0), (13, .goto 4, 17, 0), (16, .iconst 0, 0, 0), (17, .ireturn, 0, 0)]
theorem k_68 : sm_tab 68 (fun pc => sm_lk pc l_68) := sm_tabOf (by decide +kernel)
/-- BuildingText$TextReader.readArea(II)LBuildingText$Place; -/
def l_69 : List (Nat × Instr × Nat × Nat) := [(0, .aload_n 0, 0, 0), (1, .iconst 0, 0, 0), (2, .bipush 39, 39, 0), (4, .invokevirtual 89, 70, 0), (7, .istore_n 3, 0, 0), (8, .aload_n 0, 0, 0), (9, .iconst 0, 0, 0), (10, .bipush 19, 19, 0), (12, .invokevirtual 89, 70, 0), (15, .istore 4, 0, 0), (17, .aload_n 0, 0, 0), (18, .iconst 1, 1, 0), (19, .bipush 40, 40, 0), (21, .iload_n 3, 0, 0), (22, .isub, 0, 0), (23, .invokevirtual 89, 70, 0), (26, .istore 5, 0, 0), (28, .aload_n 0, 0, 0), (29, .iconst 1, 1, 0), (30, .bipush 20, 20, 0), (32, .iload 4, 0, 0), (34, .isub, 0, 0), (35, .invokevirtual 89, 70, 0), (38, .istore 6, 0, 0), (40, .new 93, 6, 0), (43, .dup, 0, 0), (44, .iload_n 1, 0, 0), (45, .iload_n 2, 0, 0), (46, .iload_n 3, 0, 0), (47, .iload 4, 0, 0), (49, .iload 5, 0, 0), (51, .iload 6, 0, 0), (53, .invokespecial 100, 47, 1), (56, .areturn, 0, 0)]
theorem k_69 : sm_tab 69 (fun pc => sm_lk pc l_69) := sm_tabOf (by decide +kernel)
/-- BuildingText$TextReader.readNumber(II)I -/
def l_70 : List (Nat × Instr × Nat × Nat) := [(0, .aload_n 0, 0, 0), (1, .bipush 32, 32, 0), (3, .invokevirtual 130, 63, 0), (6, .aload_n 0, 0, 0), (7, .getfield 30, 8, 8), (10, .istore_n 3, 0, 0), (11, .aload_n 0, 0, 0), (12, .invokevirtual 33, 60, 0), (15, .invokestatic 157, 68, 0), (18, .ifCond .ne 11, 29, 0), (21, .aload_n 0, 0, 0), (22, .aload_n 0, 0, 0), (23, .getfield 30, 8, 8), (26, .invokevirtual 59, 64, 0), (29, .iconst 0, 0, 0), (30, .istore 4, 0, 0), (32, .iload_n 3, 0, 0), (33, .istore 5, 0, 0), (35, .iload 5, 0, 0), (37, .aload_n 0, 0, 0), (38, .getfield 15, 8, 2), (41, .if_icmp .ge 61, 102, 0), (44, .aload_n 0, 0, 0), (45, .invokevirtual 33, 60, 0), (48, .invokestatic 157, 68, 0), (51, .ifCond .eq 51, 102, 0), (54, .iload 5, 0, 0), (56, .iload_n 3, 0, 0), (57, .if_icmp .eq 8, 65, 0), (60, .iload 4, 0, 0), (62, .ifCond .le 40, 102, 0), (65, .iload 4, 0, 0), (67, .bipush 10, 10, 0), (69, .imul, 0, 0), (70, .aload_n 0, 0, 0), (71, .invokevirtual 33, 60, 0), (74, .iadd, 0, 0), (75, .bipush 48, 48, 0), (77, .isub, 0, 0), (78, .sipush 1000, 1000, 0), (81, .invokestatic 160, 0, 5), (84, .istore 4, 0, 0), (86, .aload_n 0, 0, 0), (87, .dup, 0, 0), (88, .getfield 30, 8, 8), (91, .iconst 1, 1, 0), (92, .iadd, 0, 0), (93, .putfield 30, 8, 8), (96, .iinc 5 1, 1, 0), (99, .goto (-64), 35, 0), (102, .iload 4, 0, 0), (104, .iload_n 1, 0, 0), (105, .if_icmp .lt 9, 114, 0), (108, .iload 4, 0, 0), (110, .iload_n 2, 0, 0), (111, .if_icmp .le 8, 119, 0), (114, .aload_n 0, 0, 0), (115, .iload_n 3, 0, 0), (116, .invokevirtual 59, 64, 0), (119, .iload 4, 0, 0), (121, .ireturn, 0, 0)]
theorem k_70 : sm_tab 70 (fun pc => sm_lk pc l_70) := sm_tabOf (by decide +kernel)
/-- BuildingText$TextReader.endsLine()Z -/
def l_71 : List (Nat × Instr × Nat × Nat) := [(0, .aload_n 0, 0, 0), (1, .bipush 10, 10, 0), (3, .invokevirtual 130, 63, 0), (6, .aload_n 0, 0, 0), (7, .getfield 27, 8, 10), (10, .iconst (-1), 1, 1), (11, .if_icmp .ne 7, 18, 0), (14, .iconst 1, 1, 0), (15, .goto 4, 19, 0), (18, .iconst 0, 0, 0), (19, .ireturn, 0, 0)]
theorem k_71 : sm_tab 71 (fun pc => sm_lk pc l_71) := sm_tabOf (by decide +kernel)
/-- BuildingText$TextReader.readBin()V -/
def l_72 : List (Nat × Instr × Nat × Nat) := [(0, .aload_n 0, 0, 0), (1, .invokevirtual 62, 62, 0), (4, .istore_n 1, 0, 0), (5, .aload_n 0, 0, 0), (6, .iconst 0, 0, 0), (7, .iconst (-1), 1, 1), (8, .invokevirtual 85, 73, 0), (11, .istore_n 2, 0, 0), (12, .aload_n 0, 0, 0), (13, .iconst 1, 1, 0), (14, .bipush 9, 9, 0), (16, .invokevirtual 89, 70, 0), (19, .istore_n 3, 0, 0), (20, .aload_n 0, 0, 0), (21, .iload_n 1, 0, 0), (22, .iconst 1, 1, 0), (23, .invokevirtual 65, 69, 0), (26, .astore 4, 0, 0), (28, .aload 4, 0, 0), (30, .iload_n 3, 0, 0), (31, .putfield 92, 6, 13), (34, .aload 4, 0, 0), (36, .iload_n 2, 0, 0), (37, .putfield 97, 6, 15), (40, .aload_n 0, 0, 0), (41, .invokevirtual 69, 71, 0), (44, .ifCond .eq 16, 60, 0), (47, .aload_n 0, 0, 0), (48, .getfield 19, 8, 4), (51, .getfield 73, 1, 1), (54, .aload 4, 0, 0), (56, .invokevirtual 79, 145, 0), (59, .pop, 0, 0), (60, .return_, 0, 0)]
theorem k_72 : sm_tab 72 (fun pc => sm_lk pc l_72) := sm_tabOf (by decide +kernel)
/-- BuildingText$TextReader.readUsedName(II)I -/
def l_73 : List (Nat × Instr × Nat × Nat) := [(0, .aload_n 0, 0, 0), (1, .bipush 32, 32, 0), (3, .invokevirtual 130, 63, 0), (6, .aload_n 0, 0, 0), (7, .getfield 30, 8, 8), (10, .istore_n 3, 0, 0), (11, .aload_n 0, 0, 0), (12, .invokevirtual 140, 65, 0), (15, .istore 4, 0, 0), (17, .aload_n 0, 0, 0), (18, .getfield 19, 8, 4), (21, .iload 4, 0, 0), (23, .invokevirtual 143, 18, 1), (26, .istore 5, 0, 0), (28, .iload 5, 0, 0), (30, .iconst (-1), 1, 1), (31, .if_icmp .eq 31, 62, 0), (34, .iload 5, 0, 0), (36, .iload_n 2, 0, 0), (37, .if_icmp .eq 25, 62, 0), (40, .aload_n 0, 0, 0), (41, .getfield 19, 8, 4), (44, .getfield 73, 1, 1), (47, .iload 5, 0, 0), (49, .invokevirtual 114, 150, 0), (52, .checkcast 93, 6, 0), (55, .getfield 147, 6, 3), (58, .iload_n 1, 0, 0), (59, .if_icmp .eq 8, 67, 0), (62, .aload_n 0, 0, 0), (63, .iload_n 3, 0, 0), (64, .invokevirtual 59, 64, 0), (67, .iload 5, 0, 0), (69, .ireturn, 0, 0)]
theorem k_73 : sm_tab 73 (fun pc => sm_lk pc l_73) := sm_tabOf (by decide +kernel)
/-- BuildingText$TextReader.readPiece()V -/
def l_74 : List (Nat × Instr × Nat × Nat) := [(0, .aload_n 0, 0, 0), (1, .invokevirtual 62, 62, 0), (4, .istore_n 1, 0, 0), (5, .aload_n 0, 0, 0), (6, .iconst 0, 0, 0), (7, .bipush 39, 39, 0), (9, .invokevirtual 89, 70, 0), (12, .istore_n 2, 0, 0), (13, .aload_n 0, 0, 0), (14, .iconst 0, 0, 0), (15, .bipush 19, 19, 0), (17, .invokevirtual 89, 70, 0), (20, .istore_n 3, 0, 0), (21, .aload_n 0, 0, 0), (22, .invokevirtual 69, 71, 0), (25, .ifCond .eq 27, 52, 0), (28, .aload_n 0, 0, 0), (29, .getfield 19, 8, 4), (32, .getfield 73, 1, 1), (35, .new 93, 6, 0), (38, .dup, 0, 0), (39, .iload_n 1, 0, 0), (40, .iconst 2, 2, 0), (41, .iload_n 2, 0, 0), (42, .iload_n 3, 0, 0), (43, .iconst 1, 1, 0), (44, .iconst 1, 1, 0), (45, .invokespecial 100, 47, 1), (48, .invokevirtual 79, 145, 0), (51, .pop, 0, 0), (52, .return_, 0, 0)]
theorem k_74 : sm_tab 74 (fun pc => sm_lk pc l_74) := sm_tabOf (by decide +kernel)
/-- BuildingText$TextReader.readWay()V -/
def l_75 : List (Nat × Instr × Nat × Nat) := [(0, .aload_n 0, 0, 0), (1, .iconst 2, 2, 0), (2, .iconst (-1), 1, 1), (3, .invokevirtual 85, 73, 0), (6, .istore_n 1, 0, 0), (7, .aload_n 0, 0, 0), (8, .iconst 2, 2, 0), (9, .iload_n 1, 0, 0), (10, .invokevirtual 85, 73, 0), (13, .istore_n 2, 0, 0), (14, .aload_n 0, 0, 0), (15, .bipush 32, 32, 0), (17, .invokevirtual 130, 63, 0), (20, .aload_n 0, 0, 0), (21, .invokevirtual 33, 60, 0), (24, .istore_n 3, 0, 0), (25, .iload_n 3, 0, 0), (26, .bipush 62, 62, 0), (28, .if_icmp .eq 9, 37, 0), (31, .iload_n 3, 0, 0), (32, .bipush 61, 61, 0), (34, .if_icmp .ne 16, 50, 0), (37, .aload_n 0, 0, 0), (38, .dup, 0, 0), (39, .getfield 30, 8, 8), (42, .iconst 1, 1, 0), (43, .iadd, 0, 0), (44, .putfield 30, 8, 8), (47, .goto 11, 58, 0), (50, .aload_n 0, 0, 0), (51, .aload_n 0, 0, 0), (52, .getfield 30, 8, 8), (55, .invokevirtual 59, 64, 0), (58, .aload_n 0, 0, 0), (59, .invokevirtual 69, 71, 0), (62, .ifCond .eq 23, 85, 0), (65, .aload_n 0, 0, 0), (66, .getfield 19, 8, 4), (69, .iload_n 1, 0, 0), (70, .iload_n 2, 0, 0), (71, .iload_n 3, 0, 0), (72, .bipush 61, 61, 0), (74, .if_icmp .ne 7, 81, 0), (77, .iconst 1, 1, 0), (78, .goto 4, 82, 0), (81, .iconst 0, 0, 0), (82, .invokevirtual 133, 19, 1), (85, .return_, 0, 0)]
theorem k_75 : sm_tab 75 (fun pc => sm_lk pc l_75) := sm_tabOf (by decide +kernel)
/-- BuildingText$TextReader.readAtPiece(I)V -/
def l_76 : List (Nat × Instr × Nat × Nat) := [(0, .aload_n 0, 0, 0), (1, .invokevirtual 62, 62, 0), (4, .istore_n 2, 0, 0), (5, .aload_n 0, 0, 0), (6, .iconst 2, 2, 0), (7, .iconst (-1), 1, 1), (8, .invokevirtual 85, 73, 0), (11, .istore_n 3, 0, 0), (12, .aload_n 0, 0, 0), (13, .invokevirtual 69, 71, 0), (16, .ifCond .eq 10, 26, 0), (19, .aload_n 0, 0, 0), (20, .iload_n 2, 0, 0), (21, .iload_n 1, 0, 0), (22, .iload_n 3, 0, 0), (23, .invokevirtual 103, 77, 0), (26, .return_, 0, 0)]
theorem k_76 : sm_tab 76 (fun pc => sm_lk pc l_76) := sm_tabOf (by decide +kernel)
/-- BuildingText$TextReader.addAtPiece(III)V -/
def l_77 : List (Nat × Instr × Nat × Nat) := [(0, .aload_n 0, 0, 0), (1, .getfield 19, 8, 4), (4, .getfield 73, 1, 1), (7, .iload_n 3, 0, 0), (8, .invokevirtual 114, 150, 0), (11, .checkcast 93, 6, 0), (14, .astore 4, 0, 0), (16, .new 93, 6, 0), (19, .dup, 0, 0), (20, .iload_n 1, 0, 0), (21, .iload_n 2, 0, 0), (22, .aload 4, 0, 0), (24, .getfield 118, 6, 5), (27, .aload 4, 0, 0), (29, .getfield 121, 6, 7), (32, .aload 4, 0, 0), (34, .getfield 124, 6, 9), (37, .aload 4, 0, 0), (39, .getfield 127, 6, 11), (42, .invokespecial 100, 47, 1), (45, .astore 5, 0, 0), (47, .aload 5, 0, 0), (49, .iload_n 3, 0, 0), (50, .putfield 97, 6, 15), (53, .aload_n 0, 0, 0), (54, .getfield 19, 8, 4), (57, .getfield 73, 1, 1), (60, .aload 5, 0, 0), (62, .invokevirtual 79, 145, 0), (65, .pop, 0, 0), (66, .return_, 0, 0)]
theorem k_77 : sm_tab 77 (fun pc => sm_lk pc l_77) := sm_tabOf (by decide +kernel)
/-- BuildingText$TextReader.readLift()V -/
def l_78 : List (Nat × Instr × Nat × Nat) := [(0, .aload_n 0, 0, 0), (1, .invokevirtual 62, 62, 0), (4, .istore_n 1, 0, 0), (5, .aload_n 0, 0, 0), (6, .getfield 23, 8, 6), (9, .iconst 0, 0, 0), (10, .aload_n 0, 0, 0), (11, .iconst 2, 2, 0), (12, .iconst (-1), 1, 1), (13, .invokevirtual 85, 73, 0), (16, .iastore, 0, 0), (17, .iconst 1, 1, 0), (18, .istore_n 2, 0, 0), (19, .iload_n 2, 0, 0), (20, .iconst 4, 4, 0), (21, .if_icmp .ge 38, 59, 0), (24, .aload_n 0, 0, 0), (25, .getfield 27, 8, 10), (28, .iconst (-1), 1, 1), (29, .if_icmp .ne 30, 59, 0), (32, .aload_n 0, 0, 0), (33, .invokevirtual 33, 60, 0), (36, .bipush 32, 32, 0), (38, .if_icmp .ne 21, 59, 0), (41, .aload_n 0, 0, 0), (42, .getfield 23, 8, 6), (45, .iload_n 2, 0, 0), (46, .aload_n 0, 0, 0), (47, .iconst 2, 2, 0), (48, .iconst (-1), 1, 1), (49, .invokevirtual 85, 73, 0), (52, .iastore, 0, 0), (53, .iinc 2 1, 1, 0), (56, .goto (-37), 19, 0), (59, .aload_n 0, 0, 0), (60, .invokevirtual 69, 71, 0), (63, .ifCond .eq 57, 120, 0), (66, .aload_n 0, 0, 0), (67, .getfield 19, 8, 4), (70, .getfield 73, 1, 1), (73, .invokevirtual 107, 149, 0), (76, .istore_n 3, 0, 0), (77, .aload_n 0, 0, 0), (78, .iload_n 1, 0, 0), (79, .bipush 6, 6, 0), (81, .aload_n 0, 0, 0), (82, .getfield 23, 8, 6), (85, .iconst 0, 0, 0), (86, .iaload, 0, 0), (87, .invokevirtual 103, 77, 0), (90, .iconst 0, 0, 0), (91, .istore 4, 0, 0), (93, .iload 4, 0, 0), (95, .iload_n 2, 0, 0), (96, .if_icmp .ge 24, 120, 0), (99, .aload_n 0, 0, 0), (100, .getfield 19, 8, 4), (103, .iload_n 3, 0, 0), (104, .aload_n 0, 0, 0), (105, .getfield 23, 8, 6), (108, .iload 4, 0, 0), (110, .iaload, 0, 0), (111, .invokevirtual 110, 20, 1), (114, .iinc 4 1, 1, 0), (117, .goto (-24), 93, 0), (120, .return_, 0, 0)]
theorem k_78 : sm_tab 78 (fun pc => sm_lk pc l_78) := sm_tabOf (by decide +kernel)
/-- BuildingText$TextReader.readServe()V -/
def l_79 : List (Nat × Instr × Nat × Nat) := [(0, .aload_n 0, 0, 0), (1, .iconst 1, 1, 0), (2, .iconst (-1), 1, 1), (3, .invokevirtual 85, 73, 0), (6, .istore_n 1, 0, 0), (7, .aload_n 0, 0, 0), (8, .iconst 2, 2, 0), (9, .iconst (-1), 1, 1), (10, .invokevirtual 85, 73, 0), (13, .istore_n 2, 0, 0), (14, .aload_n 0, 0, 0), (15, .invokevirtual 69, 71, 0), (18, .ifCond .eq 12, 30, 0), (21, .aload_n 0, 0, 0), (22, .getfield 19, 8, 4), (25, .iload_n 1, 0, 0), (26, .iload_n 2, 0, 0), (27, .invokevirtual 137, 21, 1), (30, .return_, 0, 0)]
theorem k_79 : sm_tab 79 (fun pc => sm_lk pc l_79) := sm_tabOf (by decide +kernel)
/-- BuildingTextModel.<init>()V -/
def l_80 : List (Nat × Instr × Nat × Nat) := [(0, .aload_n 0, 0, 0), (1, .invokespecial 1, 0, 2), (4, .aload_n 0, 0, 0), (5, .sipush 3000, 3000, 0), (8, .newarray .int, 0, 0), (10, .putfield 7, 9, 2), (13, .aload_n 0, 0, 0), (14, .bipush 8, 8, 0), (16, .newarray .int, 0, 0), (18, .putfield 13, 9, 8), (21, .aload_n 0, 0, 0), (22, .sipush 480, 480, 0), (25, .newarray .int, 0, 0), (27, .putfield 16, 9, 10), (30, .aload_n 0, 0, 0), (31, .sipush 480, 480, 0), (34, .newarray .int, 0, 0), (36, .putfield 19, 9, 12), (39, .aload_n 0, 0, 0), (40, .sipush 480, 480, 0), (43, .newarray .int, 0, 0), (45, .putfield 22, 9, 14), (48, .aload_n 0, 0, 0), (49, .sipush 480, 480, 0), (52, .newarray .int, 0, 0), (54, .putfield 25, 9, 16), (57, .aload_n 0, 0, 0), (58, .sipush 480, 480, 0), (61, .newarray .int, 0, 0), (63, .putfield 28, 9, 18), (66, .aload_n 0, 0, 0), (67, .sipush 480, 480, 0), (70, .newarray .int, 0, 0), (72, .putfield 31, 9, 20), (75, .aload_n 0, 0, 0), (76, .sipush 480, 480, 0), (79, .newarray .int, 0, 0), (81, .putfield 34, 9, 22), (84, .aload_n 0, 0, 0), (85, .sipush 480, 480, 0), (88, .newarray .int, 0, 0), (90, .putfield 37, 9, 24), (93, .aload_n 0, 0, 0), (94, .sipush 480, 480, 0), (97, .newarray .int, 0, 0), (99, .putfield 40, 9, 26), (102, .aload_n 0, 0, 0), (103, .bipush 60, 60, 0), (105, .newarray .int, 0, 0), (107, .putfield 43, 9, 30), (110, .aload_n 0, 0, 0), (111, .bipush 60, 60, 0), (113, .newarray .int, 0, 0), (115, .putfield 46, 9, 32), (118, .aload_n 0, 0, 0), (119, .bipush 60, 60, 0), (121, .newarray .boolean, 0, 0), (123, .putfield 49, 9, 34), (126, .aload_n 0, 0, 0), (127, .bipush 60, 60, 0), (129, .newarray .int, 0, 0), (131, .putfield 53, 9, 38), (134, .aload_n 0, 0, 0), (135, .bipush 60, 60, 0), (137, .newarray .int, 0, 0), (139, .putfield 56, 9, 40), (142, .aload_n 0, 0, 0), (143, .bipush 60, 60, 0), (145, .newarray .int, 0, 0), (147, .putfield 59, 9, 42), (150, .aload_n 0, 0, 0), (151, .sipush 240, 240, 0), (154, .newarray .int, 0, 0), (156, .putfield 62, 9, 44), (159, .aload_n 0, 0, 0), (160, .bipush 60, 60, 0), (162, .newarray .int, 0, 0), (164, .putfield 65, 9, 56), (167, .aload_n 0, 0, 0), (168, .bipush 60, 60, 0), (170, .newarray .int, 0, 0), (172, .putfield 68, 9, 58), (175, .aload_n 0, 0, 0), (176, .bipush 60, 60, 0), (178, .newarray .boolean, 0, 0), (180, .putfield 71, 9, 60), (183, .aload_n 0, 0, 0), (184, .bipush 60, 60, 0), (186, .newarray .int, 0, 0), (188, .putfield 74, 9, 64), (191, .aload_n 0, 0, 0), (192, .bipush 60, 60, 0), (194, .newarray .int, 0, 0), (196, .putfield 77, 9, 66), (199, .aload_n 0, 0, 0), (200, .sipush 501, 501, 0), (203, .newarray .int, 0, 0), (205, .putfield 80, 9, 68), (208, .aload_n 0, 0, 0), (209, .sipush 2004, 2004, 0), (212, .newarray .int, 0, 0), (214, .putfield 83, 9, 70), (217, .aload_n 0, 0, 0), (218, .sipush 501, 501, 0), (221, .newarray .int, 0, 0), (223, .putfield 86, 9, 72), (226, .aload_n 0, 0, 0), (227, .sipush 501, 501, 0), (230, .newarray .int, 0, 0), (232, .putfield 89, 9, 74), (235, .aload_n 0, 0, 0), (236, .sipush 501, 501, 0), (239, .newarray .int, 0, 0), (241, .putfield 92, 9, 76), (244, .aload_n 0, 0, 0), (245, .sipush 501, 501, 0), (248, .newarray .int, 0, 0), (250, .putfield 95, 9, 78), (253, .aload_n 0, 0, 0), (254, .sipush 501, 501, 0), (257, .newarray .int, 0, 0), (259, .putfield 98, 9, 80), (262, .aload_n 0, 0, 0), (263, .sipush 501, 501, 0), (266, .newarray .int, 0, 0), (268, .putfield 101, 9, 82), (271, .aload_n 0, 0, 0), (272, .sipush 501, 501, 0), (275, .newarray .int, 0, 0), (277, .putfield 104, 9, 84), (280, .aload_n 0, 0, 0), (281, .sipush 501, 501, 0), (284, .newarray .int, 0, 0), (286, .putfield 107, 9, 86), (289, .aload_n 0, 0, 0), (290, .bipush 60, 60, 0), (292, .newarray .int, 0, 0), (294, .putfield 110, 9, 88), (297, .aload_n 0, 0, 0), (298, .sipush 820, 820, 0), (301, .newarray .int, 0, 0), (303, .putfield 113, 9, 92), (306, .aload_n 0, 0, 0), (307, .iconst 4, 4, 0), (308, .newarray .int, 0, 0), (310, .putfield 116, 9, 114), (313, .aload_n 0, 0, 0), (314, .sipush 3600, 3600, 0), (317, .newarray .int, 0, 0), (319, .putfield 119, 9, 124), (322, .aload_n 0, 0, 0), (323, .sipush 200, 200, 0), (326, .newarray .int, 0, 0), (328, .putfield 122, 9, 126), (331, .aload_n 0, 0, 0), (332, .sipush 200, 200, 0), (335, .newarray .int, 0, 0), (337, .putfield 125, 9, 128), (340, .aload_n 0, 0, 0), (341, .sipush 200, 200, 0), (344, .newarray .int, 0, 0), (346, .putfield 128, 9, 130), (349, .return_, 0, 0)]
theorem k_80 : sm_tab 80 (fun pc => sm_lk pc l_80) := sm_tabOf (by decide +kernel)
end
section
/-- BuildingTextModel.thrown()I -/
def l_81 : List (Nat × Instr × Nat × Nat) := [(0, .aload_n 0, 0, 0), (1, .getfield 131, 9, 0), (4, .ireturn, 0, 0)]
theorem k_81 : sm_tab 81 (fun pc => sm_lk pc l_81) := sm_tabOf (by decide +kernel)
/-- BuildingTextModel.sign(I)V -/
def l_82 : List (Nat × Instr × Nat × Nat) := [(0, .aload_n 0, 0, 0), (1, .iload_n 1, 0, 0), (2, .bipush 10, 10, 0), (4, .if_icmp .eq 18, 22, 0), (7, .iload_n 1, 0, 0), (8, .bipush 32, 32, 0), (10, .bipush 126, 126, 0), (12, .invokestatic 135, 83, 0), (15, .ifCond .ne 7, 22, 0), (18, .iconst 1, 1, 0), (19, .goto 18, 37, 0), (22, .aload_n 0, 0, 0), (23, .getfield 139, 9, 4), (26, .sipush 3000, 3000, 0), (29, .if_icmp .ne 7, 36, 0), (32, .iconst 2, 2, 0), (33, .goto 4, 37, 0), (36, .iconst 0, 0, 0), (37, .putfield 131, 9, 0), (40, .aload_n 0, 0, 0), (41, .getfield 131, 9, 0), (44, .ifCond .le 4, 48, 0), (47, .return_, 0, 0), (48, .aload_n 0, 0, 0), (49, .getfield 7, 9, 2), (52, .aload_n 0, 0, 0), (53, .getfield 139, 9, 4), (56, .iload_n 1, 0, 0), (57, .iastore, 0, 0), (58, .aload_n 0, 0, 0), (59, .dup, 0, 0), (60, .getfield 139, 9, 4), (63, .iconst 1, 1, 0), (64, .iadd, 0, 0), (65, .putfield 139, 9, 4), (68, .return_, 0, 0)]
theorem k_82 : sm_tab 82 (fun pc => sm_lk pc l_82) := sm_tabOf (by decide +kernel)
/-- BuildingTextModel.in(III)Z -/
def l_83 : List (Nat × Instr × Nat × Nat) := [(0, .iload_n 0, 0, 0), (1, .iload_n 1, 0, 0), (2, .if_icmp .lt 12, 14, 0), (5, .iload_n 0, 0, 0), (6, .iload_n 2, 0, 0), (7, .if_icmp .gt 7, 14, 0), (10, .iconst 1, 1, 0), (11, .goto 4, 15, 0), (14, .iconst 0, 0, 0), (15, .ireturn, 0, 0)]
theorem k_83 : sm_tab 83 (fun pc => sm_lk pc l_83) := sm_tabOf (by decide +kernel)
/-- BuildingTextModel.read()I -/
def l_84 : List (Nat × Instr × Nat × Nat) := [(0, .aload_n 0, 0, 0), (1, .iconst 0, 0, 0), (2, .putfield 142, 9, 46), (5, .aload_n 0, 0, 0), (6, .iconst 0, 0, 0), (7, .putfield 179, 9, 52), (10, .aload_n 0, 0, 0), (11, .iconst 0, 0, 0), (12, .putfield 267, 9, 54), (15, .aload_n 0, 0, 0), (16, .iconst 0, 0, 0), (17, .putfield 270, 9, 62), (20, .aload_n 0, 0, 0), (21, .iconst 0, 0, 0), (22, .putfield 273, 9, 50), (25, .iconst 1, 1, 0), (26, .istore_n 1, 0, 0), (27, .aload_n 0, 0, 0), (28, .getfield 142, 9, 46), (31, .aload_n 0, 0, 0), (32, .getfield 139, 9, 4), (35, .if_icmp .ge 15, 50, 0), (38, .iload_n 1, 0, 0), (39, .ifCond .eq 11, 50, 0), (42, .aload_n 0, 0, 0), (43, .invokevirtual 276, 85, 0), (46, .istore_n 1, 0, 0), (47, .goto (-20), 27, 0), (50, .aload_n 0, 0, 0), (51, .iconst 0, 0, 0), (52, .putfield 139, 9, 4), (55, .aload_n 0, 0, 0), (56, .iload_n 1, 0, 0), (57, .ifCond .eq 32, 89, 0), (60, .aload_n 0, 0, 0), (61, .getfield 273, 9, 50), (64, .ifCond .ne 21, 85, 0), (67, .aload_n 0, 0, 0), (68, .getfield 179, 9, 52), (71, .bipush 60, 60, 0), (73, .if_icmp .gt 12, 85, 0), (76, .aload_n 0, 0, 0), (77, .getfield 279, 9, 6), (80, .bipush 7, 7, 0), (82, .if_icmp .ne 7, 89, 0), (85, .iconst 1, 1, 0), (86, .goto 4, 90, 0), (89, .iconst 0, 0, 0), (90, .putfield 131, 9, 0), (93, .iload_n 1, 0, 0), (94, .ifCond .ne 10, 104, 0), (97, .iconst (-1), 1, 1), (98, .aload_n 0, 0, 0), (99, .getfield 145, 9, 48), (102, .isub, 0, 0), (103, .ireturn, 0, 0), (104, .aload_n 0, 0, 0), (105, .getfield 131, 9, 0), (108, .ifCond .le 5, 113, 0), (111, .iconst 0, 0, 0), (112, .ireturn, 0, 0), (113, .aload_n 0, 0, 0), (114, .dup, 0, 0), (115, .getfield 279, 9, 6), (118, .iconst 1, 1, 0), (119, .iadd, 0, 0), (120, .putfield 279, 9, 6), (123, .aload_n 0, 0, 0), (124, .getfield 13, 9, 8), (127, .aload_n 0, 0, 0), (128, .getfield 279, 9, 6), (131, .aload_n 0, 0, 0), (132, .getfield 179, 9, 52), (135, .iastore, 0, 0), (136, .iconst 0, 0, 0), (137, .istore_n 2, 0, 0), (138, .iload_n 2, 0, 0), (139, .aload_n 0, 0, 0), (140, .getfield 179, 9, 52), (143, .if_icmp .ge 23, 166, 0), (146, .aload_n 0, 0, 0), (147, .bipush 60, 60, 0), (149, .aload_n 0, 0, 0), (150, .getfield 279, 9, 6), (153, .imul, 0, 0), (154, .iload_n 2, 0, 0), (155, .iadd, 0, 0), (156, .iload_n 2, 0, 0), (157, .invokevirtual 282, 107, 0), (160, .iinc 2 1, 1, 0), (163, .goto (-25), 138, 0), (166, .aload_n 0, 0, 0), (167, .aload_n 0, 0, 0), (168, .getfield 267, 9, 54), (171, .putfield 286, 9, 28), (174, .iconst 0, 0, 0), (175, .istore_n 2, 0, 0), (176, .iload_n 2, 0, 0), (177, .aload_n 0, 0, 0), (178, .getfield 286, 9, 28), (181, .if_icmp .ge 45, 226, 0), (184, .aload_n 0, 0, 0), (185, .getfield 43, 9, 30), (188, .iload_n 2, 0, 0), (189, .aload_n 0, 0, 0), (190, .getfield 65, 9, 56), (193, .iload_n 2, 0, 0), (194, .iaload, 0, 0), (195, .iastore, 0, 0), (196, .aload_n 0, 0, 0), (197, .getfield 46, 9, 32), (200, .iload_n 2, 0, 0), (201, .aload_n 0, 0, 0), (202, .getfield 68, 9, 58), (205, .iload_n 2, 0, 0), (206, .iaload, 0, 0), (207, .iastore, 0, 0), (208, .aload_n 0, 0, 0), (209, .getfield 49, 9, 34), (212, .iload_n 2, 0, 0), (213, .aload_n 0, 0, 0), (214, .getfield 71, 9, 60), (217, .iload_n 2, 0, 0), (218, .baload, 0, 0), (219, .bastore, 0, 0), (220, .iinc 2 1, 1, 0), (223, .goto (-47), 176, 0), (226, .aload_n 0, 0, 0), (227, .aload_n 0, 0, 0), (228, .getfield 270, 9, 62), (231, .putfield 289, 9, 36), (234, .iconst 0, 0, 0), (235, .istore_n 2, 0, 0), (236, .iload_n 2, 0, 0), (237, .aload_n 0, 0, 0), (238, .getfield 289, 9, 36), (241, .if_icmp .ge 33, 274, 0), (244, .aload_n 0, 0, 0), (245, .getfield 53, 9, 38), (248, .iload_n 2, 0, 0), (249, .aload_n 0, 0, 0), (250, .getfield 74, 9, 64), (253, .iload_n 2, 0, 0), (254, .iaload, 0, 0), (255, .iastore, 0, 0), (256, .aload_n 0, 0, 0), (257, .getfield 56, 9, 40), (260, .iload_n 2, 0, 0), (261, .aload_n 0, 0, 0), (262, .getfield 77, 9, 66), (265, .iload_n 2, 0, 0), (266, .iaload, 0, 0), (267, .iastore, 0, 0), (268, .iinc 2 1, 1, 0), (271, .goto (-35), 236, 0), (274, .aload_n 0, 0, 0), (275, .getfield 179, 9, 52), (278, .ireturn, 0, 0)]
theorem k_84 : sm_tab 84 (fun pc => sm_lk pc l_84) := sm_tabOf (by decide +kernel)
/-- BuildingTextModel.line()Z -/
def l_85 : List (Nat × Instr × Nat × Nat) := [(0, .aload_n 0, 0, 0), (1, .invokevirtual 148, 86, 0), (4, .istore_n 1, 0, 0), (5, .iload_n 1, 0, 0), (6, .invokestatic 251, 87, 0), (9, .istore_n 2, 0, 0), (10, .iload_n 2, 0, 0), (11, .iconst (-1), 1, 1), (12, .if_icmp .ne 24, 36, 0), (15, .iload_n 1, 0, 0), (16, .bipush 87, 87, 0), (18, .if_icmp .eq 18, 36, 0), (21, .iload_n 1, 0, 0), (22, .bipush 65, 65, 0), (24, .if_icmp .eq 12, 36, 0), (27, .aload_n 0, 0, 0), (28, .aload_n 0, 0, 0), (29, .getfield 142, 9, 46), (32, .invokevirtual 152, 88, 0), (35, .ireturn, 0, 0), (36, .aload_n 0, 0, 0), (37, .dup, 0, 0), (38, .getfield 142, 9, 46), (41, .iconst 1, 1, 0), (42, .iadd, 0, 0), (43, .putfield 142, 9, 46), (46, .iload_n 2, 0, 0), (47, .iconst (-1), 1, 1), (48, .if_icmp .eq 20, 68, 0), (51, .aload_n 0, 0, 0), (52, .iload_n 2, 0, 0), (53, .invokevirtual 254, 89, 0), (56, .ifCond .ne 5, 61, 0), (59, .iconst 0, 0, 0), (60, .ireturn, 0, 0), (61, .aload_n 0, 0, 0), (62, .iload_n 2, 0, 0), (63, .invokevirtual 257, 104, 0), (66, .iconst 1, 1, 0), (67, .ireturn, 0, 0), (68, .iload_n 1, 0, 0), (69, .bipush 87, 87, 0), (71, .if_icmp .ne 13, 84, 0), (74, .aload_n 0, 0, 0), (75, .invokevirtual 261, 105, 0), (78, .ifCond .eq 13, 91, 0), (81, .goto 12, 93, 0), (84, .aload_n 0, 0, 0), (85, .invokevirtual 264, 106, 0), (88, .ifCond .ne 5, 93, 0), (91, .iconst 0, 0, 0), (92, .ireturn, 0, 0), (93, .iload_n 1, 0, 0), (94, .bipush 87, 87, 0), (96, .if_icmp .ne 51, 147, 0), (99, .aload_n 0, 0, 0), (100, .getfield 267, 9, 54), (103, .bipush 60, 60, 0), (105, .if_icmp .ge 42, 147, 0), (108, .aload_n 0, 0, 0), (109, .getfield 65, 9, 56), (112, .aload_n 0, 0, 0), (113, .getfield 267, 9, 54), (116, .aload_n 0, 0, 0), (117, .getfield 226, 9, 118), (120, .iastore, 0, 0), (121, .aload_n 0, 0, 0), (122, .getfield 68, 9, 58), (125, .aload_n 0, 0, 0), (126, .getfield 267, 9, 54), (129, .aload_n 0, 0, 0), (130, .getfield 229, 9, 120), (133, .iastore, 0, 0), (134, .aload_n 0, 0, 0), (135, .getfield 71, 9, 60), (138, .aload_n 0, 0, 0), (139, .getfield 267, 9, 54), (142, .aload_n 0, 0, 0), (143, .getfield 232, 9, 122), (146, .bastore, 0, 0), (147, .iload_n 1, 0, 0), (148, .bipush 65, 65, 0), (150, .if_icmp .ne 38, 188, 0), (153, .aload_n 0, 0, 0), (154, .getfield 270, 9, 62), (157, .bipush 60, 60, 0), (159, .if_icmp .ge 29, 188, 0), (162, .aload_n 0, 0, 0), (163, .getfield 74, 9, 64), (166, .aload_n 0, 0, 0), (167, .getfield 270, 9, 62), (170, .aload_n 0, 0, 0), (171, .getfield 226, 9, 118), (174, .iastore, 0, 0), (175, .aload_n 0, 0, 0), (176, .getfield 77, 9, 66), (179, .aload_n 0, 0, 0), (180, .getfield 270, 9, 62), (183, .aload_n 0, 0, 0), (184, .getfield 229, 9, 120), (187, .iastore, 0, 0), (188, .aload_n 0, 0, 0), (189, .dup, 0, 0), (190, .getfield 267, 9, 54), (193, .iload_n 1, 0, 0), (194, .bipush 87, 87, 0), (196, .if_icmp .ne 7, 203, 0), (199, .iconst 1, 1, 0), (200, .goto 4, 204, 0), (203, .iconst 0, 0, 0), (204, .iadd, 0, 0), (205, .putfield 267, 9, 54), (208, .aload_n 0, 0, 0), (209, .dup, 0, 0), (210, .getfield 270, 9, 62), (213, .iload_n 1, 0, 0), (214, .bipush 65, 65, 0), (216, .if_icmp .ne 7, 223, 0), (219, .iconst 1, 1, 0), (220, .goto 4, 224, 0), (223, .iconst 0, 0, 0), (224, .iadd, 0, 0), (225, .putfield 270, 9, 62), (228, .aload_n 0, 0, 0), (229, .aload_n 0, 0, 0), (230, .getfield 273, 9, 50), (233, .ifCond .ne 17, 250, 0), (236, .aload_n 0, 0, 0), (237, .getfield 267, 9, 54), (240, .aload_n 0, 0, 0), (241, .getfield 270, 9, 62), (244, .iadd, 0, 0), (245, .bipush 60, 60, 0), (247, .if_icmp .le 7, 254, 0), (250, .iconst 1, 1, 0), (251, .goto 4, 255, 0), (254, .iconst 0, 0, 0), (255, .putfield 273, 9, 50), (258, .iconst 1, 1, 0), (259, .ireturn, 0, 0)]
theorem k_85 : sm_tab 85 (fun pc => sm_lk pc l_85) := sm_tabOf (by decide +kernel)
/-- BuildingTextModel.next()I -/
def l_86 : List (Nat × Instr × Nat × Nat) := [(0, .aload_n 0, 0, 0), (1, .getfield 142, 9, 46), (4, .aload_n 0, 0, 0), (5, .getfield 139, 9, 4), (8, .if_icmp .ge 15, 23, 0), (11, .aload_n 0, 0, 0), (12, .getfield 7, 9, 2), (15, .aload_n 0, 0, 0), (16, .getfield 142, 9, 46), (19, .iaload, 0, 0), (20, .goto 4, 24, 0), (23, .iconst (-1), 1, 1), (24, .ireturn, 0, 0)]
theorem k_86 : sm_tab 86 (fun pc => sm_lk pc l_86) := sm_tabOf (by decide +kernel)
/-- BuildingTextModel.kindOf(I)I -/
def l_87 : List (Nat × Instr × Nat × Nat) := [(0, .iload_n 0, 0, 0), (1, .bipush 82, 82, 0), (3, .if_icmp .ne 7, 10, 0), (6, .iconst 0, 0, 0), (7, .goto 65, 72, 0), (10, .iload_n 0, 0, 0), (11, .bipush 66, 66, 0), (13, .if_icmp .ne 7, 20, 0), (16, .iconst 1, 1, 0), (17, .goto 55, 72, 0), (20, .iload_n 0, 0, 0), (21, .bipush 80, 80, 0), (23, .if_icmp .ne 7, 30, 0), (26, .iconst 2, 2, 0), (27, .goto 45, 72, 0), (30, .iload_n 0, 0, 0), (31, .bipush 68, 68, 0), (33, .if_icmp .ne 7, 40, 0), (36, .iconst 3, 3, 0), (37, .goto 35, 72, 0), (40, .iload_n 0, 0, 0), (41, .bipush 83, 83, 0), (43, .if_icmp .ne 7, 50, 0), (46, .iconst 4, 4, 0), (47, .goto 25, 72, 0), (50, .iload_n 0, 0, 0), (51, .bipush 67, 67, 0), (53, .if_icmp .ne 7, 60, 0), (56, .iconst 5, 5, 0), (57, .goto 15, 72, 0), (60, .iload_n 0, 0, 0), (61, .bipush 69, 69, 0), (63, .if_icmp .ne 8, 71, 0), (66, .bipush 6, 6, 0), (68, .goto 4, 72, 0), (71, .iconst (-1), 1, 1), (72, .ireturn, 0, 0)]
theorem k_87 : sm_tab 87 (fun pc => sm_lk pc l_87) := sm_tabOf (by decide +kernel)
/-- BuildingTextModel.wrong(I)Z -/
def l_88 : List (Nat × Instr × Nat × Nat) := [(0, .aload_n 0, 0, 0), (1, .iload_n 1, 0, 0), (2, .putfield 145, 9, 48), (5, .iconst 0, 0, 0), (6, .ireturn, 0, 0)]
theorem k_88 : sm_tab 88 (fun pc => sm_lk pc l_88) := sm_tabOf (by decide +kernel)
/-- BuildingTextModel.takesPlace(I)Z -/
def l_89 : List (Nat × Instr × Nat × Nat) := [(0, .iload_n 1, 0, 0), (1, .ifCond .ne 10, 11, 0), (4, .aload_n 0, 0, 0), (5, .invokevirtual 236, 90, 0), (8, .goto 44, 52, 0), (11, .iload_n 1, 0, 0), (12, .iconst 1, 1, 0), (13, .if_icmp .ne 10, 23, 0), (16, .aload_n 0, 0, 0), (17, .invokevirtual 239, 99, 0), (20, .goto 32, 52, 0), (23, .iload_n 1, 0, 0), (24, .iconst 2, 2, 0), (25, .if_icmp .ne 10, 35, 0), (28, .aload_n 0, 0, 0), (29, .invokevirtual 242, 101, 0), (32, .goto 20, 52, 0), (35, .iload_n 1, 0, 0), (36, .bipush 6, 6, 0), (38, .if_icmp .ne 10, 48, 0), (41, .aload_n 0, 0, 0), (42, .invokevirtual 245, 102, 0), (45, .goto 7, 52, 0), (48, .aload_n 0, 0, 0), (49, .invokevirtual 248, 103, 0), (52, .ireturn, 0, 0)]
theorem k_89 : sm_tab 89 (fun pc => sm_lk pc l_89) := sm_tabOf (by decide +kernel)
/-- BuildingTextModel.takesRack()Z -/
def l_90 : List (Nat × Instr × Nat × Nat) := [(0, .aload_n 0, 0, 0), (1, .invokevirtual 205, 91, 0), (4, .ifCond .ne 5, 9, 0), (7, .iconst 0, 0, 0), (8, .ireturn, 0, 0), (9, .aload_n 0, 0, 0), (10, .aload_n 0, 0, 0), (11, .getfield 173, 9, 96), (14, .putfield 208, 9, 100), (17, .aload_n 0, 0, 0), (18, .invokevirtual 211, 97, 0), (21, .ireturn, 0, 0)]
theorem k_90 : sm_tab 90 (fun pc => sm_lk pc l_90) := sm_tabOf (by decide +kernel)
/-- BuildingTextModel.takesNew()Z -/
def l_91 : List (Nat × Instr × Nat × Nat) := [(0, .aload_n 0, 0, 0), (1, .invokevirtual 182, 92, 0), (4, .ifCond .eq 30, 34, 0), (7, .aload_n 0, 0, 0), (8, .aload_n 0, 0, 0), (9, .getfield 173, 9, 96), (12, .invokevirtual 185, 96, 0), (15, .iconst (-1), 1, 1), (16, .if_icmp .eq 14, 30, 0), (19, .aload_n 0, 0, 0), (20, .aload_n 0, 0, 0), (21, .getfield 159, 9, 98), (24, .invokevirtual 152, 88, 0), (27, .ifCond .eq 7, 34, 0), (30, .iconst 1, 1, 0), (31, .goto 4, 35, 0), (34, .iconst 0, 0, 0), (35, .ireturn, 0, 0)]
theorem k_91 : sm_tab 91 (fun pc => sm_lk pc l_91) := sm_tabOf (by decide +kernel)
/-- BuildingTextModel.takesName()Z -/
def l_92 : List (Nat × Instr × Nat × Nat) := [(0, .aload_n 0, 0, 0), (1, .bipush 32, 32, 0), (3, .invokevirtual 156, 93, 0), (6, .ifCond .ne 5, 11, 0), (9, .iconst 0, 0, 0), (10, .ireturn, 0, 0), (11, .aload_n 0, 0, 0), (12, .aload_n 0, 0, 0), (13, .getfield 142, 9, 46), (16, .putfield 159, 9, 98), (19, .aload_n 0, 0, 0), (20, .invokevirtual 176, 94, 0), (23, .ifCond .ne 12, 35, 0), (26, .aload_n 0, 0, 0), (27, .aload_n 0, 0, 0), (28, .getfield 142, 9, 46), (31, .invokevirtual 152, 88, 0), (34, .ireturn, 0, 0), (35, .iconst 0, 0, 0), (36, .istore_n 1, 0, 0), (37, .aload_n 0, 0, 0), (38, .invokevirtual 176, 94, 0), (41, .ifCond .ne 10, 51, 0), (44, .aload_n 0, 0, 0), (45, .invokevirtual 162, 95, 0), (48, .ifCond .eq 39, 87, 0), (51, .aload_n 0, 0, 0), (52, .getfield 142, 9, 46), (55, .aload_n 0, 0, 0), (56, .getfield 159, 9, 98), (59, .isub, 0, 0), (60, .iconst 4, 4, 0), (61, .if_icmp .ge 26, 87, 0), (64, .iload_n 1, 0, 0), (65, .bipush 8, 8, 0), (67, .ishl, 0, 0), (68, .aload_n 0, 0, 0), (69, .invokevirtual 148, 86, 0), (72, .ior, 0, 0), (73, .istore_n 1, 0, 0), (74, .aload_n 0, 0, 0), (75, .dup, 0, 0), (76, .getfield 142, 9, 46), (79, .iconst 1, 1, 0), (80, .iadd, 0, 0), (81, .putfield 142, 9, 46), (84, .goto (-47), 37, 0), (87, .aload_n 0, 0, 0), (88, .iload_n 1, 0, 0), (89, .putfield 173, 9, 96), (92, .iconst 1, 1, 0), (93, .ireturn, 0, 0)]
theorem k_92 : sm_tab 92 (fun pc => sm_lk pc l_92) := sm_tabOf (by decide +kernel)
/-- BuildingTextModel.takes(I)Z -/
def l_93 : List (Nat × Instr × Nat × Nat) := [(0, .aload_n 0, 0, 0), (1, .invokevirtual 148, 86, 0), (4, .iload_n 1, 0, 0), (5, .if_icmp .eq 12, 17, 0), (8, .aload_n 0, 0, 0), (9, .aload_n 0, 0, 0), (10, .getfield 142, 9, 46), (13, .invokevirtual 152, 88, 0), (16, .ireturn, 0, 0), (17, .aload_n 0, 0, 0), (18, .dup, 0, 0), (19, .getfield 142, 9, 46), (22, .iconst 1, 1, 0), (23, .iadd, 0, 0), (24, .putfield 142, 9, 46), (27, .iconst 1, 1, 0), (28, .ireturn, 0, 0)]
theorem k_93 : sm_tab 93 (fun pc => sm_lk pc l_93) := sm_tabOf (by decide +kernel)
/-- BuildingTextModel.isLetter()Z -/
def l_94 : List (Nat × Instr × Nat × Nat) := [(0, .aload_n 0, 0, 0), (1, .invokevirtual 148, 86, 0), (4, .bipush 97, 97, 0), (6, .bipush 122, 122, 0), (8, .invokestatic 135, 83, 0), (11, .ireturn, 0, 0)]
theorem k_94 : sm_tab 94 (fun pc => sm_lk pc l_94) := sm_tabOf (by decide +kernel)
/-- BuildingTextModel.isDigit()Z -/
def l_95 : List (Nat × Instr × Nat × Nat) := [(0, .aload_n 0, 0, 0), (1, .invokevirtual 148, 86, 0), (4, .bipush 48, 48, 0), (6, .bipush 57, 57, 0), (8, .invokestatic 135, 83, 0), (11, .ireturn, 0, 0)]
theorem k_95 : sm_tab 95 (fun pc => sm_lk pc l_95) := sm_tabOf (by decide +kernel)
/-- BuildingTextModel.numberOf(I)I -/
def l_96 : List (Nat × Instr × Nat × Nat) := [(0, .iconst 0, 0, 0), (1, .istore_n 2, 0, 0), (2, .iload_n 2, 0, 0), (3, .aload_n 0, 0, 0), (4, .getfield 179, 9, 52), (7, .if_icmp .ge 21, 28, 0), (10, .aload_n 0, 0, 0), (11, .getfield 89, 9, 74), (14, .iload_n 2, 0, 0), (15, .iaload, 0, 0), (16, .iload_n 1, 0, 0), (17, .if_icmp .ne 5, 22, 0), (20, .iload_n 2, 0, 0), (21, .ireturn, 0, 0), (22, .iinc 2 1, 1, 0), (25, .goto (-23), 2, 0), (28, .iconst (-1), 1, 1), (29, .ireturn, 0, 0)]
theorem k_96 : sm_tab 96 (fun pc => sm_lk pc l_96) := sm_tabOf (by decide +kernel)
/-- BuildingTextModel.takesArea()Z -/
def l_97 : List (Nat × Instr × Nat × Nat) := [(0, .aload_n 0, 0, 0), (1, .iconst 0, 0, 0), (2, .bipush 39, 39, 0), (4, .invokevirtual 189, 98, 0), (7, .ifCond .ne 5, 12, 0), (10, .iconst 0, 0, 0), (11, .ireturn, 0, 0), (12, .aload_n 0, 0, 0), (13, .aload_n 0, 0, 0), (14, .getfield 173, 9, 96), (17, .putfield 193, 9, 102), (20, .aload_n 0, 0, 0), (21, .iconst 0, 0, 0), (22, .bipush 19, 19, 0), (24, .invokevirtual 189, 98, 0), (27, .ifCond .ne 5, 32, 0), (30, .iconst 0, 0, 0), (31, .ireturn, 0, 0), (32, .aload_n 0, 0, 0), (33, .aload_n 0, 0, 0), (34, .getfield 173, 9, 96), (37, .putfield 196, 9, 104), (40, .aload_n 0, 0, 0), (41, .iconst 1, 1, 0), (42, .bipush 40, 40, 0), (44, .aload_n 0, 0, 0), (45, .getfield 193, 9, 102), (48, .isub, 0, 0), (49, .invokevirtual 189, 98, 0), (52, .ifCond .ne 5, 57, 0), (55, .iconst 0, 0, 0), (56, .ireturn, 0, 0), (57, .aload_n 0, 0, 0), (58, .aload_n 0, 0, 0), (59, .getfield 173, 9, 96), (62, .putfield 199, 9, 106), (65, .aload_n 0, 0, 0), (66, .iconst 1, 1, 0), (67, .bipush 20, 20, 0), (69, .aload_n 0, 0, 0), (70, .getfield 196, 9, 104), (73, .isub, 0, 0), (74, .invokevirtual 189, 98, 0), (77, .ifCond .ne 5, 82, 0), (80, .iconst 0, 0, 0), (81, .ireturn, 0, 0), (82, .aload_n 0, 0, 0), (83, .aload_n 0, 0, 0), (84, .getfield 173, 9, 96), (87, .putfield 202, 9, 108), (90, .aload_n 0, 0, 0), (91, .bipush 10, 10, 0), (93, .invokevirtual 156, 93, 0), (96, .ireturn, 0, 0)]
theorem k_97 : sm_tab 97 (fun pc => sm_lk pc l_97) := sm_tabOf (by decide +kernel)
/-- BuildingTextModel.takesNumber(II)Z -/
def l_98 : List (Nat × Instr × Nat × Nat) := [(0, .aload_n 0, 0, 0), (1, .bipush 32, 32, 0), (3, .invokevirtual 156, 93, 0), (6, .ifCond .ne 5, 11, 0), (9, .iconst 0, 0, 0), (10, .ireturn, 0, 0), (11, .aload_n 0, 0, 0), (12, .aload_n 0, 0, 0), (13, .getfield 142, 9, 46), (16, .putfield 159, 9, 98), (19, .lconst 0, 0, 0), (20, .lstore_n 3, 0, 0), (21, .aload_n 0, 0, 0), (22, .invokevirtual 162, 95, 0), (25, .ifCond .eq 89, 114, 0), (28, .aload_n 0, 0, 0), (29, .getfield 142, 9, 46), (32, .aload_n 0, 0, 0), (33, .getfield 159, 9, 98), (36, .if_icmp .le 37, 73, 0), (39, .aload_n 0, 0, 0), (40, .getfield 7, 9, 2), (43, .aload_n 0, 0, 0), (44, .getfield 159, 9, 98), (47, .iaload, 0, 0), (48, .bipush 48, 48, 0), (50, .if_icmp .ne 23, 73, 0), (53, .aload_n 0, 0, 0), (54, .iload_n 1, 0, 0), (55, .ifCond .le 10, 65, 0), (58, .aload_n 0, 0, 0), (59, .getfield 159, 9, 98), (62, .goto 7, 69, 0), (65, .aload_n 0, 0, 0), (66, .getfield 142, 9, 46), (69, .invokevirtual 152, 88, 0), (72, .ireturn, 0, 0), (73, .lload_n 3, 0, 0), (74, .ldc2_w 166, 1000000, 0), (77, .lcmp, 0, 0), (78, .ifCond .le 7, 85, 0), (81, .lload_n 3, 0, 0), (82, .goto 18, 100, 0), (85, .ldc2_w 168, 10, 0), (88, .lload_n 3, 0, 0), (89, .lmul, 0, 0), (90, .aload_n 0, 0, 0), (91, .invokevirtual 148, 86, 0), (94, .i2l, 0, 0), (95, .ladd, 0, 0), (96, .ldc2_w 170, 48, 0), (99, .lsub, 0, 0), (100, .lstore_n 3, 0, 0), (101, .aload_n 0, 0, 0), (102, .dup, 0, 0), (103, .getfield 142, 9, 46), (106, .iconst 1, 1, 0), (107, .iadd, 0, 0), (108, .putfield 142, 9, 46), (111, .goto (-90), 21, 0), (114, .aload_n 0, 0, 0), (115, .getfield 142, 9, 46), (118, .aload_n 0, 0, 0), (119, .getfield 159, 9, 98), (122, .if_icmp .ne 12, 134, 0), (125, .aload_n 0, 0, 0), (126, .aload_n 0, 0, 0), (127, .getfield 142, 9, 46), (130, .invokevirtual 152, 88, 0), (133, .ireturn, 0, 0), (134, .aload_n 0, 0, 0), (135, .lload_n 3, 0, 0), (136, .ldc2_w 166, 1000000, 0), (139, .lcmp, 0, 0), (140, .ifCond .le 8, 148, 0), (143, .ldc 172, 1000001, 0), (145, .goto 5, 150, 0), (148, .lload_n 3, 0, 0), (149, .l2i, 0, 0), (150, .putfield 173, 9, 96), (153, .aload_n 0, 0, 0), (154, .getfield 173, 9, 96), (157, .iload_n 1, 0, 0), (158, .iload_n 2, 0, 0), (159, .invokestatic 135, 83, 0), (162, .ifCond .ne 14, 176, 0), (165, .aload_n 0, 0, 0), (166, .aload_n 0, 0, 0), (167, .getfield 159, 9, 98), (170, .invokevirtual 152, 88, 0), (173, .ifCond .eq 7, 180, 0), (176, .iconst 1, 1, 0), (177, .goto 4, 181, 0), (180, .iconst 0, 0, 0), (181, .ireturn, 0, 0)]
theorem k_98 : sm_tab 98 (fun pc => sm_lk pc l_98) := sm_tabOf (by decide +kernel)
/-- BuildingTextModel.takesBin()Z -/
def l_99 : List (Nat × Instr × Nat × Nat) := [(0, .aload_n 0, 0, 0), (1, .invokevirtual 205, 91, 0), (4, .ifCond .ne 5, 9, 0), (7, .iconst 0, 0, 0), (8, .ireturn, 0, 0), (9, .aload_n 0, 0, 0), (10, .aload_n 0, 0, 0), (11, .getfield 173, 9, 96), (14, .putfield 208, 9, 100), (17, .aload_n 0, 0, 0), (18, .iconst 0, 0, 0), (19, .invokevirtual 214, 100, 0), (22, .ifCond .ne 5, 27, 0), (25, .iconst 0, 0, 0), (26, .ireturn, 0, 0), (27, .aload_n 0, 0, 0), (28, .aload_n 0, 0, 0), (29, .getfield 173, 9, 96), (32, .putfield 217, 9, 112), (35, .aload_n 0, 0, 0), (36, .iconst 1, 1, 0), (37, .bipush 9, 9, 0), (39, .invokevirtual 189, 98, 0), (42, .ifCond .ne 5, 47, 0), (45, .iconst 0, 0, 0), (46, .ireturn, 0, 0), (47, .aload_n 0, 0, 0), (48, .aload_n 0, 0, 0), (49, .getfield 173, 9, 96), (52, .putfield 220, 9, 110), (55, .aload_n 0, 0, 0), (56, .invokevirtual 211, 97, 0), (59, .ireturn, 0, 0)]
theorem k_99 : sm_tab 99 (fun pc => sm_lk pc l_99) := sm_tabOf (by decide +kernel)
/-- BuildingTextModel.takesOld(I)Z -/
def l_100 : List (Nat × Instr × Nat × Nat) := [(0, .aload_n 0, 0, 0), (1, .invokevirtual 182, 92, 0), (4, .ifCond .ne 5, 9, 0), (7, .iconst 0, 0, 0), (8, .ireturn, 0, 0), (9, .aload_n 0, 0, 0), (10, .aload_n 0, 0, 0), (11, .getfield 173, 9, 96), (14, .invokevirtual 185, 96, 0), (17, .istore_n 2, 0, 0), (18, .iload_n 2, 0, 0), (19, .iconst (-1), 1, 1), (20, .if_icmp .eq 13, 33, 0), (23, .aload_n 0, 0, 0), (24, .getfield 86, 9, 72), (27, .iload_n 2, 0, 0), (28, .iaload, 0, 0), (29, .iload_n 1, 0, 0), (30, .if_icmp .eq 12, 42, 0), (33, .aload_n 0, 0, 0), (34, .aload_n 0, 0, 0), (35, .getfield 159, 9, 98), (38, .invokevirtual 152, 88, 0), (41, .ireturn, 0, 0), (42, .aload_n 0, 0, 0), (43, .iload_n 2, 0, 0), (44, .putfield 173, 9, 96), (47, .iconst 1, 1, 0), (48, .ireturn, 0, 0)]
theorem k_100 : sm_tab 100 (fun pc => sm_lk pc l_100) := sm_tabOf (by decide +kernel)
/-- BuildingTextModel.takesPiece()Z -/
def l_101 : List (Nat × Instr × Nat × Nat) := [(0, .aload_n 0, 0, 0), (1, .invokevirtual 205, 91, 0), (4, .ifCond .ne 5, 9, 0), (7, .iconst 0, 0, 0), (8, .ireturn, 0, 0), (9, .aload_n 0, 0, 0), (10, .aload_n 0, 0, 0), (11, .getfield 173, 9, 96), (14, .putfield 208, 9, 100), (17, .aload_n 0, 0, 0), (18, .iconst 0, 0, 0), (19, .bipush 39, 39, 0), (21, .invokevirtual 189, 98, 0), (24, .ifCond .ne 5, 29, 0), (27, .iconst 0, 0, 0), (28, .ireturn, 0, 0), (29, .aload_n 0, 0, 0), (30, .aload_n 0, 0, 0), (31, .getfield 173, 9, 96), (34, .putfield 193, 9, 102), (37, .aload_n 0, 0, 0), (38, .iconst 0, 0, 0), (39, .bipush 19, 19, 0), (41, .invokevirtual 189, 98, 0), (44, .ifCond .ne 5, 49, 0), (47, .iconst 0, 0, 0), (48, .ireturn, 0, 0), (49, .aload_n 0, 0, 0), (50, .aload_n 0, 0, 0), (51, .getfield 173, 9, 96), (54, .putfield 196, 9, 104), (57, .aload_n 0, 0, 0), (58, .bipush 10, 10, 0), (60, .invokevirtual 156, 93, 0), (63, .ireturn, 0, 0)]
theorem k_101 : sm_tab 101 (fun pc => sm_lk pc l_101) := sm_tabOf (by decide +kernel)
/-- BuildingTextModel.takesLift()Z -/
def l_102 : List (Nat × Instr × Nat × Nat) := [(0, .aload_n 0, 0, 0), (1, .invokevirtual 205, 91, 0), (4, .ifCond .ne 5, 9, 0), (7, .iconst 0, 0, 0), (8, .ireturn, 0, 0), (9, .aload_n 0, 0, 0), (10, .aload_n 0, 0, 0), (11, .getfield 173, 9, 96), (14, .putfield 208, 9, 100), (17, .aload_n 0, 0, 0), (18, .iconst 0, 0, 0), (19, .putfield 223, 9, 116), (22, .aload_n 0, 0, 0), (23, .getfield 223, 9, 116), (26, .ifCond .eq 12, 38, 0), (29, .aload_n 0, 0, 0), (30, .invokevirtual 148, 86, 0), (33, .bipush 10, 10, 0), (35, .if_icmp .eq 56, 91, 0), (38, .aload_n 0, 0, 0), (39, .getfield 223, 9, 116), (42, .iconst 4, 4, 0), (43, .if_icmp .ne 12, 55, 0), (46, .aload_n 0, 0, 0), (47, .aload_n 0, 0, 0), (48, .getfield 142, 9, 46), (51, .invokevirtual 152, 88, 0), (54, .ireturn, 0, 0), (55, .aload_n 0, 0, 0), (56, .iconst 2, 2, 0), (57, .invokevirtual 214, 100, 0), (60, .ifCond .ne 5, 65, 0), (63, .iconst 0, 0, 0), (64, .ireturn, 0, 0), (65, .aload_n 0, 0, 0), (66, .getfield 116, 9, 114), (69, .aload_n 0, 0, 0), (70, .getfield 223, 9, 116), (73, .aload_n 0, 0, 0), (74, .getfield 173, 9, 96), (77, .iastore, 0, 0), (78, .aload_n 0, 0, 0), (79, .dup, 0, 0), (80, .getfield 223, 9, 116), (83, .iconst 1, 1, 0), (84, .iadd, 0, 0), (85, .putfield 223, 9, 116), (88, .goto (-66), 22, 0), (91, .aload_n 0, 0, 0), (92, .aload_n 0, 0, 0), (93, .getfield 116, 9, 114), (96, .iconst 0, 0, 0), (97, .iaload, 0, 0), (98, .putfield 217, 9, 112), (101, .aload_n 0, 0, 0), (102, .bipush 10, 10, 0), (104, .invokevirtual 156, 93, 0), (107, .ireturn, 0, 0)]
theorem k_102 : sm_tab 102 (fun pc => sm_lk pc l_102) := sm_tabOf (by decide +kernel)
/-- BuildingTextModel.takesAtPiece()Z -/
def l_103 : List (Nat × Instr × Nat × Nat) := [(0, .aload_n 0, 0, 0), (1, .invokevirtual 205, 91, 0), (4, .ifCond .ne 5, 9, 0), (7, .iconst 0, 0, 0), (8, .ireturn, 0, 0), (9, .aload_n 0, 0, 0), (10, .aload_n 0, 0, 0), (11, .getfield 173, 9, 96), (14, .putfield 208, 9, 100), (17, .aload_n 0, 0, 0), (18, .iconst 2, 2, 0), (19, .invokevirtual 214, 100, 0), (22, .ifCond .ne 5, 27, 0), (25, .iconst 0, 0, 0), (26, .ireturn, 0, 0), (27, .aload_n 0, 0, 0), (28, .aload_n 0, 0, 0), (29, .getfield 173, 9, 96), (32, .putfield 217, 9, 112), (35, .aload_n 0, 0, 0), (36, .bipush 10, 10, 0), (38, .invokevirtual 156, 93, 0), (41, .ireturn, 0, 0)]
theorem k_103 : sm_tab 103 (fun pc => sm_lk pc l_103) := sm_tabOf (by decide +kernel)
/-- BuildingTextModel.addPlace(I)V -/
def l_104 : List (Nat × Instr × Nat × Nat) := [(0, .aload_n 0, 0, 0), (1, .getfield 86, 9, 72), (4, .aload_n 0, 0, 0), (5, .getfield 179, 9, 52), (8, .iload_n 1, 0, 0), (9, .iastore, 0, 0), (10, .aload_n 0, 0, 0), (11, .getfield 89, 9, 74), (14, .aload_n 0, 0, 0), (15, .getfield 179, 9, 52), (18, .aload_n 0, 0, 0), (19, .getfield 208, 9, 100), (22, .iastore, 0, 0), (23, .iload_n 1, 0, 0), (24, .ifCond .eq 8, 32, 0), (27, .iload_n 1, 0, 0), (28, .iconst 1, 1, 0), (29, .if_icmp .ne 7, 36, 0), (32, .iconst 1, 1, 0), (33, .goto 4, 37, 0), (36, .iconst 0, 0, 0), (37, .istore_n 2, 0, 0), (38, .iload_n 2, 0, 0), (39, .ifCond .ne 8, 47, 0), (42, .iload_n 1, 0, 0), (43, .iconst 2, 2, 0), (44, .if_icmp .ne 7, 51, 0), (47, .iconst (-1), 1, 1), (48, .goto 7, 55, 0), (51, .aload_n 0, 0, 0), (52, .getfield 217, 9, 112), (55, .istore_n 3, 0, 0), (56, .aload_n 0, 0, 0), (57, .getfield 92, 9, 76), (60, .aload_n 0, 0, 0), (61, .getfield 179, 9, 52), (64, .iload_n 3, 0, 0), (65, .iconst (-1), 1, 1), (66, .if_icmp .ne 10, 76, 0), (69, .aload_n 0, 0, 0), (70, .getfield 193, 9, 102), (73, .goto 9, 82, 0), (76, .aload_n 0, 0, 0), (77, .getfield 92, 9, 76), (80, .iload_n 3, 0, 0), (81, .iaload, 0, 0), (82, .iastore, 0, 0), (83, .aload_n 0, 0, 0), (84, .getfield 95, 9, 78), (87, .aload_n 0, 0, 0), (88, .getfield 179, 9, 52), (91, .iload_n 3, 0, 0), (92, .iconst (-1), 1, 1), (93, .if_icmp .ne 10, 103, 0), (96, .aload_n 0, 0, 0), (97, .getfield 196, 9, 104), (100, .goto 9, 109, 0), (103, .aload_n 0, 0, 0), (104, .getfield 95, 9, 78), (107, .iload_n 3, 0, 0), (108, .iaload, 0, 0), (109, .iastore, 0, 0), (110, .aload_n 0, 0, 0), (111, .getfield 98, 9, 80), (114, .aload_n 0, 0, 0), (115, .getfield 179, 9, 52), (118, .iload_n 2, 0, 0), (119, .ifCond .eq 10, 129, 0), (122, .aload_n 0, 0, 0), (123, .getfield 199, 9, 106), (126, .goto 4, 130, 0), (129, .iconst 1, 1, 0), (130, .iastore, 0, 0), (131, .aload_n 0, 0, 0), (132, .getfield 101, 9, 82), (135, .aload_n 0, 0, 0), (136, .getfield 179, 9, 52), (139, .iload_n 2, 0, 0), (140, .ifCond .eq 10, 150, 0), (143, .aload_n 0, 0, 0), (144, .getfield 202, 9, 108), (147, .goto 4, 151, 0), (150, .iconst 1, 1, 0), (151, .iastore, 0, 0), (152, .aload_n 0, 0, 0), (153, .getfield 104, 9, 84), (156, .aload_n 0, 0, 0), (157, .getfield 179, 9, 52), (160, .iload_n 1, 0, 0), (161, .iconst 1, 1, 0), (162, .if_icmp .ne 10, 172, 0), (165, .aload_n 0, 0, 0), (166, .getfield 220, 9, 110), (169, .goto 4, 173, 0), (172, .iconst 0, 0, 0), (173, .iastore, 0, 0), (174, .aload_n 0, 0, 0), (175, .getfield 107, 9, 86), (178, .aload_n 0, 0, 0), (179, .getfield 179, 9, 52), (182, .iload_n 1, 0, 0), (183, .ifCond .eq 8, 191, 0), (186, .iload_n 1, 0, 0), (187, .iconst 2, 2, 0), (188, .if_icmp .ne 7, 195, 0), (191, .iconst (-1), 1, 1), (192, .goto 7, 199, 0), (195, .aload_n 0, 0, 0), (196, .getfield 217, 9, 112), (199, .iastore, 0, 0), (200, .aload_n 0, 0, 0), (201, .getfield 80, 9, 68), (204, .aload_n 0, 0, 0), (205, .getfield 179, 9, 52), (208, .iload_n 1, 0, 0), (209, .bipush 6, 6, 0), (211, .if_icmp .ne 10, 221, 0), (214, .aload_n 0, 0, 0), (215, .getfield 223, 9, 116), (218, .goto 4, 222, 0), (221, .iconst 0, 0, 0), (222, .iastore, 0, 0), (223, .iconst 0, 0, 0), (224, .istore 4, 0, 0), (226, .iload 4, 0, 0), (228, .aload_n 0, 0, 0), (229, .getfield 80, 9, 68), (232, .aload_n 0, 0, 0), (233, .getfield 179, 9, 52), (236, .iaload, 0, 0), (237, .if_icmp .ge 30, 267, 0), (240, .aload_n 0, 0, 0), (241, .getfield 83, 9, 70), (244, .iconst 4, 4, 0), (245, .aload_n 0, 0, 0), (246, .getfield 179, 9, 52), (249, .imul, 0, 0), (250, .iload 4, 0, 0), (252, .iadd, 0, 0), (253, .aload_n 0, 0, 0), (254, .getfield 116, 9, 114), (257, .iload 4, 0, 0), (259, .iaload, 0, 0), (260, .iastore, 0, 0), (261, .iinc 4 1, 1, 0), (264, .goto (-38), 226, 0), (267, .aload_n 0, 0, 0), (268, .dup, 0, 0), (269, .getfield 179, 9, 52), (272, .iconst 1, 1, 0), (273, .iadd, 0, 0), (274, .putfield 179, 9, 52), (277, .return_, 0, 0)]
theorem k_104 : sm_tab 104 (fun pc => sm_lk pc l_104) := sm_tabOf (by decide +kernel)
/-- BuildingTextModel.takesWay()Z -/
def l_105 : List (Nat × Instr × Nat × Nat) := [(0, .aload_n 0, 0, 0), (1, .iconst 2, 2, 0), (2, .invokevirtual 214, 100, 0), (5, .ifCond .ne 5, 10, 0), (8, .iconst 0, 0, 0), (9, .ireturn, 0, 0), (10, .aload_n 0, 0, 0), (11, .aload_n 0, 0, 0), (12, .getfield 173, 9, 96), (15, .putfield 226, 9, 118), (18, .aload_n 0, 0, 0), (19, .iconst 2, 2, 0), (20, .invokevirtual 214, 100, 0), (23, .ifCond .ne 5, 28, 0), (26, .iconst 0, 0, 0), (27, .ireturn, 0, 0), (28, .aload_n 0, 0, 0), (29, .aload_n 0, 0, 0), (30, .getfield 173, 9, 96), (33, .putfield 229, 9, 120), (36, .aload_n 0, 0, 0), (37, .getfield 229, 9, 120), (40, .aload_n 0, 0, 0), (41, .getfield 226, 9, 118), (44, .if_icmp .ne 12, 56, 0), (47, .aload_n 0, 0, 0), (48, .aload_n 0, 0, 0), (49, .getfield 159, 9, 98), (52, .invokevirtual 152, 88, 0), (55, .ireturn, 0, 0), (56, .aload_n 0, 0, 0), (57, .bipush 32, 32, 0), (59, .invokevirtual 156, 93, 0), (62, .ifCond .ne 5, 67, 0), (65, .iconst 0, 0, 0), (66, .ireturn, 0, 0), (67, .aload_n 0, 0, 0), (68, .invokevirtual 148, 86, 0), (71, .bipush 62, 62, 0), (73, .if_icmp .eq 21, 94, 0), (76, .aload_n 0, 0, 0), (77, .invokevirtual 148, 86, 0), (80, .bipush 61, 61, 0), (82, .if_icmp .eq 12, 94, 0), (85, .aload_n 0, 0, 0), (86, .aload_n 0, 0, 0), (87, .getfield 142, 9, 46), (90, .invokevirtual 152, 88, 0), (93, .ireturn, 0, 0), (94, .aload_n 0, 0, 0), (95, .aload_n 0, 0, 0), (96, .invokevirtual 148, 86, 0), (99, .bipush 61, 61, 0), (101, .if_icmp .ne 7, 108, 0), (104, .iconst 1, 1, 0), (105, .goto 4, 109, 0), (108, .iconst 0, 0, 0), (109, .putfield 232, 9, 122), (112, .aload_n 0, 0, 0), (113, .dup, 0, 0), (114, .getfield 142, 9, 46), (117, .iconst 1, 1, 0), (118, .iadd, 0, 0), (119, .putfield 142, 9, 46), (122, .aload_n 0, 0, 0), (123, .bipush 10, 10, 0), (125, .invokevirtual 156, 93, 0), (128, .ireturn, 0, 0)]
theorem k_105 : sm_tab 105 (fun pc => sm_lk pc l_105) := sm_tabOf (by decide +kernel)
/-- BuildingTextModel.takesServed()Z -/
def l_106 : List (Nat × Instr × Nat × Nat) := [(0, .aload_n 0, 0, 0), (1, .iconst 1, 1, 0), (2, .invokevirtual 214, 100, 0), (5, .ifCond .ne 5, 10, 0), (8, .iconst 0, 0, 0), (9, .ireturn, 0, 0), (10, .aload_n 0, 0, 0), (11, .aload_n 0, 0, 0), (12, .getfield 173, 9, 96), (15, .putfield 226, 9, 118), (18, .aload_n 0, 0, 0), (19, .iconst 2, 2, 0), (20, .invokevirtual 214, 100, 0), (23, .ifCond .ne 5, 28, 0), (26, .iconst 0, 0, 0), (27, .ireturn, 0, 0), (28, .aload_n 0, 0, 0), (29, .aload_n 0, 0, 0), (30, .getfield 173, 9, 96), (33, .putfield 229, 9, 120), (36, .aload_n 0, 0, 0), (37, .bipush 10, 10, 0), (39, .invokevirtual 156, 93, 0), (42, .ireturn, 0, 0)]
theorem k_106 : sm_tab 106 (fun pc => sm_lk pc l_106) := sm_tabOf (by decide +kernel)
/-- BuildingTextModel.keep(II)V -/
def l_107 : List (Nat × Instr × Nat × Nat) := [(0, .aload_n 0, 0, 0), (1, .getfield 16, 9, 10), (4, .iload_n 1, 0, 0), (5, .aload_n 0, 0, 0), (6, .getfield 86, 9, 72), (9, .iload_n 2, 0, 0), (10, .iaload, 0, 0), (11, .iastore, 0, 0), (12, .aload_n 0, 0, 0), (13, .getfield 19, 9, 12), (16, .iload_n 1, 0, 0), (17, .aload_n 0, 0, 0), (18, .getfield 89, 9, 74), (21, .iload_n 2, 0, 0), (22, .iaload, 0, 0), (23, .iastore, 0, 0), (24, .aload_n 0, 0, 0), (25, .getfield 22, 9, 14), (28, .iload_n 1, 0, 0), (29, .aload_n 0, 0, 0), (30, .getfield 92, 9, 76), (33, .iload_n 2, 0, 0), (34, .iaload, 0, 0), (35, .iastore, 0, 0), (36, .aload_n 0, 0, 0), (37, .getfield 25, 9, 16), (40, .iload_n 1, 0, 0), (41, .aload_n 0, 0, 0), (42, .getfield 95, 9, 78), (45, .iload_n 2, 0, 0), (46, .iaload, 0, 0), (47, .iastore, 0, 0), (48, .aload_n 0, 0, 0), (49, .getfield 28, 9, 18), (52, .iload_n 1, 0, 0), (53, .aload_n 0, 0, 0), (54, .getfield 98, 9, 80), (57, .iload_n 2, 0, 0), (58, .iaload, 0, 0), (59, .iastore, 0, 0), (60, .aload_n 0, 0, 0), (61, .getfield 31, 9, 20), (64, .iload_n 1, 0, 0), (65, .aload_n 0, 0, 0), (66, .getfield 101, 9, 82), (69, .iload_n 2, 0, 0), (70, .iaload, 0, 0), (71, .iastore, 0, 0), (72, .aload_n 0, 0, 0), (73, .getfield 34, 9, 22), (76, .iload_n 1, 0, 0), (77, .aload_n 0, 0, 0), (78, .getfield 104, 9, 84), (81, .iload_n 2, 0, 0), (82, .iaload, 0, 0), (83, .iastore, 0, 0), (84, .aload_n 0, 0, 0), (85, .getfield 37, 9, 24), (88, .iload_n 1, 0, 0), (89, .aload_n 0, 0, 0), (90, .getfield 107, 9, 86), (93, .iload_n 2, 0, 0), (94, .iaload, 0, 0), (95, .iastore, 0, 0), (96, .aload_n 0, 0, 0), (97, .getfield 40, 9, 26), (100, .iload_n 1, 0, 0), (101, .iconst 0, 0, 0), (102, .iastore, 0, 0), (103, .aload_n 0, 0, 0), (104, .getfield 59, 9, 42), (107, .iload_n 2, 0, 0), (108, .aload_n 0, 0, 0), (109, .getfield 80, 9, 68), (112, .iload_n 2, 0, 0), (113, .iaload, 0, 0), (114, .iastore, 0, 0), (115, .iconst 0, 0, 0), (116, .istore_n 3, 0, 0), (117, .iload_n 3, 0, 0), (118, .aload_n 0, 0, 0), (119, .getfield 59, 9, 42), (122, .iload_n 2, 0, 0), (123, .iaload, 0, 0), (124, .if_icmp .ge 29, 153, 0), (127, .aload_n 0, 0, 0), (128, .getfield 62, 9, 44), (131, .iconst 4, 4, 0), (132, .iload_n 2, 0, 0), (133, .imul, 0, 0), (134, .iload_n 3, 0, 0), (135, .iadd, 0, 0), (136, .aload_n 0, 0, 0), (137, .getfield 83, 9, 70), (140, .iconst 4, 4, 0), (141, .iload_n 2, 0, 0), (142, .imul, 0, 0), (143, .iload_n 3, 0, 0), (144, .iadd, 0, 0), (145, .iaload, 0, 0), (146, .iastore, 0, 0), (147, .iinc 3 1, 1, 0), (150, .goto (-33), 117, 0), (153, .return_, 0, 0)]
theorem k_107 : sm_tab 107 (fun pc => sm_lk pc l_107) := sm_tabOf (by decide +kernel)
end
section
/-- BuildingTextModel.place(II)I -/
def l_108 : List (Nat × Instr × Nat × Nat) := [(0, .aload_n 0, 0, 0), (1, .iload_n 1, 0, 0), (2, .iconst 0, 0, 0), (3, .aload_n 0, 0, 0), (4, .invokevirtual 298, 109, 0), (7, .iconst 1, 1, 0), (8, .isub, 0, 0), (9, .invokestatic 135, 83, 0), (12, .ifCond .eq 13, 25, 0), (15, .iload_n 2, 0, 0), (16, .iconst 0, 0, 0), (17, .bipush 7, 7, 0), (19, .invokestatic 135, 83, 0), (22, .ifCond .ne 7, 29, 0), (25, .iconst 1, 1, 0), (26, .goto 4, 30, 0), (29, .iconst 0, 0, 0), (30, .putfield 131, 9, 0), (33, .aload_n 0, 0, 0), (34, .getfield 131, 9, 0), (37, .ifCond .le 5, 42, 0), (40, .iconst 0, 0, 0), (41, .ireturn, 0, 0), (42, .aload_n 0, 0, 0), (43, .invokevirtual 292, 110, 0), (46, .iload_n 1, 0, 0), (47, .iadd, 0, 0), (48, .istore_n 3, 0, 0), (49, .iload_n 2, 0, 0), (50, .ifCond .ne 10, 60, 0), (53, .aload_n 0, 0, 0), (54, .getfield 16, 9, 10), (57, .iload_n 3, 0, 0), (58, .iaload, 0, 0), (59, .ireturn, 0, 0), (60, .iload_n 2, 0, 0), (61, .iconst 1, 1, 0), (62, .if_icmp .ne 10, 72, 0), (65, .aload_n 0, 0, 0), (66, .getfield 22, 9, 14), (69, .iload_n 3, 0, 0), (70, .iaload, 0, 0), (71, .ireturn, 0, 0), (72, .iload_n 2, 0, 0), (73, .iconst 2, 2, 0), (74, .if_icmp .ne 10, 84, 0), (77, .aload_n 0, 0, 0), (78, .getfield 25, 9, 16), (81, .iload_n 3, 0, 0), (82, .iaload, 0, 0), (83, .ireturn, 0, 0), (84, .iload_n 2, 0, 0), (85, .iconst 3, 3, 0), (86, .if_icmp .ne 10, 96, 0), (89, .aload_n 0, 0, 0), (90, .getfield 28, 9, 18), (93, .iload_n 3, 0, 0), (94, .iaload, 0, 0), (95, .ireturn, 0, 0), (96, .iload_n 2, 0, 0), (97, .iconst 4, 4, 0), (98, .if_icmp .ne 10, 108, 0), (101, .aload_n 0, 0, 0), (102, .getfield 31, 9, 20), (105, .iload_n 3, 0, 0), (106, .iaload, 0, 0), (107, .ireturn, 0, 0), (108, .iload_n 2, 0, 0), (109, .iconst 5, 5, 0), (110, .if_icmp .ne 10, 120, 0), (113, .aload_n 0, 0, 0), (114, .getfield 34, 9, 22), (117, .iload_n 3, 0, 0), (118, .iaload, 0, 0), (119, .ireturn, 0, 0), (120, .iload_n 2, 0, 0), (121, .bipush 6, 6, 0), (123, .if_icmp .ne 12, 135, 0), (126, .aload_n 0, 0, 0), (127, .getfield 37, 9, 24), (130, .iload_n 3, 0, 0), (131, .iaload, 0, 0), (132, .goto 8, 140, 0), (135, .aload_n 0, 0, 0), (136, .iload_n 1, 0, 0), (137, .invokevirtual 301, 111, 0), (140, .ireturn, 0, 0)]
theorem k_108 : sm_tab 108 (fun pc => sm_lk pc l_108) := sm_tabOf (by decide +kernel)
/-- BuildingTextModel.here()I -/
def l_109 : List (Nat × Instr × Nat × Nat) := [(0, .aload_n 0, 0, 0), (1, .getfield 13, 9, 8), (4, .aload_n 0, 0, 0), (5, .getfield 279, 9, 6), (8, .iaload, 0, 0), (9, .ireturn, 0, 0)]
theorem k_109 : sm_tab 109 (fun pc => sm_lk pc l_109) := sm_tabOf (by decide +kernel)
/-- BuildingTextModel.base()I -/
def l_110 : List (Nat × Instr × Nat × Nat) := [(0, .bipush 60, 60, 0), (2, .aload_n 0, 0, 0), (3, .getfield 279, 9, 6), (6, .imul, 0, 0), (7, .ireturn, 0, 0)]
theorem k_110 : sm_tab 110 (fun pc => sm_lk pc l_110) := sm_tabOf (by decide +kernel)
/-- BuildingTextModel.linesAt(I)I -/
def l_111 : List (Nat × Instr × Nat × Nat) := [(0, .aload_n 0, 0, 0), (1, .iload_n 1, 0, 0), (2, .invokevirtual 295, 112, 0), (5, .bipush 6, 6, 0), (7, .if_icmp .ne 12, 19, 0), (10, .aload_n 0, 0, 0), (11, .getfield 59, 9, 42), (14, .iload_n 1, 0, 0), (15, .iaload, 0, 0), (16, .goto 4, 20, 0), (19, .iconst 0, 0, 0), (20, .istore_n 2, 0, 0), (21, .iconst 0, 0, 0), (22, .istore_n 3, 0, 0), (23, .iload_n 3, 0, 0), (24, .aload_n 0, 0, 0), (25, .getfield 286, 9, 28), (28, .if_icmp .ge 46, 74, 0), (31, .aload_n 0, 0, 0), (32, .iload_n 1, 0, 0), (33, .invokevirtual 295, 112, 0), (36, .iconst 2, 2, 0), (37, .if_icmp .ne 37, 74, 0), (40, .iload_n 2, 0, 0), (41, .aload_n 0, 0, 0), (42, .getfield 43, 9, 30), (45, .iload_n 3, 0, 0), (46, .iaload, 0, 0), (47, .iload_n 1, 0, 0), (48, .if_icmp .eq 13, 61, 0), (51, .aload_n 0, 0, 0), (52, .getfield 46, 9, 32), (55, .iload_n 3, 0, 0), (56, .iaload, 0, 0), (57, .iload_n 1, 0, 0), (58, .if_icmp .ne 7, 65, 0), (61, .iconst 1, 1, 0), (62, .goto 4, 66, 0), (65, .iconst 0, 0, 0), (66, .iadd, 0, 0), (67, .istore_n 2, 0, 0), (68, .iinc 3 1, 1, 0), (71, .goto (-48), 23, 0), (74, .iconst 0, 0, 0), (75, .istore_n 3, 0, 0), (76, .iload_n 3, 0, 0), (77, .aload_n 0, 0, 0), (78, .getfield 289, 9, 36), (81, .if_icmp .ge 36, 117, 0), (84, .aload_n 0, 0, 0), (85, .iload_n 1, 0, 0), (86, .invokevirtual 295, 112, 0), (89, .iconst 1, 1, 0), (90, .if_icmp .ne 27, 117, 0), (93, .iload_n 2, 0, 0), (94, .aload_n 0, 0, 0), (95, .getfield 53, 9, 38), (98, .iload_n 3, 0, 0), (99, .iaload, 0, 0), (100, .iload_n 1, 0, 0), (101, .if_icmp .ne 7, 108, 0), (104, .iconst 1, 1, 0), (105, .goto 4, 109, 0), (108, .iconst 0, 0, 0), (109, .iadd, 0, 0), (110, .istore_n 2, 0, 0), (111, .iinc 3 1, 1, 0), (114, .goto (-38), 76, 0), (117, .iload_n 2, 0, 0), (118, .ireturn, 0, 0)]
theorem k_111 : sm_tab 111 (fun pc => sm_lk pc l_111) := sm_tabOf (by decide +kernel)
/-- BuildingTextModel.kindAt(I)I -/
def l_112 : List (Nat × Instr × Nat × Nat) := [(0, .aload_n 0, 0, 0), (1, .getfield 16, 9, 10), (4, .aload_n 0, 0, 0), (5, .invokevirtual 292, 110, 0), (8, .iload_n 1, 0, 0), (9, .iadd, 0, 0), (10, .iaload, 0, 0), (11, .ireturn, 0, 0)]
theorem k_112 : sm_tab 112 (fun pc => sm_lk pc l_112) := sm_tabOf (by decide +kernel)
/-- BuildingTextModel.named(I)I -/
def l_113 : List (Nat × Instr × Nat × Nat) := [(0, .aload_n 0, 0, 0), (1, .iconst 0, 0, 0), (2, .putfield 131, 9, 0), (5, .iconst 0, 0, 0), (6, .istore_n 2, 0, 0), (7, .iload_n 2, 0, 0), (8, .aload_n 0, 0, 0), (9, .invokevirtual 298, 109, 0), (12, .if_icmp .ge 26, 38, 0), (15, .aload_n 0, 0, 0), (16, .getfield 19, 9, 12), (19, .aload_n 0, 0, 0), (20, .invokevirtual 292, 110, 0), (23, .iload_n 2, 0, 0), (24, .iadd, 0, 0), (25, .iaload, 0, 0), (26, .iload_n 1, 0, 0), (27, .if_icmp .ne 5, 32, 0), (30, .iload_n 2, 0, 0), (31, .ireturn, 0, 0), (32, .iinc 2 1, 1, 0), (35, .goto (-28), 7, 0), (38, .iconst (-1), 1, 1), (39, .ireturn, 0, 0)]
theorem k_113 : sm_tab 113 (fun pc => sm_lk pc l_113) := sm_tabOf (by decide +kernel)
/-- BuildingTextModel.check()I -/
def l_114 : List (Nat × Instr × Nat × Nat) := [(0, .aload_n 0, 0, 0), (1, .iconst 0, 0, 0), (2, .putfield 131, 9, 0), (5, .aload_n 0, 0, 0), (6, .invokevirtual 342, 115, 0), (9, .aload_n 0, 0, 0), (10, .getfield 311, 9, 132), (13, .ireturn, 0, 0)]
theorem k_114 : sm_tab 114 (fun pc => sm_lk pc l_114) := sm_tabOf (by decide +kernel)
/-- BuildingTextModel.findFaults()V -/
def l_115 : List (Nat × Instr × Nat × Nat) := [(0, .aload_n 0, 0, 0), (1, .invokevirtual 320, 116, 0), (4, .aload_n 0, 0, 0), (5, .iconst 0, 0, 0), (6, .putfield 311, 9, 132), (9, .iconst 0, 0, 0), (10, .istore_n 1, 0, 0), (11, .iload_n 1, 0, 0), (12, .aload_n 0, 0, 0), (13, .invokevirtual 298, 109, 0), (16, .if_icmp .ge 181, 197, 0), (19, .aload_n 0, 0, 0), (20, .iload_n 1, 0, 0), (21, .invokevirtual 295, 112, 0), (24, .istore_n 2, 0, 0), (25, .aload_n 0, 0, 0), (26, .getfield 37, 9, 24), (29, .aload_n 0, 0, 0), (30, .invokevirtual 292, 110, 0), (33, .iload_n 1, 0, 0), (34, .iadd, 0, 0), (35, .iaload, 0, 0), (36, .istore_n 3, 0, 0), (37, .iload_n 2, 0, 0), (38, .iconst 1, 1, 0), (39, .if_icmp .ne 24, 63, 0), (42, .aload_n 0, 0, 0), (43, .aload_n 0, 0, 0), (44, .iload_n 1, 0, 0), (45, .iload_n 3, 0, 0), (46, .invokevirtual 323, 119, 0), (49, .ifCond .ne 7, 56, 0), (52, .iconst 1, 1, 0), (53, .goto 4, 57, 0), (56, .iconst 0, 0, 0), (57, .iconst 1, 1, 0), (58, .iload_n 1, 0, 0), (59, .iload_n 3, 0, 0), (60, .invokevirtual 326, 120, 0), (63, .iload_n 2, 0, 0), (64, .ifCond .eq 8, 72, 0), (67, .iload_n 2, 0, 0), (68, .iconst 1, 1, 0), (69, .if_icmp .ne 28, 97, 0), (72, .aload_n 0, 0, 0), (73, .aload_n 0, 0, 0), (74, .iload_n 1, 0, 0), (75, .invokevirtual 330, 121, 0), (78, .iconst (-1), 1, 1), (79, .if_icmp .eq 7, 86, 0), (82, .iconst 1, 1, 0), (83, .goto 4, 87, 0), (86, .iconst 0, 0, 0), (87, .iconst 2, 2, 0), (88, .iload_n 1, 0, 0), (89, .aload_n 0, 0, 0), (90, .iload_n 1, 0, 0), (91, .invokevirtual 330, 121, 0), (94, .invokevirtual 326, 120, 0), (97, .iload_n 2, 0, 0), (98, .iconst 1, 1, 0), (99, .if_icmp .ne 23, 122, 0), (102, .aload_n 0, 0, 0), (103, .aload_n 0, 0, 0), (104, .iload_n 1, 0, 0), (105, .invokevirtual 333, 123, 0), (108, .ifCond .ne 7, 115, 0), (111, .iconst 1, 1, 0), (112, .goto 4, 116, 0), (115, .iconst 0, 0, 0), (116, .iconst 3, 3, 0), (117, .iload_n 1, 0, 0), (118, .iconst (-1), 1, 1), (119, .invokevirtual 326, 120, 0), (122, .iload_n 2, 0, 0), (123, .iconst 3, 3, 0), (124, .if_icmp .eq 13, 137, 0), (127, .iload_n 2, 0, 0), (128, .iconst 4, 4, 0), (129, .if_icmp .eq 8, 137, 0), (132, .iload_n 2, 0, 0), (133, .iconst 5, 5, 0), (134, .if_icmp .ne 23, 157, 0), (137, .aload_n 0, 0, 0), (138, .aload_n 0, 0, 0), (139, .iload_n 3, 0, 0), (140, .invokevirtual 336, 125, 0), (143, .ifCond .ne 7, 150, 0), (146, .iconst 1, 1, 0), (147, .goto 4, 151, 0), (150, .iconst 0, 0, 0), (151, .iconst 4, 4, 0), (152, .iload_n 1, 0, 0), (153, .iload_n 3, 0, 0), (154, .invokevirtual 326, 120, 0), (157, .iload_n 2, 0, 0), (158, .iconst 2, 2, 0), (159, .if_icmp .ne 32, 191, 0), (162, .aload_n 0, 0, 0), (163, .aload_n 0, 0, 0), (164, .iload_n 1, 0, 0), (165, .invokevirtual 336, 125, 0), (168, .ifCond .eq 16, 184, 0), (171, .aload_n 0, 0, 0), (172, .iload_n 1, 0, 0), (173, .invokevirtual 339, 126, 0), (176, .iconst (-1), 1, 1), (177, .if_icmp .ne 7, 184, 0), (180, .iconst 1, 1, 0), (181, .goto 4, 185, 0), (184, .iconst 0, 0, 0), (185, .iconst 5, 5, 0), (186, .iload_n 1, 0, 0), (187, .iconst (-1), 1, 1), (188, .invokevirtual 326, 120, 0), (191, .iinc 1 1, 1, 0), (194, .goto (-183), 11, 0), (197, .return_, 0, 0)]
theorem k_115 : sm_tab 115 (fun pc => sm_lk pc l_115) := sm_tabOf (by decide +kernel)
/-- BuildingTextModel.measure()V -/
def l_116 : List (Nat × Instr × Nat × Nat) := [(0, .aload_n 0, 0, 0), (1, .invokevirtual 298, 109, 0), (4, .istore_n 1, 0, 0), (5, .iconst 0, 0, 0), (6, .istore_n 2, 0, 0), (7, .iload_n 2, 0, 0), (8, .iload_n 1, 0, 0), (9, .if_icmp .ge 43, 52, 0), (12, .iconst 0, 0, 0), (13, .istore_n 3, 0, 0), (14, .iload_n 3, 0, 0), (15, .iload_n 1, 0, 0), (16, .if_icmp .ge 30, 46, 0), (19, .aload_n 0, 0, 0), (20, .getfield 119, 9, 124), (23, .bipush 60, 60, 0), (25, .iload_n 2, 0, 0), (26, .imul, 0, 0), (27, .iload_n 3, 0, 0), (28, .iadd, 0, 0), (29, .iload_n 2, 0, 0), (30, .iload_n 3, 0, 0), (31, .if_icmp .ne 7, 38, 0), (34, .iconst 0, 0, 0), (35, .goto 4, 39, 0), (38, .iconst (-1), 1, 1), (39, .iastore, 0, 0), (40, .iinc 3 1, 1, 0), (43, .goto (-29), 14, 0), (46, .iinc 2 1, 1, 0), (49, .goto (-42), 7, 0), (52, .iconst 0, 0, 0), (53, .istore_n 2, 0, 0), (54, .iload_n 2, 0, 0), (55, .aload_n 0, 0, 0), (56, .getfield 286, 9, 28), (59, .if_icmp .ge 50, 109, 0), (62, .aload_n 0, 0, 0), (63, .aload_n 0, 0, 0), (64, .getfield 43, 9, 30), (67, .iload_n 2, 0, 0), (68, .iaload, 0, 0), (69, .aload_n 0, 0, 0), (70, .getfield 46, 9, 32), (73, .iload_n 2, 0, 0), (74, .iaload, 0, 0), (75, .invokevirtual 304, 117, 0), (78, .aload_n 0, 0, 0), (79, .getfield 49, 9, 34), (82, .iload_n 2, 0, 0), (83, .baload, 0, 0), (84, .ifCond .eq 19, 103, 0), (87, .aload_n 0, 0, 0), (88, .aload_n 0, 0, 0), (89, .getfield 46, 9, 32), (92, .iload_n 2, 0, 0), (93, .iaload, 0, 0), (94, .aload_n 0, 0, 0), (95, .getfield 43, 9, 30), (98, .iload_n 2, 0, 0), (99, .iaload, 0, 0), (100, .invokevirtual 304, 117, 0), (103, .iinc 2 1, 1, 0), (106, .goto (-52), 54, 0), (109, .iconst 0, 0, 0), (110, .istore_n 2, 0, 0), (111, .iload_n 2, 0, 0), (112, .iload_n 1, 0, 0), (113, .if_icmp .ge 82, 195, 0), (116, .iconst 0, 0, 0), (117, .istore_n 3, 0, 0), (118, .iload_n 3, 0, 0), (119, .aload_n 0, 0, 0), (120, .getfield 59, 9, 42), (123, .iload_n 2, 0, 0), (124, .iaload, 0, 0), (125, .if_icmp .ge 64, 189, 0), (128, .aload_n 0, 0, 0), (129, .iload_n 2, 0, 0), (130, .invokevirtual 295, 112, 0), (133, .bipush 6, 6, 0), (135, .if_icmp .ne 54, 189, 0), (138, .iconst 0, 0, 0), (139, .istore 4, 0, 0), (141, .iload 4, 0, 0), (143, .aload_n 0, 0, 0), (144, .getfield 59, 9, 42), (147, .iload_n 2, 0, 0), (148, .iaload, 0, 0), (149, .if_icmp .ge 34, 183, 0), (152, .aload_n 0, 0, 0), (153, .aload_n 0, 0, 0), (154, .getfield 62, 9, 44), (157, .iconst 4, 4, 0), (158, .iload_n 2, 0, 0), (159, .imul, 0, 0), (160, .iload_n 3, 0, 0), (161, .iadd, 0, 0), (162, .iaload, 0, 0), (163, .aload_n 0, 0, 0), (164, .getfield 62, 9, 44), (167, .iconst 4, 4, 0), (168, .iload_n 2, 0, 0), (169, .imul, 0, 0), (170, .iload 4, 0, 0), (172, .iadd, 0, 0), (173, .iaload, 0, 0), (174, .invokevirtual 304, 117, 0), (177, .iinc 4 1, 1, 0), (180, .goto (-39), 141, 0), (183, .iinc 3 1, 1, 0), (186, .goto (-68), 118, 0), (189, .iinc 2 1, 1, 0), (192, .goto (-81), 111, 0), (195, .iconst 0, 0, 0), (196, .istore_n 2, 0, 0), (197, .iload_n 2, 0, 0), (198, .iload_n 1, 0, 0), (199, .if_icmp .ge 45, 244, 0), (202, .iconst 0, 0, 0), (203, .istore_n 3, 0, 0), (204, .iload_n 3, 0, 0), (205, .iload_n 1, 0, 0), (206, .if_icmp .ge 32, 238, 0), (209, .iconst 0, 0, 0), (210, .istore 4, 0, 0), (212, .iload 4, 0, 0), (214, .iload_n 1, 0, 0), (215, .if_icmp .ge 17, 232, 0), (218, .aload_n 0, 0, 0), (219, .iload_n 3, 0, 0), (220, .iload_n 2, 0, 0), (221, .iload 4, 0, 0), (223, .invokevirtual 307, 118, 0), (226, .iinc 4 1, 1, 0), (229, .goto (-17), 212, 0), (232, .iinc 3 1, 1, 0), (235, .goto (-31), 204, 0), (238, .iinc 2 1, 1, 0), (241, .goto (-44), 197, 0), (244, .return_, 0, 0)]
theorem k_116 : sm_tab 116 (fun pc => sm_lk pc l_116) := sm_tabOf (by decide +kernel)
/-- BuildingTextModel.step(II)V -/
def l_117 : List (Nat × Instr × Nat × Nat) := [(0, .iload_n 1, 0, 0), (1, .iload_n 2, 0, 0), (2, .if_icmp .eq 15, 17, 0), (5, .aload_n 0, 0, 0), (6, .getfield 119, 9, 124), (9, .bipush 60, 60, 0), (11, .iload_n 1, 0, 0), (12, .imul, 0, 0), (13, .iload_n 2, 0, 0), (14, .iadd, 0, 0), (15, .iconst 1, 1, 0), (16, .iastore, 0, 0), (17, .return_, 0, 0)]
theorem k_117 : sm_tab 117 (fun pc => sm_lk pc l_117) := sm_tabOf (by decide +kernel)
/-- BuildingTextModel.shorten(III)V -/
def l_118 : List (Nat × Instr × Nat × Nat) := [(0, .aload_n 0, 0, 0), (1, .getfield 119, 9, 124), (4, .bipush 60, 60, 0), (6, .iload_n 1, 0, 0), (7, .imul, 0, 0), (8, .iload_n 2, 0, 0), (9, .iadd, 0, 0), (10, .iaload, 0, 0), (11, .istore 4, 0, 0), (13, .aload_n 0, 0, 0), (14, .getfield 119, 9, 124), (17, .bipush 60, 60, 0), (19, .iload_n 2, 0, 0), (20, .imul, 0, 0), (21, .iload_n 3, 0, 0), (22, .iadd, 0, 0), (23, .iaload, 0, 0), (24, .istore 5, 0, 0), (26, .aload_n 0, 0, 0), (27, .getfield 119, 9, 124), (30, .bipush 60, 60, 0), (32, .iload_n 1, 0, 0), (33, .imul, 0, 0), (34, .iload_n 3, 0, 0), (35, .iadd, 0, 0), (36, .iaload, 0, 0), (37, .istore 6, 0, 0), (39, .iload 4, 0, 0), (41, .iconst (-1), 1, 1), (42, .if_icmp .eq 41, 83, 0), (45, .iload 5, 0, 0), (47, .iconst (-1), 1, 1), (48, .if_icmp .eq 35, 83, 0), (51, .iload 6, 0, 0), (53, .iconst (-1), 1, 1), (54, .if_icmp .eq 13, 67, 0), (57, .iload 4, 0, 0), (59, .iload 5, 0, 0), (61, .iadd, 0, 0), (62, .iload 6, 0, 0), (64, .if_icmp .ge 19, 83, 0), (67, .aload_n 0, 0, 0), (68, .getfield 119, 9, 124), (71, .bipush 60, 60, 0), (73, .iload_n 1, 0, 0), (74, .imul, 0, 0), (75, .iload_n 3, 0, 0), (76, .iadd, 0, 0), (77, .iload 4, 0, 0), (79, .iload 5, 0, 0), (81, .iadd, 0, 0), (82, .iastore, 0, 0), (83, .return_, 0, 0)]
theorem k_118 : sm_tab 118 (fun pc => sm_lk pc l_118) := sm_tabOf (by decide +kernel)
/-- BuildingTextModel.isInside(II)Z -/
def l_119 : List (Nat × Instr × Nat × Nat) := [(0, .aload_n 0, 0, 0), (1, .invokevirtual 292, 110, 0), (4, .iload_n 1, 0, 0), (5, .iadd, 0, 0), (6, .istore_n 3, 0, 0), (7, .aload_n 0, 0, 0), (8, .invokevirtual 292, 110, 0), (11, .iload_n 2, 0, 0), (12, .iadd, 0, 0), (13, .istore 4, 0, 0), (15, .aload_n 0, 0, 0), (16, .getfield 22, 9, 14), (19, .iload_n 3, 0, 0), (20, .iaload, 0, 0), (21, .aload_n 0, 0, 0), (22, .getfield 22, 9, 14), (25, .iload 4, 0, 0), (27, .iaload, 0, 0), (28, .if_icmp .lt 85, 113, 0), (31, .aload_n 0, 0, 0), (32, .getfield 25, 9, 16), (35, .iload_n 3, 0, 0), (36, .iaload, 0, 0), (37, .aload_n 0, 0, 0), (38, .getfield 25, 9, 16), (41, .iload 4, 0, 0), (43, .iaload, 0, 0), (44, .if_icmp .lt 69, 113, 0), (47, .aload_n 0, 0, 0), (48, .getfield 22, 9, 14), (51, .iload_n 3, 0, 0), (52, .iaload, 0, 0), (53, .aload_n 0, 0, 0), (54, .getfield 28, 9, 18), (57, .iload_n 3, 0, 0), (58, .iaload, 0, 0), (59, .iadd, 0, 0), (60, .aload_n 0, 0, 0), (61, .getfield 22, 9, 14), (64, .iload 4, 0, 0), (66, .iaload, 0, 0), (67, .aload_n 0, 0, 0), (68, .getfield 28, 9, 18), (71, .iload 4, 0, 0), (73, .iaload, 0, 0), (74, .iadd, 0, 0), (75, .if_icmp .gt 38, 113, 0), (78, .aload_n 0, 0, 0), (79, .getfield 25, 9, 16), (82, .iload_n 3, 0, 0), (83, .iaload, 0, 0), (84, .aload_n 0, 0, 0), (85, .getfield 31, 9, 20), (88, .iload_n 3, 0, 0), (89, .iaload, 0, 0), (90, .iadd, 0, 0), (91, .aload_n 0, 0, 0), (92, .getfield 25, 9, 16), (95, .iload 4, 0, 0), (97, .iaload, 0, 0), (98, .aload_n 0, 0, 0), (99, .getfield 31, 9, 20), (102, .iload 4, 0, 0), (104, .iaload, 0, 0), (105, .iadd, 0, 0), (106, .if_icmp .gt 7, 113, 0), (109, .iconst 1, 1, 0), (110, .goto 4, 114, 0), (113, .iconst 0, 0, 0), (114, .ireturn, 0, 0)]
theorem k_119 : sm_tab 119 (fun pc => sm_lk pc l_119) := sm_tabOf (by decide +kernel)
/-- BuildingTextModel.addFault(ZIII)V -/
def l_120 : List (Nat × Instr × Nat × Nat) := [(0, .iload_n 1, 0, 0), (1, .ifCond .ne 4, 5, 0), (4, .return_, 0, 0), (5, .aload_n 0, 0, 0), (6, .getfield 122, 9, 126), (9, .aload_n 0, 0, 0), (10, .getfield 311, 9, 132), (13, .iload_n 2, 0, 0), (14, .iastore, 0, 0), (15, .aload_n 0, 0, 0), (16, .getfield 125, 9, 128), (19, .aload_n 0, 0, 0), (20, .getfield 311, 9, 132), (23, .iload_n 3, 0, 0), (24, .iastore, 0, 0), (25, .aload_n 0, 0, 0), (26, .getfield 128, 9, 130), (29, .aload_n 0, 0, 0), (30, .getfield 311, 9, 132), (33, .iload 4, 0, 0), (35, .iastore, 0, 0), (36, .aload_n 0, 0, 0), (37, .dup, 0, 0), (38, .getfield 311, 9, 132), (41, .iconst 1, 1, 0), (42, .iadd, 0, 0), (43, .putfield 311, 9, 132), (46, .return_, 0, 0)]
theorem k_120 : sm_tab 120 (fun pc => sm_lk pc l_120) := sm_tabOf (by decide +kernel)
/-- BuildingTextModel.firstMet(I)I -/
def l_121 : List (Nat × Instr × Nat × Nat) := [(0, .iconst 0, 0, 0), (1, .istore_n 2, 0, 0), (2, .iload_n 2, 0, 0), (3, .iload_n 1, 0, 0), (4, .if_icmp .ge 101, 105, 0), (7, .aload_n 0, 0, 0), (8, .iload_n 2, 0, 0), (9, .invokevirtual 295, 112, 0), (12, .aload_n 0, 0, 0), (13, .iload_n 1, 0, 0), (14, .invokevirtual 295, 112, 0), (17, .if_icmp .ne 65, 82, 0), (20, .aload_n 0, 0, 0), (21, .iload_n 1, 0, 0), (22, .invokevirtual 295, 112, 0), (25, .ifCond .eq 53, 78, 0), (28, .aload_n 0, 0, 0), (29, .getfield 37, 9, 24), (32, .aload_n 0, 0, 0), (33, .invokevirtual 292, 110, 0), (36, .iload_n 2, 0, 0), (37, .iadd, 0, 0), (38, .iaload, 0, 0), (39, .aload_n 0, 0, 0), (40, .getfield 37, 9, 24), (43, .aload_n 0, 0, 0), (44, .invokevirtual 292, 110, 0), (47, .iload_n 1, 0, 0), (48, .iadd, 0, 0), (49, .iaload, 0, 0), (50, .if_icmp .ne 32, 82, 0), (53, .aload_n 0, 0, 0), (54, .getfield 34, 9, 22), (57, .aload_n 0, 0, 0), (58, .invokevirtual 292, 110, 0), (61, .iload_n 2, 0, 0), (62, .iadd, 0, 0), (63, .iaload, 0, 0), (64, .aload_n 0, 0, 0), (65, .getfield 34, 9, 22), (68, .aload_n 0, 0, 0), (69, .invokevirtual 292, 110, 0), (72, .iload_n 1, 0, 0), (73, .iadd, 0, 0), (74, .iaload, 0, 0), (75, .if_icmp .ne 7, 82, 0), (78, .iconst 1, 1, 0), (79, .goto 4, 83, 0), (82, .iconst 0, 0, 0), (83, .istore_n 3, 0, 0), (84, .iload_n 3, 0, 0), (85, .ifCond .eq 14, 99, 0), (88, .aload_n 0, 0, 0), (89, .iload_n 1, 0, 0), (90, .iload_n 2, 0, 0), (91, .invokevirtual 314, 122, 0), (94, .ifCond .eq 5, 99, 0), (97, .iload_n 2, 0, 0), (98, .ireturn, 0, 0), (99, .iinc 2 1, 1, 0), (102, .goto (-100), 2, 0), (105, .iconst (-1), 1, 1), (106, .ireturn, 0, 0)]
theorem k_121 : sm_tab 121 (fun pc => sm_lk pc l_121) := sm_tabOf (by decide +kernel)
/-- BuildingTextModel.meets(II)Z -/
def l_122 : List (Nat × Instr × Nat × Nat) := [(0, .aload_n 0, 0, 0), (1, .invokevirtual 292, 110, 0), (4, .iload_n 1, 0, 0), (5, .iadd, 0, 0), (6, .istore_n 3, 0, 0), (7, .aload_n 0, 0, 0), (8, .invokevirtual 292, 110, 0), (11, .iload_n 2, 0, 0), (12, .iadd, 0, 0), (13, .istore 4, 0, 0), (15, .aload_n 0, 0, 0), (16, .getfield 22, 9, 14), (19, .iload_n 3, 0, 0), (20, .iaload, 0, 0), (21, .aload_n 0, 0, 0), (22, .getfield 22, 9, 14), (25, .iload 4, 0, 0), (27, .iaload, 0, 0), (28, .aload_n 0, 0, 0), (29, .getfield 28, 9, 18), (32, .iload 4, 0, 0), (34, .iaload, 0, 0), (35, .iadd, 0, 0), (36, .if_icmp .ge 77, 113, 0), (39, .aload_n 0, 0, 0), (40, .getfield 22, 9, 14), (43, .iload 4, 0, 0), (45, .iaload, 0, 0), (46, .aload_n 0, 0, 0), (47, .getfield 22, 9, 14), (50, .iload_n 3, 0, 0), (51, .iaload, 0, 0), (52, .aload_n 0, 0, 0), (53, .getfield 28, 9, 18), (56, .iload_n 3, 0, 0), (57, .iaload, 0, 0), (58, .iadd, 0, 0), (59, .if_icmp .ge 54, 113, 0), (62, .aload_n 0, 0, 0), (63, .getfield 25, 9, 16), (66, .iload_n 3, 0, 0), (67, .iaload, 0, 0), (68, .aload_n 0, 0, 0), (69, .getfield 25, 9, 16), (72, .iload 4, 0, 0), (74, .iaload, 0, 0), (75, .aload_n 0, 0, 0), (76, .getfield 31, 9, 20), (79, .iload 4, 0, 0), (81, .iaload, 0, 0), (82, .iadd, 0, 0), (83, .if_icmp .ge 30, 113, 0), (86, .aload_n 0, 0, 0), (87, .getfield 25, 9, 16), (90, .iload 4, 0, 0), (92, .iaload, 0, 0), (93, .aload_n 0, 0, 0), (94, .getfield 25, 9, 16), (97, .iload_n 3, 0, 0), (98, .iaload, 0, 0), (99, .aload_n 0, 0, 0), (100, .getfield 31, 9, 20), (103, .iload_n 3, 0, 0), (104, .iaload, 0, 0), (105, .iadd, 0, 0), (106, .if_icmp .ge 7, 113, 0), (109, .iconst 1, 1, 0), (110, .goto 4, 114, 0), (113, .iconst 0, 0, 0), (114, .ireturn, 0, 0)]
theorem k_122 : sm_tab 122 (fun pc => sm_lk pc l_122) := sm_tabOf (by decide +kernel)
/-- BuildingTextModel.isServed(I)Z -/
def l_123 : List (Nat × Instr × Nat × Nat) := [(0, .iconst 0, 0, 0), (1, .istore_n 2, 0, 0), (2, .iload_n 2, 0, 0), (3, .aload_n 0, 0, 0), (4, .getfield 289, 9, 36), (7, .if_icmp .ge 34, 41, 0), (10, .aload_n 0, 0, 0), (11, .getfield 53, 9, 38), (14, .iload_n 2, 0, 0), (15, .iaload, 0, 0), (16, .iload_n 1, 0, 0), (17, .if_icmp .ne 18, 35, 0), (20, .aload_n 0, 0, 0), (21, .aload_n 0, 0, 0), (22, .getfield 56, 9, 40), (25, .iload_n 2, 0, 0), (26, .iaload, 0, 0), (27, .invokevirtual 317, 124, 0), (30, .ifCond .eq 5, 35, 0), (33, .iconst 1, 1, 0), (34, .ireturn, 0, 0), (35, .iinc 2 1, 1, 0), (38, .goto (-36), 2, 0), (41, .iconst 0, 0, 0), (42, .ireturn, 0, 0)]
theorem k_123 : sm_tab 123 (fun pc => sm_lk pc l_123) := sm_tabOf (by decide +kernel)
/-- BuildingTextModel.isReached(I)Z -/
def l_124 : List (Nat × Instr × Nat × Nat) := [(0, .iconst 0, 0, 0), (1, .istore_n 2, 0, 0), (2, .iload_n 2, 0, 0), (3, .aload_n 0, 0, 0), (4, .invokevirtual 298, 109, 0), (7, .if_icmp .ge 45, 52, 0), (10, .aload_n 0, 0, 0), (11, .iload_n 2, 0, 0), (12, .invokevirtual 295, 112, 0), (15, .iconst 3, 3, 0), (16, .if_icmp .ne 30, 46, 0), (19, .aload_n 0, 0, 0), (20, .getfield 119, 9, 124), (23, .bipush 60, 60, 0), (25, .aload_n 0, 0, 0), (26, .getfield 37, 9, 24), (29, .aload_n 0, 0, 0), (30, .invokevirtual 292, 110, 0), (33, .iload_n 2, 0, 0), (34, .iadd, 0, 0), (35, .iaload, 0, 0), (36, .imul, 0, 0), (37, .iload_n 1, 0, 0), (38, .iadd, 0, 0), (39, .iaload, 0, 0), (40, .iconst (-1), 1, 1), (41, .if_icmp .eq 5, 46, 0), (44, .iconst 1, 1, 0), (45, .ireturn, 0, 0), (46, .iinc 2 1, 1, 0), (49, .goto (-47), 2, 0), (52, .iconst 0, 0, 0), (53, .ireturn, 0, 0)]
theorem k_124 : sm_tab 124 (fun pc => sm_lk pc l_124) := sm_tabOf (by decide +kernel)
/-- BuildingTextModel.isLinked(I)Z -/
def l_125 : List (Nat × Instr × Nat × Nat) := [(0, .iconst 0, 0, 0), (1, .istore_n 2, 0, 0), (2, .iload_n 2, 0, 0), (3, .aload_n 0, 0, 0), (4, .getfield 286, 9, 28), (7, .if_icmp .ge 31, 38, 0), (10, .aload_n 0, 0, 0), (11, .getfield 43, 9, 30), (14, .iload_n 2, 0, 0), (15, .iaload, 0, 0), (16, .iload_n 1, 0, 0), (17, .if_icmp .eq 13, 30, 0), (20, .aload_n 0, 0, 0), (21, .getfield 46, 9, 32), (24, .iload_n 2, 0, 0), (25, .iaload, 0, 0), (26, .iload_n 1, 0, 0), (27, .if_icmp .ne 5, 32, 0), (30, .iconst 1, 1, 0), (31, .ireturn, 0, 0), (32, .iinc 2 1, 1, 0), (35, .goto (-33), 2, 0), (38, .iconst 0, 0, 0), (39, .istore_n 2, 0, 0), (40, .iload_n 2, 0, 0), (41, .aload_n 0, 0, 0), (42, .invokevirtual 298, 109, 0), (45, .if_icmp .ge 53, 98, 0), (48, .iconst 0, 0, 0), (49, .istore_n 3, 0, 0), (50, .iload_n 3, 0, 0), (51, .aload_n 0, 0, 0), (52, .getfield 59, 9, 42), (55, .iload_n 2, 0, 0), (56, .iaload, 0, 0), (57, .if_icmp .ge 35, 92, 0), (60, .aload_n 0, 0, 0), (61, .iload_n 2, 0, 0), (62, .invokevirtual 295, 112, 0), (65, .bipush 6, 6, 0), (67, .if_icmp .ne 25, 92, 0), (70, .aload_n 0, 0, 0), (71, .getfield 62, 9, 44), (74, .iconst 4, 4, 0), (75, .iload_n 2, 0, 0), (76, .imul, 0, 0), (77, .iload_n 3, 0, 0), (78, .iadd, 0, 0), (79, .iaload, 0, 0), (80, .iload_n 1, 0, 0), (81, .if_icmp .ne 5, 86, 0), (84, .iconst 1, 1, 0), (85, .ireturn, 0, 0), (86, .iinc 3 1, 1, 0), (89, .goto (-39), 50, 0), (92, .iinc 2 1, 1, 0), (95, .goto (-55), 40, 0), (98, .iconst 0, 0, 0), (99, .ireturn, 0, 0)]
theorem k_125 : sm_tab 125 (fun pc => sm_lk pc l_125) := sm_tabOf (by decide +kernel)
/-- BuildingTextModel.toDock(I)I -/
def l_126 : List (Nat × Instr × Nat × Nat) := [(0, .iconst (-1), 1, 1), (1, .istore_n 2, 0, 0), (2, .iconst 0, 0, 0), (3, .istore_n 3, 0, 0), (4, .iload_n 3, 0, 0), (5, .aload_n 0, 0, 0), (6, .invokevirtual 298, 109, 0), (9, .if_icmp .ge 69, 78, 0), (12, .aload_n 0, 0, 0), (13, .iload_n 3, 0, 0), (14, .invokevirtual 295, 112, 0), (17, .iconst 3, 3, 0), (18, .if_icmp .ne 27, 45, 0), (21, .aload_n 0, 0, 0), (22, .getfield 119, 9, 124), (25, .bipush 60, 60, 0), (27, .iload_n 1, 0, 0), (28, .imul, 0, 0), (29, .aload_n 0, 0, 0), (30, .getfield 37, 9, 24), (33, .aload_n 0, 0, 0), (34, .invokevirtual 292, 110, 0), (37, .iload_n 3, 0, 0), (38, .iadd, 0, 0), (39, .iaload, 0, 0), (40, .iadd, 0, 0), (41, .iaload, 0, 0), (42, .goto 4, 46, 0), (45, .iconst (-1), 1, 1), (46, .istore 4, 0, 0), (48, .iload 4, 0, 0), (50, .iconst (-1), 1, 1), (51, .if_icmp .eq 19, 70, 0), (54, .iload_n 2, 0, 0), (55, .iconst (-1), 1, 1), (56, .if_icmp .eq 9, 65, 0), (59, .iload 4, 0, 0), (61, .iload_n 2, 0, 0), (62, .if_icmp .ge 8, 70, 0), (65, .iload 4, 0, 0), (67, .goto 4, 71, 0), (70, .iload_n 2, 0, 0), (71, .istore_n 2, 0, 0), (72, .iinc 3 1, 1, 0), (75, .goto (-71), 4, 0), (78, .iload_n 2, 0, 0), (79, .ireturn, 0, 0)]
theorem k_126 : sm_tab 126 (fun pc => sm_lk pc l_126) := sm_tabOf (by decide +kernel)
/-- BuildingTextModel.fault(II)I -/
def l_127 : List (Nat × Instr × Nat × Nat) := [(0, .aload_n 0, 0, 0), (1, .invokevirtual 342, 115, 0), (4, .aload_n 0, 0, 0), (5, .iload_n 1, 0, 0), (6, .iconst 0, 0, 0), (7, .aload_n 0, 0, 0), (8, .getfield 311, 9, 132), (11, .iconst 1, 1, 0), (12, .isub, 0, 0), (13, .invokestatic 135, 83, 0), (16, .ifCond .ne 7, 23, 0), (19, .iconst 1, 1, 0), (20, .goto 17, 37, 0), (23, .iload_n 2, 0, 0), (24, .iconst 0, 0, 0), (25, .iconst 2, 2, 0), (26, .invokestatic 135, 83, 0), (29, .ifCond .ne 7, 36, 0), (32, .iconst 2, 2, 0), (33, .goto 4, 37, 0), (36, .iconst 0, 0, 0), (37, .putfield 131, 9, 0), (40, .aload_n 0, 0, 0), (41, .getfield 131, 9, 0), (44, .ifCond .le 5, 49, 0), (47, .iconst 0, 0, 0), (48, .ireturn, 0, 0), (49, .iload_n 2, 0, 0), (50, .ifCond .ne 12, 62, 0), (53, .aload_n 0, 0, 0), (54, .getfield 122, 9, 126), (57, .iload_n 1, 0, 0), (58, .iaload, 0, 0), (59, .goto 23, 82, 0), (62, .iload_n 2, 0, 0), (63, .iconst 1, 1, 0), (64, .if_icmp .ne 12, 76, 0), (67, .aload_n 0, 0, 0), (68, .getfield 125, 9, 128), (71, .iload_n 1, 0, 0), (72, .iaload, 0, 0), (73, .goto 9, 82, 0), (76, .aload_n 0, 0, 0), (77, .getfield 128, 9, 130), (80, .iload_n 1, 0, 0), (81, .iaload, 0, 0), (82, .ireturn, 0, 0)]
theorem k_127 : sm_tab 127 (fun pc => sm_lk pc l_127) := sm_tabOf (by decide +kernel)
/-- BuildingTextModel.piece(II)I -/
def l_128 : List (Nat × Instr × Nat × Nat) := [(0, .iload_n 1, 0, 0), (1, .ifCond .ge 7, 8, 0), (4, .iconst (-1), 1, 1), (5, .goto 8, 13, 0), (8, .aload_n 0, 0, 0), (9, .iload_n 1, 0, 0), (10, .invokevirtual 345, 129, 0), (13, .istore_n 3, 0, 0), (14, .aload_n 0, 0, 0), (15, .iload_n 3, 0, 0), (16, .iconst (-1), 1, 1), (17, .if_icmp .ne 7, 24, 0), (20, .iconst 1, 1, 0), (21, .goto 17, 38, 0), (24, .iload_n 2, 0, 0), (25, .iconst 0, 0, 0), (26, .iconst 4, 4, 0), (27, .invokestatic 135, 83, 0), (30, .ifCond .ne 7, 37, 0), (33, .iconst 2, 2, 0), (34, .goto 4, 38, 0), (37, .iconst 0, 0, 0), (38, .putfield 131, 9, 0), (41, .aload_n 0, 0, 0), (42, .getfield 131, 9, 0), (45, .ifCond .le 5, 50, 0), (48, .iconst 0, 0, 0), (49, .ireturn, 0, 0), (50, .iload_n 2, 0, 0), (51, .ifCond .ne 5, 56, 0), (54, .iload_n 3, 0, 0), (55, .ireturn, 0, 0), (56, .aload_n 0, 0, 0), (57, .invokevirtual 320, 116, 0), (60, .iload_n 2, 0, 0), (61, .iconst 1, 1, 0), (62, .if_icmp .ne 17, 79, 0), (65, .aload_n 0, 0, 0), (66, .iload_n 3, 0, 0), (67, .invokevirtual 317, 124, 0), (70, .ifCond .eq 7, 77, 0), (73, .iconst 1, 1, 0), (74, .goto 4, 78, 0), (77, .iconst 0, 0, 0), (78, .ireturn, 0, 0), (79, .iload_n 2, 0, 0), (80, .iconst 2, 2, 0), (81, .if_icmp .ne 18, 99, 0), (84, .aload_n 0, 0, 0), (85, .iload_n 3, 0, 0), (86, .invokevirtual 339, 126, 0), (89, .iconst (-1), 1, 1), (90, .if_icmp .eq 7, 97, 0), (93, .iconst 1, 1, 0), (94, .goto 4, 98, 0), (97, .iconst 0, 0, 0), (98, .ireturn, 0, 0), (99, .iload_n 2, 0, 0), (100, .iconst 4, 4, 0), (101, .if_icmp .ne 9, 110, 0), (104, .aload_n 0, 0, 0), (105, .iload_n 3, 0, 0), (106, .invokevirtual 339, 126, 0), (109, .ireturn, 0, 0), (110, .iconst 0, 0, 0), (111, .istore 4, 0, 0), (113, .iconst 0, 0, 0), (114, .istore 5, 0, 0), (116, .iload 5, 0, 0), (118, .aload_n 0, 0, 0), (119, .invokevirtual 298, 109, 0), (122, .if_icmp .ge 41, 163, 0), (125, .iload 4, 0, 0), (127, .iload 5, 0, 0), (129, .iload_n 3, 0, 0), (130, .if_icmp .eq 23, 153, 0), (133, .aload_n 0, 0, 0), (134, .getfield 119, 9, 124), (137, .bipush 60, 60, 0), (139, .iload_n 3, 0, 0), (140, .imul, 0, 0), (141, .iload 5, 0, 0), (143, .iadd, 0, 0), (144, .iaload, 0, 0), (145, .iconst (-1), 1, 1), (146, .if_icmp .eq 7, 153, 0), (149, .iconst 1, 1, 0), (150, .goto 4, 154, 0), (153, .iconst 0, 0, 0), (154, .iadd, 0, 0), (155, .istore 4, 0, 0), (157, .iinc 5 1, 1, 0), (160, .goto (-44), 116, 0), (163, .iload 4, 0, 0), (165, .ireturn, 0, 0)]
theorem k_128 : sm_tab 128 (fun pc => sm_lk pc l_128) := sm_tabOf (by decide +kernel)
/-- BuildingTextModel.pieceAt(I)I -/
def l_129 : List (Nat × Instr × Nat × Nat) := [(0, .iload_n 1, 0, 0), (1, .istore_n 2, 0, 0), (2, .iconst 0, 0, 0), (3, .istore_n 3, 0, 0), (4, .iload_n 3, 0, 0), (5, .aload_n 0, 0, 0), (6, .invokevirtual 298, 109, 0), (9, .if_icmp .ge 30, 39, 0), (12, .aload_n 0, 0, 0), (13, .iload_n 3, 0, 0), (14, .invokevirtual 295, 112, 0), (17, .iconst 2, 2, 0), (18, .if_icmp .eq 6, 24, 0), (21, .goto 12, 33, 0), (24, .iload_n 2, 0, 0), (25, .ifCond .ne 5, 30, 0), (28, .iload_n 3, 0, 0), (29, .ireturn, 0, 0), (30, .iinc 2 (-1), 1, 1), (33, .iinc 3 1, 1, 0), (36, .goto (-32), 4, 0), (39, .iconst (-1), 1, 1), (40, .ireturn, 0, 0)]
theorem k_129 : sm_tab 129 (fun pc => sm_lk pc l_129) := sm_tabOf (by decide +kernel)
/-- BuildingTextModel.inside(II)Z -/
def l_130 : List (Nat × Instr × Nat × Nat) := [(0, .iload_n 1, 0, 0), (1, .iconst 0, 0, 0), (2, .aload_n 0, 0, 0), (3, .invokevirtual 298, 109, 0), (6, .iconst 1, 1, 0), (7, .isub, 0, 0), (8, .invokestatic 135, 83, 0), (11, .ifCond .eq 21, 32, 0), (14, .iload_n 2, 0, 0), (15, .iconst 0, 0, 0), (16, .aload_n 0, 0, 0), (17, .invokevirtual 298, 109, 0), (20, .iconst 1, 1, 0), (21, .isub, 0, 0), (22, .invokestatic 135, 83, 0), (25, .ifCond .eq 7, 32, 0), (28, .iconst 1, 1, 0), (29, .goto 4, 33, 0), (32, .iconst 0, 0, 0), (33, .istore_n 3, 0, 0), (34, .iload_n 3, 0, 0), (35, .ifCond .eq 26, 61, 0), (38, .aload_n 0, 0, 0), (39, .iload_n 1, 0, 0), (40, .invokevirtual 295, 112, 0), (43, .iconst 1, 1, 0), (44, .if_icmp .ne 15, 59, 0), (47, .aload_n 0, 0, 0), (48, .iload_n 2, 0, 0), (49, .invokevirtual 295, 112, 0), (52, .ifCond .ne 7, 59, 0), (55, .iconst 1, 1, 0), (56, .goto 4, 60, 0), (59, .iconst 0, 0, 0), (60, .istore_n 3, 0, 0), (61, .aload_n 0, 0, 0), (62, .iload_n 3, 0, 0), (63, .ifCond .eq 7, 70, 0), (66, .iconst 0, 0, 0), (67, .goto 4, 71, 0), (70, .iconst 1, 1, 0), (71, .putfield 131, 9, 0), (74, .iload_n 3, 0, 0), (75, .ifCond .eq 16, 91, 0), (78, .aload_n 0, 0, 0), (79, .iload_n 1, 0, 0), (80, .iload_n 2, 0, 0), (81, .invokevirtual 323, 119, 0), (84, .ifCond .eq 7, 91, 0), (87, .iconst 1, 1, 0), (88, .goto 4, 92, 0), (91, .iconst 0, 0, 0), (92, .ireturn, 0, 0)]
theorem k_130 : sm_tab 130 (fun pc => sm_lk pc l_130) := sm_tabOf (by decide +kernel)
/-- BuildingTextModel.fill(III)V -/
def l_131 : List (Nat × Instr × Nat × Nat) := [(0, .aload_n 0, 0, 0), (1, .iload_n 1, 0, 0), (2, .invokevirtual 348, 132, 0), (5, .ifCond .eq 17, 22, 0), (8, .iload_n 3, 0, 0), (9, .iconst 0, 0, 0), (10, .bipush 99, 99, 0), (12, .invokestatic 135, 83, 0), (15, .ifCond .eq 7, 22, 0), (18, .iconst 1, 1, 0), (19, .goto 4, 23, 0), (22, .iconst 0, 0, 0), (23, .istore 4, 0, 0), (25, .iload 4, 0, 0), (27, .ifCond .eq 18, 45, 0), (30, .iload_n 2, 0, 0), (31, .iconst 0, 0, 0), (32, .aload_n 0, 0, 0), (33, .getfield 13, 9, 8), (36, .iload_n 1, 0, 0), (37, .iaload, 0, 0), (38, .iconst 1, 1, 0), (39, .isub, 0, 0), (40, .invokestatic 135, 83, 0), (43, .istore 4, 0, 0), (45, .iload 4, 0, 0), (47, .ifCond .eq 25, 72, 0), (50, .aload_n 0, 0, 0), (51, .getfield 16, 9, 10), (54, .bipush 60, 60, 0), (56, .iload_n 1, 0, 0), (57, .imul, 0, 0), (58, .iload_n 2, 0, 0), (59, .iadd, 0, 0), (60, .iaload, 0, 0), (61, .iconst 1, 1, 0), (62, .if_icmp .ne 7, 69, 0), (65, .iconst 1, 1, 0), (66, .goto 4, 70, 0), (69, .iconst 0, 0, 0), (70, .istore 4, 0, 0), (72, .aload_n 0, 0, 0), (73, .iload 4, 0, 0), (75, .ifCond .eq 7, 82, 0), (78, .iconst 0, 0, 0), (79, .goto 4, 83, 0), (82, .iconst 1, 1, 0), (83, .putfield 131, 9, 0), (86, .iload 4, 0, 0), (88, .ifCond .eq 15, 103, 0), (91, .aload_n 0, 0, 0), (92, .getfield 40, 9, 26), (95, .bipush 60, 60, 0), (97, .iload_n 1, 0, 0), (98, .imul, 0, 0), (99, .iload_n 2, 0, 0), (100, .iadd, 0, 0), (101, .iload_n 3, 0, 0), (102, .iastore, 0, 0), (103, .return_, 0, 0)]
theorem k_131 : sm_tab 131 (fun pc => sm_lk pc l_131) := sm_tabOf (by decide +kernel)
/-- BuildingTextModel.isEdition(I)Z -/
def l_132 : List (Nat × Instr × Nat × Nat) := [(0, .iload_n 1, 0, 0), (1, .iconst 0, 0, 0), (2, .aload_n 0, 0, 0), (3, .getfield 279, 9, 6), (6, .invokestatic 135, 83, 0), (9, .ireturn, 0, 0)]
theorem k_132 : sm_tab 132 (fun pc => sm_lk pc l_132) := sm_tabOf (by decide +kernel)
/-- BuildingTextModel.differ(I)I -/
def l_133 : List (Nat × Instr × Nat × Nat) := [(0, .aload_n 0, 0, 0), (1, .aload_n 0, 0, 0), (2, .iload_n 1, 0, 0), (3, .invokevirtual 348, 132, 0), (6, .ifCond .eq 7, 13, 0), (9, .iconst 0, 0, 0), (10, .goto 4, 14, 0), (13, .iconst 1, 1, 0), (14, .putfield 131, 9, 0), (17, .aload_n 0, 0, 0), (18, .getfield 131, 9, 0), (21, .ifCond .le 5, 26, 0), (24, .iconst 0, 0, 0), (25, .ireturn, 0, 0), (26, .iconst 0, 0, 0), (27, .istore_n 2, 0, 0), (28, .aload_n 0, 0, 0), (29, .iconst 0, 0, 0), (30, .putfield 351, 9, 90), (33, .iconst 0, 0, 0), (34, .istore_n 3, 0, 0), (35, .iload_n 3, 0, 0), (36, .aload_n 0, 0, 0), (37, .getfield 13, 9, 8), (40, .iload_n 1, 0, 0), (41, .iaload, 0, 0), (42, .if_icmp .ge 80, 122, 0), (45, .bipush 60, 60, 0), (47, .iload_n 1, 0, 0), (48, .imul, 0, 0), (49, .iload_n 3, 0, 0), (50, .iadd, 0, 0), (51, .istore 4, 0, 0), (53, .aload_n 0, 0, 0), (54, .getfield 16, 9, 10), (57, .iload 4, 0, 0), (59, .iaload, 0, 0), (60, .iconst 1, 1, 0), (61, .if_icmp .ne 55, 116, 0), (64, .aload_n 0, 0, 0), (65, .getfield 40, 9, 26), (68, .iload 4, 0, 0), (70, .iaload, 0, 0), (71, .ifCond .eq 45, 116, 0), (74, .aload_n 0, 0, 0), (75, .iload_n 1, 0, 0), (76, .iload_n 3, 0, 0), (77, .invokevirtual 354, 134, 0), (80, .ifCond .eq 6, 86, 0), (83, .goto 33, 116, 0), (86, .aload_n 0, 0, 0), (87, .getfield 110, 9, 88), (90, .aload_n 0, 0, 0), (91, .getfield 351, 9, 90), (94, .iload_n 3, 0, 0), (95, .iastore, 0, 0), (96, .aload_n 0, 0, 0), (97, .dup, 0, 0), (98, .getfield 351, 9, 90), (101, .iconst 1, 1, 0), (102, .iadd, 0, 0), (103, .putfield 351, 9, 90), (106, .iload_n 2, 0, 0), (107, .aload_n 0, 0, 0), (108, .getfield 40, 9, 26), (111, .iload 4, 0, 0), (113, .iaload, 0, 0), (114, .iadd, 0, 0), (115, .istore_n 2, 0, 0), (116, .iinc 3 1, 1, 0), (119, .goto (-84), 35, 0), (122, .iload_n 2, 0, 0), (123, .ireturn, 0, 0)]
theorem k_133 : sm_tab 133 (fun pc => sm_lk pc l_133) := sm_tabOf (by decide +kernel)
/-- BuildingTextModel.isKept(II)Z -/
def l_134 : List (Nat × Instr × Nat × Nat) := [(0, .bipush 60, 60, 0), (2, .iload_n 1, 0, 0), (3, .imul, 0, 0), (4, .iload_n 2, 0, 0), (5, .iadd, 0, 0), (6, .istore_n 3, 0, 0), (7, .iconst 0, 0, 0), (8, .istore 4, 0, 0), (10, .iload 4, 0, 0), (12, .aload_n 0, 0, 0), (13, .invokevirtual 298, 109, 0), (16, .if_icmp .ge 166, 182, 0), (19, .aload_n 0, 0, 0), (20, .invokevirtual 292, 110, 0), (23, .iload 4, 0, 0), (25, .iadd, 0, 0), (26, .istore 5, 0, 0), (28, .aload_n 0, 0, 0), (29, .getfield 16, 9, 10), (32, .iload 5, 0, 0), (34, .iaload, 0, 0), (35, .iconst 1, 1, 0), (36, .if_icmp .ne 140, 176, 0), (39, .aload_n 0, 0, 0), (40, .getfield 19, 9, 12), (43, .iload 5, 0, 0), (45, .iaload, 0, 0), (46, .aload_n 0, 0, 0), (47, .getfield 19, 9, 12), (50, .iload_n 3, 0, 0), (51, .iaload, 0, 0), (52, .if_icmp .ne 124, 176, 0), (55, .aload_n 0, 0, 0), (56, .getfield 34, 9, 22), (59, .iload 5, 0, 0), (61, .iaload, 0, 0), (62, .aload_n 0, 0, 0), (63, .getfield 34, 9, 22), (66, .iload_n 3, 0, 0), (67, .iaload, 0, 0), (68, .if_icmp .eq 6, 74, 0), (71, .goto 105, 176, 0), (74, .aload_n 0, 0, 0), (75, .getfield 22, 9, 14), (78, .iload 5, 0, 0), (80, .iaload, 0, 0), (81, .aload_n 0, 0, 0), (82, .getfield 22, 9, 14), (85, .iload_n 3, 0, 0), (86, .iaload, 0, 0), (87, .if_icmp .ne 89, 176, 0), (90, .aload_n 0, 0, 0), (91, .getfield 25, 9, 16), (94, .iload 5, 0, 0), (96, .iaload, 0, 0), (97, .aload_n 0, 0, 0), (98, .getfield 25, 9, 16), (101, .iload_n 3, 0, 0), (102, .iaload, 0, 0), (103, .if_icmp .ne 73, 176, 0), (106, .aload_n 0, 0, 0), (107, .getfield 28, 9, 18), (110, .iload 5, 0, 0), (112, .iaload, 0, 0), (113, .aload_n 0, 0, 0), (114, .getfield 28, 9, 18), (117, .iload_n 3, 0, 0), (118, .iaload, 0, 0), (119, .if_icmp .ne 57, 176, 0), (122, .aload_n 0, 0, 0), (123, .getfield 31, 9, 20), (126, .iload 5, 0, 0), (128, .iaload, 0, 0), (129, .aload_n 0, 0, 0), (130, .getfield 31, 9, 20), (133, .iload_n 3, 0, 0), (134, .iaload, 0, 0), (135, .if_icmp .ne 41, 176, 0), (138, .aload_n 0, 0, 0), (139, .getfield 19, 9, 12), (142, .aload_n 0, 0, 0), (143, .invokevirtual 292, 110, 0), (146, .aload_n 0, 0, 0), (147, .getfield 37, 9, 24), (150, .iload 5, 0, 0), (152, .iaload, 0, 0), (153, .iadd, 0, 0), (154, .iaload, 0, 0), (155, .aload_n 0, 0, 0), (156, .getfield 19, 9, 12), (159, .bipush 60, 60, 0), (161, .iload_n 1, 0, 0), (162, .imul, 0, 0), (163, .aload_n 0, 0, 0), (164, .getfield 37, 9, 24), (167, .iload_n 3, 0, 0), (168, .iaload, 0, 0), (169, .iadd, 0, 0), (170, .iaload, 0, 0), (171, .if_icmp .ne 5, 176, 0), (174, .iconst 1, 1, 0), (175, .ireturn, 0, 0), (176, .iinc 4 1, 1, 0), (179, .goto (-169), 10, 0), (182, .iconst 0, 0, 0), (183, .ireturn, 0, 0)]
theorem k_134 : sm_tab 134 (fun pc => sm_lk pc l_134) := sm_tabOf (by decide +kernel)
end
section
/-- BuildingTextModel.moved(I)I -/
def l_135 : List (Nat × Instr × Nat × Nat) := [(0, .aload_n 0, 0, 0), (1, .iload_n 1, 0, 0), (2, .iconst 0, 0, 0), (3, .aload_n 0, 0, 0), (4, .getfield 351, 9, 90), (7, .iconst 1, 1, 0), (8, .isub, 0, 0), (9, .invokestatic 135, 83, 0), (12, .ifCond .eq 7, 19, 0), (15, .iconst 0, 0, 0), (16, .goto 4, 20, 0), (19, .iconst 1, 1, 0), (20, .putfield 131, 9, 0), (23, .aload_n 0, 0, 0), (24, .getfield 131, 9, 0), (27, .ifCond .le 7, 34, 0), (30, .iconst 0, 0, 0), (31, .goto 9, 40, 0), (34, .aload_n 0, 0, 0), (35, .getfield 110, 9, 88), (38, .iload_n 1, 0, 0), (39, .iaload, 0, 0), (40, .ireturn, 0, 0)]
theorem k_135 : sm_tab 135 (fun pc => sm_lk pc l_135) := sm_tabOf (by decide +kernel)
/-- BuildingTextModel.print()I -/
def l_136 : List (Nat × Instr × Nat × Nat) := [(0, .aload_n 0, 0, 0), (1, .iconst 0, 0, 0), (2, .putfield 131, 9, 0), (5, .iconst 0, 0, 0), (6, .istore_n 1, 0, 0), (7, .iconst 0, 0, 0), (8, .istore_n 2, 0, 0), (9, .iload_n 2, 0, 0), (10, .aload_n 0, 0, 0), (11, .invokevirtual 298, 109, 0), (14, .if_icmp .ge 44, 58, 0), (17, .aload_n 0, 0, 0), (18, .getfield 25, 9, 16), (21, .aload_n 0, 0, 0), (22, .invokevirtual 292, 110, 0), (25, .iload_n 2, 0, 0), (26, .iadd, 0, 0), (27, .iaload, 0, 0), (28, .aload_n 0, 0, 0), (29, .getfield 31, 9, 20), (32, .aload_n 0, 0, 0), (33, .invokevirtual 292, 110, 0), (36, .iload_n 2, 0, 0), (37, .iadd, 0, 0), (38, .iaload, 0, 0), (39, .iadd, 0, 0), (40, .istore_n 3, 0, 0), (41, .iload_n 3, 0, 0), (42, .iload_n 1, 0, 0), (43, .if_icmp .le 7, 50, 0), (46, .iload_n 3, 0, 0), (47, .goto 4, 51, 0), (50, .iload_n 1, 0, 0), (51, .istore_n 1, 0, 0), (52, .iinc 2 1, 1, 0), (55, .goto (-46), 9, 0), (58, .aload_n 0, 0, 0), (59, .iconst 0, 0, 0), (60, .putfield 369, 9, 94), (63, .iconst 0, 0, 0), (64, .istore_n 2, 0, 0), (65, .iload_n 2, 0, 0), (66, .iload_n 1, 0, 0), (67, .if_icmp .ge 69, 136, 0), (70, .iconst 0, 0, 0), (71, .istore_n 3, 0, 0), (72, .iload_n 3, 0, 0), (73, .bipush 40, 40, 0), (75, .if_icmp .ge 34, 109, 0), (78, .aload_n 0, 0, 0), (79, .getfield 113, 9, 92), (82, .aload_n 0, 0, 0), (83, .getfield 369, 9, 94), (86, .aload_n 0, 0, 0), (87, .iload_n 3, 0, 0), (88, .iload_n 2, 0, 0), (89, .invokevirtual 372, 137, 0), (92, .iastore, 0, 0), (93, .aload_n 0, 0, 0), (94, .dup, 0, 0), (95, .getfield 369, 9, 94), (98, .iconst 1, 1, 0), (99, .iadd, 0, 0), (100, .putfield 369, 9, 94), (103, .iinc 3 1, 1, 0), (106, .goto (-34), 72, 0), (109, .aload_n 0, 0, 0), (110, .getfield 113, 9, 92), (113, .aload_n 0, 0, 0), (114, .getfield 369, 9, 94), (117, .bipush 10, 10, 0), (119, .iastore, 0, 0), (120, .aload_n 0, 0, 0), (121, .dup, 0, 0), (122, .getfield 369, 9, 94), (125, .iconst 1, 1, 0), (126, .iadd, 0, 0), (127, .putfield 369, 9, 94), (130, .iinc 2 1, 1, 0), (133, .goto (-68), 65, 0), (136, .aload_n 0, 0, 0), (137, .getfield 369, 9, 94), (140, .ireturn, 0, 0)]
theorem k_136 : sm_tab 136 (fun pc => sm_lk pc l_136) := sm_tabOf (by decide +kernel)
/-- BuildingTextModel.signAt(II)I -/
def l_137 : List (Nat × Instr × Nat × Nat) := [(0, .bipush 7, 7, 0), (2, .istore_n 3, 0, 0), (3, .iconst 0, 0, 0), (4, .istore 4, 0, 0), (6, .iload 4, 0, 0), (8, .aload_n 0, 0, 0), (9, .invokevirtual 298, 109, 0), (12, .if_icmp .ge 70, 82, 0), (15, .aload_n 0, 0, 0), (16, .iload 4, 0, 0), (18, .invokevirtual 295, 112, 0), (21, .bipush 6, 6, 0), (23, .if_icmp .ne 14, 37, 0), (26, .aload_n 0, 0, 0), (27, .iload 4, 0, 0), (29, .iload_n 1, 0, 0), (30, .iload_n 2, 0, 0), (31, .invokevirtual 360, 138, 0), (34, .goto 11, 45, 0), (37, .aload_n 0, 0, 0), (38, .iload 4, 0, 0), (40, .iload_n 1, 0, 0), (41, .iload_n 2, 0, 0), (42, .invokevirtual 357, 139, 0), (45, .istore 5, 0, 0), (47, .aload_n 0, 0, 0), (48, .iload 4, 0, 0), (50, .invokevirtual 295, 112, 0), (53, .invokestatic 363, 140, 0), (56, .istore 6, 0, 0), (58, .iload 5, 0, 0), (60, .ifCond .eq 14, 74, 0), (63, .iload 6, 0, 0), (65, .iload_n 3, 0, 0), (66, .if_icmp .ge 8, 74, 0), (69, .iload 6, 0, 0), (71, .goto 4, 75, 0), (74, .iload_n 3, 0, 0), (75, .istore_n 3, 0, 0), (76, .iinc 4 1, 1, 0), (79, .goto (-73), 6, 0), (82, .iload_n 3, 0, 0), (83, .invokestatic 366, 141, 0), (86, .ireturn, 0, 0)]
theorem k_137 : sm_tab 137 (fun pc => sm_lk pc l_137) := sm_tabOf (by decide +kernel)
/-- BuildingTextModel.stopsAt(III)Z -/
def l_138 : List (Nat × Instr × Nat × Nat) := [(0, .iconst 0, 0, 0), (1, .istore 4, 0, 0), (3, .iload 4, 0, 0), (5, .aload_n 0, 0, 0), (6, .getfield 59, 9, 42), (9, .iload_n 1, 0, 0), (10, .iaload, 0, 0), (11, .if_icmp .ge 31, 42, 0), (14, .aload_n 0, 0, 0), (15, .aload_n 0, 0, 0), (16, .getfield 62, 9, 44), (19, .iconst 4, 4, 0), (20, .iload_n 1, 0, 0), (21, .imul, 0, 0), (22, .iload 4, 0, 0), (24, .iadd, 0, 0), (25, .iaload, 0, 0), (26, .iload_n 2, 0, 0), (27, .iload_n 3, 0, 0), (28, .invokevirtual 357, 139, 0), (31, .ifCond .eq 5, 36, 0), (34, .iconst 1, 1, 0), (35, .ireturn, 0, 0), (36, .iinc 4 1, 1, 0), (39, .goto (-36), 3, 0), (42, .iconst 0, 0, 0), (43, .ireturn, 0, 0)]
theorem k_138 : sm_tab 138 (fun pc => sm_lk pc l_138) := sm_tabOf (by decide +kernel)
/-- BuildingTextModel.covers(III)Z -/
def l_139 : List (Nat × Instr × Nat × Nat) := [(0, .aload_n 0, 0, 0), (1, .invokevirtual 292, 110, 0), (4, .iload_n 1, 0, 0), (5, .iadd, 0, 0), (6, .istore 4, 0, 0), (8, .iload_n 2, 0, 0), (9, .aload_n 0, 0, 0), (10, .getfield 22, 9, 14), (13, .iload 4, 0, 0), (15, .iaload, 0, 0), (16, .if_icmp .lt 56, 72, 0), (19, .iload_n 2, 0, 0), (20, .aload_n 0, 0, 0), (21, .getfield 22, 9, 14), (24, .iload 4, 0, 0), (26, .iaload, 0, 0), (27, .aload_n 0, 0, 0), (28, .getfield 28, 9, 18), (31, .iload 4, 0, 0), (33, .iaload, 0, 0), (34, .iadd, 0, 0), (35, .if_icmp .ge 37, 72, 0), (38, .iload_n 3, 0, 0), (39, .aload_n 0, 0, 0), (40, .getfield 25, 9, 16), (43, .iload 4, 0, 0), (45, .iaload, 0, 0), (46, .if_icmp .lt 26, 72, 0), (49, .iload_n 3, 0, 0), (50, .aload_n 0, 0, 0), (51, .getfield 25, 9, 16), (54, .iload 4, 0, 0), (56, .iaload, 0, 0), (57, .aload_n 0, 0, 0), (58, .getfield 31, 9, 20), (61, .iload 4, 0, 0), (63, .iaload, 0, 0), (64, .iadd, 0, 0), (65, .if_icmp .ge 7, 72, 0), (68, .iconst 1, 1, 0), (69, .goto 4, 73, 0), (72, .iconst 0, 0, 0), (73, .ireturn, 0, 0)]
theorem k_139 : sm_tab 139 (fun pc => sm_lk pc l_139) := sm_tabOf (by decide +kernel)
/-- BuildingTextModel.rankOf(I)I -/
def l_140 : List (Nat × Instr × Nat × Nat) := [(0, .iload_n 0, 0, 0), (1, .iconst 3, 3, 0), (2, .if_icmp .ne 7, 9, 0), (5, .iconst 0, 0, 0), (6, .goto 51, 57, 0), (9, .iload_n 0, 0, 0), (10, .iconst 4, 4, 0), (11, .if_icmp .ne 7, 18, 0), (14, .iconst 1, 1, 0), (15, .goto 42, 57, 0), (18, .iload_n 0, 0, 0), (19, .iconst 5, 5, 0), (20, .if_icmp .ne 7, 27, 0), (23, .iconst 2, 2, 0), (24, .goto 33, 57, 0), (27, .iload_n 0, 0, 0), (28, .bipush 6, 6, 0), (30, .if_icmp .ne 7, 37, 0), (33, .iconst 3, 3, 0), (34, .goto 23, 57, 0), (37, .iload_n 0, 0, 0), (38, .iconst 2, 2, 0), (39, .if_icmp .ne 7, 46, 0), (42, .iconst 4, 4, 0), (43, .goto 14, 57, 0), (46, .iload_n 0, 0, 0), (47, .iconst 1, 1, 0), (48, .if_icmp .ne 7, 55, 0), (51, .iconst 5, 5, 0), (52, .goto 5, 57, 0), (55, .bipush 6, 6, 0), (57, .ireturn, 0, 0)]
theorem k_140 : sm_tab 140 (fun pc => sm_lk pc l_140) := sm_tabOf (by decide +kernel)
/-- BuildingTextModel.signOf(I)I -/
def l_141 : List (Nat × Instr × Nat × Nat) := [(0, .iload_n 0, 0, 0), (1, .ifCond .ne 8, 9, 0), (4, .bipush 68, 68, 0), (6, .goto 66, 72, 0), (9, .iload_n 0, 0, 0), (10, .iconst 1, 1, 0), (11, .if_icmp .ne 8, 19, 0), (14, .bipush 83, 83, 0), (16, .goto 56, 72, 0), (19, .iload_n 0, 0, 0), (20, .iconst 2, 2, 0), (21, .if_icmp .ne 8, 29, 0), (24, .bipush 67, 67, 0), (26, .goto 46, 72, 0), (29, .iload_n 0, 0, 0), (30, .iconst 3, 3, 0), (31, .if_icmp .ne 8, 39, 0), (34, .bipush 69, 69, 0), (36, .goto 36, 72, 0), (39, .iload_n 0, 0, 0), (40, .iconst 4, 4, 0), (41, .if_icmp .ne 8, 49, 0), (44, .bipush 43, 43, 0), (46, .goto 26, 72, 0), (49, .iload_n 0, 0, 0), (50, .iconst 5, 5, 0), (51, .if_icmp .ne 8, 59, 0), (54, .bipush 98, 98, 0), (56, .goto 16, 72, 0), (59, .iload_n 0, 0, 0), (60, .bipush 6, 6, 0), (62, .if_icmp .ne 8, 70, 0), (65, .bipush 35, 35, 0), (67, .goto 5, 72, 0), (70, .bipush 46, 46, 0), (72, .ireturn, 0, 0)]
theorem k_141 : sm_tab 141 (fun pc => sm_lk pc l_141) := sm_tabOf (by decide +kernel)
/-- BuildingTextModel.at(I)I -/
def l_142 : List (Nat × Instr × Nat × Nat) := [(0, .aload_n 0, 0, 0), (1, .iload_n 1, 0, 0), (2, .iconst 0, 0, 0), (3, .aload_n 0, 0, 0), (4, .getfield 369, 9, 94), (7, .iconst 1, 1, 0), (8, .isub, 0, 0), (9, .invokestatic 135, 83, 0), (12, .ifCond .eq 7, 19, 0), (15, .iconst 0, 0, 0), (16, .goto 4, 20, 0), (19, .iconst 1, 1, 0), (20, .putfield 131, 9, 0), (23, .aload_n 0, 0, 0), (24, .getfield 131, 9, 0), (27, .ifCond .le 7, 34, 0), (30, .iconst 0, 0, 0), (31, .goto 9, 40, 0), (34, .aload_n 0, 0, 0), (35, .getfield 113, 9, 92), (38, .iload_n 1, 0, 0), (39, .iaload, 0, 0), (40, .ireturn, 0, 0)]
theorem k_142 : sm_tab 142 (fun pc => sm_lk pc l_142) := sm_tabOf (by decide +kernel)
/-- BuildingTextModel.count(I)I -/
def l_143 : List (Nat × Instr × Nat × Nat) := [(0, .aload_n 0, 0, 0), (1, .iconst 0, 0, 0), (2, .putfield 131, 9, 0), (5, .iload_n 1, 0, 0), (6, .ifCond .ne 15, 21, 0), (9, .aload_n 0, 0, 0), (10, .getfield 13, 9, 8), (13, .aload_n 0, 0, 0), (14, .getfield 279, 9, 6), (17, .iaload, 0, 0), (18, .goto 52, 70, 0), (21, .iload_n 1, 0, 0), (22, .iconst 1, 1, 0), (23, .if_icmp .ne 10, 33, 0), (26, .aload_n 0, 0, 0), (27, .getfield 286, 9, 28), (30, .goto 40, 70, 0), (33, .iload_n 1, 0, 0), (34, .iconst 2, 2, 0), (35, .if_icmp .ne 10, 45, 0), (38, .aload_n 0, 0, 0), (39, .getfield 289, 9, 36), (42, .goto 28, 70, 0), (45, .iload_n 1, 0, 0), (46, .iconst 3, 3, 0), (47, .if_icmp .ne 10, 57, 0), (50, .aload_n 0, 0, 0), (51, .getfield 279, 9, 6), (54, .goto 16, 70, 0), (57, .iload_n 1, 0, 0), (58, .iconst 4, 4, 0), (59, .if_icmp .ne 10, 69, 0), (62, .aload_n 0, 0, 0), (63, .getfield 139, 9, 4), (66, .goto 4, 70, 0), (69, .iconst (-1), 1, 1), (70, .ireturn, 0, 0)]
theorem k_143 : sm_tab 143 (fun pc => sm_lk pc l_143) := sm_tabOf (by decide +kernel)
/-- java/util/ArrayList.<init>()V -/
def l_144 : List (Nat × Instr × Nat × Nat) := [(0, .aload_n 0, 0, 0), (1, .invokespecial 1, 153, 0), (4, .aload_n 0, 0, 0), (5, .getstatic 39, 0, 0), (8, .putfield 9, 10, 0), (11, .return_, 0, 0)]
theorem k_144 : sm_tab 144 (fun pc => sm_lk pc l_144) := sm_tabOf (by decide +kernel)
/-- java/util/ArrayList.add(Ljava/lang/Object;)Z -/
def l_145 : List (Nat × Instr × Nat × Nat) := [(0, .aload_n 0, 0, 0), (1, .dup, 0, 0), (2, .getfield 63, 10, 4), (5, .iconst 1, 1, 0), (6, .iadd, 0, 0), (7, .putfield 63, 10, 4), (10, .aload_n 0, 0, 0), (11, .aload_n 1, 0, 0), (12, .aload_n 0, 0, 0), (13, .getfield 9, 10, 0), (16, .aload_n 0, 0, 0), (17, .getfield 48, 10, 2), (20, .invokevirtual 131, 146, 0), (23, .iconst 1, 1, 0), (24, .ireturn, 0, 0)]
theorem k_145 : sm_tab 145 (fun pc => sm_lk pc l_145) := sm_tabOf (by decide +kernel)
/-- java/util/ArrayList.add(Ljava/lang/Object;[Ljava/lang/Object;I)V -/
def l_146 : List (Nat × Instr × Nat × Nat) := [(0, .iload_n 3, 0, 0), (1, .aload_n 2, 0, 0), (2, .arraylength, 0, 0), (3, .if_icmp .ne 8, 11, 0), (6, .aload_n 0, 0, 0), (7, .invokevirtual 129, 147, 0), (10, .astore_n 2, 0, 0), (11, .aload_n 2, 0, 0), (12, .iload_n 3, 0, 0), (13, .aload_n 1, 0, 0), (14, .aastore, 0, 0), (15, .aload_n 0, 0, 0), (16, .iload_n 3, 0, 0), (17, .iconst 1, 1, 0), (18, .iadd, 0, 0), (19, .putfield 48, 10, 2), (22, .return_, 0, 0)]
theorem k_146 : sm_tab 146 (fun pc => sm_lk pc l_146) := sm_tabOf (by decide +kernel)
/-- java/util/ArrayList.grow()[Ljava/lang/Object; -/
def l_147 : List (Nat × Instr × Nat × Nat) := [(0, .aload_n 0, 0, 0), (1, .aload_n 0, 0, 0), (2, .getfield 48, 10, 2), (5, .iconst 1, 1, 0), (6, .iadd, 0, 0), (7, .invokevirtual 69, 148, 0), (10, .areturn, 0, 0)]
theorem k_147 : sm_tab 147 (fun pc => sm_lk pc l_147) := sm_tabOf (by decide +kernel)
/-- java/util/ArrayList.grow(I)[Ljava/lang/Object; -/
def l_148 : List (Nat × Instr × Nat × Nat) := [(0, .aload_n 0, 0, 0), (1, .getfield 9, 10, 0), (4, .arraylength, 0, 0), (5, .istore_n 2, 0, 0), (6, .iload_n 2, 0, 0), (7, .ifCond .gt 13, 20, 0), (10, .aload_n 0, 0, 0), (11, .getfield 9, 10, 0), (14, .getstatic 39, 0, 0), (17, .if_acmp .eq 28, 45, 0), (20, .iload_n 2, 0, 0), (21, .iload_n 1, 0, 0), (22, .iload_n 2, 0, 0), (23, .isub, 0, 0), (24, .iload_n 2, 0, 0), (25, .iconst 1, 1, 0), (26, .ishr, 0, 0), (27, .invokestatic 73, 155, 0), (30, .istore_n 3, 0, 0), (31, .aload_n 0, 0, 0), (32, .aload_n 0, 0, 0), (33, .getfield 9, 10, 0), (36, .iload_n 3, 0, 0), (37, .invokestatic 66, 0, 6), (40, .dup_x1, 0, 0), (41, .putfield 9, 10, 0), (44, .areturn, 0, 0), (45, .aload_n 0, 0, 0), (46, .bipush 10, 10, 0), (48, .iload_n 1, 0, 0), (49, .invokestatic 79, 0, 4), (52, .anewarray 7, 0, 0), (55, .dup_x1, 0, 0), (56, .putfield 9, 10, 0), (59, .areturn, 0, 0)]
theorem k_148 : sm_tab 148 (fun pc => sm_lk pc l_148) := sm_tabOf (by decide +kernel)
/-- java/util/ArrayList.size()I -/
def l_149 : List (Nat × Instr × Nat × Nat) := [(0, .aload_n 0, 0, 0), (1, .getfield 48, 10, 2), (4, .ireturn, 0, 0)]
theorem k_149 : sm_tab 149 (fun pc => sm_lk pc l_149) := sm_tabOf (by decide +kernel)
/-- java/util/ArrayList.get(I)Ljava/lang/Object; -/
def l_150 : List (Nat × Instr × Nat × Nat) := [(0, .iload_n 1, 0, 0), (1, .aload_n 0, 0, 0), (2, .getfield 48, 10, 2), (5, .invokestatic 118, 156, 0), (8, .pop, 0, 0), (9, .aload_n 0, 0, 0), (10, .iload_n 1, 0, 0), (11, .invokevirtual 123, 151, 0), (14, .areturn, 0, 0)]
theorem k_150 : sm_tab 150 (fun pc => sm_lk pc l_150) := sm_tabOf (by decide +kernel)
/-- java/util/ArrayList.elementData(I)Ljava/lang/Object; -/
def l_151 : List (Nat × Instr × Nat × Nat) := [(0, .aload_n 0, 0, 0), (1, .getfield 9, 10, 0), (4, .iload_n 1, 0, 0), (5, .aaload, 0, 0), (6, .areturn, 0, 0)]
theorem k_151 : sm_tab 151 (fun pc => sm_lk pc l_151) := sm_tabOf (by decide +kernel)
/-- java/util/ArrayList.clear()V -/
def l_152 : List (Nat × Instr × Nat × Nat) := [(0, .aload_n 0, 0, 0), (1, .dup, 0, 0), (2, .getfield 63, 10, 4), (5, .iconst 1, 1, 0), (6, .iadd, 0, 0), (7, .putfield 63, 10, 4), (10, .aload_n 0, 0, 0), (11, .getfield 9, 10, 0), (14, .astore_n 1, 0, 0), (15, .aload_n 0, 0, 0), (16, .getfield 48, 10, 2), (19, .istore_n 2, 0, 0), (20, .aload_n 0, 0, 0), (21, .iconst 0, 0, 0), (22, .dup_x1, 0, 0), (23, .putfield 48, 10, 2), (26, .istore_n 3, 0, 0), (27, .iload_n 3, 0, 0), (28, .iload_n 2, 0, 0), (29, .if_icmp .ge 13, 42, 0), (32, .aload_n 1, 0, 0), (33, .iload_n 3, 0, 0), (34, .aconst_null, 0, 0), (35, .aastore, 0, 0), (36, .iinc 3 1, 1, 0), (39, .goto (-12), 27, 0), (42, .return_, 0, 0)]
theorem k_152 : sm_tab 152 (fun pc => sm_lk pc l_152) := sm_tabOf (by decide +kernel)
/-- java/util/AbstractList.<init>()V -/
def l_153 : List (Nat × Instr × Nat × Nat) := [(0, .aload_n 0, 0, 0), (1, .invokespecial 1, 154, 0), (4, .aload_n 0, 0, 0), (5, .iconst 0, 0, 0), (6, .putfield 7, 10, 4), (9, .return_, 0, 0)]
theorem k_153 : sm_tab 153 (fun pc => sm_lk pc l_153) := sm_tabOf (by decide +kernel)
/-- java/util/AbstractCollection.<init>()V -/
def l_154 : List (Nat × Instr × Nat × Nat) := [(0, .aload_n 0, 0, 0), (1, .invokespecial 1, 0, 2), (4, .return_, 0, 0)]
theorem k_154 : sm_tab 154 (fun pc => sm_lk pc l_154) := sm_tabOf (by decide +kernel)
/-- jdk/internal/util/ArraysSupport.newLength(III)I -/
def l_155 : List (Nat × Instr × Nat × Nat) := [(0, .iload_n 0, 0, 0), (1, .iload_n 1, 0, 0), (2, .iload_n 2, 0, 0), (3, .invokestatic 194, 0, 4), (6, .iadd, 0, 0), (7, .istore_n 3, 0, 0), (8, .iconst 0, 0, 0), (9, .iload_n 3, 0, 0), (10, .if_icmp .ge 11, 21, 0), (13, .iload_n 3, 0, 0), (14, .ldc 200, 2147483639, 0), (16, .if_icmp .gt 5, 21, 0), (19, .iload_n 3, 0, 0), (20, .ireturn, 0, 0), (21, .iload_n 0, 0, 0), (22, .iload_n 1, 0, 0), (26, .ireturn, 0, 0)]
theorem k_155 : sm_tab 155 (fun pc => sm_lk pc l_155) := sm_tabOf (by decide +kernel)
/-- java/util/Objects.checkIndex(II)I -/
def l_156 : List (Nat × Instr × Nat × Nat) := [(0, .iload_n 0, 0, 0), (1, .iload_n 1, 0, 0), (2, .aconst_null, 0, 0), (3, .invokestatic 105, 157, 0), (6, .ireturn, 0, 0)]
theorem k_156 : sm_tab 156 (fun pc => sm_lk pc l_156) := sm_tabOf (by decide +kernel)
/-- jdk/internal/util/Preconditions.checkIndex(IILjava/util/function/BiFunction;)I -/
def l_157 : List (Nat × Instr × Nat × Nat) := [(0, .iload_n 0, 0, 0), (1, .ifCond .lt 8, 9, 0), (4, .iload_n 0, 0, 0), (5, .iload_n 1, 0, 0), (6, .if_icmp .lt 10, 16, 0), (9, .aload_n 2, 0, 0), (10, .iload_n 0, 0, 0), (11, .iload_n 1, 0, 0), (15, .athrow, 0, 0), (16, .iload_n 0, 0, 0), (17, .ireturn, 0, 0)]
theorem k_157 : sm_tab 157 (fun pc => sm_lk pc l_157) := sm_tabOf (by decide +kernel)
/-- java/lang/Long.bitCount(J)I -/
def l_158 : List (Nat × Instr × Nat × Nat) := [(0, .lload_n 0, 0, 0), (1, .lload_n 0, 0, 0), (2, .iconst 1, 1, 0), (3, .lushr, 0, 0), (4, .ldc2_w 314, 6148914691236517205, 0), (7, .land, 0, 0), (8, .lsub, 0, 0), (9, .lstore_n 0, 0, 0), (10, .lload_n 0, 0, 0), (11, .ldc2_w 316, 3689348814741910323, 0), (14, .land, 0, 0), (15, .lload_n 0, 0, 0), (16, .iconst 2, 2, 0), (17, .lushr, 0, 0), (18, .ldc2_w 316, 3689348814741910323, 0), (21, .land, 0, 0), (22, .ladd, 0, 0), (23, .lstore_n 0, 0, 0), (24, .lload_n 0, 0, 0), (25, .lload_n 0, 0, 0), (26, .iconst 4, 4, 0), (27, .lushr, 0, 0), (28, .ladd, 0, 0), (29, .ldc2_w 318, 1085102592571150095, 0), (32, .land, 0, 0), (33, .lstore_n 0, 0, 0), (34, .lload_n 0, 0, 0), (35, .lload_n 0, 0, 0), (36, .bipush 8, 8, 0), (38, .lushr, 0, 0), (39, .ladd, 0, 0), (40, .lstore_n 0, 0, 0), (41, .lload_n 0, 0, 0), (42, .lload_n 0, 0, 0), (43, .bipush 16, 16, 0), (45, .lushr, 0, 0), (46, .ladd, 0, 0), (47, .lstore_n 0, 0, 0), (48, .lload_n 0, 0, 0), (49, .lload_n 0, 0, 0), (50, .bipush 32, 32, 0), (52, .lushr, 0, 0), (53, .ladd, 0, 0), (54, .lstore_n 0, 0, 0), (55, .lload_n 0, 0, 0), (56, .l2i, 0, 0), (57, .bipush 127, 127, 0), (59, .iand, 0, 0), (60, .ireturn, 0, 0)]
theorem k_158 : sm_tab 158 (fun pc => sm_lk pc l_158) := sm_tabOf (by decide +kernel)
/-- BuildingTextLaw.sign(LBuildingText;I)I -/
def l_159 : List (Nat × Instr × Nat × Nat) := [(0, .aload_n 0, 0, 0), (1, .iload_n 1, 0, 0), (2, .invokevirtual 7, 5, 0), (5, .goto 9, 14, 0), (8, .astore_n 2, 0, 0), (9, .iconst 1, 1, 0), (10, .ireturn, 0, 0), (11, .astore_n 2, 0, 0), (12, .iconst 2, 2, 0), (13, .ireturn, 0, 0), (14, .iconst 0, 0, 0), (15, .ireturn, 0, 0)]
theorem k_159 : sm_tab 159 (fun pc => sm_lk pc l_159) := sm_tabOf (by decide +kernel)
/-- BuildingTextLaw.read(LBuildingText;[J)I -/
def l_160 : List (Nat × Instr × Nat × Nat) := [(0, .aload_n 1, 0, 0), (1, .iconst 0, 0, 0), (2, .aload_n 0, 0, 0), (3, .invokevirtual 17, 6, 0), (6, .i2l, 0, 0), (7, .lastore, 0, 0), (8, .goto 6, 14, 0), (11, .astore_n 2, 0, 0), (12, .iconst 1, 1, 0), (13, .ireturn, 0, 0), (14, .iconst 0, 0, 0), (15, .ireturn, 0, 0)]
theorem k_160 : sm_tab 160 (fun pc => sm_lk pc l_160) := sm_tabOf (by decide +kernel)
/-- BuildingTextLaw.place(LBuildingText;II[J)I -/
def l_161 : List (Nat × Instr × Nat × Nat) := [(0, .aload_n 3, 0, 0), (1, .iconst 0, 0, 0), (2, .aload_n 0, 0, 0), (3, .iload_n 1, 0, 0), (4, .iload_n 2, 0, 0), (5, .invokevirtual 21, 8, 0), (8, .i2l, 0, 0), (9, .lastore, 0, 0), (10, .goto 7, 17, 0), (13, .astore 4, 0, 0), (15, .iconst 1, 1, 0), (16, .ireturn, 0, 0), (17, .iconst 0, 0, 0), (18, .ireturn, 0, 0)]
theorem k_161 : sm_tab 161 (fun pc => sm_lk pc l_161) := sm_tabOf (by decide +kernel)
end
section
/-- BuildingTextLaw.fault(LBuildingText;II[J)I -/
def l_162 : List (Nat × Instr × Nat × Nat) := [(0, .aload_n 3, 0, 0), (1, .iconst 0, 0, 0), (2, .aload_n 0, 0, 0), (3, .iload_n 1, 0, 0), (4, .iload_n 2, 0, 0), (5, .invokevirtual 25, 9, 0), (8, .i2l, 0, 0), (9, .lastore, 0, 0), (10, .goto 11, 21, 0), (13, .astore 4, 0, 0), (15, .iconst 1, 1, 0), (16, .ireturn, 0, 0), (17, .astore 4, 0, 0), (19, .iconst 2, 2, 0), (20, .ireturn, 0, 0), (21, .iconst 0, 0, 0), (22, .ireturn, 0, 0)]
theorem k_162 : sm_tab 162 (fun pc => sm_lk pc l_162) := sm_tabOf (by decide +kernel)
/-- BuildingTextLaw.piece(LBuildingText;II[J)I -/
def l_163 : List (Nat × Instr × Nat × Nat) := [(0, .aload_n 3, 0, 0), (1, .iconst 0, 0, 0), (2, .aload_n 0, 0, 0), (3, .iload_n 1, 0, 0), (4, .iload_n 2, 0, 0), (5, .invokevirtual 30, 10, 0), (8, .i2l, 0, 0), (9, .lastore, 0, 0), (10, .goto 11, 21, 0), (13, .astore 4, 0, 0), (15, .iconst 1, 1, 0), (16, .ireturn, 0, 0), (17, .astore 4, 0, 0), (19, .iconst 2, 2, 0), (20, .ireturn, 0, 0), (21, .iconst 0, 0, 0), (22, .ireturn, 0, 0)]
theorem k_163 : sm_tab 163 (fun pc => sm_lk pc l_163) := sm_tabOf (by decide +kernel)
/-- BuildingTextLaw.inside(LBuildingText;II[J)I -/
def l_164 : List (Nat × Instr × Nat × Nat) := [(0, .aload_n 3, 0, 0), (1, .iconst 0, 0, 0), (2, .aload_n 0, 0, 0), (3, .iload_n 1, 0, 0), (4, .iload_n 2, 0, 0), (5, .invokevirtual 33, 11, 0), (8, .ifCond .eq 7, 15, 0), (11, .lconst 1, 0, 0), (12, .goto 4, 16, 0), (15, .lconst 0, 0, 0), (16, .lastore, 0, 0), (17, .goto 7, 24, 0), (20, .astore 4, 0, 0), (22, .iconst 1, 1, 0), (23, .ireturn, 0, 0), (24, .iconst 0, 0, 0), (25, .ireturn, 0, 0)]
theorem k_164 : sm_tab 164 (fun pc => sm_lk pc l_164) := sm_tabOf (by decide +kernel)
/-- BuildingTextLaw.fill(LBuildingText;III)I -/
def l_165 : List (Nat × Instr × Nat × Nat) := [(0, .aload_n 0, 0, 0), (1, .iload_n 1, 0, 0), (2, .iload_n 2, 0, 0), (3, .iload_n 3, 0, 0), (4, .invokevirtual 37, 12, 0), (7, .goto 7, 14, 0), (10, .astore 4, 0, 0), (12, .iconst 1, 1, 0), (13, .ireturn, 0, 0), (14, .iconst 0, 0, 0), (15, .ireturn, 0, 0)]
theorem k_165 : sm_tab 165 (fun pc => sm_lk pc l_165) := sm_tabOf (by decide +kernel)
/-- BuildingTextLaw.differ(LBuildingText;I[J)I -/
def l_166 : List (Nat × Instr × Nat × Nat) := [(0, .aload_n 2, 0, 0), (1, .iconst 0, 0, 0), (2, .aload_n 0, 0, 0), (3, .iload_n 1, 0, 0), (4, .invokevirtual 41, 14, 0), (7, .i2l, 0, 0), (8, .lastore, 0, 0), (9, .goto 6, 15, 0), (12, .astore_n 3, 0, 0), (13, .iconst 1, 1, 0), (14, .ireturn, 0, 0), (15, .iconst 0, 0, 0), (16, .ireturn, 0, 0)]
theorem k_166 : sm_tab 166 (fun pc => sm_lk pc l_166) := sm_tabOf (by decide +kernel)
/-- BuildingTextLaw.moved(LBuildingText;I[J)I -/
def l_167 : List (Nat × Instr × Nat × Nat) := [(0, .aload_n 2, 0, 0), (1, .iconst 0, 0, 0), (2, .aload_n 0, 0, 0), (3, .iload_n 1, 0, 0), (4, .invokevirtual 45, 15, 0), (7, .i2l, 0, 0), (8, .lastore, 0, 0), (9, .goto 6, 15, 0), (12, .astore_n 3, 0, 0), (13, .iconst 1, 1, 0), (14, .ireturn, 0, 0), (15, .iconst 0, 0, 0), (16, .ireturn, 0, 0)]
theorem k_167 : sm_tab 167 (fun pc => sm_lk pc l_167) := sm_tabOf (by decide +kernel)
/-- BuildingTextLaw.at(LBuildingText;I[J)I -/
def l_168 : List (Nat × Instr × Nat × Nat) := [(0, .aload_n 2, 0, 0), (1, .iconst 0, 0, 0), (2, .aload_n 0, 0, 0), (3, .iload_n 1, 0, 0), (4, .invokevirtual 48, 16, 0), (7, .i2l, 0, 0), (8, .lastore, 0, 0), (9, .goto 6, 15, 0), (12, .astore_n 3, 0, 0), (13, .iconst 1, 1, 0), (14, .ireturn, 0, 0), (15, .iconst 0, 0, 0), (16, .ireturn, 0, 0)]
theorem k_168 : sm_tab 168 (fun pc => sm_lk pc l_168) := sm_tabOf (by decide +kernel)
/-- BuildingTextLaw.law([I)Z -/
def l_169 : List (Nat × Instr × Nat × Nat) := [(0, .new 8, 0, 0), (3, .dup, 0, 0), (4, .invokespecial 51, 0, 0), (7, .astore_n 1, 0, 0), (8, .new 52, 9, 0), (11, .dup, 0, 0), (12, .invokespecial 54, 80, 0), (15, .astore_n 2, 0, 0), (16, .iconst 1, 1, 0), (17, .newarray .long, 0, 0), (19, .astore_n 3, 0, 0), (20, .iconst 0, 0, 0), (21, .istore 4, 0, 0), (23, .iload 4, 0, 0), (25, .aload_n 0, 0, 0), (26, .arraylength, 0, 0), (27, .iconst 4, 4, 0), (28, .isub, 0, 0), (29, .if_icmp .gt 748, 777, 0), (32, .aload_n 0, 0, 0), (33, .iload 4, 0, 0), (35, .iaload, 0, 0), (36, .bipush 15, 15, 0), (38, .iand, 0, 0), (39, .tableswitch 732 0 13 #[69, 105, 149, 217, 242, 255, 323, 391, 466, 526, 582, 638, 651, 707], 0, 0), (108, .aload_n 1, 0, 0), (109, .aload_n 0, 0, 0), (110, .iload 4, 0, 0), (112, .iconst 1, 1, 0), (113, .iadd, 0, 0), (114, .iaload, 0, 0), (115, .invokestatic 55, 159, 3), (118, .istore 5, 0, 0), (120, .aload_n 2, 0, 0), (121, .aload_n 0, 0, 0), (122, .iload 4, 0, 0), (124, .iconst 1, 1, 0), (125, .iadd, 0, 0), (126, .iaload, 0, 0), (127, .invokevirtual 60, 82, 0), (130, .aload_n 2, 0, 0), (131, .invokevirtual 61, 81, 0), (134, .iload 5, 0, 0), (136, .if_icmp .eq 5, 141, 0), (139, .iconst 0, 0, 0), (140, .ireturn, 0, 0), (141, .goto 630, 771, 0), (144, .aload_n 1, 0, 0), (145, .aload_n 3, 0, 0), (146, .invokestatic 64, 160, 3), (149, .istore 5, 0, 0), (151, .aload_n 2, 0, 0), (152, .invokevirtual 67, 84, 0), (155, .istore 6, 0, 0), (157, .aload_n 2, 0, 0), (158, .invokevirtual 61, 81, 0), (161, .iload 5, 0, 0), (163, .if_icmp .eq 5, 168, 0), (166, .iconst 0, 0, 0), (167, .ireturn, 0, 0), (168, .iload 5, 0, 0), (170, .ifCond .ne 15, 185, 0), (173, .aload_n 3, 0, 0), (174, .iconst 0, 0, 0), (175, .laload, 0, 0), (176, .iload 6, 0, 0), (178, .i2l, 0, 0), (179, .lcmp, 0, 0), (180, .ifCond .eq 5, 185, 0), (183, .iconst 0, 0, 0), (184, .ireturn, 0, 0), (185, .goto 586, 771, 0), (188, .aload_n 1, 0, 0), (189, .aload_n 0, 0, 0), (190, .iload 4, 0, 0), (192, .iconst 1, 1, 0), (193, .iadd, 0, 0), (194, .iaload, 0, 0), (195, .aload_n 0, 0, 0), (196, .iload 4, 0, 0), (198, .iconst 2, 2, 0), (199, .iadd, 0, 0), (200, .iaload, 0, 0), (201, .aload_n 3, 0, 0), (202, .invokestatic 68, 161, 3), (205, .istore 5, 0, 0), (207, .aload_n 2, 0, 0), (208, .aload_n 0, 0, 0), (209, .iload 4, 0, 0), (211, .iconst 1, 1, 0), (212, .iadd, 0, 0), (213, .iaload, 0, 0), (214, .aload_n 0, 0, 0), (215, .iload 4, 0, 0), (217, .iconst 2, 2, 0), (218, .iadd, 0, 0), (219, .iaload, 0, 0), (220, .invokevirtual 71, 108, 0), (223, .istore 6, 0, 0), (225, .aload_n 2, 0, 0), (226, .invokevirtual 61, 81, 0), (229, .iload 5, 0, 0), (231, .if_icmp .eq 5, 236, 0), (234, .iconst 0, 0, 0), (235, .ireturn, 0, 0), (236, .iload 5, 0, 0), (238, .ifCond .ne 15, 253, 0), (241, .aload_n 3, 0, 0), (242, .iconst 0, 0, 0), (243, .laload, 0, 0), (244, .iload 6, 0, 0), (246, .i2l, 0, 0), (247, .lcmp, 0, 0), (248, .ifCond .eq 5, 253, 0), (251, .iconst 0, 0, 0), (252, .ireturn, 0, 0), (253, .goto 518, 771, 0), (256, .aload_n 1, 0, 0), (257, .aload_n 0, 0, 0), (258, .iload 4, 0, 0), (260, .iconst 1, 1, 0), (261, .iadd, 0, 0), (262, .iaload, 0, 0), (263, .invokevirtual 72, 1, 0), (266, .aload_n 2, 0, 0), (267, .aload_n 0, 0, 0), (268, .iload 4, 0, 0), (270, .iconst 1, 1, 0), (271, .iadd, 0, 0), (272, .iaload, 0, 0), (273, .invokevirtual 75, 113, 0), (276, .if_icmp .eq 495, 771, 0), (279, .iconst 0, 0, 0), (280, .ireturn, 0, 0), (281, .aload_n 1, 0, 0), (282, .invokevirtual 76, 2, 0), (285, .aload_n 2, 0, 0), (286, .invokevirtual 79, 114, 0), (289, .if_icmp .eq 482, 771, 0), (292, .iconst 0, 0, 0), (293, .ireturn, 0, 0), (294, .aload_n 1, 0, 0), (295, .aload_n 0, 0, 0), (296, .iload 4, 0, 0), (298, .iconst 1, 1, 0), (299, .iadd, 0, 0), (300, .iaload, 0, 0), (301, .aload_n 0, 0, 0), (302, .iload 4, 0, 0), (304, .iconst 2, 2, 0), (305, .iadd, 0, 0), (306, .iaload, 0, 0), (307, .aload_n 3, 0, 0), (308, .invokestatic 80, 162, 3), (311, .istore 5, 0, 0), (313, .aload_n 2, 0, 0), (314, .aload_n 0, 0, 0), (315, .iload 4, 0, 0), (317, .iconst 1, 1, 0), (318, .iadd, 0, 0), (319, .iaload, 0, 0), (320, .aload_n 0, 0, 0), (321, .iload 4, 0, 0), (323, .iconst 2, 2, 0), (324, .iadd, 0, 0), (325, .iaload, 0, 0), (326, .invokevirtual 82, 127, 0), (329, .istore 6, 0, 0), (331, .aload_n 2, 0, 0), (332, .invokevirtual 61, 81, 0), (335, .iload 5, 0, 0), (337, .if_icmp .eq 5, 342, 0), (340, .iconst 0, 0, 0), (341, .ireturn, 0, 0), (342, .iload 5, 0, 0), (344, .ifCond .ne 15, 359, 0), (347, .aload_n 3, 0, 0), (348, .iconst 0, 0, 0), (349, .laload, 0, 0), (350, .iload 6, 0, 0), (352, .i2l, 0, 0), (353, .lcmp, 0, 0), (354, .ifCond .eq 5, 359, 0), (357, .iconst 0, 0, 0), (358, .ireturn, 0, 0), (359, .goto 412, 771, 0), (362, .aload_n 1, 0, 0), (363, .aload_n 0, 0, 0), (364, .iload 4, 0, 0), (366, .iconst 1, 1, 0), (367, .iadd, 0, 0), (368, .iaload, 0, 0), (369, .aload_n 0, 0, 0), (370, .iload 4, 0, 0), (372, .iconst 2, 2, 0), (373, .iadd, 0, 0), (374, .iaload, 0, 0), (375, .aload_n 3, 0, 0), (376, .invokestatic 83, 163, 3), (379, .istore 5, 0, 0), (381, .aload_n 2, 0, 0), (382, .aload_n 0, 0, 0), (383, .iload 4, 0, 0), (385, .iconst 1, 1, 0), (386, .iadd, 0, 0), (387, .iaload, 0, 0), (388, .aload_n 0, 0, 0), (389, .iload 4, 0, 0), (391, .iconst 2, 2, 0), (392, .iadd, 0, 0), (393, .iaload, 0, 0), (394, .invokevirtual 85, 128, 0), (397, .istore 6, 0, 0), (399, .aload_n 2, 0, 0), (400, .invokevirtual 61, 81, 0), (403, .iload 5, 0, 0), (405, .if_icmp .eq 5, 410, 0), (408, .iconst 0, 0, 0), (409, .ireturn, 0, 0), (410, .iload 5, 0, 0), (412, .ifCond .ne 15, 427, 0), (415, .aload_n 3, 0, 0), (416, .iconst 0, 0, 0), (417, .laload, 0, 0), (418, .iload 6, 0, 0), (420, .i2l, 0, 0), (421, .lcmp, 0, 0), (422, .ifCond .eq 5, 427, 0), (425, .iconst 0, 0, 0), (426, .ireturn, 0, 0), (427, .goto 344, 771, 0), (430, .aload_n 1, 0, 0), (431, .aload_n 0, 0, 0), (432, .iload 4, 0, 0), (434, .iconst 1, 1, 0), (435, .iadd, 0, 0), (436, .iaload, 0, 0), (437, .aload_n 0, 0, 0), (438, .iload 4, 0, 0), (440, .iconst 2, 2, 0), (441, .iadd, 0, 0), (442, .iaload, 0, 0), (443, .aload_n 3, 0, 0), (444, .invokestatic 86, 164, 3), (447, .istore 5, 0, 0), (449, .aload_n 2, 0, 0), (450, .aload_n 0, 0, 0), (451, .iload 4, 0, 0), (453, .iconst 1, 1, 0), (454, .iadd, 0, 0), (455, .iaload, 0, 0), (456, .aload_n 0, 0, 0), (457, .iload 4, 0, 0), (459, .iconst 2, 2, 0), (460, .iadd, 0, 0), (461, .iaload, 0, 0), (462, .invokevirtual 88, 130, 0), (465, .istore 6, 0, 0), (467, .aload_n 2, 0, 0), (468, .invokevirtual 61, 81, 0), (471, .iload 5, 0, 0), (473, .if_icmp .eq 5, 478, 0), (476, .iconst 0, 0, 0), (477, .ireturn, 0, 0), (478, .iload 5, 0, 0), (480, .ifCond .ne 22, 502, 0), (483, .aload_n 3, 0, 0), (484, .iconst 0, 0, 0), (485, .laload, 0, 0), (486, .iload 6, 0, 0), (488, .ifCond .eq 7, 495, 0), (491, .lconst 1, 0, 0), (492, .goto 4, 496, 0), (495, .lconst 0, 0, 0), (496, .lcmp, 0, 0), (497, .ifCond .eq 5, 502, 0), (500, .iconst 0, 0, 0), (501, .ireturn, 0, 0), (502, .goto 269, 771, 0), (505, .aload_n 1, 0, 0), (506, .aload_n 0, 0, 0), (507, .iload 4, 0, 0), (509, .iconst 1, 1, 0), (510, .iadd, 0, 0), (511, .iaload, 0, 0), (512, .aload_n 0, 0, 0), (513, .iload 4, 0, 0), (515, .iconst 2, 2, 0), (516, .iadd, 0, 0), (517, .iaload, 0, 0), (518, .aload_n 0, 0, 0), (519, .iload 4, 0, 0), (521, .iconst 3, 3, 0), (522, .iadd, 0, 0), (523, .iaload, 0, 0), (524, .invokestatic 89, 165, 3), (527, .istore 5, 0, 0), (529, .aload_n 2, 0, 0), (530, .aload_n 0, 0, 0), (531, .iload 4, 0, 0), (533, .iconst 1, 1, 0), (534, .iadd, 0, 0), (535, .iaload, 0, 0), (536, .aload_n 0, 0, 0), (537, .iload 4, 0, 0), (539, .iconst 2, 2, 0), (540, .iadd, 0, 0), (541, .iaload, 0, 0), (542, .aload_n 0, 0, 0), (543, .iload 4, 0, 0), (545, .iconst 3, 3, 0), (546, .iadd, 0, 0), (547, .iaload, 0, 0), (548, .invokevirtual 92, 131, 0), (551, .aload_n 2, 0, 0), (552, .invokevirtual 61, 81, 0), (555, .iload 5, 0, 0), (557, .if_icmp .eq 5, 562, 0), (560, .iconst 0, 0, 0), (561, .ireturn, 0, 0), (562, .goto 209, 771, 0), (565, .aload_n 1, 0, 0), (566, .aload_n 0, 0, 0), (567, .iload 4, 0, 0), (569, .iconst 1, 1, 0), (570, .iadd, 0, 0), (571, .iaload, 0, 0), (572, .aload_n 3, 0, 0), (573, .invokestatic 93, 166, 3), (576, .istore 5, 0, 0), (578, .aload_n 2, 0, 0), (579, .aload_n 0, 0, 0), (580, .iload 4, 0, 0), (582, .iconst 1, 1, 0), (583, .iadd, 0, 0), (584, .iaload, 0, 0), (585, .invokevirtual 96, 133, 0), (588, .istore 6, 0, 0), (590, .aload_n 2, 0, 0), (591, .invokevirtual 61, 81, 0), (594, .iload 5, 0, 0), (596, .if_icmp .eq 5, 601, 0), (599, .iconst 0, 0, 0), (600, .ireturn, 0, 0), (601, .iload 5, 0, 0), (603, .ifCond .ne 15, 618, 0), (606, .aload_n 3, 0, 0), (607, .iconst 0, 0, 0), (608, .laload, 0, 0), (609, .iload 6, 0, 0), (611, .i2l, 0, 0), (612, .lcmp, 0, 0), (613, .ifCond .eq 5, 618, 0), (616, .iconst 0, 0, 0), (617, .ireturn, 0, 0), (618, .goto 153, 771, 0), (621, .aload_n 1, 0, 0), (622, .aload_n 0, 0, 0), (623, .iload 4, 0, 0), (625, .iconst 1, 1, 0), (626, .iadd, 0, 0), (627, .iaload, 0, 0), (628, .aload_n 3, 0, 0), (629, .invokestatic 97, 167, 3), (632, .istore 5, 0, 0), (634, .aload_n 2, 0, 0), (635, .aload_n 0, 0, 0), (636, .iload 4, 0, 0), (638, .iconst 1, 1, 0), (639, .iadd, 0, 0), (640, .iaload, 0, 0), (641, .invokevirtual 99, 135, 0), (644, .istore 6, 0, 0), (646, .aload_n 2, 0, 0), (647, .invokevirtual 61, 81, 0), (650, .iload 5, 0, 0), (652, .if_icmp .eq 5, 657, 0), (655, .iconst 0, 0, 0), (656, .ireturn, 0, 0), (657, .iload 5, 0, 0), (659, .ifCond .ne 15, 674, 0), (662, .aload_n 3, 0, 0), (663, .iconst 0, 0, 0), (664, .laload, 0, 0), (665, .iload 6, 0, 0), (667, .i2l, 0, 0), (668, .lcmp, 0, 0), (669, .ifCond .eq 5, 674, 0), (672, .iconst 0, 0, 0), (673, .ireturn, 0, 0), (674, .goto 97, 771, 0), (677, .aload_n 1, 0, 0), (678, .invokevirtual 100, 3, 0), (681, .aload_n 2, 0, 0), (682, .invokevirtual 103, 136, 0), (685, .if_icmp .eq 86, 771, 0), (688, .iconst 0, 0, 0), (689, .ireturn, 0, 0), (690, .aload_n 1, 0, 0), (691, .aload_n 0, 0, 0), (692, .iload 4, 0, 0), (694, .iconst 1, 1, 0), (695, .iadd, 0, 0), (696, .iaload, 0, 0), (697, .aload_n 3, 0, 0), (698, .invokestatic 104, 168, 3), (701, .istore 5, 0, 0), (703, .aload_n 2, 0, 0), (704, .aload_n 0, 0, 0), (705, .iload 4, 0, 0), (707, .iconst 1, 1, 0), (708, .iadd, 0, 0), (709, .iaload, 0, 0), (710, .invokevirtual 106, 142, 0), (713, .istore 6, 0, 0), (715, .aload_n 2, 0, 0), (716, .invokevirtual 61, 81, 0), (719, .iload 5, 0, 0), (721, .if_icmp .eq 5, 726, 0), (724, .iconst 0, 0, 0), (725, .ireturn, 0, 0), (726, .iload 5, 0, 0), (728, .ifCond .ne 15, 743, 0), (731, .aload_n 3, 0, 0), (732, .iconst 0, 0, 0), (733, .laload, 0, 0), (734, .iload 6, 0, 0), (736, .i2l, 0, 0), (737, .lcmp, 0, 0), (738, .ifCond .eq 5, 743, 0), (741, .iconst 0, 0, 0), (742, .ireturn, 0, 0), (743, .goto 28, 771, 0), (746, .aload_n 1, 0, 0), (747, .aload_n 0, 0, 0), (748, .iload 4, 0, 0), (750, .iconst 1, 1, 0), (751, .iadd, 0, 0), (752, .iaload, 0, 0), (753, .invokevirtual 107, 4, 0), (756, .aload_n 2, 0, 0), (757, .aload_n 0, 0, 0), (758, .iload 4, 0, 0), (760, .iconst 1, 1, 0), (761, .iadd, 0, 0), (762, .iaload, 0, 0), (763, .invokevirtual 110, 143, 0), (766, .if_icmp .eq 5, 771, 0), (769, .iconst 0, 0, 0), (770, .ireturn, 0, 0), (771, .iinc 4 4, 4, 0), (774, .goto (-751), 23, 0), (777, .iconst 1, 1, 0), (778, .ireturn, 0, 0)]
theorem k_169 : sm_tab 169 (fun pc => sm_lk pc l_169) := sm_tabOf (by decide +kernel)
end
section
/-! THE SMALL MACHINE: n steps at the most; method j at pc, locals L, operand stack S, heap h; the answer: 0 and what came back (or 1 + the number of what was thrown), the heap -/
def sm_fl : List Value → List Value
  | [] => []
  | v :: vs => if v.category = 2 then v :: jk :: sm_fl vs else v :: sm_fl vs
def sm_en (As : List Value) (n : Nat) : List Value := sm_fl As ++ List.replicate (n - (sm_fl As).length) jk
/-- a call: the callee, its arguments, the rest of the stack -/
def sm_cl (i : Instr) (d : Nat × Nat) (S : List Value) (h : sm_H) : Option (Nat × List Value × List Value) := match i with
  | .invokestatic _ => if d.2 < 4 ∧ xna d.1 ≤ S.length ∧ ((S.drop (xna d.1)).map fun v => v.category).sum ≤ 8 ∧ (sm_fl (S.take (xna d.1)).reverse).length ≤ xml d.1 then some (d.1, (S.take (xna d.1)).reverse, S.drop (xna d.1)) else none
  | .invokevirtual _ => match S.drop (xna d.1) with
    | .ref b :: r => if xna d.1 ≤ S.length ∧ hC h b = 16 + xrc d.1 ∧ (r.map fun v => v.category).sum ≤ 8 ∧ (sm_fl (.ref b :: (S.take (xna d.1)).reverse)).length ≤ xml d.1 then some (d.1, .ref b :: (S.take (xna d.1)).reverse, r) else none
    | _ => none
  | .invokespecial _ => if d.2 = 2 then none else match S.drop (xna d.1) with
    | .ref b :: r => if xna d.1 ≤ S.length ∧ (r.map fun v => v.category).sum ≤ 8 ∧ (sm_fl (.ref b :: (S.take (xna d.1)).reverse)).length ≤ xml d.1 then some (d.1, .ref b :: (S.take (xna d.1)).reverse, r) else none
    | _ => none
  | _ => none
/-- Object's constructor -/
def sm_oi (i : Instr) (d : Nat × Nat) (S : List Value) : Option (List Value) := match i, S with
  | .invokespecial _, .ref _ :: r => if d.2 = 2 ∧ (r.map fun v => v.category).sum ≤ 8 then some r else none
  | _, _ => none
/-- Math.max, Math.min -/
def sm_mm (i : Instr) (d : Nat × Nat) (S : List Value) : Option (List Value) := match i, S with
  | .invokestatic _, .int y :: .int x :: r => if (r.map fun v => v.category).sum ≤ 8 then (if d.2 = 4 then some (.int (if x < y then y else x) :: r) else (if d.2 = 5 then some (.int (if y < x then y else x) :: r) else none)) else none
  | _, _ => none
/-- Arrays.copyOf of an array of references, into more places -/
def cpA (h : sm_H) (a n : Nat) : sm_H := (hT h + 1, hU h + n, fun b => if b = hT h then 7 else hC h b, fun b => if b = hT h then n else hL h b, hF h, fun b j => if b = hT h then (if j < hL h a then hA h a j else .null) else hA h b j, hZ h)
/-- every place of the array holds nothing or an object of a known class -/
def cpE (h : sm_H) (a : Nat) : Prop := ∀ i, i < hL h a → hA h a i = .null ∨ ∃ b, hA h a i = .ref b ∧ 16 ≤ hC h b ∧ hC h b < 16 + xob
def cpC (d : Nat × Nat) (h : sm_H) (a : Nat) (n : Int32) (r : List Value) : Prop := d.2 = 6 ∧ hC h a = 7 ∧ ¬ n < 0 ∧ hL h a ≤ n.toNatClampNeg ∧ n.toNatClampNeg * 4 ≤ 536870912 ∧ (r.map fun v => v.category).sum ≤ 8 ∧ cpE h a
noncomputable def sm_ex (i : Instr) (d : Nat × Nat) (S : List Value) (h : sm_H) : Option (List Value × sm_H) := match i, S with
  | .invokestatic _, .int n :: .ref a :: r => @ite _ (cpC d h a n r) (Classical.propDecidable _) (some (.ref (hT h) :: r, cpA h a n.toNatClampNeg)) none
  | _, _ => none
/-- 'throw new ..' begins -/
def sm_th (i : Instr) (d : Nat × Nat) (S : List Value) : Option Nat := match i with
  | .new _ => if d.2 = 1 then (match S with
    | [] => some d.1
    | _ => none) else none
  | _ => none
/-- what lies there then -/
def thH (h : sm_H) (ci : Nat) : sm_H := newO h ci 6 (fun _ => .null)
/-- where a call at pc is caught -/
def xhi (i : Instr) (j pc k : Nat) : Option Nat := match i with
  | .invokevirtual _ => xhd j pc k
  | _ => none
noncomputable def sm_run : Nat → Nat → Nat → List Value → List Value → sm_H → Option (Nat × Option Value × sm_H)
  | 0, _, _, _, _, _ => none
  | n + 1, j, pc, L, S, h => match xat j pc with
    | none => none
    | some (i, d) => match sm_th i d S with
     | some ci => some (ci + 1, some (.ref (hT h)), thH h ci)
     | none => match sm_ps i d L S with
      | some (L', S') => sm_run n j (pc + sm_len i) L' S' h
      | none => match sm_br i d pc S with
        | some (C, t, f, S') => @ite _ C (Classical.propDecidable C) (sm_run n j t L S' h) (sm_run n j f L S' h)
        | none => match sm_sw i pc S with
          | some (t, S') => sm_run n j t L S' h
          | none => match sm_hp i d S h with
            | some (S', h') => sm_run n j (pc + sm_len i) L S' h'
            | none => match sm_rt i (xrt j) S with
              | some v => some (0, v, h)
              | none => match sm_oi i d S with
                | some r => sm_run n j (pc + 3) L r h
                | none => match sm_mm i d S with
                 | some r => sm_run n j (pc + 3) L r h
                 | none => match sm_ex i d S h with
                 | some (S', h') => sm_run n j (pc + 3) L S' h'
                 | none => match sm_cl i d S h with
                  | some (j', As, r) => match sm_run n j' 0 (sm_en As (xml j')) [] h with
                    | some (0, v, h') => sm_run n j (pc + 3) L (v.toList ++ r) h'
                    | some (k + 1, some (.ref a), h') => match xhi i j pc k with
                      | some hp => sm_run n j hp L [.ref a] h'
                      | none => none
                    | _ => none
                  | none => none
theorem sm_hp_mono {i : Instr} {d : Nat × Nat} {S S' : List Value} {h h' : sm_H} (hh : sm_hp i d S h = some (S', h')) : hT h ≤ hT h' ∧ hU h ≤ hU h' := by
  have e0 : hT h ≤ hT h ∧ hU h ≤ hU h := ⟨Nat.le_refl _, Nat.le_refl _⟩
  have e1 : ∀ ci n dv, hT h ≤ hT (newO h ci n dv) ∧ hU h ≤ hU (newO h ci n dv) := fun ci n dv => ⟨Nat.le_add_right _ _, Nat.le_add_right _ _⟩
  have e2 : ∀ t n dv, hT h ≤ hT (newA h t n dv) ∧ hU h ≤ hU (newA h t n dv) := fun t n dv => ⟨Nat.le_add_right _ _, Nat.le_add_right _ _⟩
  cases i with
  | getfield x => replace hh : sm_gf d.1 (d.2 / 2) S h = some (S', h') := hh; unfold sm_gf at hh; split at hh <;> (try split at hh) <;> cases hh <;> exact e0
  | putfield x => replace hh : sm_pf d.1 (d.2 / 2) S h = some (S', h') := hh; unfold sm_pf at hh; split at hh <;> (try split at hh) <;> cases hh <;> exact e0
  | new x => replace hh : (if d.2 = 0 then sm_nw d.1 S h else none) = some (S', h') := hh; unfold sm_nw at hh; split at hh <;> (try split at hh) <;> cases hh <;> exact e1 _ _ _
  | newarray t => replace hh : sm_na t S h = some (S', h') := hh; unfold sm_na at hh; split at hh <;> (try split at hh) <;> cases hh <;> exact e2 _ _ _
  | arraylength => replace hh : sm_le S h = some (S', h') := hh; unfold sm_le at hh; split at hh <;> (try split at hh) <;> cases hh <;> exact e0
  | iaload => replace hh : sm_al .int S h = some (S', h') := hh; unfold sm_al at hh; split at hh <;> (try split at hh) <;> cases hh <;> exact e0
  | laload => replace hh : sm_al .long S h = some (S', h') := hh; unfold sm_al at hh; split at hh <;> (try split at hh) <;> cases hh <;> exact e0
  | caload => replace hh : sm_al .char S h = some (S', h') := hh; unfold sm_al at hh; split at hh <;> (try split at hh) <;> cases hh <;> exact e0
  | baload => replace hh : sm_bl2 S h = some (S', h') := hh; unfold sm_bl2 at hh; split at hh <;> (try split at hh) <;> cases hh <;> exact e0
  | iastore => replace hh : sm_ai S h = some (S', h') := hh; unfold sm_ai at hh; split at hh <;> (try split at hh) <;> cases hh <;> exact e0
  | lastore => replace hh : sm_aj S h = some (S', h') := hh; unfold sm_aj at hh; split at hh <;> (try split at hh) <;> cases hh <;> exact e0
  | castore => replace hh : sm_ac S h = some (S', h') := hh; unfold sm_ac at hh; split at hh <;> (try split at hh) <;> cases hh <;> exact e0
  | bastore => replace hh : sm_ab S h = some (S', h') := hh; unfold sm_ab at hh; split at hh <;> (try split at hh) <;> (try split at hh) <;> cases hh <;> exact e0
  | checkcast x => replace hh : sm_cc d.1 S h = some (S', h') := hh; unfold sm_cc at hh; split at hh <;> (try split at hh) <;> cases hh <;> exact e0
  | anewarray x => replace hh : sm_an S h = some (S', h') := hh; unfold sm_an at hh; split at hh <;> (try split at hh) <;> cases hh <;> exact e2 _ _ _
  | aaload => replace hh : sm_al (.object "java/lang/Object") S h = some (S', h') := hh; unfold sm_al at hh; split at hh <;> (try split at hh) <;> cases hh <;> exact e0
  | aastore => replace hh : sm_aa S h = some (S', h') := hh; unfold sm_aa at hh; split at hh <;> (try split at hh) <;> cases hh <;> exact e0
  | ldc x => cases hh; exact e0
  | ldc2_w x => cases hh; exact e0
  | getstatic x => cases hh; exact e0
  | _ => cases hh
theorem sm_ex_some {i : Instr} {d : Nat × Nat} {S S' : List Value} {h h' : sm_H} (hh : sm_ex i d S h = some (S', h')) : ∃ (x : Nat) (n : Int32) (a : Nat) (r : List Value), i = .invokestatic x ∧ S = .int n :: .ref a :: r ∧ cpC d h a n r ∧ S' = .ref (hT h) :: r ∧ h' = cpA h a n.toNatClampNeg := by
  unfold sm_ex at hh
  split at hh
  · split at hh
    · rename_i hq; cases hh; exact ⟨_, _, _, _, rfl, rfl, hq, rfl, rfl⟩
    · cases hh
  · cases hh
theorem sm_ex_mono {i : Instr} {d : Nat × Nat} {S S' : List Value} {h h' : sm_H} (hh : sm_ex i d S h = some (S', h')) : hT h ≤ hT h' ∧ hU h ≤ hU h' := by
  unfold sm_ex at hh
  split at hh
  · split at hh
    · cases hh; exact ⟨Nat.le_add_right _ _, Nat.le_add_right _ _⟩
    · cases hh
  · cases hh
theorem sm_mono : ∀ (n j pc : Nat) (L S : List Value) (h : sm_H) (k : Nat) (v : Option Value) (h' : sm_H), sm_run n j pc L S h = some (k, v, h') → hT h ≤ hT h' ∧ hU h ≤ hU h'
  | 0, j, pc, L, S, h, k, v, h', r => by cases r
  | n + 1, j, pc, L, S, h, k, v, h', r => by
    have ih := sm_mono n
    unfold sm_run at r
    split at r
    · cases r
    · split at r
      · cases r; exact ⟨Nat.le_add_right _ _, Nat.le_add_right _ _⟩
      split at r
      · exact ih _ _ _ _ _ _ _ _ r
      · split at r
        · rename_i C t f S' _
          by_cases hC : C
          · rw [if_pos hC] at r; exact ih _ _ _ _ _ _ _ _ r
          · rw [if_neg hC] at r; exact ih _ _ _ _ _ _ _ _ r
        · split at r
          · exact ih _ _ _ _ _ _ _ _ r
          · split at r
            · rename_i hh
              have e1 := sm_hp_mono hh
              have e2 := ih _ _ _ _ _ _ _ _ r
              exact ⟨Nat.le_trans e1.1 e2.1, Nat.le_trans e1.2 e2.2⟩
            · split at r
              · cases r; exact ⟨Nat.le_refl _, Nat.le_refl _⟩
              · split at r
                · exact ih _ _ _ _ _ _ _ _ r
                · split at r
                  · exact ih _ _ _ _ _ _ _ _ r
                  · split at r
                    · rename_i hh
                      have e1 := sm_ex_mono hh
                      have e2 := ih _ _ _ _ _ _ _ _ r
                      exact ⟨Nat.le_trans e1.1 e2.1, Nat.le_trans e1.2 e2.2⟩
                    · split at r
                      · split at r
                        · rename_i hc
                          have e1 := ih _ _ _ _ _ _ _ _ hc
                          have e2 := ih _ _ _ _ _ _ _ _ r
                          exact ⟨Nat.le_trans e1.1 e2.1, Nat.le_trans e1.2 e2.2⟩
                        · rename_i hc
                          split at r
                          · have e1 := ih _ _ _ _ _ _ _ _ hc
                            have e2 := ih _ _ _ _ _ _ _ _ r
                            exact ⟨Nat.le_trans e1.1 e2.1, Nat.le_trans e1.2 e2.2⟩
                          · cases r
                        · cases r
                      · cases r
/-- more steps don't change an answer -/
theorem sm_more : ∀ (n : Nat) (j pc : Nat) (L S : List Value) (h : sm_H) (x : Nat × Option Value × sm_H), sm_run n j pc L S h = some x → sm_run (n + 1) j pc L S h = some x
  | 0, j, pc, L, S, h, x, r => by cases r
  | n + 1, j, pc, L, S, h, x, r => by
    have ih := sm_more n
    unfold sm_run at r
    unfold sm_run
    split at r
    · cases r
    · rename_i i d hx
      split at r
      · exact r
      split at r
      · exact ih _ _ _ _ _ _ r
      · split at r
        · rename_i C t f S' _
          by_cases hC : C
          · rw [if_pos hC] at r ⊢; exact ih _ _ _ _ _ _ r
          · rw [if_neg hC] at r ⊢; exact ih _ _ _ _ _ _ r
        · split at r
          · exact ih _ _ _ _ _ _ r
          · split at r
            · exact ih _ _ _ _ _ _ r
            · split at r
              · exact r
              · split at r
                · exact ih _ _ _ _ _ _ r
                · split at r
                  · exact ih _ _ _ _ _ _ r
                  · split at r
                    · exact ih _ _ _ _ _ _ r
                    · split at r
                      · split at r
                        · rename_i hc
                          rw [ih _ _ _ _ _ _ hc]
                          exact ih _ _ _ _ _ _ r
                        · rename_i hc
                          rw [ih _ _ _ _ _ _ hc]
                          dsimp only
                          split at r
                          · exact ih _ _ _ _ _ _ r
                          · cases r
                        · cases r
                      · cases r
end
section
/-! WHAT THE SMALL MACHINE ANSWERS THE JVM's MODEL ANSWERS -/
theorem sm_fl_len : ∀ As : List Value, (lg_sl As).length = (sm_fl As).length
  | [] => rfl
  | v :: vs => by
    have ih := sm_fl_len vs
    unfold sm_fl
    by_cases hv : v.category = 2
    · rw [if_pos hv]
      simp [lg_sl, hv] at ih ⊢
      omega
    · rw [if_neg hv]
      simp [lg_sl, hv] at ih ⊢
      omega
theorem sm_as_jk : ∀ (k i : Nat), sm_as i (List.replicate k jk) = []
  | 0, i => rfl
  | k + 1, i => by
    rw [List.replicate_succ]
    unfold sm_as
    rw [if_pos rfl]
    exact sm_as_jk k (i + 1)
theorem sm_as_fl : ∀ (As : List Value) (k i : Nat), ∀ q ∈ sm_as i (sm_fl As ++ List.replicate k jk), q ∈ lv_args i As
  | [], k, i, q, hq => by
    rw [show sm_fl [] = [] from rfl, List.nil_append, sm_as_jk] at hq
    cases hq
  | v :: vs, k, i, q, hq => by
    unfold sm_fl at hq
    unfold lv_args
    by_cases hv : v.category = 2
    · rw [if_pos hv] at hq ⊢
      have hj : v ≠ jk := fun z => by rw [z] at hv; cases hv
      rw [List.cons_append, List.cons_append] at hq
      unfold sm_as at hq
      rw [if_neg hj] at hq
      unfold sm_as at hq
      rw [if_pos rfl] at hq
      rcases List.mem_cons.mp hq with h | h
      · rw [h]; exact List.mem_cons_self
      · exact List.mem_cons_of_mem _ (sm_as_fl vs k (i + 2) q h)
    · rw [if_neg hv] at hq ⊢
      rw [List.cons_append] at hq
      unfold sm_as at hq
      by_cases hj : v = jk
      · rw [if_pos hj] at hq
        exact List.mem_cons_of_mem _ (sm_as_fl vs k (i + 1) q hq)
      · rw [if_neg hj] at hq
        rcases List.mem_cons.mp hq with h | h
        · rw [h]; exact List.mem_cons_self
        · exact List.mem_cons_of_mem _ (sm_as_fl vs k (i + 1) q h)
theorem sm_entry (As : List Value) {n : Nat} (h : (sm_fl As).length ≤ n) : sm_lc ((lg_sl As ++ List.replicate (n - (lg_sl As).length) Slot.unset).toArray) n (sm_en As n) := by
  have he := lv_entry As (n := n) (by rw [sm_fl_len]; exact h)
  refine ⟨by unfold sm_en; rw [List.length_append, List.length_replicate]; omega, he.1, he.2.1, fun q hq => he.2.2 q (sm_as_fl As _ 0 q hq)⟩
/-- the words of method j: its code and the whole table -/
def xws (Tg : List Cond) (j : Nat) : List Cond := Cond.code (xmn j) (xcc j) (xml j) (xrt j) :: Tg
def sm_good (w : Cond) : Prop := (w.onTables && w.keeps) = true ∨ ∃ ty, w = .arrayClass ty
/-- a word that the tables keep but that no word list may hold -/
def sm_nwk (w : Cond) : Prop := (∀ (u U : State), u.vm = U.vm → va_Nw w u → va_Nw w U) ∧ ∀ (s U : State), s.WarmedH U.vm → va_Nw w s → va_Nw w U
def sm_mok (Tg : List Cond) (j : Nat) : Prop := Cond.code (xmn j) (xcc j) (xml j) (xrt j) ∈ Tg ∧ plainName (xmn j).cls = true ∧ (xmn j).cls ≠ "java/lang/invoke/MethodHandle" ∧ (xmn j).cls ≠ "java/lang/invoke/VarHandle" ∧ (parseMethodDescriptor (xmn j).desc).map (fun d => d.parameters.length) = some (xna j) ∧ Cond.initialized (xmn j).cls ∈ Tg ∧ xex j = []
/-- Arrays.copyOf -/
def sm_cname : MethodName := ⟨"java/util/Arrays", "copyOf", "([Ljava/lang/Object;I)[Ljava/lang/Object;"⟩
def sm_cok (Tg NW : List Cond) (own : String) (j : Nat) (i : Instr) (d : Nat × Nat) : Prop := match i with
  | .invokevirtual x => (xrk d.1 + 1 ≤ xrk j ∧ 8 + (xml d.1 + 11) + xrl d.1 ≤ xrl j) ∧ sm_mok Tg d.1 ∧ Cond.instanceMethod (xmn d.1) ∈ Tg ∧ Cond.selects (xmn d.1).cls (xmn d.1) (xmn d.1) ∈ Tg ∧ (∃ q : vw_C, xcl[xrc d.1]? = some q ∧ q.1 = (xmn d.1).cls) ∧ (Cond.methodLink own x (xmn d.1) ∈ Tg ∨ ∃ host, Cond.methodLinkNest own x (xmn d.1) host ∈ NW)
  | .invokestatic x => (d.2 < 3 → (xrk d.1 + 1 ≤ xrk j ∧ 8 + (xml d.1 + 11) + xrl d.1 ≤ xrl j) ∧ sm_mok Tg d.1 ∧ Cond.static (xmn d.1) ∈ Tg ∧ (Cond.methodLink own x (xmn d.1) ∈ Tg ∨ ∃ host, Cond.methodLinkNest own x (xmn d.1) host ∈ NW)) ∧ (d.2 = 4 ∨ d.2 = 5 → (1 ≤ xrk j ∧ 21 ≤ xrl j) ∧ Cond.initialized "java/lang/Math" ∈ Tg) ∧
    (d.2 = 4 → Cond.methodLink own x Lib.Math.max.name ∈ Tg ∧ Cond.static Lib.Math.max.name ∈ Tg ∧ Cond.code Lib.Math.max.name Lib.Math.max.code 2 (some .int) ∈ Tg) ∧ (d.2 = 5 → Cond.methodLink own x Lib.Math.min.name ∈ Tg ∧ Cond.static Lib.Math.min.name ∈ Tg ∧ Cond.code Lib.Math.min.name Lib.Math.min.code 2 (some .int) ∈ Tg) ∧
    (d.2 = 6 → (3 ≤ xrk j ∧ 85 ≤ xrl j) ∧ Cond.methodLink own x sm_cname ∈ Tg)
  | .invokespecial x => (d.2 = 2 → (1 ≤ xrk j ∧ 20 ≤ xrl j) ∧ Cond.methodLink own x Lib.objectInit ∈ Tg ∧ Cond.instanceMethod Lib.objectInit ∈ Tg ∧ Cond.code Lib.objectInit ⟨#[0xb1]⟩ 1 none ∈ Tg) ∧ (d.2 ≠ 2 → (xrk d.1 + 1 ≤ xrk j ∧ 8 + (xml d.1 + 11) + xrl d.1 ≤ xrl j) ∧ sm_mok Tg d.1 ∧ (xmn d.1).name = "<init>" ∧ xrt d.1 = none ∧ Cond.instanceMethod (xmn d.1) ∈ Tg ∧ (Cond.methodLink own x (xmn d.1) ∈ Tg ∨ ∃ host, Cond.methodLinkNest own x (xmn d.1) host ∈ NW))
  | _ => True
def sm_ok (Tg NW : List Cond) (j pc : Nat) (i : Instr) (d : Nat × Nat) : Prop :=
  (∃ len, decode (xcc j) pc = .ok (i, len) ∧ (sm_isw i = false → len = sm_len i)) ∧ sm_kok i d ∧ sm_tok i d pc ∧ sm_hok Tg NW (xmn j).cls (xmn j).name i d ∧ sm_cok Tg NW (xmn j).cls j i d
/-- all that is said of the tables, once -/
def sm_st (Tg NW : List Cond) : Prop := sm_cls Tg ∧ (∀ w ∈ Tg, sm_good w) ∧ (∀ w ∈ NW, sm_nwk w) ∧ ∀ j pc i d, xat j pc = some (i, d) → sm_ok Tg NW j pc i d
abbrev sm_rm (j mc ms : Nat) : Room := { frames := xrk j, cells := mc, slots := ms, locals := xrl j }
/-- what is known of the JDK's world beside the words: texts, casts that fail, the class object of Object[] -/
def sm_X (U : State) : Prop := (∀ e ∈ xsk, ∃ q, vk_R "BuildingText" e.1 e.2 q U) ∧ (∀ e ∈ xnc, ∀ cA cB : ClassId, U.vm.findClass e.1 = some cA → U.vm.findClass e.2 = some cB → U.vm.assignable cA cB = false) ∧ ∃ mi, va_Mi "[Ljava/lang/Object;" mi U
theorem sm_X.same {u U : State} (hv : U.vm = u.vm) (h : sm_X u) : sm_X U := by
  obtain ⟨h1, h2, mi, h3⟩ := h
  refine ⟨fun e he => ?_, by rw [hv]; exact h2, mi, va_Mi.moved (by rw [hv]; exact Vm.Alike.refl _) h3⟩
  obtain ⟨q, hq⟩ := h1 e he
  exact ⟨q, vk_R.same hv hq⟩
theorem sm_X.warm {s U : State} (hW : s.WarmedH U.vm) (h : sm_X s) : sm_X U := by
  obtain ⟨h1, h2, mi, h3⟩ := h
  refine ⟨fun e he => ?_, fun e he cA cB k1 k2 => ?_, mi, va_Mi.moved hW.alike h3⟩
  · obtain ⟨q, hq⟩ := h1 e he
    exact ⟨q, vk_R.warm hW hq⟩
  · rw [hW.alike.findClass] at k1 k2
    rw [hW.alike.assignable]
    exact h2 e he cA cB k1 k2
def sm_Pc (D : va_G) (base : Nat) (NW : List Cond) (As : List Value) (h : sm_H) : Array Value → State → Prop := fun a U => a = As.toArray ∧ sm_R D base U h U.heap ∧ va_K D xcl [] U ∧ (∀ w ∈ NW, va_Nw w U) ∧ sm_X U
def sm_Qc (D : va_G) (base : Nat) (v : Option Value) (h' : sm_H) : Array Value → State → Outcome → State → Prop := fun _ _ o t => o = .returned v ∧ sm_R D base t h' t.heap
/-- how a call ends: it returns v, or it throws the object that v is -/
def sm_O (k : Nat) (v : Option Value) (o : Outcome) : Prop := match k with
  | 0 => o = .returned v
  | _ + 1 => ∃ a, v = some (.ref a) ∧ o = .threw a
def sm_FE (st t : State) (L : List Loc) (k n : Nat) : Prop := st.WarmedH t.vm ∧ st.sameButNew ({ t with vm := st.vm } : State) L k n
def sm_MQ (D : va_G) (base : Nat) (below : List Frame) (k : Nat) (v : Option Value) (h' : sm_H) (s : State) (mc ms : Nat) : State → Prop := fun t => ∃ o, t.status = .running ∧ Ended t below o ∧ (sm_O k v o ∧ sm_R D base t h' t.heap) ∧ ∃ L, sm_FE s t L mc ms ∧ ∀ q ∈ L, base ≤ q.base
theorem sm_Pc_blind {D : va_G} {base : Nat} {NW : List Cond} (hn : ∀ w ∈ NW, sm_nwk w) {As : List Value} {h : sm_H} : FrameBlind (sm_Pc D base NW As h) := by
  intro a U g mk hp
  obtain ⟨h1, h2, h3, h4, h5⟩ := hp
  exact ⟨h1, sm_R.moved (u := U) (U := U.calling g mk a) (Vm.Alike.refl U.vm) h2, va_K.moved (u := U) (U := U.calling g mk a) (Vm.Alike.refl U.vm) h3, fun w hw => (hn w hw).1 U (U.calling g mk a) rfl (h4 w hw), h5.same rfl⟩
theorem sm_Pc_at {D : va_G} {base : Nat} {NW : List Cond} (hn : ∀ w ∈ NW, sm_nwk w) {As : List Value} {h : sm_H} {s : State} {H : Heap} (hR : sm_R D base s h H) (hK : va_K D xcl [] s) (hnw : ∀ w ∈ NW, va_Nw w s) (hX : sm_X s) : ∀ U : State, U.heap = H → s.WarmedH U.vm → sm_Pc D base NW As h As.toArray U := by
  intro U hU hW
  exact ⟨rfl, by rw [hU]; exact hR.moved hW.alike, hK.moved hW.alike, fun w hw => (hn w hw).2 s U hW (hnw w hw), hX.warm hW⟩
theorem sm_goodIn {Tg : List Cond} (hg : ∀ w ∈ Tg, sm_good w) {j : Nat} (hc : Cond.code (xmn j) (xcc j) (xml j) (xrt j) ∈ Tg) {Ts : List Cond} (hsub : ∀ w ∈ Tg, w ∈ Ts) : GoodIn Ts (xws Tg j) := by
  intro w hw
  rcases List.mem_cons.mp hw with h | h
  · rw [h]; exact ⟨hsub _ hc, hg _ hc⟩
  · exact ⟨hsub _ h, hg _ h⟩
section SMS
variable {p : Program} {l : Launch} {e : Env} {R : Room} {s : State} {m : MethodId} {args : Array Value} {below : List Frame} {meth : Method} {c : Code} {H : Heap} {locs : List Loc} {cells slots : Nat} {Q : State → Prop} {base : Nat} {D : va_G} {h h' : sm_H} {Tg NW : List Cond}
theorem sm_Wm {Q Q' : State → Prop} {g : JFrame} (f : ∀ t, Q t → Q' t) (k : W p l e R s m args below meth c H locs cells slots Q g) : W p l e R s m args below meth c H locs cells slots Q' g := by
  intro T hT X
  obtain ⟨t, a, b⟩ := k T hT X
  exact ⟨t, a, f t b⟩
/-- behind a call -/
theorem sm_back {mc ms : Nat} {g : JFrame} {rest : List Value} {v : Option Value} {a : Array Value} (hr : va_Run p l e R s m args below meth c H locs cells slots mc ms g rest (sm_Qc D base v h' a) (fun q => base ≤ q)) (hf : ∀ q ∈ locs, base ≤ q.base)
    (kk : ∀ (H' : Heap) (locs' : List Loc), sm_R D base s h' H' → (∀ q ∈ locs', base ≤ q.base) → W p l e R s m args below meth c H' locs' (cells + mc) (slots + ms) Q { g with pc := g.pc + 3, stack := v.toList ++ rest }) : W p l e R s m args below meth c H locs cells slots Q g := by
  intro T hT X
  obtain ⟨v', st₀, t, T', L, h0, X', hL, e1, e2, ⟨hv, hR'⟩, st⟩ := hr T hT X
  cases hv
  have hal : t.vm.Alike s.vm := by rw [← e2]; exact X'.warmed.alike.symm
  obtain ⟨t2, a1, b1⟩ := kk T'.heap (locs ++ L) (by rw [e1]; exact hR'.moved hal) (fun q hq => by
    rcases List.mem_append.mp hq with h | h
    · exact hf q h
    · exact hL q h) T' rfl X'
  exact ⟨t2, st t2 a1, b1⟩
/-- what is known in a body of method j -/
def sm_In (Tg NW : List Cond) (D : va_G) (base j : Nat) (p : Program) (s : State) (m : MethodId) (args : Array Value) (meth : Method) (c : Code) : Prop :=
  p.tables.exec = Jvm.exec ∧ c.code = xcc j ∧ c.maxLocals = xml j ∧ meth.sig.returnType = xrt j ∧ meth.locks = false ∧ meth.name = (xmn j).name ∧ s.vm.findClass (xmn j).cls = some m.cls ∧ (∀ w ∈ Tg, w.before args s = true) ∧ (∀ w ∈ NW, va_Nw w s) ∧ va_K D xcl [] s ∧ sm_X s ∧ (∃ z, sm_Zs base z s s.heap) ∧ (j < 169 → c.exceptionTable.toList.map (fun h => (h.startPc, h.endPc, h.handlerPc, h.catchType)) = xex j)
/-- the road of method j from a frame -/
def sm_Road (l : Launch) (Tg NW : List Cond) (D : va_G) (base n : Nat) : Prop := ∀ (j pc : Nat) (L S : List Value) (h : sm_H) (k : Nat) (v : Option Value) (h' : sm_H), sm_run n j pc L S h = some (k, v, h') →
  ∀ (p : Program) (e : Env) (s : State) (m : MethodId) (args : Array Value) (below : List Frame) (meth : Method) (c : Code) (H : Heap) (locs : List Loc) (cells slots mc ms : Nat) (ls : Array Slot), sm_In Tg NW D base j p s m args meth c → sm_lc ls (xml j) L → sm_R D base s h H → (∀ q ∈ locs, base ≤ q.base) → base ≤ hT h →
  cells + (hT h' - hT h) = mc → slots + (hU h' - hU h) = ms → W p l e (sm_rm j mc ms) s m args below meth c H locs cells slots (sm_MQ D base below k v h' s mc ms) (F0 m pc ls S)
/-- WHAT IS OWED OF Arrays.copyOf, once -/
def sm_copy (l : Launch) (Tg NW : List Cond) (D : va_G) (base : Nat) : Prop := ∀ (j x pc mc ms a : Nat) (n : Int32) (r : List Value) (h : sm_H) (p : Program) (e : Env) (s : State) (m : MethodId) (args : Array Value) (below : List Frame) (meth : Method) (c : Code) (H : Heap) (locs : List Loc) (cells slots : Nat) (ls : Array Slot) (Q : State → Prop),
  sm_In Tg NW D base j p s m args meth c → ls.size = xml j → sm_R D base s h H → (∀ q ∈ locs, base ≤ q.base) → base ≤ hT h → (3 ≤ xrk j ∧ 85 ≤ xrl j) → Cond.methodLink (xmn j).cls x sm_cname ∈ Tg → decode (xcc j) pc = .ok (.invokestatic x, 3) →
  hC h a = 7 → ¬ n < 0 → hL h a ≤ n.toNatClampNeg → n.toNatClampNeg * 4 ≤ 536870912 → (r.map fun v => v.category).sum ≤ 8 → cpE h a → cells + 1 ≤ mc → slots + n.toNatClampNeg ≤ ms →
  (∀ (H' : Heap) (locs' : List Loc), sm_R D base s (cpA h a n.toNatClampNeg) H' → (∀ q ∈ locs', base ≤ q.base) → W p l e (sm_rm j mc ms) s m args below meth c H' locs' (cells + 1) (slots + n.toNatClampNeg) Q (F0 m (pc + 3) ls (.ref (hT h) :: r))) →
  W p l e (sm_rm j mc ms) s m args below meth c H locs cells slots Q (F0 m pc ls (.int n :: .ref a :: r))
/-- WHAT IS OWED OF 'throw new ..', once -/
def sm_throws (l : Launch) (Tg NW : List Cond) (D : va_G) (base : Nat) : Prop := ∀ (j x pc ci mc ms : Nat) (h : sm_H) (p : Program) (e : Env) (s : State) (m : MethodId) (args : Array Value) (below : List Frame) (meth : Method) (c : Code) (H : Heap) (locs : List Loc) (cells slots : Nat) (ls : Array Slot),
  sm_In Tg NW D base j p s m args meth c → ls.size = xml j → sm_R D base s h H → (∀ q ∈ locs, base ≤ q.base) → base ≤ hT h → xat j pc = some (.new x, ci, 1) → cells + 1 = mc → slots + 6 = ms →
  W p l e (sm_rm j mc ms) s m args below meth c H locs cells slots (sm_MQ D base below (ci + 1) (some (.ref (hT h))) (thH h ci) s mc ms) (F0 m pc ls [])
/-- WHAT IS OWED OF A CALL WHOSE END IS CAUGHT, once -/
def sm_catches (l : Launch) (Tg NW : List Cond) (D : va_G) (base : Nat) : Prop := ∀ (n : Nat), sm_Road l Tg NW D base n → ∀ (j j' pc k a hp mc ms : Nat) (i : Instr) (d : Nat × Nat) (S As r : List Value) (h h1 : sm_H) (p : Program) (e : Env) (s : State) (m : MethodId) (args : Array Value) (below : List Frame) (meth : Method) (c : Code) (H : Heap) (locs : List Loc) (cells slots : Nat) (ls : Array Slot) (Q : State → Prop),
  sm_In Tg NW D base j p s m args meth c → ls.size = xml j → sm_R D base s h H → (∀ q ∈ locs, base ≤ q.base) → base ≤ hT h → xat j pc = some (i, d) → sm_cl i d S h = some (j', As, r) → sm_run n j' 0 (sm_en As (xml j')) [] h = some (k + 1, some (.ref a), h1) → xhi i j pc k = some hp →
  cells + (hT h1 - hT h) ≤ mc → slots + (hU h1 - hU h) ≤ ms →
  (∀ (H' : Heap) (locs' : List Loc), sm_R D base s h1 H' → (∀ q ∈ locs', base ≤ q.base) → W p l e (sm_rm j mc ms) s m args below meth c H' locs' (cells + (hT h1 - hT h)) (slots + (hU h1 - hU h)) Q (F0 m hp ls [.ref a])) →
  W p l e (sm_rm j mc ms) s m args below meth c H locs cells slots Q (F0 m pc ls S)
/-- WHAT IS OWED OF A CALL OF A METHOD THAT CATCHES, once -/
def sm_helps (l : Launch) (Tg NW : List Cond) (D : va_G) (base : Nat) : Prop := ∀ (n : Nat), sm_Road l Tg NW D base n → ∀ (j j' pc x z mc ms : Nat) (S As r : List Value) (v : Option Value) (h h1 : sm_H) (p : Program) (e : Env) (s : State) (m : MethodId) (args : Array Value) (below : List Frame) (meth : Method) (c : Code) (H : Heap) (locs : List Loc) (cells slots : Nat) (ls : Array Slot) (Q : State → Prop),
  sm_In Tg NW D base j p s m args meth c → ls.size = xml j → sm_R D base s h H → (∀ q ∈ locs, base ≤ q.base) → base ≤ hT h → xat j pc = some (.invokestatic x, z, 3) → sm_cl (.invokestatic x) (z, 3) S h = some (j', As, r) → sm_run n j' 0 (sm_en As (xml j')) [] h = some (0, v, h1) →
  cells + (hT h1 - hT h) ≤ mc → slots + (hU h1 - hU h) ≤ ms →
  (∀ (H' : Heap) (locs' : List Loc), sm_R D base s h1 H' → (∀ q ∈ locs', base ≤ q.base) → W p l e (sm_rm j mc ms) s m args below meth c H' locs' (cells + (hT h1 - hT h)) (slots + (hU h1 - hU h)) Q (F0 m (pc + 3) ls (v.toList ++ r))) →
  W p l e (sm_rm j mc ms) s m args below meth c H locs cells slots Q (F0 m pc ls S)
theorem sm_noex {p : Program} {l : Launch} {y : MethodName} {S : Spec} {cc : ByteArray} {ml : Nat} {rt : Option FieldType} {e : Env} {s : State} {m : MethodId} {args : Array Value} {below : List Frame} {meth : Method} {c : Code} {s₁ : State} (B : BodyLoose p l y S cc ml rt e s m args below meth c s₁) {bytes : ByteArray} {maxL : Nat} {ret : Option FieldType} (h : (Cond.code y bytes maxL ret).before args s = true) : c.exceptionTable.toList = [] := by
  obtain ⟨meth', c', hm', hc', -, -, -, -, hempty, -⟩ := Cond.code_spec B.named h
  have hcd := B.here.code
  rw [State.code?_eq] at hcd
  have hvm : s₁.vm = s.vm := by rw [B.state]; rfl
  rw [hvm, hm'] at hcd
  have e1 : c' = c := Option.some.inj (hc'.symm.trans hcd)
  subst e1
  have h0 : c'.exceptionTable.size = 0 := by simpa [Array.isEmpty] using hempty
  exact List.eq_nil_of_length_eq_zero (by simpa using h0)
theorem sm_met {n : Nat} (hst : sm_st Tg NW) (hrd : sm_Road l Tg NW D base n) {j : Nat} (hm : sm_mok Tg j) {As : List Value} {v : Option Value} (hlen : (sm_fl As).length ≤ xml j) (hb0 : base ≤ hT h) (hrun : sm_run n j 0 (sm_en As (xml j)) [] h = some (0, v, h')) :
    Met l (xmn j) (xws Tg j) (sm_rm j (hT h' - hT h) (hU h' - hU h)) (sm_Pc D base NW As h) (sm_Qc D base v h') (hT h' - hT h) (hU h' - hU h) (fun q => base ≤ q) := by
  refine Met.ofW (cc := xcc j) (maxL := xml j) (ret := xrt j) hm.2.1 rfl ?_
  intro p e s m args below meth c s₁ B hml hv
  obtain ⟨rfl, hR, hK, hnw, hX⟩ := hv
  have hts := atoms_spec (ws := xws Tg j) B.pre
  have hin : sm_In Tg NW D base j p s m As.toArray meth c := ⟨B.exec, B.bytes, hml, B.returns, B.notSynchronized, (name_of_methodNamed B.named B.method).1, findClass_of_methodNamed B.named, fun w hw => hts w (List.mem_cons_of_mem _ hw), hnw, hK, hX, ⟨_, hR.2.2.2.2.2⟩, fun _ => by rw [sm_noex B (hts _ List.mem_cons_self), hm.2.2.2.2.2.2]; rfl⟩
  rw [lg_entry_eq]
  refine sm_Wm (fun t ht => ?_) (hrd j 0 _ [] h 0 v h' hrun p e s m As.toArray below meth c s.heap [] 0 0 _ _ _ hin (sm_entry As hlen) hR (fun q hq => by cases hq) hb0 (Nat.zero_add _) (Nat.zero_add _))
  obtain ⟨o, h1, h2, ⟨h3, h4⟩, L, h5, h6⟩ := ht
  exact ⟨o, h1, h2, ⟨h3, h4⟩, L, ⟨⟨v, h3⟩, h5.1, h5.2⟩, h6⟩
end SMS
end
section
theorem sm_goodOf {Tg ws : List Cond} (hg : ∀ w ∈ Tg, sm_good w) (h : ∀ w ∈ ws, w ∈ Tg) : GoodIn Tg ws := fun w hw => ⟨h w hw, hg w (h w hw)⟩
theorem sm_inX {Tg : List Cond} {j : Nat} (hc : Cond.code (xmn j) (xcc j) (xml j) (xrt j) ∈ Tg) : ∀ w ∈ xws Tg j, w ∈ Tg := by
  intro w hw
  rcases List.mem_cons.mp hw with h | h
  · rw [h]; exact hc
  · exact h
theorem sm_inV {Tg : List Cond} {own : String} {x j : Nat} (hm : sm_mok Tg j) (h1 : Cond.methodLink own x (xmn j) ∈ Tg) (h2 : Cond.instanceMethod (xmn j) ∈ Tg) (h3 : Cond.selects (xmn j).cls (xmn j) (xmn j) ∈ Tg) : ∀ w ∈ wsV own x (xmn j).cls (xmn j) (xws Tg j), w ∈ Tg := by
  intro w hw
  unfold wsV at hw
  rcases List.mem_append.mp hw with h | h
  · rcases List.mem_cons.mp h with h | h
    · rw [h]; exact h1
    · rcases List.mem_cons.mp h with h | h
      · rw [h]; exact h2
      · rcases List.mem_cons.mp h with h | h
        · rw [h]; exact h3
        · rw [List.mem_singleton.mp h]; exact hm.2.2.2.2.2.1
  · exact sm_inX hm.1 w h
theorem sm_inS {Tg : List Cond} {own : String} {x j : Nat} (hm : sm_mok Tg j) (h1 : Cond.methodLink own x (xmn j) ∈ Tg) (h2 : Cond.static (xmn j) ∈ Tg) : ∀ w ∈ va_wsS own x (xmn j) (xws Tg j), w ∈ Tg := by
  intro w hw
  unfold va_wsS at hw
  rcases List.mem_append.mp hw with h | h
  · rcases List.mem_cons.mp h with h | h
    · rw [h]; exact h1
    · rcases List.mem_cons.mp h with h | h
      · rw [h]; exact h2
      · rw [List.mem_singleton.mp h]; exact hm.2.2.2.2.2.1
  · exact sm_inX hm.1 w h
set_option maxHeartbeats 4000000 in
theorem sm_road {l : Launch} {Tg NW : List Cond} {D : va_G} {base : Nat} (hst : sm_st Tg NW) (hcp : sm_copy l Tg NW D base) (hth : sm_throws l Tg NW D base) (hct : sm_catches l Tg NW D base) (hhp : sm_helps l Tg NW D base) : ∀ n, sm_Road l Tg NW D base n
  | 0 => by
    intro j pc L S h k v h' r
    cases r
  | n + 1 => by
    have ih := sm_road hst hcp hth hct hhp n
    intro j pc L S h kk v h' r p e s m args below meth c H locs cells slots mc ms ls hin hl hR hf hb0 hmc hms
    obtain ⟨hexec, hb, hml, hret, hlocks, hmn, hown, hts, hnw, hK, hX, hZz, hexT⟩ := id hin
    unfold sm_run at r
    split at r
    · cases r
    · rename_i i d hx
      obtain ⟨⟨len, hdg, hlen⟩, hk, ht, hh, hc⟩ := hst.2.2.2 j pc i d hx
      split at r
      · rename_i ci hx1
        cases r
        obtain ⟨x, rfl, hd, hS0⟩ : ∃ x, i = .new x ∧ d = (ci, 1) ∧ S = [] := by
          unfold sm_th at hx1
          split at hx1
          · split at hx1
            · rename_i q
              split at hx1
              · cases hx1
                exact ⟨_, rfl, by rw [← q], rfl⟩
              · cases hx1
            · cases hx1
          · cases hx1
        subst hd
        subst hS0
        have w1 : hT (thH h ci) = hT h + 1 := rfl
        have w2 : hU (thH h ci) = hU h + 6 := rfl
        exact hth j x pc ci mc ms h p e s m args below meth c H locs cells slots ls hin hl.2.1 hR hf hb0 hx (by omega) (by omega)
      split at r
      · rename_i L' S' hp
        have hsw : sm_isw i = false := by cases i <;> first | rfl | cases hp
        rw [hlen hsw] at hdg
        exact sm_pure hexec hb hdg hk hl hp (fun ls' hl' => ih j _ L' S' h kk v h' r p e s m args below meth c H locs cells slots mc ms ls' hin hl' hR hf hb0 hmc hms)
      · split at r
        · rename_i C t f S' hbr
          have hsw : sm_isw i = false := by cases i <;> first | rfl | cases hbr
          rw [hlen hsw] at hdg
          refine sm_branch hexec hb hdg ht hbr (fun hC => ?_) (fun hC => ?_)
          · rw [if_pos hC] at r
            exact ih j _ L S' h kk v h' r p e s m args below meth c H locs cells slots mc ms ls hin hl hR hf hb0 hmc hms
          · rw [if_neg hC] at r
            exact ih j _ L S' h kk v h' r p e s m args below meth c H locs cells slots mc ms ls hin hl hR hf hb0 hmc hms
        · split at r
          · rename_i t S' hs
            exact sm_switch hexec hb hdg hs (ih j _ L S' h kk v h' r p e s m args below meth c H locs cells slots mc ms ls hin hl hR hf hb0 hmc hms)
          · split at r
            · rename_i S' h1 hh1
              have hsw : sm_isw i = false := by cases i <;> first | rfl | cases hh1
              rw [hlen hsw] at hdg
              have m1 := sm_hp_mono hh1
              have m2 := sm_mono _ _ _ _ _ _ _ _ _ r
              have q1 : cells + (hT h1 - hT h) ≤ mc := by omega
              have q2 : slots + (hU h1 - hU h) ≤ ms := by omega
              exact sm_heap hexec hb hts hnw hst.1 hown hK hR hdg (by rw [hmn]; exact hh) hh1 hf hb0 q1 q2 (fun H' locs' r1 r2 => ih j _ L S' h1 kk v h' r p e s m args below meth c H' locs' _ _ mc ms ls hin hl r1 r2 (Nat.le_trans hb0 m1.1) (by omega) (by omega))
            · split at r
              · rename_i v1 hrt
                cases r
                have hsw : sm_isw i = false := by cases i <;> first | rfl | cases hrt
                rw [hlen hsw] at hdg
                have e1 : cells = mc := by omega
                have e2 : slots = ms := by omega
                subst e1
                subst e2
                refine sm_Wm (fun t ht => ?_) (sm_return (Qc := sm_Qc D base v h) (free := fun q => base ≤ q) hexec hb hdg hret hrt hlocks (fun t ht hW => ⟨rfl, by rw [ht]; exact hR.moved hW.alike⟩) hf)
                obtain ⟨o, g1, g2, g3, L9, g4, g5⟩ := ht
                exact ⟨o, g1, g2, g3, L9, ⟨g4.2.1, g4.2.2⟩, g5⟩
              · split at r
                · rename_i r1 ho
                  unfold sm_oi at ho
                  split at ho
                  · split at ho
                    · rename_i x a r2 hq
                      cases ho
                      obtain ⟨c1, c2, c3, c4⟩ := hc.1 hq.1
                      rw [hlen rfl] at hdg
                      refine W.objInit hexec hb hown (hts _ c2) (hts _ c3) (hts _ c4) rfl (by rw [hml]; exact hl.2.1) rfl hdg c1.1 (Nat.le_trans (Nat.add_le_add_right (lv_room hq.2) 12) c1.2) ?_
                      exact ih j _ L r1 h kk v h' r p e s m args below meth c H locs cells slots mc ms ls hin hl hR hf hb0 hmc hms
                    · cases ho
                  · cases ho
                · split at r
                  · rename_i r1 ho
                    unfold sm_mm at ho
                    split at ho
                    · split at ho
                      · rename_i x y z r2 hsum
                        rw [hlen rfl] at hdg
                        have m2 := sm_mono _ _ _ _ _ _ _ _ _ r
                        split at ho
                        · rename_i hd
                          cases ho
                          obtain ⟨-, c0, c4, -, -⟩ := hc
                          refine va_mmax hexec hb (hml.trans hl.2.1.symm) hown (hts _ (c4 hd).1) (hts _ (c4 hd).2.1) (hts _ (c0 (Or.inl hd)).2) (hts _ (c4 hd).2.2) (c0 (Or.inl hd)).1.1 (Nat.le_trans (Nat.add_le_add_right hsum 13) (c0 (Or.inl hd)).1.2) (by show cells ≤ mc; omega) (by show slots ≤ ms; omega) hdg ?_
                          exact ih j _ L _ h kk v h' r p e s m args below meth c H locs cells slots mc ms ls hin hl hR hf hb0 hmc hms
                        · split at ho
                          · rename_i hd
                            cases ho
                            obtain ⟨-, c0, -, c5, -⟩ := hc
                            refine va_mmin hexec hb (hml.trans hl.2.1.symm) hown (hts _ (c5 hd).1) (hts _ (c5 hd).2.1) (hts _ (c0 (Or.inr hd)).2) (hts _ (c5 hd).2.2) (c0 (Or.inr hd)).1.1 (Nat.le_trans (Nat.add_le_add_right hsum 13) (c0 (Or.inr hd)).1.2) (by show cells ≤ mc; omega) (by show slots ≤ ms; omega) hdg ?_
                            exact ih j _ L _ h kk v h' r p e s m args below meth c H locs cells slots mc ms ls hin hl hR hf hb0 hmc hms
                          · cases ho
                      · cases ho
                    · cases ho
                  · split at r
                    · rename_i S' h1 hx1
                      have m2 := sm_mono _ _ _ _ _ _ _ _ _ r
                      obtain ⟨x, n1, a, r2, rfl, rfl, hq, rfl, rfl⟩ := sm_ex_some hx1
                      rw [hlen rfl] at hdg
                      have w1 : hT (cpA h a n1.toNatClampNeg) = hT h + 1 := rfl
                      have w2 : hU (cpA h a n1.toNatClampNeg) = hU h + n1.toNatClampNeg := rfl
                      exact hcp j x pc mc ms a n1 r2 h p e s m args below meth c H locs cells slots ls _ hin hl.2.1 hR hf hb0 (hc.2.2.2.2 hq.1).1 (hc.2.2.2.2 hq.1).2 hdg hq.2.1 hq.2.2.1 hq.2.2.2.1 hq.2.2.2.2.1 hq.2.2.2.2.2.1 hq.2.2.2.2.2.2 (by omega) (by omega)
                        (fun H' locs' r1 r2 => ih j _ L _ _ kk v h' r p e s m args below meth c H' locs' _ _ mc ms ls hin hl r1 r2 (by omega) (by omega) (by omega))
                    · split at r
                      · rename_i j' As r1 hcl
                        split at r
                        · rename_i v1 h1 hrun
                          have m1 := sm_mono _ _ _ _ _ _ _ _ _ hrun
                          have m2 := sm_mono _ _ _ _ _ _ _ _ _ r
                          have q1 : cells + (hT h1 - hT h) ≤ mc := by omega
                          have q2 : slots + (hU h1 - hU h) ≤ ms := by omega
                          have go : ∀ (H' : Heap) (locs' : List Loc), sm_R D base s h1 H' → (∀ q ∈ locs', base ≤ q.base) → W p l e (sm_rm j mc ms) s m args below meth c H' locs' (cells + (hT h1 - hT h)) (slots + (hU h1 - hU h)) (sm_MQ D base below kk v h' s mc ms) (F0 m (pc + 3) ls (v1.toList ++ r1)) :=
                            fun H' locs' s1 s2 => ih j _ L _ h1 kk v h' r p e s m args below meth c H' locs' _ _ mc ms ls hin hl s1 s2 (Nat.le_trans hb0 m1.1) (by omega) (by omega)
                          unfold sm_cl at hcl
                          split at hcl
                          · rename_i x
                            split at hcl
                            · rename_i hq
                              cases hcl
                              rw [hlen rfl] at hdg
                              by_cases h3 : d.2 = 3
                              · obtain ⟨z, zz⟩ := d
                                cases h3
                                exact hhp n ih j z pc _ z mc ms S _ _ v1 h h1 p e s m args below meth c H locs cells slots ls _ hin hl.2.1 hR hf hb0 hx (by unfold sm_cl; dsimp only; rw [if_pos hq]) hrun q1 q2 go
                              obtain ⟨c1, cm, c2, c3⟩ := hc.1 (by omega)
                              have hM := sm_met hst ih cm hq.2.2.2 hb0 hrun
                              have hrm : xrk d.1 + 1 ≤ xrk j ∧ 8 + (xml d.1 + 11) + xrl d.1 ≤ xrl j := c1
                              have hn : (S.take (xna d.1)).reverse.length = xna d.1 := by rw [List.length_reverse, List.length_take]; omega
                              have hsk : S = (S.take (xna d.1)).reverse.reverse ++ S.drop (xna d.1) := by rw [List.reverse_reverse, List.take_append_drop]
                              rcases c3 with c3 | ⟨host, c3⟩
                              · exact sm_back (va_runS ⟨hexec, hb, hml, hown, hts⟩ hM (va_cwS (xna d.1) hts (sm_goodOf hst.2.1 (sm_inS cm c3 c2)) rfl rfl rfl ⟨cm.2.2.1, cm.2.2.2.1, cm.2.2.2.2.1⟩ hrm) ⟨sm_Pc_blind hst.2.2.1, sm_Pc_at hst.2.2.1 hR hK hnw hX⟩ rfl hn hl.2.1 hsk (lv_room hq.2.2.1) hdg ⟨q1, q2⟩) hf go
                              · exact sm_back (va_runSN ⟨hexec, hb, hml, hown, hts⟩ hM ⟨va_cnB (xna d.1) hts (sm_goodOf hst.2.1 (sm_inX cm.1)) rfl rfl rfl (hnw _ c3) (hts _ cm.2.2.2.2.2.1) ⟨cm.2.2.1, cm.2.2.2.1, cm.2.2.2.2.1⟩ hrm, hts _ c2, trivial⟩ ⟨sm_Pc_blind hst.2.2.1, sm_Pc_at hst.2.2.1 hR hK hnw hX⟩ rfl hn hl.2.1 hsk (lv_room hq.2.2.1) hdg ⟨q1, q2⟩) hf go
                            · cases hcl
                          · rename_i x
                            split at hcl
                            · rename_i b r2 hdrop
                              split at hcl
                              · rename_i hq
                                cases hcl
                                rw [hlen rfl] at hdg
                                obtain ⟨c1, cm, c2, c3, ⟨q, hq1, hq2⟩, c4⟩ := hc
                                have hM := sm_met hst ih cm hq.2.2.2 hb0 hrun
                                have hrm : xrk d.1 + 1 ≤ xrk j ∧ 8 + (xml d.1 + 11) + xrl d.1 ≤ xrl j := c1
                                have hn : (S.take (xna d.1)).reverse.length = xna d.1 := by rw [List.length_reverse, List.length_take]; omega
                                have hsk : S = (S.take (xna d.1)).reverse.reverse ++ .ref b :: r1 := by rw [List.reverse_reverse, ← hdrop, List.take_append_drop]
                                have hrecv : ∃ cellB : Cell, H[b]? = some cellB ∧ cellB.vm.isStatics = false ∧ s.vm.findClass (xmn d.1).cls = some cellB.cls := by
                                  obtain ⟨cell, k1, k2, k3, k4⟩ := hR.2.2.1 b _ q hq.2.1 hq1
                                  exact ⟨cell, k1, by rw [k3]; rfl, by rw [k2, ← hq2]; exact (hK.1 _ q hq1).2.1⟩
                                rcases c4 with c4 | ⟨host, c4⟩
                                · exact sm_back (va_runV ⟨hexec, hb, hml, hown, hts⟩ hM (cwV (xna d.1) hts (sm_goodOf hst.2.1 (sm_inV cm c4 c2 c3)) rfl rfl rfl ⟨rfl, cm.2.2.1, cm.2.2.2.1, cm.2.2.2.2.1⟩ hrm) ⟨sm_Pc_blind hst.2.2.1, hrecv, sm_Pc_at hst.2.2.1 hR hK hnw hX⟩ rfl hn hl.2.1 hsk (lv_room hq.2.2.1) hdg ⟨q1, q2⟩) hf go
                                · exact sm_back (va_runVN ⟨hexec, hb, hml, hown, hts⟩ hM ⟨va_cnB (xna d.1) hts (sm_goodOf hst.2.1 (sm_inX cm.1)) rfl rfl rfl (hnw _ c4) (hts _ cm.2.2.2.2.2.1) ⟨cm.2.2.1, cm.2.2.2.1, cm.2.2.2.2.1⟩ hrm, hts _ c2, hts _ c3⟩ ⟨sm_Pc_blind hst.2.2.1, hrecv, sm_Pc_at hst.2.2.1 hR hK hnw hX⟩ rfl hn hl.2.1 hsk (lv_room hq.2.2.1) hdg ⟨q1, q2⟩) hf go
                              · cases hcl
                            · cases hcl
                          · rename_i x
                            split at hcl
                            · cases hcl
                            · rename_i hd2
                              split at hcl
                              · rename_i b r2 hdrop
                                split at hcl
                                · rename_i hq
                                  cases hcl
                                  rw [hlen rfl] at hdg
                                  obtain ⟨c1, cm, cn, cr, c2, c4⟩ := hc.2 hd2
                                  have hM := sm_met hst ih cm hq.2.2 hb0 hrun
                                  have hrm : xrk d.1 + 1 ≤ xrk j ∧ 8 + (xml d.1 + 11) + xrl d.1 ≤ xrl j := c1
                                  have hn : (S.take (xna d.1)).reverse.length = xna d.1 := by rw [List.length_reverse, List.length_take]; omega
                                  have hsk : S = (S.take (xna d.1)).reverse.reverse ++ .ref b :: r1 := by rw [List.reverse_reverse, ← hdrop, List.take_append_drop]
                                  have hw9 : xws Tg d.1 = Cond.code (xmn d.1) (xcc d.1) (xml d.1) none :: Tg := by unfold xws; rw [cr]
                                  rcases c4 with c4 | ⟨host, c4⟩
                                  · exact sm_back (va_runI ⟨hexec, hb, hml, hown, hts⟩ hM (cwI (xna d.1) hts (sm_goodOf hst.2.1 (sm_inX cm.1)) hw9 rfl rfl (hts _ cm.2.2.2.2.2.1) (hts _ c4) (hts _ c2) cn ⟨cm.2.2.1, cm.2.2.2.1, cm.2.2.2.2.1⟩ hrm) ⟨sm_Pc_blind hst.2.2.1, sm_Pc_at hst.2.2.1 hR hK hnw hX⟩ rfl hn hl.2.1 hsk (lv_room hq.2.1) hdg ⟨q1, q2⟩) hf go
                                  · exact sm_back (va_runIN ⟨hexec, hb, hml, hown, hts⟩ hM ⟨va_cnB (xna d.1) hts (sm_goodOf hst.2.1 (sm_inX cm.1)) hw9 rfl rfl (hnw _ c4) (hts _ cm.2.2.2.2.2.1) ⟨cm.2.2.1, cm.2.2.2.1, cm.2.2.2.2.1⟩ hrm, cn, hts _ c2⟩ ⟨sm_Pc_blind hst.2.2.1, sm_Pc_at hst.2.2.1 hR hK hnw hX⟩ rfl hn hl.2.1 hsk (lv_room hq.2.1) hdg ⟨q1, q2⟩) hf go
                                · cases hcl
                              · cases hcl
                          · cases hcl
                        · rename_i k a h1 hrun
                          split at r
                          · rename_i hp hhd
                            have m1 := sm_mono _ _ _ _ _ _ _ _ _ hrun
                            have m2 := sm_mono _ _ _ _ _ _ _ _ _ r
                            exact hct n ih j j' pc k a hp mc ms i d S As r1 h h1 p e s m args below meth c H locs cells slots ls _ hin hl.2.1 hR hf hb0 hx hcl hrun hhd (by omega) (by omega)
                              (fun H' locs' s1 s2 => ih j _ L _ h1 kk v h' r p e s m args below meth c H' locs' _ _ mc ms ls hin hl s1 s2 (Nat.le_trans hb0 m1.1) (by omega) (by omega))
                          · cases r
                        · cases r
                      · cases r
end
section
/-! HOW THE SMALL MACHINE IS REASONED OF: from this place it comes to an end (0: it returns; 1 + ci: it throws) of which Q holds -/
def sm_wp (j pc : Nat) (L S : List Value) (h : sm_H) (Q : Nat → Option Value → sm_H → Prop) : Prop := ∃ (n k : Nat) (v : Option Value) (h' : sm_H), sm_run n j pc L S h = some (k, v, h') ∧ Q k v h'
theorem sm_moreN {n j pc : Nat} {L S : List Value} {h : sm_H} {x : Nat × Option Value × sm_H} (r : sm_run n j pc L S h = some x) : ∀ k, sm_run (n + k) j pc L S h = some x
  | 0 => r
  | k + 1 => sm_more (n + k) j pc L S h x (sm_moreN r k)
theorem sm_th_ps {i : Instr} {d : Nat × Nat} {L S : List Value} {x : List Value × List Value} (h : sm_ps i d L S = some x) : sm_th i d S = none := by
  cases i <;> first | rfl | cases h
section SMW
variable {j pc : Nat} {L S L' S' : List Value} {h h' : sm_H} {Q : Nat → Option Value → sm_H → Prop} {i : Instr} {d : Nat × Nat} {t : Nat → Option (Instr × Nat × Nat)}
theorem wp_mono {Q' : Nat → Option Value → sm_H → Prop} (k : sm_wp j pc L S h Q) (hq : ∀ k v h', Q k v h' → Q' k v h') : sm_wp j pc L S h Q' := by
  obtain ⟨n, kk, v, h', r, q⟩ := k
  exact ⟨n, kk, v, h', r, hq kk v h' q⟩
theorem wp_pure (hx : sm_tab j t) (hi : t pc = some (i, d)) (hp : sm_ps i d L S = some (L', S')) (k : sm_wp j (pc + sm_len i) L' S' h Q) : sm_wp j pc L S h Q := by
  obtain ⟨n, kk, v, h', r, q⟩ := k
  refine ⟨n + 1, kk, v, h', ?_, q⟩
  unfold sm_run
  rw [hx _ _ hi]
  dsimp only
  rw [sm_th_ps hp, hp]
  exact r
theorem wp_br (hx : sm_tab j t) (hi : t pc = some (i, d)) (h0 : sm_th i d S = none) (h1 : sm_ps i d L S = none) {C : Prop} {a b : Nat} (hb : sm_br i d pc S = some (C, a, b, S')) (kt : C → sm_wp j a L S' h Q) (kf : ¬ C → sm_wp j b L S' h Q) : sm_wp j pc L S h Q := by
  by_cases hC : C
  · obtain ⟨n, kk, v, h', r, q⟩ := kt hC
    refine ⟨n + 1, kk, v, h', ?_, q⟩
    unfold sm_run
    rw [hx _ _ hi]
    dsimp only
    rw [h0, h1, hb]
    dsimp only
    rw [if_pos hC]
    exact r
  · obtain ⟨n, kk, v, h', r, q⟩ := kf hC
    refine ⟨n + 1, kk, v, h', ?_, q⟩
    unfold sm_run
    rw [hx _ _ hi]
    dsimp only
    rw [h0, h1, hb]
    dsimp only
    rw [if_neg hC]
    exact r
theorem wp_sw (hx : sm_tab j t) (hi : t pc = some (i, d)) (h0 : sm_th i d S = none) (h1 : sm_ps i d L S = none) (h2 : sm_br i d pc S = none) {a : Nat} (hs : sm_sw i pc S = some (a, S')) (k : sm_wp j a L S' h Q) : sm_wp j pc L S h Q := by
  obtain ⟨n, kk, v, h', r, q⟩ := k
  refine ⟨n + 1, kk, v, h', ?_, q⟩
  unfold sm_run
  rw [hx _ _ hi]
  dsimp only
  rw [h0, h1, h2, hs]
  exact r
theorem wp_hp (hx : sm_tab j t) (hi : t pc = some (i, d)) (h0 : sm_th i d S = none) (h1 : sm_ps i d L S = none) (h2 : sm_br i d pc S = none) (h3 : sm_sw i pc S = none) (hh : sm_hp i d S h = some (S', h')) (k : sm_wp j (pc + sm_len i) L S' h' Q) : sm_wp j pc L S h Q := by
  obtain ⟨n, kk, v, h'', r, q⟩ := k
  refine ⟨n + 1, kk, v, h'', ?_, q⟩
  unfold sm_run
  rw [hx _ _ hi]
  dsimp only
  rw [h0, h1, h2, h3, hh]
  exact r
theorem wp_rt (hx : sm_tab j t) (hi : t pc = some (i, d)) (h0 : sm_th i d S = none) (h1 : sm_ps i d L S = none) (h2 : sm_br i d pc S = none) (h3 : sm_sw i pc S = none) (h4 : sm_hp i d S h = none) {v : Option Value} (hr : sm_rt i (xrt j) S = some v) (k : Q 0 v h) : sm_wp j pc L S h Q := by
  refine ⟨1, 0, v, h, ?_, k⟩
  unfold sm_run
  rw [hx _ _ hi]
  dsimp only
  rw [h0, h1, h2, h3, h4, hr]
theorem wp_th (hx : sm_tab j t) {x ci : Nat} (hi : t pc = some (.new x, ci, 1)) (k : Q (ci + 1) (some (.ref (hT h))) (thH h ci)) : sm_wp j pc L [] h Q := by
  refine ⟨1, _, _, _, ?_, k⟩
  unfold sm_run
  rw [hx _ _ hi]
  rfl
theorem wp_oi (hx : sm_tab j t) {x : Nat} (hi : t pc = some (.invokespecial x, d)) {r : List Value} (hr : sm_oi (.invokespecial x) d S = some r) (k : sm_wp j (pc + 3) L r h Q) : sm_wp j pc L S h Q := by
  obtain ⟨n, kk, v, h', r, q⟩ := k
  refine ⟨n + 1, kk, v, h', ?_, q⟩
  unfold sm_run
  rw [hx _ _ hi]
  dsimp only [sm_th, sm_ps, sm_br, sm_sw, sm_hp, sm_rt]
  rw [hr]
  exact r
theorem wp_mm (hx : sm_tab j t) {x : Nat} (hi : t pc = some (.invokestatic x, d)) {r : List Value} (hr : sm_mm (.invokestatic x) d S = some r) (k : sm_wp j (pc + 3) L r h Q) : sm_wp j pc L S h Q := by
  obtain ⟨n, kk, v, h', r, q⟩ := k
  refine ⟨n + 1, kk, v, h', ?_, q⟩
  unfold sm_run
  rw [hx _ _ hi]
  dsimp only [sm_th, sm_ps, sm_br, sm_sw, sm_hp, sm_rt, sm_oi]
  rw [hr]
  exact r
theorem wp_ex (hx : sm_tab j t) {x : Nat} (hi : t pc = some (.invokestatic x, d)) (h7 : sm_mm (.invokestatic x) d S = none) (hr : sm_ex (.invokestatic x) d S h = some (S', h')) (k : sm_wp j (pc + 3) L S' h' Q) : sm_wp j pc L S h Q := by
  obtain ⟨n, kk, v, h'', r, q⟩ := k
  refine ⟨n + 1, kk, v, h'', ?_, q⟩
  unfold sm_run
  rw [hx _ _ hi]
  dsimp only [sm_th, sm_ps, sm_br, sm_sw, sm_hp, sm_rt, sm_oi]
  rw [h7, hr]
  exact r
/-- a call: what comes back, or what is caught -/
theorem wp_callX (hx : sm_tab j t) (hi : t pc = some (i, d)) (h0 : sm_th i d S = none) (h1 : sm_ps i d L S = none) (h2 : sm_br i d pc S = none) (h3 : sm_sw i pc S = none) (h4 : sm_hp i d S h = none) (h5 : sm_rt i (xrt j) S = none) (h6 : sm_oi i d S = none) (h7 : sm_mm i d S = none) (h8 : sm_ex i d S h = none) {j' : Nat} {As r : List Value} (hc : sm_cl i d S h = some (j', As, r))
    (k : sm_wp j' 0 (sm_en As (xml j')) [] h (fun k v h' => (k = 0 ∧ sm_wp j (pc + 3) L (v.toList ++ r) h' Q) ∨ ∃ k' a hp, k = k' + 1 ∧ v = some (.ref a) ∧ xhi i j pc k' = some hp ∧ sm_wp j hp L [.ref a] h' Q)) : sm_wp j pc L S h Q := by
  obtain ⟨n1, k1, v1, h1', r1, hk⟩ := k
  rcases hk with ⟨rfl, n2, k2, v2, h2', r2, q⟩ | ⟨k', a, hp, rfl, rfl, hhd, n2, k2, v2, h2', r2, q⟩
  · refine ⟨n1 + n2 + 1, k2, v2, h2', ?_, q⟩
    unfold sm_run
    rw [hx _ _ hi]
    dsimp only
    rw [h0, h1, h2, h3, h4, h5, h6, h7, h8, hc]
    dsimp only
    rw [sm_moreN r1 n2]
    dsimp only
    rw [Nat.add_comm n1 n2]
    exact sm_moreN r2 n1
  · refine ⟨n1 + n2 + 1, k2, v2, h2', ?_, q⟩
    unfold sm_run
    rw [hx _ _ hi]
    dsimp only
    rw [h0, h1, h2, h3, h4, h5, h6, h7, h8, hc]
    dsimp only
    rw [sm_moreN r1 n2]
    dsimp only
    rw [hhd]
    dsimp only
    rw [Nat.add_comm n1 n2]
    exact sm_moreN r2 n1
theorem wp_call (hx : sm_tab j t) (hi : t pc = some (i, d)) (h0 : sm_th i d S = none) (h1 : sm_ps i d L S = none) (h2 : sm_br i d pc S = none) (h3 : sm_sw i pc S = none) (h4 : sm_hp i d S h = none) (h5 : sm_rt i (xrt j) S = none) (h6 : sm_oi i d S = none) (h7 : sm_mm i d S = none) (h8 : sm_ex i d S h = none) {j' : Nat} {As r : List Value} (hc : sm_cl i d S h = some (j', As, r))
    (k : sm_wp j' 0 (sm_en As (xml j')) [] h (fun k v h' => k = 0 ∧ sm_wp j (pc + 3) L (v.toList ++ r) h' Q)) : sm_wp j pc L S h Q := wp_callX hx hi h0 h1 h2 h3 h4 h5 h6 h7 h8 hc (wp_mono k (fun _ _ _ q => Or.inl q))
end SMW
end
section
/-- a method's link, or Object's constructor's -/
def sm_lm (own : String) (e : Nat × Nat × Nat) : Prop := (e.2.2 = 2 → Cond.methodLink own e.1 Lib.objectInit ∈ Tg) ∧ (e.2.2 < 2 → Cond.methodLink own e.1 (xmn e.2.1) ∈ Tg ∨ ∃ host, Cond.methodLinkNest own e.1 (xmn e.2.1) host ∈ NW) ∧ (e.2.2 = 4 → Cond.methodLink own e.1 Lib.Math.max.name ∈ Tg) ∧ (e.2.2 = 5 → Cond.methodLink own e.1 Lib.Math.min.name ∈ Tg) ∧ (e.2.2 = 6 → Cond.methodLink own e.1 sm_cname ∈ Tg) ∧ (e.2.2 = 3 → Cond.methodLink own e.1 (xmn e.2.1) ∈ Tg)
def sm_mf (j : Nat) : Prop := (xkd j ≤ 3 → sm_mok Tg j) ∧ (xkd j = 0 → Cond.instanceMethod (xmn j) ∈ Tg ∧ Cond.selects (xmn j).cls (xmn j) (xmn j) ∈ Tg ∧ ∃ q : vw_C, xcl[xrc j]? = some q ∧ q.1 = (xmn j).cls) ∧ (xkd j = 1 → Cond.static (xmn j) ∈ Tg) ∧ (xkd j = 2 → Cond.instanceMethod (xmn j) ∈ Tg ∧ (xmn j).name = "<init>" ∧ xrt j = none)
theorem xmath : Cond.initialized "java/lang/Math" ∈ Tg ∧ (Cond.static Lib.Math.max.name ∈ Tg ∧ Cond.code Lib.Math.max.name Lib.Math.max.code 2 (some .int) ∈ Tg) ∧ (Cond.static Lib.Math.min.name ∈ Tg ∧ Cond.code Lib.Math.min.name Lib.Math.min.code 2 (some .int) ∈ Tg) := ⟨tw_7, ⟨tw_114, tw_115⟩, ⟨tw_148, tw_149⟩⟩
theorem xoi : Cond.instanceMethod Lib.objectInit ∈ Tg ∧ Cond.code Lib.objectInit ⟨#[0xb1]⟩ 1 none ∈ Tg := ⟨tw_33, tw_34⟩
theorem xlF_0 : ∀ e ∈ ([(9, 0, 0), (16, 0, 4), (23, 0, 6), (34, 0, 8), (41, 0, 10), (48, 0, 12), (52, 0, 14), (63, 0, 2), (94, 1, 1), (110, 6, 3), (115, 6, 5), (118, 6, 7), (121, 6, 9), (124, 6, 11), (127, 6, 13), (130, 6, 15), (133, 6, 17), (142, 4, 1), (156, 2, 1), (157, 2, 3), (160, 2, 5), (197, 6, 21), (200, 0, 16), (212, 7, 3), (217, 7, 1), (218, 1, 3), (221, 1, 5)] : List (Nat × Nat × Nat)), sm_fok Tg NW (xon 0) e.1 e.2.1 (e.2.2 / 2) (e.2.2 % 2) := List.forall_mem_cons.mpr ⟨⟨_, "BuildingText", rfl, by decide, Or.inl rfl, Or.inl ⟨rfl, tw_212⟩⟩, List.forall_mem_cons.mpr ⟨⟨_, "BuildingText", rfl, by decide, Or.inl rfl, Or.inl ⟨rfl, tw_214⟩⟩, List.forall_mem_cons.mpr ⟨⟨_, "BuildingText", rfl, by decide, Or.inl rfl, Or.inl ⟨rfl, tw_215⟩⟩, List.forall_mem_cons.mpr ⟨⟨_, "BuildingText", rfl, by decide, Or.inl rfl, Or.inl ⟨rfl, tw_216⟩⟩, List.forall_mem_cons.mpr ⟨⟨_, "BuildingText", rfl, by decide, Or.inl rfl, Or.inl ⟨rfl, tw_217⟩⟩, List.forall_mem_cons.mpr ⟨⟨_, "BuildingText", rfl, by decide, Or.inl rfl, Or.inl ⟨rfl, tw_218⟩⟩, List.forall_mem_cons.mpr ⟨⟨_, "BuildingText", rfl, by decide, Or.inl rfl, Or.inl ⟨rfl, tw_219⟩⟩, List.forall_mem_cons.mpr ⟨⟨_, "BuildingText", rfl, by decide, Or.inl rfl, Or.inl ⟨rfl, tw_213⟩⟩, List.forall_mem_cons.mpr ⟨⟨_, "BuildingText$Edition", rfl, by decide, Or.inl rfl, Or.inr ⟨by decide, _, nw_75⟩⟩, List.forall_mem_cons.mpr ⟨⟨_, "BuildingText$Place", rfl, by decide, Or.inl rfl, Or.inr ⟨by decide, _, nw_494⟩⟩, List.forall_mem_cons.mpr ⟨⟨_, "BuildingText$Place", rfl, by decide, Or.inl rfl, Or.inr ⟨by decide, _, nw_497⟩⟩, List.forall_mem_cons.mpr ⟨⟨_, "BuildingText$Place", rfl, by decide, Or.inl rfl, Or.inr ⟨by decide, _, nw_502⟩⟩, List.forall_mem_cons.mpr ⟨⟨_, "BuildingText$Place", rfl, by decide, Or.inl rfl, Or.inr ⟨by decide, _, nw_505⟩⟩, List.forall_mem_cons.mpr ⟨⟨_, "BuildingText$Place", rfl, by decide, Or.inl rfl, Or.inr ⟨by decide, _, nw_510⟩⟩, List.forall_mem_cons.mpr ⟨⟨_, "BuildingText$Place", rfl, by decide, Or.inl rfl, Or.inr ⟨by decide, _, nw_514⟩⟩, List.forall_mem_cons.mpr ⟨⟨_, "BuildingText$Place", rfl, by decide, Or.inl rfl, Or.inr ⟨by decide, _, nw_520⟩⟩, List.forall_mem_cons.mpr ⟨⟨_, "BuildingText$Place", rfl, by decide, Or.inl rfl, Or.inr ⟨by decide, _, nw_522⟩⟩, List.forall_mem_cons.mpr ⟨⟨_, "BuildingText$Inspection", rfl, by decide, Or.inl rfl, Or.inr ⟨by decide, _, nw_193⟩⟩, List.forall_mem_cons.mpr ⟨⟨_, "BuildingText$Fault", rfl, by decide, Or.inl rfl, Or.inr ⟨by decide, _, nw_691⟩⟩, List.forall_mem_cons.mpr ⟨⟨_, "BuildingText$Fault", rfl, by decide, Or.inl rfl, Or.inr ⟨by decide, _, nw_693⟩⟩, List.forall_mem_cons.mpr ⟨⟨_, "BuildingText$Fault", rfl, by decide, Or.inl rfl, Or.inr ⟨by decide, _, nw_695⟩⟩, List.forall_mem_cons.mpr ⟨⟨_, "BuildingText$Place", rfl, by decide, Or.inl rfl, Or.inr ⟨by decide, _, nw_526⟩⟩, List.forall_mem_cons.mpr ⟨⟨_, "BuildingText", rfl, by decide, Or.inl rfl, Or.inl ⟨rfl, tw_220⟩⟩, List.forall_mem_cons.mpr ⟨⟨_, "BuildingText$Plan", rfl, by decide, Or.inl rfl, Or.inr ⟨by decide, _, nw_206⟩⟩, List.forall_mem_cons.mpr ⟨⟨_, "BuildingText$Plan", rfl, by decide, Or.inl rfl, Or.inr ⟨by decide, _, nw_204⟩⟩, List.forall_mem_cons.mpr ⟨⟨_, "BuildingText$Edition", rfl, by decide, Or.inl rfl, Or.inr ⟨by decide, _, nw_78⟩⟩, List.forall_mem_cons.mpr ⟨⟨_, "BuildingText$Edition", rfl, by decide, Or.inl rfl, Or.inr ⟨by decide, _, nw_81⟩⟩, fun _ h => absurd h List.not_mem_nil⟩⟩⟩⟩⟩⟩⟩⟩⟩⟩⟩⟩⟩⟩⟩⟩⟩⟩⟩⟩⟩⟩⟩⟩⟩⟩⟩
theorem xlF_1 : ∀ e ∈ ([(12, 1, 0), (18, 1, 2), (21, 1, 4), (24, 1, 6), (37, 6, 1), (41, 6, 3), (52, 6, 13), (59, 6, 15), (71, 6, 17), (74, 6, 19)] : List (Nat × Nat × Nat)), sm_fok Tg NW (xon 1) e.1 e.2.1 (e.2.2 / 2) (e.2.2 % 2) := List.forall_mem_cons.mpr ⟨⟨_, "BuildingText$Edition", rfl, by decide, Or.inl rfl, Or.inl ⟨rfl, tw_70⟩⟩, List.forall_mem_cons.mpr ⟨⟨_, "BuildingText$Edition", rfl, by decide, Or.inl rfl, Or.inl ⟨rfl, tw_76⟩⟩, List.forall_mem_cons.mpr ⟨⟨_, "BuildingText$Edition", rfl, by decide, Or.inl rfl, Or.inl ⟨rfl, tw_79⟩⟩, List.forall_mem_cons.mpr ⟨⟨_, "BuildingText$Edition", rfl, by decide, Or.inl rfl, Or.inl ⟨rfl, tw_82⟩⟩, List.forall_mem_cons.mpr ⟨⟨_, "BuildingText$Place", rfl, by decide, Or.inl rfl, Or.inr ⟨by decide, _, nw_488⟩⟩, List.forall_mem_cons.mpr ⟨⟨_, "BuildingText$Place", rfl, by decide, Or.inl rfl, Or.inr ⟨by decide, _, nw_492⟩⟩, List.forall_mem_cons.mpr ⟨⟨_, "BuildingText$Place", rfl, by decide, Or.inl rfl, Or.inr ⟨by decide, _, nw_515⟩⟩, List.forall_mem_cons.mpr ⟨⟨_, "BuildingText$Place", rfl, by decide, Or.inl rfl, Or.inr ⟨by decide, _, nw_521⟩⟩, List.forall_mem_cons.mpr ⟨⟨_, "BuildingText$Place", rfl, by decide, Or.inl rfl, Or.inr ⟨by decide, _, nw_523⟩⟩, List.forall_mem_cons.mpr ⟨⟨_, "BuildingText$Place", rfl, by decide, Or.inl rfl, Or.inr ⟨by decide, _, nw_525⟩⟩, fun _ h => absurd h List.not_mem_nil⟩⟩⟩⟩⟩⟩⟩⟩⟩⟩
theorem xlF_2 : ∀ e ∈ ([(7, 2, 0), (13, 2, 2), (16, 2, 4)] : List (Nat × Nat × Nat)), sm_fok Tg NW (xon 2) e.1 e.2.1 (e.2.2 / 2) (e.2.2 % 2) := List.forall_mem_cons.mpr ⟨⟨_, "BuildingText$Fault", rfl, by decide, Or.inl rfl, Or.inl ⟨rfl, tw_690⟩⟩, List.forall_mem_cons.mpr ⟨⟨_, "BuildingText$Fault", rfl, by decide, Or.inl rfl, Or.inl ⟨rfl, tw_692⟩⟩, List.forall_mem_cons.mpr ⟨⟨_, "BuildingText$Fault", rfl, by decide, Or.inl rfl, Or.inl ⟨rfl, tw_694⟩⟩, fun _ h => absurd h List.not_mem_nil⟩⟩⟩
theorem xlF_3 : ∀ e ∈ ([(9, 3, 0), (15, 3, 2), (18, 3, 4), (24, 1, 1), (36, 3, 6), (52, 6, 3), (55, 3, 8), (59, 6, 15), (66, 3, 10), (69, 3, 12), (72, 1, 3), (77, 5, 1), (80, 5, 3), (87, 5, 5), (91, 1, 7)] : List (Nat × Nat × Nat)), sm_fok Tg NW (xon 3) e.1 e.2.1 (e.2.2 / 2) (e.2.2 % 2) := List.forall_mem_cons.mpr ⟨⟨_, "BuildingText$Going", rfl, by decide, Or.inl rfl, Or.inl ⟨rfl, tw_161⟩⟩, List.forall_mem_cons.mpr ⟨⟨_, "BuildingText$Going", rfl, by decide, Or.inl rfl, Or.inl ⟨rfl, tw_162⟩⟩, List.forall_mem_cons.mpr ⟨⟨_, "BuildingText$Going", rfl, by decide, Or.inl rfl, Or.inl ⟨rfl, tw_163⟩⟩, List.forall_mem_cons.mpr ⟨⟨_, "BuildingText$Edition", rfl, by decide, Or.inl rfl, Or.inr ⟨by decide, _, nw_71⟩⟩, List.forall_mem_cons.mpr ⟨⟨_, "BuildingText$Going", rfl, by decide, Or.inl rfl, Or.inl ⟨rfl, tw_164⟩⟩, List.forall_mem_cons.mpr ⟨⟨_, "BuildingText$Place", rfl, by decide, Or.inl rfl, Or.inr ⟨by decide, _, nw_491⟩⟩, List.forall_mem_cons.mpr ⟨⟨_, "BuildingText$Going", rfl, by decide, Or.inl rfl, Or.inl ⟨rfl, tw_165⟩⟩, List.forall_mem_cons.mpr ⟨⟨_, "BuildingText$Place", rfl, by decide, Or.inl rfl, Or.inr ⟨by decide, _, nw_517⟩⟩, List.forall_mem_cons.mpr ⟨⟨_, "BuildingText$Going", rfl, by decide, Or.inl rfl, Or.inl ⟨rfl, tw_166⟩⟩, List.forall_mem_cons.mpr ⟨⟨_, "BuildingText$Going", rfl, by decide, Or.inl rfl, Or.inl ⟨rfl, tw_167⟩⟩, List.forall_mem_cons.mpr ⟨⟨_, "BuildingText$Edition", rfl, by decide, Or.inl rfl, Or.inr ⟨by decide, _, nw_77⟩⟩, List.forall_mem_cons.mpr ⟨⟨_, "BuildingText$Link", rfl, by decide, Or.inl rfl, Or.inr ⟨by decide, _, nw_583⟩⟩, List.forall_mem_cons.mpr ⟨⟨_, "BuildingText$Link", rfl, by decide, Or.inl rfl, Or.inr ⟨by decide, _, nw_586⟩⟩, List.forall_mem_cons.mpr ⟨⟨_, "BuildingText$Link", rfl, by decide, Or.inl rfl, Or.inr ⟨by decide, _, nw_590⟩⟩, List.forall_mem_cons.mpr ⟨⟨_, "BuildingText$Edition", rfl, by decide, Or.inl rfl, Or.inr ⟨by decide, _, nw_83⟩⟩, fun _ h => absurd h List.not_mem_nil⟩⟩⟩⟩⟩⟩⟩⟩⟩⟩⟩⟩⟩⟩⟩
theorem xlF_4 : ∀ e ∈ ([(12, 4, 0), (21, 1, 1), (36, 6, 3), (54, 6, 15), (74, 6, 13), (80, 1, 5), (85, 5, 1), (88, 5, 3), (97, 6, 19)] : List (Nat × Nat × Nat)), sm_fok Tg NW (xon 4) e.1 e.2.1 (e.2.2 / 2) (e.2.2 % 2) := List.forall_mem_cons.mpr ⟨⟨_, "BuildingText$Inspection", rfl, by decide, Or.inl rfl, Or.inl ⟨rfl, tw_192⟩⟩, List.forall_mem_cons.mpr ⟨⟨_, "BuildingText$Edition", rfl, by decide, Or.inl rfl, Or.inr ⟨by decide, _, nw_72⟩⟩, List.forall_mem_cons.mpr ⟨⟨_, "BuildingText$Place", rfl, by decide, Or.inl rfl, Or.inr ⟨by decide, _, nw_490⟩⟩, List.forall_mem_cons.mpr ⟨⟨_, "BuildingText$Place", rfl, by decide, Or.inl rfl, Or.inr ⟨by decide, _, nw_518⟩⟩, List.forall_mem_cons.mpr ⟨⟨_, "BuildingText$Place", rfl, by decide, Or.inl rfl, Or.inr ⟨by decide, _, nw_513⟩⟩, List.forall_mem_cons.mpr ⟨⟨_, "BuildingText$Edition", rfl, by decide, Or.inl rfl, Or.inr ⟨by decide, _, nw_80⟩⟩, List.forall_mem_cons.mpr ⟨⟨_, "BuildingText$Link", rfl, by decide, Or.inl rfl, Or.inr ⟨by decide, _, nw_584⟩⟩, List.forall_mem_cons.mpr ⟨⟨_, "BuildingText$Link", rfl, by decide, Or.inl rfl, Or.inr ⟨by decide, _, nw_587⟩⟩, List.forall_mem_cons.mpr ⟨⟨_, "BuildingText$Place", rfl, by decide, Or.inl rfl, Or.inr ⟨by decide, _, nw_524⟩⟩, fun _ h => absurd h List.not_mem_nil⟩⟩⟩⟩⟩⟩⟩⟩⟩
theorem xlF_5 : ∀ e ∈ ([(7, 5, 0), (13, 5, 2), (16, 5, 4)] : List (Nat × Nat × Nat)), sm_fok Tg NW (xon 5) e.1 e.2.1 (e.2.2 / 2) (e.2.2 % 2) := List.forall_mem_cons.mpr ⟨⟨_, "BuildingText$Link", rfl, by decide, Or.inl rfl, Or.inl ⟨rfl, tw_582⟩⟩, List.forall_mem_cons.mpr ⟨⟨_, "BuildingText$Link", rfl, by decide, Or.inl rfl, Or.inl ⟨rfl, tw_585⟩⟩, List.forall_mem_cons.mpr ⟨⟨_, "BuildingText$Link", rfl, by decide, Or.inl rfl, Or.inl ⟨rfl, tw_589⟩⟩, fun _ h => absurd h List.not_mem_nil⟩⟩⟩
theorem xlF_6 : ∀ e ∈ ([(9, 6, 0), (15, 6, 2), (18, 6, 4), (21, 6, 6), (24, 6, 8), (27, 6, 10), (30, 6, 14)] : List (Nat × Nat × Nat)), sm_fok Tg NW (xon 6) e.1 e.2.1 (e.2.2 / 2) (e.2.2 % 2) := List.forall_mem_cons.mpr ⟨⟨_, "BuildingText$Place", rfl, by decide, Or.inl rfl, Or.inl ⟨rfl, tw_487⟩⟩, List.forall_mem_cons.mpr ⟨⟨_, "BuildingText$Place", rfl, by decide, Or.inl rfl, Or.inl ⟨rfl, tw_489⟩⟩, List.forall_mem_cons.mpr ⟨⟨_, "BuildingText$Place", rfl, by decide, Or.inl rfl, Or.inl ⟨rfl, tw_496⟩⟩, List.forall_mem_cons.mpr ⟨⟨_, "BuildingText$Place", rfl, by decide, Or.inl rfl, Or.inl ⟨rfl, tw_500⟩⟩, List.forall_mem_cons.mpr ⟨⟨_, "BuildingText$Place", rfl, by decide, Or.inl rfl, Or.inl ⟨rfl, tw_504⟩⟩, List.forall_mem_cons.mpr ⟨⟨_, "BuildingText$Place", rfl, by decide, Or.inl rfl, Or.inl ⟨rfl, tw_508⟩⟩, List.forall_mem_cons.mpr ⟨⟨_, "BuildingText$Place", rfl, by decide, Or.inl rfl, Or.inl ⟨rfl, tw_516⟩⟩, fun _ h => absurd h List.not_mem_nil⟩⟩⟩⟩⟩⟩⟩
theorem xlF_7 : ∀ e ∈ ([(11, 7, 0), (31, 1, 1), (49, 6, 7), (53, 6, 11), (62, 7, 2), (65, 6, 3), (72, 1, 7), (77, 5, 3), (80, 6, 5), (83, 6, 9)] : List (Nat × Nat × Nat)), sm_fok Tg NW (xon 7) e.1 e.2.1 (e.2.2 / 2) (e.2.2 % 2) := List.forall_mem_cons.mpr ⟨⟨_, "BuildingText$Plan", rfl, by decide, Or.inl rfl, Or.inl ⟨rfl, tw_203⟩⟩, List.forall_mem_cons.mpr ⟨⟨_, "BuildingText$Edition", rfl, by decide, Or.inl rfl, Or.inr ⟨by decide, _, nw_73⟩⟩, List.forall_mem_cons.mpr ⟨⟨_, "BuildingText$Place", rfl, by decide, Or.inl rfl, Or.inr ⟨by decide, _, nw_501⟩⟩, List.forall_mem_cons.mpr ⟨⟨_, "BuildingText$Place", rfl, by decide, Or.inl rfl, Or.inr ⟨by decide, _, nw_509⟩⟩, List.forall_mem_cons.mpr ⟨⟨_, "BuildingText$Plan", rfl, by decide, Or.inl rfl, Or.inl ⟨rfl, tw_205⟩⟩, List.forall_mem_cons.mpr ⟨⟨_, "BuildingText$Place", rfl, by decide, Or.inl rfl, Or.inr ⟨by decide, _, nw_493⟩⟩, List.forall_mem_cons.mpr ⟨⟨_, "BuildingText$Edition", rfl, by decide, Or.inl rfl, Or.inr ⟨by decide, _, nw_84⟩⟩, List.forall_mem_cons.mpr ⟨⟨_, "BuildingText$Link", rfl, by decide, Or.inl rfl, Or.inr ⟨by decide, _, nw_588⟩⟩, List.forall_mem_cons.mpr ⟨⟨_, "BuildingText$Place", rfl, by decide, Or.inl rfl, Or.inr ⟨by decide, _, nw_498⟩⟩, List.forall_mem_cons.mpr ⟨⟨_, "BuildingText$Place", rfl, by decide, Or.inl rfl, Or.inr ⟨by decide, _, nw_506⟩⟩, fun _ h => absurd h List.not_mem_nil⟩⟩⟩⟩⟩⟩⟩⟩⟩⟩
theorem xlF_8 : ∀ e ∈ ([(9, 8, 0), (15, 8, 2), (19, 8, 4), (23, 8, 6), (27, 8, 10), (30, 8, 8), (73, 1, 1), (92, 6, 13), (97, 6, 15), (118, 6, 5), (121, 6, 7), (124, 6, 9), (127, 6, 11), (147, 6, 3)] : List (Nat × Nat × Nat)), sm_fok Tg NW (xon 8) e.1 e.2.1 (e.2.2 / 2) (e.2.2 % 2) := List.forall_mem_cons.mpr ⟨⟨_, "BuildingText$TextReader", rfl, by decide, Or.inl rfl, Or.inl ⟨rfl, tw_415⟩⟩, List.forall_mem_cons.mpr ⟨⟨_, "BuildingText$TextReader", rfl, by decide, Or.inl rfl, Or.inl ⟨rfl, tw_416⟩⟩, List.forall_mem_cons.mpr ⟨⟨_, "BuildingText$TextReader", rfl, by decide, Or.inl rfl, Or.inl ⟨rfl, tw_417⟩⟩, List.forall_mem_cons.mpr ⟨⟨_, "BuildingText$TextReader", rfl, by decide, Or.inl rfl, Or.inl ⟨rfl, tw_418⟩⟩, List.forall_mem_cons.mpr ⟨⟨_, "BuildingText$TextReader", rfl, by decide, Or.inl rfl, Or.inl ⟨rfl, tw_420⟩⟩, List.forall_mem_cons.mpr ⟨⟨_, "BuildingText$TextReader", rfl, by decide, Or.inl rfl, Or.inl ⟨rfl, tw_419⟩⟩, List.forall_mem_cons.mpr ⟨⟨_, "BuildingText$Edition", rfl, by decide, Or.inl rfl, Or.inr ⟨by decide, _, nw_74⟩⟩, List.forall_mem_cons.mpr ⟨⟨_, "BuildingText$Place", rfl, by decide, Or.inl rfl, Or.inr ⟨by decide, _, nw_512⟩⟩, List.forall_mem_cons.mpr ⟨⟨_, "BuildingText$Place", rfl, by decide, Or.inl rfl, Or.inr ⟨by decide, _, nw_519⟩⟩, List.forall_mem_cons.mpr ⟨⟨_, "BuildingText$Place", rfl, by decide, Or.inl rfl, Or.inr ⟨by decide, _, nw_499⟩⟩, List.forall_mem_cons.mpr ⟨⟨_, "BuildingText$Place", rfl, by decide, Or.inl rfl, Or.inr ⟨by decide, _, nw_503⟩⟩, List.forall_mem_cons.mpr ⟨⟨_, "BuildingText$Place", rfl, by decide, Or.inl rfl, Or.inr ⟨by decide, _, nw_507⟩⟩, List.forall_mem_cons.mpr ⟨⟨_, "BuildingText$Place", rfl, by decide, Or.inl rfl, Or.inr ⟨by decide, _, nw_511⟩⟩, List.forall_mem_cons.mpr ⟨⟨_, "BuildingText$Place", rfl, by decide, Or.inl rfl, Or.inr ⟨by decide, _, nw_495⟩⟩, fun _ h => absurd h List.not_mem_nil⟩⟩⟩⟩⟩⟩⟩⟩⟩⟩⟩⟩⟩⟩
theorem xlF_9 : ∀ e ∈ ([(7, 9, 2), (13, 9, 8), (16, 9, 10), (19, 9, 12), (22, 9, 14), (25, 9, 16), (28, 9, 18), (31, 9, 20), (34, 9, 22), (37, 9, 24), (40, 9, 26), (43, 9, 30), (46, 9, 32), (49, 9, 34), (53, 9, 38), (56, 9, 40), (59, 9, 42), (62, 9, 44), (65, 9, 56), (68, 9, 58), (71, 9, 60), (74, 9, 64), (77, 9, 66), (80, 9, 68), (83, 9, 70), (86, 9, 72), (89, 9, 74), (92, 9, 76), (95, 9, 78), (98, 9, 80), (101, 9, 82), (104, 9, 84), (107, 9, 86), (110, 9, 88), (113, 9, 92), (116, 9, 114), (119, 9, 124), (122, 9, 126), (125, 9, 128), (128, 9, 130), (131, 9, 0), (139, 9, 4), (142, 9, 46), (145, 9, 48), (159, 9, 98), (173, 9, 96), (179, 9, 52), (193, 9, 102), (196, 9, 104), (199, 9, 106), (202, 9, 108), (208, 9, 100), (217, 9, 112), (220, 9, 110), (223, 9, 116), (226, 9, 118), (229, 9, 120), (232, 9, 122), (267, 9, 54), (270, 9, 62), (273, 9, 50), (279, 9, 6), (286, 9, 28), (289, 9, 36), (311, 9, 132), (351, 9, 90), (369, 9, 94)] : List (Nat × Nat × Nat)), sm_fok Tg NW (xon 9) e.1 e.2.1 (e.2.2 / 2) (e.2.2 % 2) := List.forall_mem_cons.mpr ⟨⟨_, "BuildingTextModel", rfl, by decide, Or.inl rfl, Or.inl ⟨rfl, tw_863⟩⟩, List.forall_mem_cons.mpr ⟨⟨_, "BuildingTextModel", rfl, by decide, Or.inl rfl, Or.inl ⟨rfl, tw_866⟩⟩, List.forall_mem_cons.mpr ⟨⟨_, "BuildingTextModel", rfl, by decide, Or.inl rfl, Or.inl ⟨rfl, tw_867⟩⟩, List.forall_mem_cons.mpr ⟨⟨_, "BuildingTextModel", rfl, by decide, Or.inl rfl, Or.inl ⟨rfl, tw_868⟩⟩, List.forall_mem_cons.mpr ⟨⟨_, "BuildingTextModel", rfl, by decide, Or.inl rfl, Or.inl ⟨rfl, tw_869⟩⟩, List.forall_mem_cons.mpr ⟨⟨_, "BuildingTextModel", rfl, by decide, Or.inl rfl, Or.inl ⟨rfl, tw_870⟩⟩, List.forall_mem_cons.mpr ⟨⟨_, "BuildingTextModel", rfl, by decide, Or.inl rfl, Or.inl ⟨rfl, tw_871⟩⟩, List.forall_mem_cons.mpr ⟨⟨_, "BuildingTextModel", rfl, by decide, Or.inl rfl, Or.inl ⟨rfl, tw_872⟩⟩, List.forall_mem_cons.mpr ⟨⟨_, "BuildingTextModel", rfl, by decide, Or.inl rfl, Or.inl ⟨rfl, tw_873⟩⟩, List.forall_mem_cons.mpr ⟨⟨_, "BuildingTextModel", rfl, by decide, Or.inl rfl, Or.inl ⟨rfl, tw_874⟩⟩, List.forall_mem_cons.mpr ⟨⟨_, "BuildingTextModel", rfl, by decide, Or.inl rfl, Or.inl ⟨rfl, tw_875⟩⟩, List.forall_mem_cons.mpr ⟨⟨_, "BuildingTextModel", rfl, by decide, Or.inl rfl, Or.inl ⟨rfl, tw_877⟩⟩, List.forall_mem_cons.mpr ⟨⟨_, "BuildingTextModel", rfl, by decide, Or.inl rfl, Or.inl ⟨rfl, tw_878⟩⟩, List.forall_mem_cons.mpr ⟨⟨_, "BuildingTextModel", rfl, by decide, Or.inl rfl, Or.inl ⟨rfl, tw_879⟩⟩, List.forall_mem_cons.mpr ⟨⟨_, "BuildingTextModel", rfl, by decide, Or.inl rfl, Or.inl ⟨rfl, tw_881⟩⟩, List.forall_mem_cons.mpr ⟨⟨_, "BuildingTextModel", rfl, by decide, Or.inl rfl, Or.inl ⟨rfl, tw_882⟩⟩, List.forall_mem_cons.mpr ⟨⟨_, "BuildingTextModel", rfl, by decide, Or.inl rfl, Or.inl ⟨rfl, tw_883⟩⟩, List.forall_mem_cons.mpr ⟨⟨_, "BuildingTextModel", rfl, by decide, Or.inl rfl, Or.inl ⟨rfl, tw_884⟩⟩, List.forall_mem_cons.mpr ⟨⟨_, "BuildingTextModel", rfl, by decide, Or.inl rfl, Or.inl ⟨rfl, tw_890⟩⟩, List.forall_mem_cons.mpr ⟨⟨_, "BuildingTextModel", rfl, by decide, Or.inl rfl, Or.inl ⟨rfl, tw_891⟩⟩, List.forall_mem_cons.mpr ⟨⟨_, "BuildingTextModel", rfl, by decide, Or.inl rfl, Or.inl ⟨rfl, tw_892⟩⟩, List.forall_mem_cons.mpr ⟨⟨_, "BuildingTextModel", rfl, by decide, Or.inl rfl, Or.inl ⟨rfl, tw_894⟩⟩, List.forall_mem_cons.mpr ⟨⟨_, "BuildingTextModel", rfl, by decide, Or.inl rfl, Or.inl ⟨rfl, tw_895⟩⟩, List.forall_mem_cons.mpr ⟨⟨_, "BuildingTextModel", rfl, by decide, Or.inl rfl, Or.inl ⟨rfl, tw_896⟩⟩, List.forall_mem_cons.mpr ⟨⟨_, "BuildingTextModel", rfl, by decide, Or.inl rfl, Or.inl ⟨rfl, tw_897⟩⟩, List.forall_mem_cons.mpr ⟨⟨_, "BuildingTextModel", rfl, by decide, Or.inl rfl, Or.inl ⟨rfl, tw_898⟩⟩, List.forall_mem_cons.mpr ⟨⟨_, "BuildingTextModel", rfl, by decide, Or.inl rfl, Or.inl ⟨rfl, tw_899⟩⟩, List.forall_mem_cons.mpr ⟨⟨_, "BuildingTextModel", rfl, by decide, Or.inl rfl, Or.inl ⟨rfl, tw_900⟩⟩, List.forall_mem_cons.mpr ⟨⟨_, "BuildingTextModel", rfl, by decide, Or.inl rfl, Or.inl ⟨rfl, tw_901⟩⟩, List.forall_mem_cons.mpr ⟨⟨_, "BuildingTextModel", rfl, by decide, Or.inl rfl, Or.inl ⟨rfl, tw_902⟩⟩, List.forall_mem_cons.mpr ⟨⟨_, "BuildingTextModel", rfl, by decide, Or.inl rfl, Or.inl ⟨rfl, tw_903⟩⟩, List.forall_mem_cons.mpr ⟨⟨_, "BuildingTextModel", rfl, by decide, Or.inl rfl, Or.inl ⟨rfl, tw_904⟩⟩, List.forall_mem_cons.mpr ⟨⟨_, "BuildingTextModel", rfl, by decide, Or.inl rfl, Or.inl ⟨rfl, tw_905⟩⟩, List.forall_mem_cons.mpr ⟨⟨_, "BuildingTextModel", rfl, by decide, Or.inl rfl, Or.inl ⟨rfl, tw_906⟩⟩, List.forall_mem_cons.mpr ⟨⟨_, "BuildingTextModel", rfl, by decide, Or.inl rfl, Or.inl ⟨rfl, tw_908⟩⟩, List.forall_mem_cons.mpr ⟨⟨_, "BuildingTextModel", rfl, by decide, Or.inl rfl, Or.inl ⟨rfl, tw_919⟩⟩, List.forall_mem_cons.mpr ⟨⟨_, "BuildingTextModel", rfl, by decide, Or.inl rfl, Or.inl ⟨rfl, tw_924⟩⟩, List.forall_mem_cons.mpr ⟨⟨_, "BuildingTextModel", rfl, by decide, Or.inl rfl, Or.inl ⟨rfl, tw_925⟩⟩, List.forall_mem_cons.mpr ⟨⟨_, "BuildingTextModel", rfl, by decide, Or.inl rfl, Or.inl ⟨rfl, tw_926⟩⟩, List.forall_mem_cons.mpr ⟨⟨_, "BuildingTextModel", rfl, by decide, Or.inl rfl, Or.inl ⟨rfl, tw_927⟩⟩, List.forall_mem_cons.mpr ⟨⟨_, "BuildingTextModel", rfl, by decide, Or.inl rfl, Or.inl ⟨rfl, tw_862⟩⟩, List.forall_mem_cons.mpr ⟨⟨_, "BuildingTextModel", rfl, by decide, Or.inl rfl, Or.inl ⟨rfl, tw_864⟩⟩, List.forall_mem_cons.mpr ⟨⟨_, "BuildingTextModel", rfl, by decide, Or.inl rfl, Or.inl ⟨rfl, tw_885⟩⟩, List.forall_mem_cons.mpr ⟨⟨_, "BuildingTextModel", rfl, by decide, Or.inl rfl, Or.inl ⟨rfl, tw_886⟩⟩, List.forall_mem_cons.mpr ⟨⟨_, "BuildingTextModel", rfl, by decide, Or.inl rfl, Or.inl ⟨rfl, tw_911⟩⟩, List.forall_mem_cons.mpr ⟨⟨_, "BuildingTextModel", rfl, by decide, Or.inl rfl, Or.inl ⟨rfl, tw_910⟩⟩, List.forall_mem_cons.mpr ⟨⟨_, "BuildingTextModel", rfl, by decide, Or.inl rfl, Or.inl ⟨rfl, tw_888⟩⟩, List.forall_mem_cons.mpr ⟨⟨_, "BuildingTextModel", rfl, by decide, Or.inl rfl, Or.inl ⟨rfl, tw_913⟩⟩, List.forall_mem_cons.mpr ⟨⟨_, "BuildingTextModel", rfl, by decide, Or.inl rfl, Or.inl ⟨rfl, tw_914⟩⟩, List.forall_mem_cons.mpr ⟨⟨_, "BuildingTextModel", rfl, by decide, Or.inl rfl, Or.inl ⟨rfl, tw_915⟩⟩, List.forall_mem_cons.mpr ⟨⟨_, "BuildingTextModel", rfl, by decide, Or.inl rfl, Or.inl ⟨rfl, tw_916⟩⟩, List.forall_mem_cons.mpr ⟨⟨_, "BuildingTextModel", rfl, by decide, Or.inl rfl, Or.inl ⟨rfl, tw_912⟩⟩, List.forall_mem_cons.mpr ⟨⟨_, "BuildingTextModel", rfl, by decide, Or.inl rfl, Or.inl ⟨rfl, tw_918⟩⟩, List.forall_mem_cons.mpr ⟨⟨_, "BuildingTextModel", rfl, by decide, Or.inl rfl, Or.inl ⟨rfl, tw_917⟩⟩, List.forall_mem_cons.mpr ⟨⟨_, "BuildingTextModel", rfl, by decide, Or.inl rfl, Or.inl ⟨rfl, tw_920⟩⟩, List.forall_mem_cons.mpr ⟨⟨_, "BuildingTextModel", rfl, by decide, Or.inl rfl, Or.inl ⟨rfl, tw_921⟩⟩, List.forall_mem_cons.mpr ⟨⟨_, "BuildingTextModel", rfl, by decide, Or.inl rfl, Or.inl ⟨rfl, tw_922⟩⟩, List.forall_mem_cons.mpr ⟨⟨_, "BuildingTextModel", rfl, by decide, Or.inl rfl, Or.inl ⟨rfl, tw_923⟩⟩, List.forall_mem_cons.mpr ⟨⟨_, "BuildingTextModel", rfl, by decide, Or.inl rfl, Or.inl ⟨rfl, tw_889⟩⟩, List.forall_mem_cons.mpr ⟨⟨_, "BuildingTextModel", rfl, by decide, Or.inl rfl, Or.inl ⟨rfl, tw_893⟩⟩, List.forall_mem_cons.mpr ⟨⟨_, "BuildingTextModel", rfl, by decide, Or.inl rfl, Or.inl ⟨rfl, tw_887⟩⟩, List.forall_mem_cons.mpr ⟨⟨_, "BuildingTextModel", rfl, by decide, Or.inl rfl, Or.inl ⟨rfl, tw_865⟩⟩, List.forall_mem_cons.mpr ⟨⟨_, "BuildingTextModel", rfl, by decide, Or.inl rfl, Or.inl ⟨rfl, tw_876⟩⟩, List.forall_mem_cons.mpr ⟨⟨_, "BuildingTextModel", rfl, by decide, Or.inl rfl, Or.inl ⟨rfl, tw_880⟩⟩, List.forall_mem_cons.mpr ⟨⟨_, "BuildingTextModel", rfl, by decide, Or.inl rfl, Or.inl ⟨rfl, tw_928⟩⟩, List.forall_mem_cons.mpr ⟨⟨_, "BuildingTextModel", rfl, by decide, Or.inl rfl, Or.inl ⟨rfl, tw_907⟩⟩, List.forall_mem_cons.mpr ⟨⟨_, "BuildingTextModel", rfl, by decide, Or.inl rfl, Or.inl ⟨rfl, tw_909⟩⟩, fun _ h => absurd h List.not_mem_nil⟩⟩⟩⟩⟩⟩⟩⟩⟩⟩⟩⟩⟩⟩⟩⟩⟩⟩⟩⟩⟩⟩⟩⟩⟩⟩⟩⟩⟩⟩⟩⟩⟩⟩⟩⟩⟩⟩⟩⟩⟩⟩⟩⟩⟩⟩⟩⟩⟩⟩⟩⟩⟩⟩⟩⟩⟩⟩⟩⟩⟩⟩⟩⟩⟩⟩⟩
theorem xlF_10 : ∀ e ∈ ([(9, 10, 0), (48, 10, 2), (63, 10, 4)] : List (Nat × Nat × Nat)), sm_fok Tg NW (xon 10) e.1 e.2.1 (e.2.2 / 2) (e.2.2 % 2) := List.forall_mem_cons.mpr ⟨⟨_, "java/util/ArrayList", rfl, by decide, Or.inl rfl, Or.inl ⟨rfl, tw_49⟩⟩, List.forall_mem_cons.mpr ⟨⟨_, "java/util/ArrayList", rfl, by decide, Or.inl rfl, Or.inl ⟨rfl, tw_50⟩⟩, List.forall_mem_cons.mpr ⟨⟨_, "java/util/ArrayList", rfl, by decide, Or.inr tw_53, Or.inl ⟨rfl, tw_52⟩⟩, fun _ h => absurd h List.not_mem_nil⟩⟩⟩
theorem xlF_11 : ∀ e ∈ ([] : List (Nat × Nat × Nat)), sm_fok Tg NW (xon 11) e.1 e.2.1 (e.2.2 / 2) (e.2.2 % 2) := fun _ h => absurd h List.not_mem_nil
theorem xlF_12 : ∀ e ∈ ([] : List (Nat × Nat × Nat)), sm_fok Tg NW (xon 12) e.1 e.2.1 (e.2.2 / 2) (e.2.2 % 2) := fun _ h => absurd h List.not_mem_nil
theorem xlF_13 : ∀ e ∈ ([] : List (Nat × Nat × Nat)), sm_fok Tg NW (xon 13) e.1 e.2.1 (e.2.2 / 2) (e.2.2 % 2) := fun _ h => absurd h List.not_mem_nil
theorem xlF_14 : ∀ e ∈ ([] : List (Nat × Nat × Nat)), sm_fok Tg NW (xon 14) e.1 e.2.1 (e.2.2 / 2) (e.2.2 % 2) := fun _ h => absurd h List.not_mem_nil
theorem xlF_15 : ∀ e ∈ ([(7, 10, 4)] : List (Nat × Nat × Nat)), sm_fok Tg NW (xon 15) e.1 e.2.1 (e.2.2 / 2) (e.2.2 % 2) := List.forall_mem_cons.mpr ⟨⟨_, "java/util/AbstractList", rfl, by decide, Or.inl rfl, Or.inl ⟨rfl, tw_51⟩⟩, fun _ h => absurd h List.not_mem_nil⟩
theorem xlF_16 : ∀ e ∈ ([] : List (Nat × Nat × Nat)), sm_fok Tg NW (xon 16) e.1 e.2.1 (e.2.2 / 2) (e.2.2 % 2) := fun _ h => absurd h List.not_mem_nil
theorem xlF_17 : ∀ e ∈ ([] : List (Nat × Nat × Nat)), sm_fok Tg NW (xon 17) e.1 e.2.1 (e.2.2 / 2) (e.2.2 % 2) := fun _ h => absurd h List.not_mem_nil
theorem xlF_18 : ∀ e ∈ ([] : List (Nat × Nat × Nat)), sm_fok Tg NW (xon 18) e.1 e.2.1 (e.2.2 / 2) (e.2.2 % 2) := fun _ h => absurd h List.not_mem_nil
theorem xlF_19 : ∀ e ∈ ([] : List (Nat × Nat × Nat)), sm_fok Tg NW (xon 19) e.1 e.2.1 (e.2.2 / 2) (e.2.2 % 2) := fun _ h => absurd h List.not_mem_nil
theorem xlF_20 : ∀ e ∈ ([] : List (Nat × Nat × Nat)), sm_fok Tg NW (xon 20) e.1 e.2.1 (e.2.2 / 2) (e.2.2 % 2) := fun _ h => absurd h List.not_mem_nil
theorem xlF_21 : ∀ e ∈ ([] : List (Nat × Nat × Nat)), sm_fok Tg NW (xon 21) e.1 e.2.1 (e.2.2 / 2) (e.2.2 % 2) := fun _ h => absurd h List.not_mem_nil
theorem xlF_22 : ∀ e ∈ ([] : List (Nat × Nat × Nat)), sm_fok Tg NW (xon 22) e.1 e.2.1 (e.2.2 / 2) (e.2.2 % 2) := fun _ h => absurd h List.not_mem_nil
theorem xlF_ok (o : Nat) (l : List (Nat × Nat × Nat)) (h : xlF[o]? = some l) : ∀ e ∈ l, sm_fok Tg NW (xon o) e.1 e.2.1 (e.2.2 / 2) (e.2.2 % 2) := by
  match o, h with
  | 0, h => cases h; exact xlF_0
  | 1, h => cases h; exact xlF_1
  | 2, h => cases h; exact xlF_2
  | 3, h => cases h; exact xlF_3
  | 4, h => cases h; exact xlF_4
  | 5, h => cases h; exact xlF_5
  | 6, h => cases h; exact xlF_6
  | 7, h => cases h; exact xlF_7
  | 8, h => cases h; exact xlF_8
  | 9, h => cases h; exact xlF_9
  | 10, h => cases h; exact xlF_10
  | 11, h => cases h; exact xlF_11
  | 12, h => cases h; exact xlF_12
  | 13, h => cases h; exact xlF_13
  | 14, h => cases h; exact xlF_14
  | 15, h => cases h; exact xlF_15
  | 16, h => cases h; exact xlF_16
  | 17, h => cases h; exact xlF_17
  | 18, h => cases h; exact xlF_18
  | 19, h => cases h; exact xlF_19
  | 20, h => cases h; exact xlF_20
  | 21, h => cases h; exact xlF_21
  | 22, h => cases h; exact xlF_22
  | n + 23, h => cases h
theorem xlM_0 : ∀ e ∈ ([(1, 0, 2), (15, 144, 0), (22, 17, 1), (27, 145, 0), (33, 27, 1), (40, 39, 1), (47, 51, 1), (74, 58, 1), (77, 59, 1), (81, 22, 1), (85, 149, 0), (90, 7, 0), (97, 28, 1), (100, 40, 1), (104, 23, 1), (138, 18, 1), (150, 150, 0), (163, 24, 1), (168, 35, 1), (172, 36, 1), (175, 37, 1), (178, 38, 1), (185, 49, 1), (189, 13, 0), (203, 25, 1), (209, 52, 1)] : List (Nat × Nat × Nat)), sm_lm (xon 0) e := List.forall_mem_cons.mpr ⟨⟨fun _ => tw_32, fun h => absurd h (by decide), fun h => absurd h (by decide), fun h => absurd h (by decide), fun h => absurd h (by decide), fun h => absurd h (by decide)⟩, List.forall_mem_cons.mpr ⟨⟨fun h => absurd h (by decide), fun _ => Or.inl tw_37, fun h => absurd h (by decide), fun h => absurd h (by decide), fun h => absurd h (by decide), fun h => absurd h (by decide)⟩, List.forall_mem_cons.mpr ⟨⟨fun h => absurd h (by decide), fun _ => Or.inr ⟨_, nw_64⟩, fun h => absurd h (by decide), fun h => absurd h (by decide), fun h => absurd h (by decide), fun h => absurd h (by decide)⟩, List.forall_mem_cons.mpr ⟨⟨fun h => absurd h (by decide), fun _ => Or.inl tw_94, fun h => absurd h (by decide), fun h => absurd h (by decide), fun h => absurd h (by decide), fun h => absurd h (by decide)⟩, List.forall_mem_cons.mpr ⟨⟨fun h => absurd h (by decide), fun _ => Or.inr ⟨_, nw_157⟩, fun h => absurd h (by decide), fun h => absurd h (by decide), fun h => absurd h (by decide), fun h => absurd h (by decide)⟩, List.forall_mem_cons.mpr ⟨⟨fun h => absurd h (by decide), fun _ => Or.inr ⟨_, nw_186⟩, fun h => absurd h (by decide), fun h => absurd h (by decide), fun h => absurd h (by decide), fun h => absurd h (by decide)⟩, List.forall_mem_cons.mpr ⟨⟨fun h => absurd h (by decide), fun _ => Or.inr ⟨_, nw_199⟩, fun h => absurd h (by decide), fun h => absurd h (by decide), fun h => absurd h (by decide), fun h => absurd h (by decide)⟩, List.forall_mem_cons.mpr ⟨⟨fun h => absurd h (by decide), fun _ => Or.inr ⟨_, nw_411⟩, fun h => absurd h (by decide), fun h => absurd h (by decide), fun h => absurd h (by decide), fun h => absurd h (by decide)⟩, List.forall_mem_cons.mpr ⟨⟨fun h => absurd h (by decide), fun _ => Or.inr ⟨_, nw_434⟩, fun h => absurd h (by decide), fun h => absurd h (by decide), fun h => absurd h (by decide), fun h => absurd h (by decide)⟩, List.forall_mem_cons.mpr ⟨⟨fun h => absurd h (by decide), fun _ => Or.inr ⟨_, nw_624⟩, fun h => absurd h (by decide), fun h => absurd h (by decide), fun h => absurd h (by decide), fun h => absurd h (by decide)⟩, List.forall_mem_cons.mpr ⟨⟨fun h => absurd h (by decide), fun _ => Or.inl tw_272, fun h => absurd h (by decide), fun h => absurd h (by decide), fun h => absurd h (by decide), fun h => absurd h (by decide)⟩, List.forall_mem_cons.mpr ⟨⟨fun h => absurd h (by decide), fun _ => Or.inl tw_629, fun h => absurd h (by decide), fun h => absurd h (by decide), fun h => absurd h (by decide), fun h => absurd h (by decide)⟩, List.forall_mem_cons.mpr ⟨⟨fun h => absurd h (by decide), fun _ => Or.inr ⟨_, nw_633⟩, fun h => absurd h (by decide), fun h => absurd h (by decide), fun h => absurd h (by decide), fun h => absurd h (by decide)⟩, List.forall_mem_cons.mpr ⟨⟨fun h => absurd h (by decide), fun _ => Or.inr ⟨_, nw_665⟩, fun h => absurd h (by decide), fun h => absurd h (by decide), fun h => absurd h (by decide), fun h => absurd h (by decide)⟩, List.forall_mem_cons.mpr ⟨⟨fun h => absurd h (by decide), fun _ => Or.inr ⟨_, nw_739⟩, fun h => absurd h (by decide), fun h => absurd h (by decide), fun h => absurd h (by decide), fun h => absurd h (by decide)⟩, List.forall_mem_cons.mpr ⟨⟨fun h => absurd h (by decide), fun _ => Or.inr ⟨_, nw_245⟩, fun h => absurd h (by decide), fun h => absurd h (by decide), fun h => absurd h (by decide), fun h => absurd h (by decide)⟩, List.forall_mem_cons.mpr ⟨⟨fun h => absurd h (by decide), fun _ => Or.inl tw_769, fun h => absurd h (by decide), fun h => absurd h (by decide), fun h => absurd h (by decide), fun h => absurd h (by decide)⟩, List.forall_mem_cons.mpr ⟨⟨fun h => absurd h (by decide), fun _ => Or.inr ⟨_, nw_778⟩, fun h => absurd h (by decide), fun h => absurd h (by decide), fun h => absurd h (by decide), fun h => absurd h (by decide)⟩, List.forall_mem_cons.mpr ⟨⟨fun h => absurd h (by decide), fun _ => Or.inr ⟨_, nw_783⟩, fun h => absurd h (by decide), fun h => absurd h (by decide), fun h => absurd h (by decide), fun h => absurd h (by decide)⟩, List.forall_mem_cons.mpr ⟨⟨fun h => absurd h (by decide), fun _ => Or.inr ⟨_, nw_784⟩, fun h => absurd h (by decide), fun h => absurd h (by decide), fun h => absurd h (by decide), fun h => absurd h (by decide)⟩, List.forall_mem_cons.mpr ⟨⟨fun h => absurd h (by decide), fun _ => Or.inr ⟨_, nw_785⟩, fun h => absurd h (by decide), fun h => absurd h (by decide), fun h => absurd h (by decide), fun h => absurd h (by decide)⟩, List.forall_mem_cons.mpr ⟨⟨fun h => absurd h (by decide), fun _ => Or.inr ⟨_, nw_795⟩, fun h => absurd h (by decide), fun h => absurd h (by decide), fun h => absurd h (by decide), fun h => absurd h (by decide)⟩, List.forall_mem_cons.mpr ⟨⟨fun h => absurd h (by decide), fun _ => Or.inr ⟨_, nw_808⟩, fun h => absurd h (by decide), fun h => absurd h (by decide), fun h => absurd h (by decide), fun h => absurd h (by decide)⟩, List.forall_mem_cons.mpr ⟨⟨fun h => absurd h (by decide), fun _ => Or.inl tw_816, fun h => absurd h (by decide), fun h => absurd h (by decide), fun h => absurd h (by decide), fun h => absurd h (by decide)⟩, List.forall_mem_cons.mpr ⟨⟨fun h => absurd h (by decide), fun _ => Or.inr ⟨_, nw_830⟩, fun h => absurd h (by decide), fun h => absurd h (by decide), fun h => absurd h (by decide), fun h => absurd h (by decide)⟩, List.forall_mem_cons.mpr ⟨⟨fun h => absurd h (by decide), fun _ => Or.inr ⟨_, nw_277⟩, fun h => absurd h (by decide), fun h => absurd h (by decide), fun h => absurd h (by decide), fun h => absurd h (by decide)⟩, fun _ h => absurd h List.not_mem_nil⟩⟩⟩⟩⟩⟩⟩⟩⟩⟩⟩⟩⟩⟩⟩⟩⟩⟩⟩⟩⟩⟩⟩⟩⟩⟩
theorem xlM_1 : ∀ e ∈ ([(3, 0, 2), (11, 144, 0), (27, 149, 0), (31, 150, 0), (44, 18, 0), (48, 23, 0), (55, 50, 1), (64, 46, 1), (67, 145, 0)] : List (Nat × Nat × Nat)), sm_lm (xon 1) e := List.forall_mem_cons.mpr ⟨⟨fun _ => tw_67, fun h => absurd h (by decide), fun h => absurd h (by decide), fun h => absurd h (by decide), fun h => absurd h (by decide), fun h => absurd h (by decide)⟩, List.forall_mem_cons.mpr ⟨⟨fun h => absurd h (by decide), fun _ => Or.inl tw_69, fun h => absurd h (by decide), fun h => absurd h (by decide), fun h => absurd h (by decide), fun h => absurd h (by decide)⟩, List.forall_mem_cons.mpr ⟨⟨fun h => absurd h (by decide), fun _ => Or.inl tw_249, fun h => absurd h (by decide), fun h => absurd h (by decide), fun h => absurd h (by decide), fun h => absurd h (by decide)⟩, List.forall_mem_cons.mpr ⟨⟨fun h => absurd h (by decide), fun _ => Or.inl tw_253, fun h => absurd h (by decide), fun h => absurd h (by decide), fun h => absurd h (by decide), fun h => absurd h (by decide)⟩, List.forall_mem_cons.mpr ⟨⟨fun h => absurd h (by decide), fun _ => Or.inl tw_834, fun h => absurd h (by decide), fun h => absurd h (by decide), fun h => absurd h (by decide), fun h => absurd h (by decide)⟩, List.forall_mem_cons.mpr ⟨⟨fun h => absurd h (by decide), fun _ => Or.inl tw_835, fun h => absurd h (by decide), fun h => absurd h (by decide), fun h => absurd h (by decide), fun h => absurd h (by decide)⟩, List.forall_mem_cons.mpr ⟨⟨fun h => absurd h (by decide), fun _ => Or.inr ⟨_, nw_836⟩, fun h => absurd h (by decide), fun h => absurd h (by decide), fun h => absurd h (by decide), fun h => absurd h (by decide)⟩, List.forall_mem_cons.mpr ⟨⟨fun h => absurd h (by decide), fun _ => Or.inr ⟨_, nw_578⟩, fun h => absurd h (by decide), fun h => absurd h (by decide), fun h => absurd h (by decide), fun h => absurd h (by decide)⟩, List.forall_mem_cons.mpr ⟨⟨fun h => absurd h (by decide), fun _ => Or.inl tw_598, fun h => absurd h (by decide), fun h => absurd h (by decide), fun h => absurd h (by decide), fun h => absurd h (by decide)⟩, fun _ h => absurd h List.not_mem_nil⟩⟩⟩⟩⟩⟩⟩⟩⟩
theorem xlM_2 : ∀ e ∈ ([(1, 0, 2)] : List (Nat × Nat × Nat)), sm_lm (xon 2) e := List.forall_mem_cons.mpr ⟨⟨fun _ => tw_689, fun h => absurd h (by decide), fun h => absurd h (by decide), fun h => absurd h (by decide), fun h => absurd h (by decide), fun h => absurd h (by decide)⟩, fun _ h => absurd h List.not_mem_nil⟩
theorem xlM_3 : ∀ e ∈ ([(3, 0, 2), (21, 29, 0), (30, 149, 0), (39, 30, 0), (43, 32, 0), (46, 150, 0), (62, 33, 0), (83, 31, 0), (94, 158, 0), (100, 34, 0)] : List (Nat × Nat × Nat)), sm_lm (xon 3) e := List.forall_mem_cons.mpr ⟨⟨fun _ => tw_160, fun h => absurd h (by decide), fun h => absurd h (by decide), fun h => absurd h (by decide), fun h => absurd h (by decide), fun h => absurd h (by decide)⟩, List.forall_mem_cons.mpr ⟨⟨fun h => absurd h (by decide), fun _ => Or.inl tw_637, fun h => absurd h (by decide), fun h => absurd h (by decide), fun h => absurd h (by decide), fun h => absurd h (by decide)⟩, List.forall_mem_cons.mpr ⟨⟨fun h => absurd h (by decide), fun _ => Or.inl tw_641, fun h => absurd h (by decide), fun h => absurd h (by decide), fun h => absurd h (by decide), fun h => absurd h (by decide)⟩, List.forall_mem_cons.mpr ⟨⟨fun h => absurd h (by decide), fun _ => Or.inl tw_642, fun h => absurd h (by decide), fun h => absurd h (by decide), fun h => absurd h (by decide), fun h => absurd h (by decide)⟩, List.forall_mem_cons.mpr ⟨⟨fun h => absurd h (by decide), fun _ => Or.inl tw_652, fun h => absurd h (by decide), fun h => absurd h (by decide), fun h => absurd h (by decide), fun h => absurd h (by decide)⟩, List.forall_mem_cons.mpr ⟨⟨fun h => absurd h (by decide), fun _ => Or.inl tw_646, fun h => absurd h (by decide), fun h => absurd h (by decide), fun h => absurd h (by decide), fun h => absurd h (by decide)⟩, List.forall_mem_cons.mpr ⟨⟨fun h => absurd h (by decide), fun _ => Or.inl tw_657, fun h => absurd h (by decide), fun h => absurd h (by decide), fun h => absurd h (by decide), fun h => absurd h (by decide)⟩, List.forall_mem_cons.mpr ⟨⟨fun h => absurd h (by decide), fun _ => Or.inl tw_648, fun h => absurd h (by decide), fun h => absurd h (by decide), fun h => absurd h (by decide), fun h => absurd h (by decide)⟩, List.forall_mem_cons.mpr ⟨⟨fun h => absurd h (by decide), fun _ => Or.inl tw_789, fun h => absurd h (by decide), fun h => absurd h (by decide), fun h => absurd h (by decide), fun h => absurd h (by decide)⟩, List.forall_mem_cons.mpr ⟨⟨fun h => absurd h (by decide), fun _ => Or.inl tw_661, fun h => absurd h (by decide), fun h => absurd h (by decide), fun h => absurd h (by decide), fun h => absurd h (by decide)⟩, fun _ h => absurd h List.not_mem_nil⟩⟩⟩⟩⟩⟩⟩⟩⟩⟩
theorem xlM_4 : ∀ e ∈ ([(3, 0, 2), (11, 144, 0), (18, 152, 0), (26, 149, 0), (30, 150, 0), (40, 41, 0), (44, 42, 0), (48, 44, 0), (51, 45, 0), (57, 49, 1), (63, 26, 1), (66, 145, 0), (70, 43, 0), (77, 48, 1), (91, 35, 1), (101, 36, 1)] : List (Nat × Nat × Nat)), sm_lm (xon 4) e := List.forall_mem_cons.mpr ⟨⟨fun _ => tw_189, fun h => absurd h (by decide), fun h => absurd h (by decide), fun h => absurd h (by decide), fun h => absurd h (by decide), fun h => absurd h (by decide)⟩, List.forall_mem_cons.mpr ⟨⟨fun h => absurd h (by decide), fun _ => Or.inl tw_191, fun h => absurd h (by decide), fun h => absurd h (by decide), fun h => absurd h (by decide), fun h => absurd h (by decide)⟩, List.forall_mem_cons.mpr ⟨⟨fun h => absurd h (by decide), fun _ => Or.inl tw_669, fun h => absurd h (by decide), fun h => absurd h (by decide), fun h => absurd h (by decide), fun h => absurd h (by decide)⟩, List.forall_mem_cons.mpr ⟨⟨fun h => absurd h (by decide), fun _ => Or.inl tw_673, fun h => absurd h (by decide), fun h => absurd h (by decide), fun h => absurd h (by decide), fun h => absurd h (by decide)⟩, List.forall_mem_cons.mpr ⟨⟨fun h => absurd h (by decide), fun _ => Or.inl tw_674, fun h => absurd h (by decide), fun h => absurd h (by decide), fun h => absurd h (by decide), fun h => absurd h (by decide)⟩, List.forall_mem_cons.mpr ⟨⟨fun h => absurd h (by decide), fun _ => Or.inl tw_676, fun h => absurd h (by decide), fun h => absurd h (by decide), fun h => absurd h (by decide), fun h => absurd h (by decide)⟩, List.forall_mem_cons.mpr ⟨⟨fun h => absurd h (by decide), fun _ => Or.inl tw_704, fun h => absurd h (by decide), fun h => absurd h (by decide), fun h => absurd h (by decide), fun h => absurd h (by decide)⟩, List.forall_mem_cons.mpr ⟨⟨fun h => absurd h (by decide), fun _ => Or.inl tw_720, fun h => absurd h (by decide), fun h => absurd h (by decide), fun h => absurd h (by decide), fun h => absurd h (by decide)⟩, List.forall_mem_cons.mpr ⟨⟨fun h => absurd h (by decide), fun _ => Or.inl tw_728, fun h => absurd h (by decide), fun h => absurd h (by decide), fun h => absurd h (by decide), fun h => absurd h (by decide)⟩, List.forall_mem_cons.mpr ⟨⟨fun h => absurd h (by decide), fun _ => Or.inr ⟨_, nw_708⟩, fun h => absurd h (by decide), fun h => absurd h (by decide), fun h => absurd h (by decide), fun h => absurd h (by decide)⟩, List.forall_mem_cons.mpr ⟨⟨fun h => absurd h (by decide), fun _ => Or.inr ⟨_, nw_686⟩, fun h => absurd h (by decide), fun h => absurd h (by decide), fun h => absurd h (by decide), fun h => absurd h (by decide)⟩, List.forall_mem_cons.mpr ⟨⟨fun h => absurd h (by decide), fun _ => Or.inl tw_703, fun h => absurd h (by decide), fun h => absurd h (by decide), fun h => absurd h (by decide), fun h => absurd h (by decide)⟩, List.forall_mem_cons.mpr ⟨⟨fun h => absurd h (by decide), fun _ => Or.inl tw_712, fun h => absurd h (by decide), fun h => absurd h (by decide), fun h => absurd h (by decide), fun h => absurd h (by decide)⟩, List.forall_mem_cons.mpr ⟨⟨fun h => absurd h (by decide), fun _ => Or.inr ⟨_, nw_680⟩, fun h => absurd h (by decide), fun h => absurd h (by decide), fun h => absurd h (by decide), fun h => absurd h (by decide)⟩, List.forall_mem_cons.mpr ⟨⟨fun h => absurd h (by decide), fun _ => Or.inr ⟨_, nw_716⟩, fun h => absurd h (by decide), fun h => absurd h (by decide), fun h => absurd h (by decide), fun h => absurd h (by decide)⟩, List.forall_mem_cons.mpr ⟨⟨fun h => absurd h (by decide), fun _ => Or.inr ⟨_, nw_724⟩, fun h => absurd h (by decide), fun h => absurd h (by decide), fun h => absurd h (by decide), fun h => absurd h (by decide)⟩, fun _ h => absurd h List.not_mem_nil⟩⟩⟩⟩⟩⟩⟩⟩⟩⟩⟩⟩⟩⟩⟩⟩
theorem xlM_5 : ∀ e ∈ ([(1, 0, 2)] : List (Nat × Nat × Nat)), sm_lm (xon 5) e := List.forall_mem_cons.mpr ⟨⟨fun _ => tw_581, fun h => absurd h (by decide), fun h => absurd h (by decide), fun h => absurd h (by decide), fun h => absurd h (by decide), fun h => absurd h (by decide)⟩, fun _ h => absurd h List.not_mem_nil⟩
theorem xlM_6 : ∀ e ∈ ([(3, 0, 2)] : List (Nat × Nat × Nat)), sm_lm (xon 6) e := List.forall_mem_cons.mpr ⟨⟨fun _ => tw_486, fun h => absurd h (by decide), fun h => absurd h (by decide), fun h => absurd h (by decide), fun h => absurd h (by decide), fun h => absurd h (by decide)⟩, fun _ h => absurd h List.not_mem_nil⟩
theorem xlM_7 : ∀ e ∈ ([(3, 0, 2), (15, 53, 0), (19, 54, 0), (23, 55, 0), (27, 57, 0), (37, 149, 0), (43, 150, 0), (56, 0, 4), (68, 56, 0)] : List (Nat × Nat × Nat)), sm_lm (xon 7) e := List.forall_mem_cons.mpr ⟨⟨fun _ => tw_202, fun h => absurd h (by decide), fun h => absurd h (by decide), fun h => absurd h (by decide), fun h => absurd h (by decide), fun h => absurd h (by decide)⟩, List.forall_mem_cons.mpr ⟨⟨fun h => absurd h (by decide), fun _ => Or.inl tw_281, fun h => absurd h (by decide), fun h => absurd h (by decide), fun h => absurd h (by decide), fun h => absurd h (by decide)⟩, List.forall_mem_cons.mpr ⟨⟨fun h => absurd h (by decide), fun _ => Or.inl tw_288, fun h => absurd h (by decide), fun h => absurd h (by decide), fun h => absurd h (by decide), fun h => absurd h (by decide)⟩, List.forall_mem_cons.mpr ⟨⟨fun h => absurd h (by decide), fun _ => Or.inl tw_292, fun h => absurd h (by decide), fun h => absurd h (by decide), fun h => absurd h (by decide), fun h => absurd h (by decide)⟩, List.forall_mem_cons.mpr ⟨⟨fun h => absurd h (by decide), fun _ => Or.inl tw_300, fun h => absurd h (by decide), fun h => absurd h (by decide), fun h => absurd h (by decide), fun h => absurd h (by decide)⟩, List.forall_mem_cons.mpr ⟨⟨fun h => absurd h (by decide), fun _ => Or.inl tw_284, fun h => absurd h (by decide), fun h => absurd h (by decide), fun h => absurd h (by decide), fun h => absurd h (by decide)⟩, List.forall_mem_cons.mpr ⟨⟨fun h => absurd h (by decide), fun _ => Or.inl tw_285, fun h => absurd h (by decide), fun h => absurd h (by decide), fun h => absurd h (by decide), fun h => absurd h (by decide)⟩, List.forall_mem_cons.mpr ⟨⟨fun h => absurd h (by decide), fun h => absurd h (by decide), fun _ => tw_287, fun h => absurd h (by decide), fun h => absurd h (by decide), fun h => absurd h (by decide)⟩, List.forall_mem_cons.mpr ⟨⟨fun h => absurd h (by decide), fun _ => Or.inl tw_296, fun h => absurd h (by decide), fun h => absurd h (by decide), fun h => absurd h (by decide), fun h => absurd h (by decide)⟩, fun _ h => absurd h List.not_mem_nil⟩⟩⟩⟩⟩⟩⟩⟩⟩
theorem xlM_8 : ∀ e ∈ ([(3, 0, 2), (33, 60, 0), (37, 61, 0), (40, 72, 0), (43, 74, 0), (46, 75, 0), (49, 76, 0), (53, 78, 0), (56, 79, 0), (59, 64, 0), (62, 62, 0), (65, 69, 0), (69, 71, 0), (79, 145, 0), (85, 73, 0), (89, 70, 0), (100, 47, 1), (103, 77, 0), (107, 149, 0), (110, 20, 1), (114, 150, 0), (130, 63, 0), (133, 19, 1), (137, 21, 1), (140, 65, 0), (143, 18, 1), (150, 66, 0), (154, 67, 0), (157, 68, 0), (160, 0, 5)] : List (Nat × Nat × Nat)), sm_lm (xon 8) e := List.forall_mem_cons.mpr ⟨⟨fun _ => tw_414, fun h => absurd h (by decide), fun h => absurd h (by decide), fun h => absurd h (by decide), fun h => absurd h (by decide), fun h => absurd h (by decide)⟩, List.forall_mem_cons.mpr ⟨⟨fun h => absurd h (by decide), fun _ => Or.inl tw_438, fun h => absurd h (by decide), fun h => absurd h (by decide), fun h => absurd h (by decide), fun h => absurd h (by decide)⟩, List.forall_mem_cons.mpr ⟨⟨fun h => absurd h (by decide), fun _ => Or.inl tw_442, fun h => absurd h (by decide), fun h => absurd h (by decide), fun h => absurd h (by decide), fun h => absurd h (by decide)⟩, List.forall_mem_cons.mpr ⟨⟨fun h => absurd h (by decide), fun _ => Or.inl tw_555, fun h => absurd h (by decide), fun h => absurd h (by decide), fun h => absurd h (by decide), fun h => absurd h (by decide)⟩, List.forall_mem_cons.mpr ⟨⟨fun h => absurd h (by decide), fun _ => Or.inl tw_564, fun h => absurd h (by decide), fun h => absurd h (by decide), fun h => absurd h (by decide), fun h => absurd h (by decide)⟩, List.forall_mem_cons.mpr ⟨⟨fun h => absurd h (by decide), fun _ => Or.inl tw_568, fun h => absurd h (by decide), fun h => absurd h (by decide), fun h => absurd h (by decide), fun h => absurd h (by decide)⟩, List.forall_mem_cons.mpr ⟨⟨fun h => absurd h (by decide), fun _ => Or.inl tw_599, fun h => absurd h (by decide), fun h => absurd h (by decide), fun h => absurd h (by decide), fun h => absurd h (by decide)⟩, List.forall_mem_cons.mpr ⟨⟨fun h => absurd h (by decide), fun _ => Or.inl tw_607, fun h => absurd h (by decide), fun h => absurd h (by decide), fun h => absurd h (by decide), fun h => absurd h (by decide)⟩, List.forall_mem_cons.mpr ⟨⟨fun h => absurd h (by decide), fun _ => Or.inl tw_616, fun h => absurd h (by decide), fun h => absurd h (by decide), fun h => absurd h (by decide), fun h => absurd h (by decide)⟩, List.forall_mem_cons.mpr ⟨⟨fun h => absurd h (by decide), fun _ => Or.inl tw_454, fun h => absurd h (by decide), fun h => absurd h (by decide), fun h => absurd h (by decide), fun h => absurd h (by decide)⟩, List.forall_mem_cons.mpr ⟨⟨fun h => absurd h (by decide), fun _ => Or.inl tw_446, fun h => absurd h (by decide), fun h => absurd h (by decide), fun h => absurd h (by decide), fun h => absurd h (by decide)⟩, List.forall_mem_cons.mpr ⟨⟨fun h => absurd h (by decide), fun _ => Or.inl tw_472, fun h => absurd h (by decide), fun h => absurd h (by decide), fun h => absurd h (by decide), fun h => absurd h (by decide)⟩, List.forall_mem_cons.mpr ⟨⟨fun h => absurd h (by decide), fun _ => Or.inl tw_550, fun h => absurd h (by decide), fun h => absurd h (by decide), fun h => absurd h (by decide), fun h => absurd h (by decide)⟩, List.forall_mem_cons.mpr ⟨⟨fun h => absurd h (by decide), fun _ => Or.inl tw_554, fun h => absurd h (by decide), fun h => absurd h (by decide), fun h => absurd h (by decide), fun h => absurd h (by decide)⟩, List.forall_mem_cons.mpr ⟨⟨fun h => absurd h (by decide), fun _ => Or.inl tw_559, fun h => absurd h (by decide), fun h => absurd h (by decide), fun h => absurd h (by decide), fun h => absurd h (by decide)⟩, List.forall_mem_cons.mpr ⟨⟨fun h => absurd h (by decide), fun _ => Or.inl tw_476, fun h => absurd h (by decide), fun h => absurd h (by decide), fun h => absurd h (by decide), fun h => absurd h (by decide)⟩, List.forall_mem_cons.mpr ⟨⟨fun h => absurd h (by decide), fun _ => Or.inr ⟨_, nw_483⟩, fun h => absurd h (by decide), fun h => absurd h (by decide), fun h => absurd h (by decide), fun h => absurd h (by decide)⟩, List.forall_mem_cons.mpr ⟨⟨fun h => absurd h (by decide), fun _ => Or.inl tw_603, fun h => absurd h (by decide), fun h => absurd h (by decide), fun h => absurd h (by decide), fun h => absurd h (by decide)⟩, List.forall_mem_cons.mpr ⟨⟨fun h => absurd h (by decide), fun _ => Or.inl tw_611, fun h => absurd h (by decide), fun h => absurd h (by decide), fun h => absurd h (by decide), fun h => absurd h (by decide)⟩, List.forall_mem_cons.mpr ⟨⟨fun h => absurd h (by decide), fun _ => Or.inr ⟨_, nw_612⟩, fun h => absurd h (by decide), fun h => absurd h (by decide), fun h => absurd h (by decide), fun h => absurd h (by decide)⟩, List.forall_mem_cons.mpr ⟨⟨fun h => absurd h (by decide), fun _ => Or.inl tw_563, fun h => absurd h (by decide), fun h => absurd h (by decide), fun h => absurd h (by decide), fun h => absurd h (by decide)⟩, List.forall_mem_cons.mpr ⟨⟨fun h => absurd h (by decide), fun _ => Or.inl tw_450, fun h => absurd h (by decide), fun h => absurd h (by decide), fun h => absurd h (by decide), fun h => absurd h (by decide)⟩, List.forall_mem_cons.mpr ⟨⟨fun h => absurd h (by decide), fun _ => Or.inr ⟨_, nw_572⟩, fun h => absurd h (by decide), fun h => absurd h (by decide), fun h => absurd h (by decide), fun h => absurd h (by decide)⟩, List.forall_mem_cons.mpr ⟨⟨fun h => absurd h (by decide), fun _ => Or.inr ⟨_, nw_620⟩, fun h => absurd h (by decide), fun h => absurd h (by decide), fun h => absurd h (by decide), fun h => absurd h (by decide)⟩, List.forall_mem_cons.mpr ⟨⟨fun h => absurd h (by decide), fun _ => Or.inl tw_458, fun h => absurd h (by decide), fun h => absurd h (by decide), fun h => absurd h (by decide), fun h => absurd h (by decide)⟩, List.forall_mem_cons.mpr ⟨⟨fun h => absurd h (by decide), fun _ => Or.inr ⟨_, nw_471⟩, fun h => absurd h (by decide), fun h => absurd h (by decide), fun h => absurd h (by decide), fun h => absurd h (by decide)⟩, List.forall_mem_cons.mpr ⟨⟨fun h => absurd h (by decide), fun _ => Or.inl tw_462, fun h => absurd h (by decide), fun h => absurd h (by decide), fun h => absurd h (by decide), fun h => absurd h (by decide)⟩, List.forall_mem_cons.mpr ⟨⟨fun h => absurd h (by decide), fun _ => Or.inl tw_465, fun h => absurd h (by decide), fun h => absurd h (by decide), fun h => absurd h (by decide), fun h => absurd h (by decide)⟩, List.forall_mem_cons.mpr ⟨⟨fun h => absurd h (by decide), fun _ => Or.inl tw_468, fun h => absurd h (by decide), fun h => absurd h (by decide), fun h => absurd h (by decide), fun h => absurd h (by decide)⟩, List.forall_mem_cons.mpr ⟨⟨fun h => absurd h (by decide), fun h => absurd h (by decide), fun h => absurd h (by decide), fun _ => tw_480, fun h => absurd h (by decide), fun h => absurd h (by decide)⟩, fun _ h => absurd h List.not_mem_nil⟩⟩⟩⟩⟩⟩⟩⟩⟩⟩⟩⟩⟩⟩⟩⟩⟩⟩⟩⟩⟩⟩⟩⟩⟩⟩⟩⟩⟩⟩
theorem xlM_9 : ∀ e ∈ ([(1, 0, 2), (135, 83, 0), (148, 86, 0), (152, 88, 0), (156, 93, 0), (162, 95, 0), (176, 94, 0), (182, 92, 0), (185, 96, 0), (189, 98, 0), (205, 91, 0), (211, 97, 0), (214, 100, 0), (236, 90, 0), (239, 99, 0), (242, 101, 0), (245, 102, 0), (248, 103, 0), (251, 87, 0), (254, 89, 0), (257, 104, 0), (261, 105, 0), (264, 106, 0), (276, 85, 0), (282, 107, 0), (292, 110, 0), (295, 112, 0), (298, 109, 0), (301, 111, 0), (304, 117, 0), (307, 118, 0), (314, 122, 0), (317, 124, 0), (320, 116, 0), (323, 119, 0), (326, 120, 0), (330, 121, 0), (333, 123, 0), (336, 125, 0), (339, 126, 0), (342, 115, 0), (345, 129, 0), (348, 132, 0), (354, 134, 0), (357, 139, 0), (360, 138, 0), (363, 140, 0), (366, 141, 0), (372, 137, 0)] : List (Nat × Nat × Nat)), sm_lm (xon 9) e := List.forall_mem_cons.mpr ⟨⟨fun _ => tw_861, fun h => absurd h (by decide), fun h => absurd h (by decide), fun h => absurd h (by decide), fun h => absurd h (by decide), fun h => absurd h (by decide)⟩, List.forall_mem_cons.mpr ⟨⟨fun h => absurd h (by decide), fun _ => Or.inl tw_1073, fun h => absurd h (by decide), fun h => absurd h (by decide), fun h => absurd h (by decide), fun h => absurd h (by decide)⟩, List.forall_mem_cons.mpr ⟨⟨fun h => absurd h (by decide), fun _ => Or.inl tw_1084, fun h => absurd h (by decide), fun h => absurd h (by decide), fun h => absurd h (by decide), fun h => absurd h (by decide)⟩, List.forall_mem_cons.mpr ⟨⟨fun h => absurd h (by decide), fun _ => Or.inl tw_1091, fun h => absurd h (by decide), fun h => absurd h (by decide), fun h => absurd h (by decide), fun h => absurd h (by decide)⟩, List.forall_mem_cons.mpr ⟨⟨fun h => absurd h (by decide), fun _ => Or.inl tw_1111, fun h => absurd h (by decide), fun h => absurd h (by decide), fun h => absurd h (by decide), fun h => absurd h (by decide)⟩, List.forall_mem_cons.mpr ⟨⟨fun h => absurd h (by decide), fun _ => Or.inl tw_1119, fun h => absurd h (by decide), fun h => absurd h (by decide), fun h => absurd h (by decide), fun h => absurd h (by decide)⟩, List.forall_mem_cons.mpr ⟨⟨fun h => absurd h (by decide), fun _ => Or.inl tw_1115, fun h => absurd h (by decide), fun h => absurd h (by decide), fun h => absurd h (by decide), fun h => absurd h (by decide)⟩, List.forall_mem_cons.mpr ⟨⟨fun h => absurd h (by decide), fun _ => Or.inl tw_1107, fun h => absurd h (by decide), fun h => absurd h (by decide), fun h => absurd h (by decide), fun h => absurd h (by decide)⟩, List.forall_mem_cons.mpr ⟨⟨fun h => absurd h (by decide), fun _ => Or.inl tw_1123, fun h => absurd h (by decide), fun h => absurd h (by decide), fun h => absurd h (by decide), fun h => absurd h (by decide)⟩, List.forall_mem_cons.mpr ⟨⟨fun h => absurd h (by decide), fun _ => Or.inl tw_1131, fun h => absurd h (by decide), fun h => absurd h (by decide), fun h => absurd h (by decide), fun h => absurd h (by decide)⟩, List.forall_mem_cons.mpr ⟨⟨fun h => absurd h (by decide), fun _ => Or.inl tw_1103, fun h => absurd h (by decide), fun h => absurd h (by decide), fun h => absurd h (by decide), fun h => absurd h (by decide)⟩, List.forall_mem_cons.mpr ⟨⟨fun h => absurd h (by decide), fun _ => Or.inl tw_1127, fun h => absurd h (by decide), fun h => absurd h (by decide), fun h => absurd h (by decide), fun h => absurd h (by decide)⟩, List.forall_mem_cons.mpr ⟨⟨fun h => absurd h (by decide), fun _ => Or.inl tw_1143, fun h => absurd h (by decide), fun h => absurd h (by decide), fun h => absurd h (by decide), fun h => absurd h (by decide)⟩, List.forall_mem_cons.mpr ⟨⟨fun h => absurd h (by decide), fun _ => Or.inl tw_1099, fun h => absurd h (by decide), fun h => absurd h (by decide), fun h => absurd h (by decide), fun h => absurd h (by decide)⟩, List.forall_mem_cons.mpr ⟨⟨fun h => absurd h (by decide), fun _ => Or.inl tw_1139, fun h => absurd h (by decide), fun h => absurd h (by decide), fun h => absurd h (by decide), fun h => absurd h (by decide)⟩, List.forall_mem_cons.mpr ⟨⟨fun h => absurd h (by decide), fun _ => Or.inl tw_1147, fun h => absurd h (by decide), fun h => absurd h (by decide), fun h => absurd h (by decide), fun h => absurd h (by decide)⟩, List.forall_mem_cons.mpr ⟨⟨fun h => absurd h (by decide), fun _ => Or.inl tw_1151, fun h => absurd h (by decide), fun h => absurd h (by decide), fun h => absurd h (by decide), fun h => absurd h (by decide)⟩, List.forall_mem_cons.mpr ⟨⟨fun h => absurd h (by decide), fun _ => Or.inl tw_1155, fun h => absurd h (by decide), fun h => absurd h (by decide), fun h => absurd h (by decide), fun h => absurd h (by decide)⟩, List.forall_mem_cons.mpr ⟨⟨fun h => absurd h (by decide), fun _ => Or.inl tw_1088, fun h => absurd h (by decide), fun h => absurd h (by decide), fun h => absurd h (by decide), fun h => absurd h (by decide)⟩, List.forall_mem_cons.mpr ⟨⟨fun h => absurd h (by decide), fun _ => Or.inl tw_1095, fun h => absurd h (by decide), fun h => absurd h (by decide), fun h => absurd h (by decide), fun h => absurd h (by decide)⟩, List.forall_mem_cons.mpr ⟨⟨fun h => absurd h (by decide), fun _ => Or.inl tw_1159, fun h => absurd h (by decide), fun h => absurd h (by decide), fun h => absurd h (by decide), fun h => absurd h (by decide)⟩, List.forall_mem_cons.mpr ⟨⟨fun h => absurd h (by decide), fun _ => Or.inl tw_1163, fun h => absurd h (by decide), fun h => absurd h (by decide), fun h => absurd h (by decide), fun h => absurd h (by decide)⟩, List.forall_mem_cons.mpr ⟨⟨fun h => absurd h (by decide), fun _ => Or.inl tw_1167, fun h => absurd h (by decide), fun h => absurd h (by decide), fun h => absurd h (by decide), fun h => absurd h (by decide)⟩, List.forall_mem_cons.mpr ⟨⟨fun h => absurd h (by decide), fun _ => Or.inl tw_1080, fun h => absurd h (by decide), fun h => absurd h (by decide), fun h => absurd h (by decide), fun h => absurd h (by decide)⟩, List.forall_mem_cons.mpr ⟨⟨fun h => absurd h (by decide), fun _ => Or.inl tw_1171, fun h => absurd h (by decide), fun h => absurd h (by decide), fun h => absurd h (by decide), fun h => absurd h (by decide)⟩, List.forall_mem_cons.mpr ⟨⟨fun h => absurd h (by decide), fun _ => Or.inl tw_1183, fun h => absurd h (by decide), fun h => absurd h (by decide), fun h => absurd h (by decide), fun h => absurd h (by decide)⟩, List.forall_mem_cons.mpr ⟨⟨fun h => absurd h (by decide), fun _ => Or.inl tw_1191, fun h => absurd h (by decide), fun h => absurd h (by decide), fun h => absurd h (by decide), fun h => absurd h (by decide)⟩, List.forall_mem_cons.mpr ⟨⟨fun h => absurd h (by decide), fun _ => Or.inl tw_1179, fun h => absurd h (by decide), fun h => absurd h (by decide), fun h => absurd h (by decide), fun h => absurd h (by decide)⟩, List.forall_mem_cons.mpr ⟨⟨fun h => absurd h (by decide), fun _ => Or.inl tw_1187, fun h => absurd h (by decide), fun h => absurd h (by decide), fun h => absurd h (by decide), fun h => absurd h (by decide)⟩, List.forall_mem_cons.mpr ⟨⟨fun h => absurd h (by decide), fun _ => Or.inl tw_1211, fun h => absurd h (by decide), fun h => absurd h (by decide), fun h => absurd h (by decide), fun h => absurd h (by decide)⟩, List.forall_mem_cons.mpr ⟨⟨fun h => absurd h (by decide), fun _ => Or.inl tw_1215, fun h => absurd h (by decide), fun h => absurd h (by decide), fun h => absurd h (by decide), fun h => absurd h (by decide)⟩, List.forall_mem_cons.mpr ⟨⟨fun h => absurd h (by decide), fun _ => Or.inl tw_1231, fun h => absurd h (by decide), fun h => absurd h (by decide), fun h => absurd h (by decide), fun h => absurd h (by decide)⟩, List.forall_mem_cons.mpr ⟨⟨fun h => absurd h (by decide), fun _ => Or.inl tw_1239, fun h => absurd h (by decide), fun h => absurd h (by decide), fun h => absurd h (by decide), fun h => absurd h (by decide)⟩, List.forall_mem_cons.mpr ⟨⟨fun h => absurd h (by decide), fun _ => Or.inl tw_1207, fun h => absurd h (by decide), fun h => absurd h (by decide), fun h => absurd h (by decide), fun h => absurd h (by decide)⟩, List.forall_mem_cons.mpr ⟨⟨fun h => absurd h (by decide), fun _ => Or.inl tw_1219, fun h => absurd h (by decide), fun h => absurd h (by decide), fun h => absurd h (by decide), fun h => absurd h (by decide)⟩, List.forall_mem_cons.mpr ⟨⟨fun h => absurd h (by decide), fun _ => Or.inl tw_1223, fun h => absurd h (by decide), fun h => absurd h (by decide), fun h => absurd h (by decide), fun h => absurd h (by decide)⟩, List.forall_mem_cons.mpr ⟨⟨fun h => absurd h (by decide), fun _ => Or.inl tw_1227, fun h => absurd h (by decide), fun h => absurd h (by decide), fun h => absurd h (by decide), fun h => absurd h (by decide)⟩, List.forall_mem_cons.mpr ⟨⟨fun h => absurd h (by decide), fun _ => Or.inl tw_1235, fun h => absurd h (by decide), fun h => absurd h (by decide), fun h => absurd h (by decide), fun h => absurd h (by decide)⟩, List.forall_mem_cons.mpr ⟨⟨fun h => absurd h (by decide), fun _ => Or.inl tw_1243, fun h => absurd h (by decide), fun h => absurd h (by decide), fun h => absurd h (by decide), fun h => absurd h (by decide)⟩, List.forall_mem_cons.mpr ⟨⟨fun h => absurd h (by decide), fun _ => Or.inl tw_1247, fun h => absurd h (by decide), fun h => absurd h (by decide), fun h => absurd h (by decide), fun h => absurd h (by decide)⟩, List.forall_mem_cons.mpr ⟨⟨fun h => absurd h (by decide), fun _ => Or.inl tw_1203, fun h => absurd h (by decide), fun h => absurd h (by decide), fun h => absurd h (by decide), fun h => absurd h (by decide)⟩, List.forall_mem_cons.mpr ⟨⟨fun h => absurd h (by decide), fun _ => Or.inl tw_1259, fun h => absurd h (by decide), fun h => absurd h (by decide), fun h => absurd h (by decide), fun h => absurd h (by decide)⟩, List.forall_mem_cons.mpr ⟨⟨fun h => absurd h (by decide), fun _ => Or.inl tw_1271, fun h => absurd h (by decide), fun h => absurd h (by decide), fun h => absurd h (by decide), fun h => absurd h (by decide)⟩, List.forall_mem_cons.mpr ⟨⟨fun h => absurd h (by decide), fun _ => Or.inl tw_1279, fun h => absurd h (by decide), fun h => absurd h (by decide), fun h => absurd h (by decide), fun h => absurd h (by decide)⟩, List.forall_mem_cons.mpr ⟨⟨fun h => absurd h (by decide), fun _ => Or.inl tw_1299, fun h => absurd h (by decide), fun h => absurd h (by decide), fun h => absurd h (by decide), fun h => absurd h (by decide)⟩, List.forall_mem_cons.mpr ⟨⟨fun h => absurd h (by decide), fun _ => Or.inl tw_1295, fun h => absurd h (by decide), fun h => absurd h (by decide), fun h => absurd h (by decide), fun h => absurd h (by decide)⟩, List.forall_mem_cons.mpr ⟨⟨fun h => absurd h (by decide), fun _ => Or.inl tw_1303, fun h => absurd h (by decide), fun h => absurd h (by decide), fun h => absurd h (by decide), fun h => absurd h (by decide)⟩, List.forall_mem_cons.mpr ⟨⟨fun h => absurd h (by decide), fun _ => Or.inl tw_1306, fun h => absurd h (by decide), fun h => absurd h (by decide), fun h => absurd h (by decide), fun h => absurd h (by decide)⟩, List.forall_mem_cons.mpr ⟨⟨fun h => absurd h (by decide), fun _ => Or.inl tw_1291, fun h => absurd h (by decide), fun h => absurd h (by decide), fun h => absurd h (by decide), fun h => absurd h (by decide)⟩, fun _ h => absurd h List.not_mem_nil⟩⟩⟩⟩⟩⟩⟩⟩⟩⟩⟩⟩⟩⟩⟩⟩⟩⟩⟩⟩⟩⟩⟩⟩⟩⟩⟩⟩⟩⟩⟩⟩⟩⟩⟩⟩⟩⟩⟩⟩⟩⟩⟩⟩⟩⟩⟩⟩⟩
theorem xlM_10 : ∀ e ∈ ([(1, 153, 0), (66, 0, 6), (69, 148, 0), (73, 155, 0), (79, 0, 4), (118, 156, 0), (123, 151, 0), (129, 147, 0), (131, 146, 0)] : List (Nat × Nat × Nat)), sm_lm (xon 10) e := List.forall_mem_cons.mpr ⟨⟨fun h => absurd h (by decide), fun _ => Or.inl tw_40, fun h => absurd h (by decide), fun h => absurd h (by decide), fun h => absurd h (by decide), fun h => absurd h (by decide)⟩, List.forall_mem_cons.mpr ⟨⟨fun h => absurd h (by decide), fun h => absurd h (by decide), fun h => absurd h (by decide), fun h => absurd h (by decide), fun _ => tw_120, fun h => absurd h (by decide)⟩, List.forall_mem_cons.mpr ⟨⟨fun h => absurd h (by decide), fun _ => Or.inl tw_106, fun h => absurd h (by decide), fun h => absurd h (by decide), fun h => absurd h (by decide), fun h => absurd h (by decide)⟩, List.forall_mem_cons.mpr ⟨⟨fun h => absurd h (by decide), fun _ => Or.inl tw_110, fun h => absurd h (by decide), fun h => absurd h (by decide), fun h => absurd h (by decide), fun h => absurd h (by decide)⟩, List.forall_mem_cons.mpr ⟨⟨fun h => absurd h (by decide), fun h => absurd h (by decide), fun _ => tw_153, fun h => absurd h (by decide), fun h => absurd h (by decide), fun h => absurd h (by decide)⟩, List.forall_mem_cons.mpr ⟨⟨fun h => absurd h (by decide), fun _ => Or.inl tw_257, fun h => absurd h (by decide), fun h => absurd h (by decide), fun h => absurd h (by decide), fun h => absurd h (by decide)⟩, List.forall_mem_cons.mpr ⟨⟨fun h => absurd h (by decide), fun _ => Or.inl tw_263, fun h => absurd h (by decide), fun h => absurd h (by decide), fun h => absurd h (by decide), fun h => absurd h (by decide)⟩, List.forall_mem_cons.mpr ⟨⟨fun h => absurd h (by decide), fun _ => Or.inl tw_102, fun h => absurd h (by decide), fun h => absurd h (by decide), fun h => absurd h (by decide), fun h => absurd h (by decide)⟩, List.forall_mem_cons.mpr ⟨⟨fun h => absurd h (by decide), fun _ => Or.inl tw_98, fun h => absurd h (by decide), fun h => absurd h (by decide), fun h => absurd h (by decide), fun h => absurd h (by decide)⟩, fun _ h => absurd h List.not_mem_nil⟩⟩⟩⟩⟩⟩⟩⟩⟩
theorem xlM_11 : ∀ e ∈ ([] : List (Nat × Nat × Nat)), sm_lm (xon 11) e := fun _ h => absurd h List.not_mem_nil
theorem xlM_12 : ∀ e ∈ ([] : List (Nat × Nat × Nat)), sm_lm (xon 12) e := fun _ h => absurd h List.not_mem_nil
theorem xlM_13 : ∀ e ∈ ([] : List (Nat × Nat × Nat)), sm_lm (xon 13) e := fun _ h => absurd h List.not_mem_nil
theorem xlM_14 : ∀ e ∈ ([(7, 5, 0), (17, 6, 0), (21, 8, 0), (25, 9, 0), (30, 10, 0), (33, 11, 0), (37, 12, 0), (41, 14, 0), (45, 15, 0), (48, 16, 0), (51, 0, 0), (54, 80, 0), (55, 159, 3), (60, 82, 0), (61, 81, 0), (64, 160, 3), (67, 84, 0), (68, 161, 3), (71, 108, 0), (72, 1, 0), (75, 113, 0), (76, 2, 0), (79, 114, 0), (80, 162, 3), (82, 127, 0), (83, 163, 3), (85, 128, 0), (86, 164, 3), (88, 130, 0), (89, 165, 3), (92, 131, 0), (93, 166, 3), (96, 133, 0), (97, 167, 3), (99, 135, 0), (100, 3, 0), (103, 136, 0), (104, 168, 3), (106, 142, 0), (107, 4, 0), (110, 143, 0)] : List (Nat × Nat × Nat)), sm_lm (xon 14) e := List.forall_mem_cons.mpr ⟨⟨fun h => absurd h (by decide), fun _ => Or.inl tw_314, fun h => absurd h (by decide), fun h => absurd h (by decide), fun h => absurd h (by decide), fun h => absurd h (by decide)⟩, List.forall_mem_cons.mpr ⟨⟨fun h => absurd h (by decide), fun _ => Or.inl tw_405, fun h => absurd h (by decide), fun h => absurd h (by decide), fun h => absurd h (by decide), fun h => absurd h (by decide)⟩, List.forall_mem_cons.mpr ⟨⟨fun h => absurd h (by decide), fun _ => Or.inl tw_735, fun h => absurd h (by decide), fun h => absurd h (by decide), fun h => absurd h (by decide), fun h => absurd h (by decide)⟩, List.forall_mem_cons.mpr ⟨⟨fun h => absurd h (by decide), fun _ => Or.inl tw_749, fun h => absurd h (by decide), fun h => absurd h (by decide), fun h => absurd h (by decide), fun h => absurd h (by decide)⟩, List.forall_mem_cons.mpr ⟨⟨fun h => absurd h (by decide), fun _ => Or.inl tw_774, fun h => absurd h (by decide), fun h => absurd h (by decide), fun h => absurd h (by decide), fun h => absurd h (by decide)⟩, List.forall_mem_cons.mpr ⟨⟨fun h => absurd h (by decide), fun _ => Or.inl tw_802, fun h => absurd h (by decide), fun h => absurd h (by decide), fun h => absurd h (by decide), fun h => absurd h (by decide)⟩, List.forall_mem_cons.mpr ⟨⟨fun h => absurd h (by decide), fun _ => Or.inl tw_812, fun h => absurd h (by decide), fun h => absurd h (by decide), fun h => absurd h (by decide), fun h => absurd h (by decide)⟩, List.forall_mem_cons.mpr ⟨⟨fun h => absurd h (by decide), fun _ => Or.inl tw_825, fun h => absurd h (by decide), fun h => absurd h (by decide), fun h => absurd h (by decide), fun h => absurd h (by decide)⟩, List.forall_mem_cons.mpr ⟨⟨fun h => absurd h (by decide), fun _ => Or.inl tw_843, fun h => absurd h (by decide), fun h => absurd h (by decide), fun h => absurd h (by decide), fun h => absurd h (by decide)⟩, List.forall_mem_cons.mpr ⟨⟨fun h => absurd h (by decide), fun _ => Or.inl tw_851, fun h => absurd h (by decide), fun h => absurd h (by decide), fun h => absurd h (by decide), fun h => absurd h (by decide)⟩, List.forall_mem_cons.mpr ⟨⟨fun h => absurd h (by decide), fun _ => Or.inl tw_29, fun h => absurd h (by decide), fun h => absurd h (by decide), fun h => absurd h (by decide), fun h => absurd h (by decide)⟩, List.forall_mem_cons.mpr ⟨⟨fun h => absurd h (by decide), fun _ => Or.inl tw_858, fun h => absurd h (by decide), fun h => absurd h (by decide), fun h => absurd h (by decide), fun h => absurd h (by decide)⟩, List.forall_mem_cons.mpr ⟨⟨fun h => absurd h (by decide), fun h => absurd h (by decide), fun h => absurd h (by decide), fun h => absurd h (by decide), fun h => absurd h (by decide), fun _ => tw_309⟩, List.forall_mem_cons.mpr ⟨⟨fun h => absurd h (by decide), fun _ => Or.inl tw_1069, fun h => absurd h (by decide), fun h => absurd h (by decide), fun h => absurd h (by decide), fun h => absurd h (by decide)⟩, List.forall_mem_cons.mpr ⟨⟨fun h => absurd h (by decide), fun _ => Or.inl tw_1065, fun h => absurd h (by decide), fun h => absurd h (by decide), fun h => absurd h (by decide), fun h => absurd h (by decide)⟩, List.forall_mem_cons.mpr ⟨⟨fun h => absurd h (by decide), fun h => absurd h (by decide), fun h => absurd h (by decide), fun h => absurd h (by decide), fun h => absurd h (by decide), fun _ => tw_402⟩, List.forall_mem_cons.mpr ⟨⟨fun h => absurd h (by decide), fun _ => Or.inl tw_1076, fun h => absurd h (by decide), fun h => absurd h (by decide), fun h => absurd h (by decide), fun h => absurd h (by decide)⟩, List.forall_mem_cons.mpr ⟨⟨fun h => absurd h (by decide), fun h => absurd h (by decide), fun h => absurd h (by decide), fun h => absurd h (by decide), fun h => absurd h (by decide), fun _ => tw_732⟩, List.forall_mem_cons.mpr ⟨⟨fun h => absurd h (by decide), fun _ => Or.inl tw_1175, fun h => absurd h (by decide), fun h => absurd h (by decide), fun h => absurd h (by decide), fun h => absurd h (by decide)⟩, List.forall_mem_cons.mpr ⟨⟨fun h => absurd h (by decide), fun _ => Or.inl tw_241, fun h => absurd h (by decide), fun h => absurd h (by decide), fun h => absurd h (by decide), fun h => absurd h (by decide)⟩, List.forall_mem_cons.mpr ⟨⟨fun h => absurd h (by decide), fun _ => Or.inl tw_1195, fun h => absurd h (by decide), fun h => absurd h (by decide), fun h => absurd h (by decide), fun h => absurd h (by decide)⟩, List.forall_mem_cons.mpr ⟨⟨fun h => absurd h (by decide), fun _ => Or.inl tw_268, fun h => absurd h (by decide), fun h => absurd h (by decide), fun h => absurd h (by decide), fun h => absurd h (by decide)⟩, List.forall_mem_cons.mpr ⟨⟨fun h => absurd h (by decide), fun _ => Or.inl tw_1199, fun h => absurd h (by decide), fun h => absurd h (by decide), fun h => absurd h (by decide), fun h => absurd h (by decide)⟩, List.forall_mem_cons.mpr ⟨⟨fun h => absurd h (by decide), fun h => absurd h (by decide), fun h => absurd h (by decide), fun h => absurd h (by decide), fun h => absurd h (by decide), fun _ => tw_745⟩, List.forall_mem_cons.mpr ⟨⟨fun h => absurd h (by decide), fun _ => Or.inl tw_1251, fun h => absurd h (by decide), fun h => absurd h (by decide), fun h => absurd h (by decide), fun h => absurd h (by decide)⟩, List.forall_mem_cons.mpr ⟨⟨fun h => absurd h (by decide), fun h => absurd h (by decide), fun h => absurd h (by decide), fun h => absurd h (by decide), fun h => absurd h (by decide), fun _ => tw_771⟩, List.forall_mem_cons.mpr ⟨⟨fun h => absurd h (by decide), fun _ => Or.inl tw_1255, fun h => absurd h (by decide), fun h => absurd h (by decide), fun h => absurd h (by decide), fun h => absurd h (by decide)⟩, List.forall_mem_cons.mpr ⟨⟨fun h => absurd h (by decide), fun h => absurd h (by decide), fun h => absurd h (by decide), fun h => absurd h (by decide), fun h => absurd h (by decide), fun _ => tw_799⟩, List.forall_mem_cons.mpr ⟨⟨fun h => absurd h (by decide), fun _ => Or.inl tw_1263, fun h => absurd h (by decide), fun h => absurd h (by decide), fun h => absurd h (by decide), fun h => absurd h (by decide)⟩, List.forall_mem_cons.mpr ⟨⟨fun h => absurd h (by decide), fun h => absurd h (by decide), fun h => absurd h (by decide), fun h => absurd h (by decide), fun h => absurd h (by decide), fun _ => tw_809⟩, List.forall_mem_cons.mpr ⟨⟨fun h => absurd h (by decide), fun _ => Or.inl tw_1267, fun h => absurd h (by decide), fun h => absurd h (by decide), fun h => absurd h (by decide), fun h => absurd h (by decide)⟩, List.forall_mem_cons.mpr ⟨⟨fun h => absurd h (by decide), fun h => absurd h (by decide), fun h => absurd h (by decide), fun h => absurd h (by decide), fun h => absurd h (by decide), fun _ => tw_822⟩, List.forall_mem_cons.mpr ⟨⟨fun h => absurd h (by decide), fun _ => Or.inl tw_1275, fun h => absurd h (by decide), fun h => absurd h (by decide), fun h => absurd h (by decide), fun h => absurd h (by decide)⟩, List.forall_mem_cons.mpr ⟨⟨fun h => absurd h (by decide), fun h => absurd h (by decide), fun h => absurd h (by decide), fun h => absurd h (by decide), fun h => absurd h (by decide), fun _ => tw_840⟩, List.forall_mem_cons.mpr ⟨⟨fun h => absurd h (by decide), fun _ => Or.inl tw_1283, fun h => absurd h (by decide), fun h => absurd h (by decide), fun h => absurd h (by decide), fun h => absurd h (by decide)⟩, List.forall_mem_cons.mpr ⟨⟨fun h => absurd h (by decide), fun _ => Or.inl tw_273, fun h => absurd h (by decide), fun h => absurd h (by decide), fun h => absurd h (by decide), fun h => absurd h (by decide)⟩, List.forall_mem_cons.mpr ⟨⟨fun h => absurd h (by decide), fun _ => Or.inl tw_1287, fun h => absurd h (by decide), fun h => absurd h (by decide), fun h => absurd h (by decide), fun h => absurd h (by decide)⟩, List.forall_mem_cons.mpr ⟨⟨fun h => absurd h (by decide), fun h => absurd h (by decide), fun h => absurd h (by decide), fun h => absurd h (by decide), fun h => absurd h (by decide), fun _ => tw_848⟩, List.forall_mem_cons.mpr ⟨⟨fun h => absurd h (by decide), fun _ => Or.inl tw_1309, fun h => absurd h (by decide), fun h => absurd h (by decide), fun h => absurd h (by decide), fun h => absurd h (by decide)⟩, List.forall_mem_cons.mpr ⟨⟨fun h => absurd h (by decide), fun _ => Or.inl tw_305, fun h => absurd h (by decide), fun h => absurd h (by decide), fun h => absurd h (by decide), fun h => absurd h (by decide)⟩, List.forall_mem_cons.mpr ⟨⟨fun h => absurd h (by decide), fun _ => Or.inl tw_1313, fun h => absurd h (by decide), fun h => absurd h (by decide), fun h => absurd h (by decide), fun h => absurd h (by decide)⟩, fun _ h => absurd h List.not_mem_nil⟩⟩⟩⟩⟩⟩⟩⟩⟩⟩⟩⟩⟩⟩⟩⟩⟩⟩⟩⟩⟩⟩⟩⟩⟩⟩⟩⟩⟩⟩⟩⟩⟩⟩⟩⟩⟩⟩⟩⟩⟩
theorem xlM_15 : ∀ e ∈ ([(1, 154, 0)] : List (Nat × Nat × Nat)), sm_lm (xon 15) e := List.forall_mem_cons.mpr ⟨⟨fun h => absurd h (by decide), fun _ => Or.inl tw_43, fun h => absurd h (by decide), fun h => absurd h (by decide), fun h => absurd h (by decide), fun h => absurd h (by decide)⟩, fun _ h => absurd h List.not_mem_nil⟩
theorem xlM_16 : ∀ e ∈ ([(1, 0, 2)] : List (Nat × Nat × Nat)), sm_lm (xon 16) e := List.forall_mem_cons.mpr ⟨⟨fun _ => tw_46, fun h => absurd h (by decide), fun h => absurd h (by decide), fun h => absurd h (by decide), fun h => absurd h (by decide), fun h => absurd h (by decide)⟩, fun _ h => absurd h List.not_mem_nil⟩
theorem xlM_17 : ∀ e ∈ ([(194, 0, 4)] : List (Nat × Nat × Nat)), sm_lm (xon 17) e := List.forall_mem_cons.mpr ⟨⟨fun h => absurd h (by decide), fun h => absurd h (by decide), fun _ => tw_113, fun h => absurd h (by decide), fun h => absurd h (by decide), fun h => absurd h (by decide)⟩, fun _ h => absurd h List.not_mem_nil⟩
theorem xlM_18 : ∀ e ∈ ([] : List (Nat × Nat × Nat)), sm_lm (xon 18) e := fun _ h => absurd h List.not_mem_nil
theorem xlM_19 : ∀ e ∈ ([] : List (Nat × Nat × Nat)), sm_lm (xon 19) e := fun _ h => absurd h List.not_mem_nil
theorem xlM_20 : ∀ e ∈ ([(105, 157, 0)] : List (Nat × Nat × Nat)), sm_lm (xon 20) e := List.forall_mem_cons.mpr ⟨⟨fun h => absurd h (by decide), fun _ => Or.inl tw_260, fun h => absurd h (by decide), fun h => absurd h (by decide), fun h => absurd h (by decide), fun h => absurd h (by decide)⟩, fun _ h => absurd h List.not_mem_nil⟩
theorem xlM_21 : ∀ e ∈ ([] : List (Nat × Nat × Nat)), sm_lm (xon 21) e := fun _ h => absurd h List.not_mem_nil
theorem xlM_22 : ∀ e ∈ ([] : List (Nat × Nat × Nat)), sm_lm (xon 22) e := fun _ h => absurd h List.not_mem_nil
theorem xlM_ok (o : Nat) (l : List (Nat × Nat × Nat)) (h : xlM[o]? = some l) : ∀ e ∈ l, sm_lm (xon o) e := by
  match o, h with
  | 0, h => cases h; exact xlM_0
  | 1, h => cases h; exact xlM_1
  | 2, h => cases h; exact xlM_2
  | 3, h => cases h; exact xlM_3
  | 4, h => cases h; exact xlM_4
  | 5, h => cases h; exact xlM_5
  | 6, h => cases h; exact xlM_6
  | 7, h => cases h; exact xlM_7
  | 8, h => cases h; exact xlM_8
  | 9, h => cases h; exact xlM_9
  | 10, h => cases h; exact xlM_10
  | 11, h => cases h; exact xlM_11
  | 12, h => cases h; exact xlM_12
  | 13, h => cases h; exact xlM_13
  | 14, h => cases h; exact xlM_14
  | 15, h => cases h; exact xlM_15
  | 16, h => cases h; exact xlM_16
  | 17, h => cases h; exact xlM_17
  | 18, h => cases h; exact xlM_18
  | 19, h => cases h; exact xlM_19
  | 20, h => cases h; exact xlM_20
  | 21, h => cases h; exact xlM_21
  | 22, h => cases h; exact xlM_22
  | n + 23, h => cases h
theorem xlC_0 : ∀ e ∈ ([(13, 10, 0), (20, 1, 0), (31, 3, 0), (38, 4, 0), (45, 7, 0), (56, 11, 1), (67, 12, 1), (72, 8, 0), (111, 6, 0), (145, 13, 1), (154, 2, 0)] : List (Nat × Nat × Nat)), ∃ q : vw_C, xcl[e.2.1]? = some q ∧ Cond.classLink (xon 0) e.1 q.1 ∈ Tg ∧ (e.2.2 = 0 → Cond.instantiable q.1 q.2.2 ∈ Tg ∧ Cond.initialized q.1 ∈ Tg) := List.forall_mem_cons.mpr ⟨⟨_, rfl, tw_35, fun _ => ⟨tw_36, tw_4⟩⟩, List.forall_mem_cons.mpr ⟨⟨_, rfl, tw_62, fun _ => ⟨tw_63, tw_5⟩⟩, List.forall_mem_cons.mpr ⟨⟨_, rfl, tw_155, fun _ => ⟨tw_156, tw_10⟩⟩, List.forall_mem_cons.mpr ⟨⟨_, rfl, tw_184, fun _ => ⟨tw_185, tw_11⟩⟩, List.forall_mem_cons.mpr ⟨⟨_, rfl, tw_197, fun _ => ⟨tw_198, tw_12⟩⟩, List.forall_mem_cons.mpr ⟨⟨_, rfl, tw_318, fun h => absurd h (by decide)⟩, List.forall_mem_cons.mpr ⟨⟨_, rfl, tw_386, fun h => absurd h (by decide)⟩, List.forall_mem_cons.mpr ⟨⟨_, rfl, tw_409, fun _ => ⟨tw_410, tw_19⟩⟩, List.forall_mem_cons.mpr ⟨⟨_, rfl, tw_829, fun _ => ⟨tw_482, tw_22⟩⟩, List.forall_mem_cons.mpr ⟨⟨_, rfl, tw_753, fun h => absurd h (by decide)⟩, List.forall_mem_cons.mpr ⟨⟨_, rfl, tw_770, fun _ => ⟨tw_685, tw_24⟩⟩, fun _ h => absurd h List.not_mem_nil⟩⟩⟩⟩⟩⟩⟩⟩⟩⟩⟩
theorem xlC_1 : ∀ e ∈ ([(9, 10, 0), (35, 6, 0), (62, 5, 0)] : List (Nat × Nat × Nat)), ∃ q : vw_C, xcl[e.2.1]? = some q ∧ Cond.classLink (xon 1) e.1 q.1 ∈ Tg ∧ (e.2.2 = 0 → Cond.instantiable q.1 q.2.2 ∈ Tg ∧ Cond.initialized q.1 ∈ Tg) := List.forall_mem_cons.mpr ⟨⟨_, rfl, tw_68, fun _ => ⟨tw_36, tw_4⟩⟩, List.forall_mem_cons.mpr ⟨⟨_, rfl, tw_267, fun _ => ⟨tw_482, tw_22⟩⟩, List.forall_mem_cons.mpr ⟨⟨_, rfl, tw_576, fun _ => ⟨tw_577, tw_23⟩⟩, fun _ h => absurd h List.not_mem_nil⟩⟩⟩
theorem xlC_2 : ∀ e ∈ ([] : List (Nat × Nat × Nat)), ∃ q : vw_C, xcl[e.2.1]? = some q ∧ Cond.classLink (xon 2) e.1 q.1 ∈ Tg ∧ (e.2.2 = 0 → Cond.instantiable q.1 q.2.2 ∈ Tg ∧ Cond.initialized q.1 ∈ Tg) := fun _ h => absurd h List.not_mem_nil
theorem xlC_3 : ∀ e ∈ ([(50, 6, 0), (75, 5, 0)] : List (Nat × Nat × Nat)), ∃ q : vw_C, xcl[e.2.1]? = some q ∧ Cond.classLink (xon 3) e.1 q.1 ∈ Tg ∧ (e.2.2 = 0 → Cond.instantiable q.1 q.2.2 ∈ Tg ∧ Cond.initialized q.1 ∈ Tg) := List.forall_mem_cons.mpr ⟨⟨_, rfl, tw_656, fun _ => ⟨tw_482, tw_22⟩⟩, List.forall_mem_cons.mpr ⟨⟨_, rfl, tw_647, fun _ => ⟨tw_577, tw_23⟩⟩, fun _ h => absurd h List.not_mem_nil⟩⟩
theorem xlC_4 : ∀ e ∈ ([(9, 10, 0), (34, 6, 0), (61, 2, 0), (83, 5, 0)] : List (Nat × Nat × Nat)), ∃ q : vw_C, xcl[e.2.1]? = some q ∧ Cond.classLink (xon 4) e.1 q.1 ∈ Tg ∧ (e.2.2 = 0 → Cond.instantiable q.1 q.2.2 ∈ Tg ∧ Cond.initialized q.1 ∈ Tg) := List.forall_mem_cons.mpr ⟨⟨_, rfl, tw_190, fun _ => ⟨tw_36, tw_4⟩⟩, List.forall_mem_cons.mpr ⟨⟨_, rfl, tw_675, fun _ => ⟨tw_482, tw_22⟩⟩, List.forall_mem_cons.mpr ⟨⟨_, rfl, tw_684, fun _ => ⟨tw_685, tw_24⟩⟩, List.forall_mem_cons.mpr ⟨⟨_, rfl, tw_715, fun _ => ⟨tw_577, tw_23⟩⟩, fun _ h => absurd h List.not_mem_nil⟩⟩⟩⟩
theorem xlC_5 : ∀ e ∈ ([] : List (Nat × Nat × Nat)), ∃ q : vw_C, xcl[e.2.1]? = some q ∧ Cond.classLink (xon 5) e.1 q.1 ∈ Tg ∧ (e.2.2 = 0 → Cond.instantiable q.1 q.2.2 ∈ Tg ∧ Cond.initialized q.1 ∈ Tg) := fun _ h => absurd h List.not_mem_nil
theorem xlC_6 : ∀ e ∈ ([] : List (Nat × Nat × Nat)), ∃ q : vw_C, xcl[e.2.1]? = some q ∧ Cond.classLink (xon 6) e.1 q.1 ∈ Tg ∧ (e.2.2 = 0 → Cond.instantiable q.1 q.2.2 ∈ Tg ∧ Cond.initialized q.1 ∈ Tg) := fun _ h => absurd h List.not_mem_nil
theorem xlC_7 : ∀ e ∈ ([(47, 6, 0), (75, 5, 0)] : List (Nat × Nat × Nat)), ∃ q : vw_C, xcl[e.2.1]? = some q ∧ Cond.classLink (xon 7) e.1 q.1 ∈ Tg ∧ (e.2.2 = 0 → Cond.instantiable q.1 q.2.2 ∈ Tg ∧ Cond.initialized q.1 ∈ Tg) := List.forall_mem_cons.mpr ⟨⟨_, rfl, tw_286, fun _ => ⟨tw_482, tw_22⟩⟩, List.forall_mem_cons.mpr ⟨⟨_, rfl, tw_304, fun _ => ⟨tw_577, tw_23⟩⟩, fun _ h => absurd h List.not_mem_nil⟩⟩
theorem xlC_8 : ∀ e ∈ ([(93, 6, 0)] : List (Nat × Nat × Nat)), ∃ q : vw_C, xcl[e.2.1]? = some q ∧ Cond.classLink (xon 8) e.1 q.1 ∈ Tg ∧ (e.2.2 = 0 → Cond.instantiable q.1 q.2.2 ∈ Tg ∧ Cond.initialized q.1 ∈ Tg) := List.forall_mem_cons.mpr ⟨⟨_, rfl, tw_481, fun _ => ⟨tw_482, tw_22⟩⟩, fun _ h => absurd h List.not_mem_nil⟩
theorem xlC_9 : ∀ e ∈ ([] : List (Nat × Nat × Nat)), ∃ q : vw_C, xcl[e.2.1]? = some q ∧ Cond.classLink (xon 9) e.1 q.1 ∈ Tg ∧ (e.2.2 = 0 → Cond.instantiable q.1 q.2.2 ∈ Tg ∧ Cond.initialized q.1 ∈ Tg) := fun _ h => absurd h List.not_mem_nil
theorem xlC_10 : ∀ e ∈ ([] : List (Nat × Nat × Nat)), ∃ q : vw_C, xcl[e.2.1]? = some q ∧ Cond.classLink (xon 10) e.1 q.1 ∈ Tg ∧ (e.2.2 = 0 → Cond.instantiable q.1 q.2.2 ∈ Tg ∧ Cond.initialized q.1 ∈ Tg) := fun _ h => absurd h List.not_mem_nil
theorem xlC_11 : ∀ e ∈ ([] : List (Nat × Nat × Nat)), ∃ q : vw_C, xcl[e.2.1]? = some q ∧ Cond.classLink (xon 11) e.1 q.1 ∈ Tg ∧ (e.2.2 = 0 → Cond.instantiable q.1 q.2.2 ∈ Tg ∧ Cond.initialized q.1 ∈ Tg) := fun _ h => absurd h List.not_mem_nil
theorem xlC_12 : ∀ e ∈ ([] : List (Nat × Nat × Nat)), ∃ q : vw_C, xcl[e.2.1]? = some q ∧ Cond.classLink (xon 12) e.1 q.1 ∈ Tg ∧ (e.2.2 = 0 → Cond.instantiable q.1 q.2.2 ∈ Tg ∧ Cond.initialized q.1 ∈ Tg) := fun _ h => absurd h List.not_mem_nil
theorem xlC_13 : ∀ e ∈ ([] : List (Nat × Nat × Nat)), ∃ q : vw_C, xcl[e.2.1]? = some q ∧ Cond.classLink (xon 13) e.1 q.1 ∈ Tg ∧ (e.2.2 = 0 → Cond.instantiable q.1 q.2.2 ∈ Tg ∧ Cond.initialized q.1 ∈ Tg) := fun _ h => absurd h List.not_mem_nil
theorem xlC_14 : ∀ e ∈ ([(8, 0, 0), (52, 9, 0)] : List (Nat × Nat × Nat)), ∃ q : vw_C, xcl[e.2.1]? = some q ∧ Cond.classLink (xon 14) e.1 q.1 ∈ Tg ∧ (e.2.2 = 0 → Cond.instantiable q.1 q.2.2 ∈ Tg ∧ Cond.initialized q.1 ∈ Tg) := List.forall_mem_cons.mpr ⟨⟨_, rfl, tw_27, fun _ => ⟨tw_28, tw_1⟩⟩, List.forall_mem_cons.mpr ⟨⟨_, rfl, tw_856, fun _ => ⟨tw_857, tw_13⟩⟩, fun _ h => absurd h List.not_mem_nil⟩⟩
theorem xlC_15 : ∀ e ∈ ([] : List (Nat × Nat × Nat)), ∃ q : vw_C, xcl[e.2.1]? = some q ∧ Cond.classLink (xon 15) e.1 q.1 ∈ Tg ∧ (e.2.2 = 0 → Cond.instantiable q.1 q.2.2 ∈ Tg ∧ Cond.initialized q.1 ∈ Tg) := fun _ h => absurd h List.not_mem_nil
theorem xlC_16 : ∀ e ∈ ([] : List (Nat × Nat × Nat)), ∃ q : vw_C, xcl[e.2.1]? = some q ∧ Cond.classLink (xon 16) e.1 q.1 ∈ Tg ∧ (e.2.2 = 0 → Cond.instantiable q.1 q.2.2 ∈ Tg ∧ Cond.initialized q.1 ∈ Tg) := fun _ h => absurd h List.not_mem_nil
theorem xlC_17 : ∀ e ∈ ([] : List (Nat × Nat × Nat)), ∃ q : vw_C, xcl[e.2.1]? = some q ∧ Cond.classLink (xon 17) e.1 q.1 ∈ Tg ∧ (e.2.2 = 0 → Cond.instantiable q.1 q.2.2 ∈ Tg ∧ Cond.initialized q.1 ∈ Tg) := fun _ h => absurd h List.not_mem_nil
theorem xlC_18 : ∀ e ∈ ([] : List (Nat × Nat × Nat)), ∃ q : vw_C, xcl[e.2.1]? = some q ∧ Cond.classLink (xon 18) e.1 q.1 ∈ Tg ∧ (e.2.2 = 0 → Cond.instantiable q.1 q.2.2 ∈ Tg ∧ Cond.initialized q.1 ∈ Tg) := fun _ h => absurd h List.not_mem_nil
theorem xlC_19 : ∀ e ∈ ([] : List (Nat × Nat × Nat)), ∃ q : vw_C, xcl[e.2.1]? = some q ∧ Cond.classLink (xon 19) e.1 q.1 ∈ Tg ∧ (e.2.2 = 0 → Cond.instantiable q.1 q.2.2 ∈ Tg ∧ Cond.initialized q.1 ∈ Tg) := fun _ h => absurd h List.not_mem_nil
theorem xlC_20 : ∀ e ∈ ([] : List (Nat × Nat × Nat)), ∃ q : vw_C, xcl[e.2.1]? = some q ∧ Cond.classLink (xon 20) e.1 q.1 ∈ Tg ∧ (e.2.2 = 0 → Cond.instantiable q.1 q.2.2 ∈ Tg ∧ Cond.initialized q.1 ∈ Tg) := fun _ h => absurd h List.not_mem_nil
theorem xlC_21 : ∀ e ∈ ([] : List (Nat × Nat × Nat)), ∃ q : vw_C, xcl[e.2.1]? = some q ∧ Cond.classLink (xon 21) e.1 q.1 ∈ Tg ∧ (e.2.2 = 0 → Cond.instantiable q.1 q.2.2 ∈ Tg ∧ Cond.initialized q.1 ∈ Tg) := fun _ h => absurd h List.not_mem_nil
theorem xlC_22 : ∀ e ∈ ([] : List (Nat × Nat × Nat)), ∃ q : vw_C, xcl[e.2.1]? = some q ∧ Cond.classLink (xon 22) e.1 q.1 ∈ Tg ∧ (e.2.2 = 0 → Cond.instantiable q.1 q.2.2 ∈ Tg ∧ Cond.initialized q.1 ∈ Tg) := fun _ h => absurd h List.not_mem_nil
theorem xlC_ok (o : Nat) (l : List (Nat × Nat × Nat)) (h : xlC[o]? = some l) : ∀ e ∈ l, ∃ q : vw_C, xcl[e.2.1]? = some q ∧ Cond.classLink (xon o) e.1 q.1 ∈ Tg ∧ (e.2.2 = 0 → Cond.instantiable q.1 q.2.2 ∈ Tg ∧ Cond.initialized q.1 ∈ Tg) := by
  match o, h with
  | 0, h => cases h; exact xlC_0
  | 1, h => cases h; exact xlC_1
  | 2, h => cases h; exact xlC_2
  | 3, h => cases h; exact xlC_3
  | 4, h => cases h; exact xlC_4
  | 5, h => cases h; exact xlC_5
  | 6, h => cases h; exact xlC_6
  | 7, h => cases h; exact xlC_7
  | 8, h => cases h; exact xlC_8
  | 9, h => cases h; exact xlC_9
  | 10, h => cases h; exact xlC_10
  | 11, h => cases h; exact xlC_11
  | 12, h => cases h; exact xlC_12
  | 13, h => cases h; exact xlC_13
  | 14, h => cases h; exact xlC_14
  | 15, h => cases h; exact xlC_15
  | 16, h => cases h; exact xlC_16
  | 17, h => cases h; exact xlC_17
  | 18, h => cases h; exact xlC_18
  | 19, h => cases h; exact xlC_19
  | 20, h => cases h; exact xlC_20
  | 21, h => cases h; exact xlC_21
  | 22, h => cases h; exact xlC_22
  | n + 23, h => cases h
theorem xlN_0 : ∀ e ∈ ([] : List (Nat × Nat × Nat)), Cond.constant (xon 0) e.1 (sm_k e.2) ∈ Tg := fun _ h => absurd h List.not_mem_nil
theorem xlN_1 : ∀ e ∈ ([] : List (Nat × Nat × Nat)), Cond.constant (xon 1) e.1 (sm_k e.2) ∈ Tg := fun _ h => absurd h List.not_mem_nil
theorem xlN_2 : ∀ e ∈ ([] : List (Nat × Nat × Nat)), Cond.constant (xon 2) e.1 (sm_k e.2) ∈ Tg := fun _ h => absurd h List.not_mem_nil
theorem xlN_3 : ∀ e ∈ ([] : List (Nat × Nat × Nat)), Cond.constant (xon 3) e.1 (sm_k e.2) ∈ Tg := fun _ h => absurd h List.not_mem_nil
theorem xlN_4 : ∀ e ∈ ([] : List (Nat × Nat × Nat)), Cond.constant (xon 4) e.1 (sm_k e.2) ∈ Tg := fun _ h => absurd h List.not_mem_nil
theorem xlN_5 : ∀ e ∈ ([] : List (Nat × Nat × Nat)), Cond.constant (xon 5) e.1 (sm_k e.2) ∈ Tg := fun _ h => absurd h List.not_mem_nil
theorem xlN_6 : ∀ e ∈ ([] : List (Nat × Nat × Nat)), Cond.constant (xon 6) e.1 (sm_k e.2) ∈ Tg := fun _ h => absurd h List.not_mem_nil
theorem xlN_7 : ∀ e ∈ ([] : List (Nat × Nat × Nat)), Cond.constant (xon 7) e.1 (sm_k e.2) ∈ Tg := fun _ h => absurd h List.not_mem_nil
theorem xlN_8 : ∀ e ∈ ([] : List (Nat × Nat × Nat)), Cond.constant (xon 8) e.1 (sm_k e.2) ∈ Tg := fun _ h => absurd h List.not_mem_nil
theorem xlN_9 : ∀ e ∈ ([(172, 1000001, 0)] : List (Nat × Nat × Nat)), Cond.constant (xon 9) e.1 (sm_k e.2) ∈ Tg := List.forall_mem_cons.mpr ⟨tw_1138, fun _ h => absurd h List.not_mem_nil⟩
theorem xlN_10 : ∀ e ∈ ([] : List (Nat × Nat × Nat)), Cond.constant (xon 10) e.1 (sm_k e.2) ∈ Tg := fun _ h => absurd h List.not_mem_nil
theorem xlN_11 : ∀ e ∈ ([] : List (Nat × Nat × Nat)), Cond.constant (xon 11) e.1 (sm_k e.2) ∈ Tg := fun _ h => absurd h List.not_mem_nil
theorem xlN_12 : ∀ e ∈ ([] : List (Nat × Nat × Nat)), Cond.constant (xon 12) e.1 (sm_k e.2) ∈ Tg := fun _ h => absurd h List.not_mem_nil
theorem xlN_13 : ∀ e ∈ ([] : List (Nat × Nat × Nat)), Cond.constant (xon 13) e.1 (sm_k e.2) ∈ Tg := fun _ h => absurd h List.not_mem_nil
theorem xlN_14 : ∀ e ∈ ([] : List (Nat × Nat × Nat)), Cond.constant (xon 14) e.1 (sm_k e.2) ∈ Tg := fun _ h => absurd h List.not_mem_nil
theorem xlN_15 : ∀ e ∈ ([] : List (Nat × Nat × Nat)), Cond.constant (xon 15) e.1 (sm_k e.2) ∈ Tg := fun _ h => absurd h List.not_mem_nil
theorem xlN_16 : ∀ e ∈ ([] : List (Nat × Nat × Nat)), Cond.constant (xon 16) e.1 (sm_k e.2) ∈ Tg := fun _ h => absurd h List.not_mem_nil
theorem xlN_17 : ∀ e ∈ ([(200, 2147483639, 0)] : List (Nat × Nat × Nat)), Cond.constant (xon 17) e.1 (sm_k e.2) ∈ Tg := List.forall_mem_cons.mpr ⟨tw_116, fun _ h => absurd h List.not_mem_nil⟩
theorem xlN_18 : ∀ e ∈ ([] : List (Nat × Nat × Nat)), Cond.constant (xon 18) e.1 (sm_k e.2) ∈ Tg := fun _ h => absurd h List.not_mem_nil
theorem xlN_19 : ∀ e ∈ ([] : List (Nat × Nat × Nat)), Cond.constant (xon 19) e.1 (sm_k e.2) ∈ Tg := fun _ h => absurd h List.not_mem_nil
theorem xlN_20 : ∀ e ∈ ([] : List (Nat × Nat × Nat)), Cond.constant (xon 20) e.1 (sm_k e.2) ∈ Tg := fun _ h => absurd h List.not_mem_nil
theorem xlN_21 : ∀ e ∈ ([] : List (Nat × Nat × Nat)), Cond.constant (xon 21) e.1 (sm_k e.2) ∈ Tg := fun _ h => absurd h List.not_mem_nil
theorem xlN_22 : ∀ e ∈ ([] : List (Nat × Nat × Nat)), Cond.constant (xon 22) e.1 (sm_k e.2) ∈ Tg := fun _ h => absurd h List.not_mem_nil
theorem xlN_ok (o : Nat) (l : List (Nat × Nat × Nat)) (h : xlN[o]? = some l) : ∀ e ∈ l, Cond.constant (xon o) e.1 (sm_k e.2) ∈ Tg := by
  match o, h with
  | 0, h => cases h; exact xlN_0
  | 1, h => cases h; exact xlN_1
  | 2, h => cases h; exact xlN_2
  | 3, h => cases h; exact xlN_3
  | 4, h => cases h; exact xlN_4
  | 5, h => cases h; exact xlN_5
  | 6, h => cases h; exact xlN_6
  | 7, h => cases h; exact xlN_7
  | 8, h => cases h; exact xlN_8
  | 9, h => cases h; exact xlN_9
  | 10, h => cases h; exact xlN_10
  | 11, h => cases h; exact xlN_11
  | 12, h => cases h; exact xlN_12
  | 13, h => cases h; exact xlN_13
  | 14, h => cases h; exact xlN_14
  | 15, h => cases h; exact xlN_15
  | 16, h => cases h; exact xlN_16
  | 17, h => cases h; exact xlN_17
  | 18, h => cases h; exact xlN_18
  | 19, h => cases h; exact xlN_19
  | 20, h => cases h; exact xlN_20
  | 21, h => cases h; exact xlN_21
  | 22, h => cases h; exact xlN_22
  | n + 23, h => cases h
theorem xlJ_0 : ∀ e ∈ ([] : List (Nat × Nat × Nat)), Cond.constantLong (xon 0) e.1 (lN e.2.1) ∈ Tg := fun _ h => absurd h List.not_mem_nil
theorem xlJ_1 : ∀ e ∈ ([] : List (Nat × Nat × Nat)), Cond.constantLong (xon 1) e.1 (lN e.2.1) ∈ Tg := fun _ h => absurd h List.not_mem_nil
theorem xlJ_2 : ∀ e ∈ ([] : List (Nat × Nat × Nat)), Cond.constantLong (xon 2) e.1 (lN e.2.1) ∈ Tg := fun _ h => absurd h List.not_mem_nil
theorem xlJ_3 : ∀ e ∈ ([] : List (Nat × Nat × Nat)), Cond.constantLong (xon 3) e.1 (lN e.2.1) ∈ Tg := fun _ h => absurd h List.not_mem_nil
theorem xlJ_4 : ∀ e ∈ ([] : List (Nat × Nat × Nat)), Cond.constantLong (xon 4) e.1 (lN e.2.1) ∈ Tg := fun _ h => absurd h List.not_mem_nil
theorem xlJ_5 : ∀ e ∈ ([] : List (Nat × Nat × Nat)), Cond.constantLong (xon 5) e.1 (lN e.2.1) ∈ Tg := fun _ h => absurd h List.not_mem_nil
theorem xlJ_6 : ∀ e ∈ ([] : List (Nat × Nat × Nat)), Cond.constantLong (xon 6) e.1 (lN e.2.1) ∈ Tg := fun _ h => absurd h List.not_mem_nil
theorem xlJ_7 : ∀ e ∈ ([] : List (Nat × Nat × Nat)), Cond.constantLong (xon 7) e.1 (lN e.2.1) ∈ Tg := fun _ h => absurd h List.not_mem_nil
theorem xlJ_8 : ∀ e ∈ ([] : List (Nat × Nat × Nat)), Cond.constantLong (xon 8) e.1 (lN e.2.1) ∈ Tg := fun _ h => absurd h List.not_mem_nil
theorem xlJ_9 : ∀ e ∈ ([(166, 1000000, 0), (168, 10, 0), (170, 48, 0)] : List (Nat × Nat × Nat)), Cond.constantLong (xon 9) e.1 (lN e.2.1) ∈ Tg := List.forall_mem_cons.mpr ⟨tw_1135, List.forall_mem_cons.mpr ⟨tw_1136, List.forall_mem_cons.mpr ⟨tw_1137, fun _ h => absurd h List.not_mem_nil⟩⟩⟩
theorem xlJ_10 : ∀ e ∈ ([] : List (Nat × Nat × Nat)), Cond.constantLong (xon 10) e.1 (lN e.2.1) ∈ Tg := fun _ h => absurd h List.not_mem_nil
theorem xlJ_11 : ∀ e ∈ ([] : List (Nat × Nat × Nat)), Cond.constantLong (xon 11) e.1 (lN e.2.1) ∈ Tg := fun _ h => absurd h List.not_mem_nil
theorem xlJ_12 : ∀ e ∈ ([] : List (Nat × Nat × Nat)), Cond.constantLong (xon 12) e.1 (lN e.2.1) ∈ Tg := fun _ h => absurd h List.not_mem_nil
theorem xlJ_13 : ∀ e ∈ ([] : List (Nat × Nat × Nat)), Cond.constantLong (xon 13) e.1 (lN e.2.1) ∈ Tg := fun _ h => absurd h List.not_mem_nil
theorem xlJ_14 : ∀ e ∈ ([] : List (Nat × Nat × Nat)), Cond.constantLong (xon 14) e.1 (lN e.2.1) ∈ Tg := fun _ h => absurd h List.not_mem_nil
theorem xlJ_15 : ∀ e ∈ ([] : List (Nat × Nat × Nat)), Cond.constantLong (xon 15) e.1 (lN e.2.1) ∈ Tg := fun _ h => absurd h List.not_mem_nil
theorem xlJ_16 : ∀ e ∈ ([] : List (Nat × Nat × Nat)), Cond.constantLong (xon 16) e.1 (lN e.2.1) ∈ Tg := fun _ h => absurd h List.not_mem_nil
theorem xlJ_17 : ∀ e ∈ ([] : List (Nat × Nat × Nat)), Cond.constantLong (xon 17) e.1 (lN e.2.1) ∈ Tg := fun _ h => absurd h List.not_mem_nil
theorem xlJ_18 : ∀ e ∈ ([] : List (Nat × Nat × Nat)), Cond.constantLong (xon 18) e.1 (lN e.2.1) ∈ Tg := fun _ h => absurd h List.not_mem_nil
theorem xlJ_19 : ∀ e ∈ ([] : List (Nat × Nat × Nat)), Cond.constantLong (xon 19) e.1 (lN e.2.1) ∈ Tg := fun _ h => absurd h List.not_mem_nil
theorem xlJ_20 : ∀ e ∈ ([] : List (Nat × Nat × Nat)), Cond.constantLong (xon 20) e.1 (lN e.2.1) ∈ Tg := fun _ h => absurd h List.not_mem_nil
theorem xlJ_21 : ∀ e ∈ ([] : List (Nat × Nat × Nat)), Cond.constantLong (xon 21) e.1 (lN e.2.1) ∈ Tg := fun _ h => absurd h List.not_mem_nil
theorem xlJ_22 : ∀ e ∈ ([(314, 6148914691236517205, 0), (316, 3689348814741910323, 0), (318, 1085102592571150095, 0)] : List (Nat × Nat × Nat)), Cond.constantLong (xon 22) e.1 (lN e.2.1) ∈ Tg := List.forall_mem_cons.mpr ⟨tw_792, List.forall_mem_cons.mpr ⟨tw_793, List.forall_mem_cons.mpr ⟨tw_794, fun _ h => absurd h List.not_mem_nil⟩⟩⟩
theorem xlJ_ok (o : Nat) (l : List (Nat × Nat × Nat)) (h : xlJ[o]? = some l) : ∀ e ∈ l, Cond.constantLong (xon o) e.1 (lN e.2.1) ∈ Tg := by
  match o, h with
  | 0, h => cases h; exact xlJ_0
  | 1, h => cases h; exact xlJ_1
  | 2, h => cases h; exact xlJ_2
  | 3, h => cases h; exact xlJ_3
  | 4, h => cases h; exact xlJ_4
  | 5, h => cases h; exact xlJ_5
  | 6, h => cases h; exact xlJ_6
  | 7, h => cases h; exact xlJ_7
  | 8, h => cases h; exact xlJ_8
  | 9, h => cases h; exact xlJ_9
  | 10, h => cases h; exact xlJ_10
  | 11, h => cases h; exact xlJ_11
  | 12, h => cases h; exact xlJ_12
  | 13, h => cases h; exact xlJ_13
  | 14, h => cases h; exact xlJ_14
  | 15, h => cases h; exact xlJ_15
  | 16, h => cases h; exact xlJ_16
  | 17, h => cases h; exact xlJ_17
  | 18, h => cases h; exact xlJ_18
  | 19, h => cases h; exact xlJ_19
  | 20, h => cases h; exact xlJ_20
  | 21, h => cases h; exact xlJ_21
  | 22, h => cases h; exact xlJ_22
  | n + 23, h => cases h
theorem xlS_0 : ∀ e ∈ ([] : List (Nat × Nat × Nat)), Cond.fieldLink (xon 0) e.1 "java/util/ArrayList" "DEFAULTCAPACITY_EMPTY_ELEMENTDATA" "[Ljava/lang/Object;" ∈ Tg := fun _ h => absurd h List.not_mem_nil
theorem xlS_1 : ∀ e ∈ ([] : List (Nat × Nat × Nat)), Cond.fieldLink (xon 1) e.1 "java/util/ArrayList" "DEFAULTCAPACITY_EMPTY_ELEMENTDATA" "[Ljava/lang/Object;" ∈ Tg := fun _ h => absurd h List.not_mem_nil
theorem xlS_2 : ∀ e ∈ ([] : List (Nat × Nat × Nat)), Cond.fieldLink (xon 2) e.1 "java/util/ArrayList" "DEFAULTCAPACITY_EMPTY_ELEMENTDATA" "[Ljava/lang/Object;" ∈ Tg := fun _ h => absurd h List.not_mem_nil
theorem xlS_3 : ∀ e ∈ ([] : List (Nat × Nat × Nat)), Cond.fieldLink (xon 3) e.1 "java/util/ArrayList" "DEFAULTCAPACITY_EMPTY_ELEMENTDATA" "[Ljava/lang/Object;" ∈ Tg := fun _ h => absurd h List.not_mem_nil
theorem xlS_4 : ∀ e ∈ ([] : List (Nat × Nat × Nat)), Cond.fieldLink (xon 4) e.1 "java/util/ArrayList" "DEFAULTCAPACITY_EMPTY_ELEMENTDATA" "[Ljava/lang/Object;" ∈ Tg := fun _ h => absurd h List.not_mem_nil
theorem xlS_5 : ∀ e ∈ ([] : List (Nat × Nat × Nat)), Cond.fieldLink (xon 5) e.1 "java/util/ArrayList" "DEFAULTCAPACITY_EMPTY_ELEMENTDATA" "[Ljava/lang/Object;" ∈ Tg := fun _ h => absurd h List.not_mem_nil
theorem xlS_6 : ∀ e ∈ ([] : List (Nat × Nat × Nat)), Cond.fieldLink (xon 6) e.1 "java/util/ArrayList" "DEFAULTCAPACITY_EMPTY_ELEMENTDATA" "[Ljava/lang/Object;" ∈ Tg := fun _ h => absurd h List.not_mem_nil
theorem xlS_7 : ∀ e ∈ ([] : List (Nat × Nat × Nat)), Cond.fieldLink (xon 7) e.1 "java/util/ArrayList" "DEFAULTCAPACITY_EMPTY_ELEMENTDATA" "[Ljava/lang/Object;" ∈ Tg := fun _ h => absurd h List.not_mem_nil
theorem xlS_8 : ∀ e ∈ ([] : List (Nat × Nat × Nat)), Cond.fieldLink (xon 8) e.1 "java/util/ArrayList" "DEFAULTCAPACITY_EMPTY_ELEMENTDATA" "[Ljava/lang/Object;" ∈ Tg := fun _ h => absurd h List.not_mem_nil
theorem xlS_9 : ∀ e ∈ ([] : List (Nat × Nat × Nat)), Cond.fieldLink (xon 9) e.1 "java/util/ArrayList" "DEFAULTCAPACITY_EMPTY_ELEMENTDATA" "[Ljava/lang/Object;" ∈ Tg := fun _ h => absurd h List.not_mem_nil
theorem xlS_10 : ∀ e ∈ ([(39, 0, 0)] : List (Nat × Nat × Nat)), Cond.fieldLink (xon 10) e.1 "java/util/ArrayList" "DEFAULTCAPACITY_EMPTY_ELEMENTDATA" "[Ljava/lang/Object;" ∈ Tg := List.forall_mem_cons.mpr ⟨tw_47, fun _ h => absurd h List.not_mem_nil⟩
theorem xlS_11 : ∀ e ∈ ([] : List (Nat × Nat × Nat)), Cond.fieldLink (xon 11) e.1 "java/util/ArrayList" "DEFAULTCAPACITY_EMPTY_ELEMENTDATA" "[Ljava/lang/Object;" ∈ Tg := fun _ h => absurd h List.not_mem_nil
theorem xlS_12 : ∀ e ∈ ([] : List (Nat × Nat × Nat)), Cond.fieldLink (xon 12) e.1 "java/util/ArrayList" "DEFAULTCAPACITY_EMPTY_ELEMENTDATA" "[Ljava/lang/Object;" ∈ Tg := fun _ h => absurd h List.not_mem_nil
theorem xlS_13 : ∀ e ∈ ([] : List (Nat × Nat × Nat)), Cond.fieldLink (xon 13) e.1 "java/util/ArrayList" "DEFAULTCAPACITY_EMPTY_ELEMENTDATA" "[Ljava/lang/Object;" ∈ Tg := fun _ h => absurd h List.not_mem_nil
theorem xlS_14 : ∀ e ∈ ([] : List (Nat × Nat × Nat)), Cond.fieldLink (xon 14) e.1 "java/util/ArrayList" "DEFAULTCAPACITY_EMPTY_ELEMENTDATA" "[Ljava/lang/Object;" ∈ Tg := fun _ h => absurd h List.not_mem_nil
theorem xlS_15 : ∀ e ∈ ([] : List (Nat × Nat × Nat)), Cond.fieldLink (xon 15) e.1 "java/util/ArrayList" "DEFAULTCAPACITY_EMPTY_ELEMENTDATA" "[Ljava/lang/Object;" ∈ Tg := fun _ h => absurd h List.not_mem_nil
theorem xlS_16 : ∀ e ∈ ([] : List (Nat × Nat × Nat)), Cond.fieldLink (xon 16) e.1 "java/util/ArrayList" "DEFAULTCAPACITY_EMPTY_ELEMENTDATA" "[Ljava/lang/Object;" ∈ Tg := fun _ h => absurd h List.not_mem_nil
theorem xlS_17 : ∀ e ∈ ([] : List (Nat × Nat × Nat)), Cond.fieldLink (xon 17) e.1 "java/util/ArrayList" "DEFAULTCAPACITY_EMPTY_ELEMENTDATA" "[Ljava/lang/Object;" ∈ Tg := fun _ h => absurd h List.not_mem_nil
theorem xlS_18 : ∀ e ∈ ([] : List (Nat × Nat × Nat)), Cond.fieldLink (xon 18) e.1 "java/util/ArrayList" "DEFAULTCAPACITY_EMPTY_ELEMENTDATA" "[Ljava/lang/Object;" ∈ Tg := fun _ h => absurd h List.not_mem_nil
theorem xlS_19 : ∀ e ∈ ([] : List (Nat × Nat × Nat)), Cond.fieldLink (xon 19) e.1 "java/util/ArrayList" "DEFAULTCAPACITY_EMPTY_ELEMENTDATA" "[Ljava/lang/Object;" ∈ Tg := fun _ h => absurd h List.not_mem_nil
theorem xlS_20 : ∀ e ∈ ([] : List (Nat × Nat × Nat)), Cond.fieldLink (xon 20) e.1 "java/util/ArrayList" "DEFAULTCAPACITY_EMPTY_ELEMENTDATA" "[Ljava/lang/Object;" ∈ Tg := fun _ h => absurd h List.not_mem_nil
theorem xlS_21 : ∀ e ∈ ([] : List (Nat × Nat × Nat)), Cond.fieldLink (xon 21) e.1 "java/util/ArrayList" "DEFAULTCAPACITY_EMPTY_ELEMENTDATA" "[Ljava/lang/Object;" ∈ Tg := fun _ h => absurd h List.not_mem_nil
theorem xlS_22 : ∀ e ∈ ([] : List (Nat × Nat × Nat)), Cond.fieldLink (xon 22) e.1 "java/util/ArrayList" "DEFAULTCAPACITY_EMPTY_ELEMENTDATA" "[Ljava/lang/Object;" ∈ Tg := fun _ h => absurd h List.not_mem_nil
theorem xlS_ok (o : Nat) (l : List (Nat × Nat × Nat)) (h : xlS[o]? = some l) : ∀ e ∈ l, Cond.fieldLink (xon o) e.1 "java/util/ArrayList" "DEFAULTCAPACITY_EMPTY_ELEMENTDATA" "[Ljava/lang/Object;" ∈ Tg := by
  match o, h with
  | 0, h => cases h; exact xlS_0
  | 1, h => cases h; exact xlS_1
  | 2, h => cases h; exact xlS_2
  | 3, h => cases h; exact xlS_3
  | 4, h => cases h; exact xlS_4
  | 5, h => cases h; exact xlS_5
  | 6, h => cases h; exact xlS_6
  | 7, h => cases h; exact xlS_7
  | 8, h => cases h; exact xlS_8
  | 9, h => cases h; exact xlS_9
  | 10, h => cases h; exact xlS_10
  | 11, h => cases h; exact xlS_11
  | 12, h => cases h; exact xlS_12
  | 13, h => cases h; exact xlS_13
  | 14, h => cases h; exact xlS_14
  | 15, h => cases h; exact xlS_15
  | 16, h => cases h; exact xlS_16
  | 17, h => cases h; exact xlS_17
  | 18, h => cases h; exact xlS_18
  | 19, h => cases h; exact xlS_19
  | 20, h => cases h; exact xlS_20
  | 21, h => cases h; exact xlS_21
  | 22, h => cases h; exact xlS_22
  | n + 23, h => cases h
theorem xlA_0 : ∀ e ∈ ([] : List (Nat × Nat × Nat)), Cond.classLink (xon 0) e.1 "java/lang/Object" ∈ Tg := fun _ h => absurd h List.not_mem_nil
theorem xlA_1 : ∀ e ∈ ([] : List (Nat × Nat × Nat)), Cond.classLink (xon 1) e.1 "java/lang/Object" ∈ Tg := fun _ h => absurd h List.not_mem_nil
theorem xlA_2 : ∀ e ∈ ([] : List (Nat × Nat × Nat)), Cond.classLink (xon 2) e.1 "java/lang/Object" ∈ Tg := fun _ h => absurd h List.not_mem_nil
theorem xlA_3 : ∀ e ∈ ([] : List (Nat × Nat × Nat)), Cond.classLink (xon 3) e.1 "java/lang/Object" ∈ Tg := fun _ h => absurd h List.not_mem_nil
theorem xlA_4 : ∀ e ∈ ([] : List (Nat × Nat × Nat)), Cond.classLink (xon 4) e.1 "java/lang/Object" ∈ Tg := fun _ h => absurd h List.not_mem_nil
theorem xlA_5 : ∀ e ∈ ([] : List (Nat × Nat × Nat)), Cond.classLink (xon 5) e.1 "java/lang/Object" ∈ Tg := fun _ h => absurd h List.not_mem_nil
theorem xlA_6 : ∀ e ∈ ([] : List (Nat × Nat × Nat)), Cond.classLink (xon 6) e.1 "java/lang/Object" ∈ Tg := fun _ h => absurd h List.not_mem_nil
theorem xlA_7 : ∀ e ∈ ([] : List (Nat × Nat × Nat)), Cond.classLink (xon 7) e.1 "java/lang/Object" ∈ Tg := fun _ h => absurd h List.not_mem_nil
theorem xlA_8 : ∀ e ∈ ([] : List (Nat × Nat × Nat)), Cond.classLink (xon 8) e.1 "java/lang/Object" ∈ Tg := fun _ h => absurd h List.not_mem_nil
theorem xlA_9 : ∀ e ∈ ([] : List (Nat × Nat × Nat)), Cond.classLink (xon 9) e.1 "java/lang/Object" ∈ Tg := fun _ h => absurd h List.not_mem_nil
theorem xlA_10 : ∀ e ∈ ([(7, 0, 0)] : List (Nat × Nat × Nat)), Cond.classLink (xon 10) e.1 "java/lang/Object" ∈ Tg := List.forall_mem_cons.mpr ⟨tw_154, fun _ h => absurd h List.not_mem_nil⟩
theorem xlA_11 : ∀ e ∈ ([] : List (Nat × Nat × Nat)), Cond.classLink (xon 11) e.1 "java/lang/Object" ∈ Tg := fun _ h => absurd h List.not_mem_nil
theorem xlA_12 : ∀ e ∈ ([] : List (Nat × Nat × Nat)), Cond.classLink (xon 12) e.1 "java/lang/Object" ∈ Tg := fun _ h => absurd h List.not_mem_nil
theorem xlA_13 : ∀ e ∈ ([] : List (Nat × Nat × Nat)), Cond.classLink (xon 13) e.1 "java/lang/Object" ∈ Tg := fun _ h => absurd h List.not_mem_nil
theorem xlA_14 : ∀ e ∈ ([] : List (Nat × Nat × Nat)), Cond.classLink (xon 14) e.1 "java/lang/Object" ∈ Tg := fun _ h => absurd h List.not_mem_nil
theorem xlA_15 : ∀ e ∈ ([] : List (Nat × Nat × Nat)), Cond.classLink (xon 15) e.1 "java/lang/Object" ∈ Tg := fun _ h => absurd h List.not_mem_nil
theorem xlA_16 : ∀ e ∈ ([] : List (Nat × Nat × Nat)), Cond.classLink (xon 16) e.1 "java/lang/Object" ∈ Tg := fun _ h => absurd h List.not_mem_nil
theorem xlA_17 : ∀ e ∈ ([] : List (Nat × Nat × Nat)), Cond.classLink (xon 17) e.1 "java/lang/Object" ∈ Tg := fun _ h => absurd h List.not_mem_nil
theorem xlA_18 : ∀ e ∈ ([] : List (Nat × Nat × Nat)), Cond.classLink (xon 18) e.1 "java/lang/Object" ∈ Tg := fun _ h => absurd h List.not_mem_nil
theorem xlA_19 : ∀ e ∈ ([] : List (Nat × Nat × Nat)), Cond.classLink (xon 19) e.1 "java/lang/Object" ∈ Tg := fun _ h => absurd h List.not_mem_nil
theorem xlA_20 : ∀ e ∈ ([] : List (Nat × Nat × Nat)), Cond.classLink (xon 20) e.1 "java/lang/Object" ∈ Tg := fun _ h => absurd h List.not_mem_nil
theorem xlA_21 : ∀ e ∈ ([] : List (Nat × Nat × Nat)), Cond.classLink (xon 21) e.1 "java/lang/Object" ∈ Tg := fun _ h => absurd h List.not_mem_nil
theorem xlA_22 : ∀ e ∈ ([] : List (Nat × Nat × Nat)), Cond.classLink (xon 22) e.1 "java/lang/Object" ∈ Tg := fun _ h => absurd h List.not_mem_nil
theorem xlA_ok (o : Nat) (l : List (Nat × Nat × Nat)) (h : xlA[o]? = some l) : ∀ e ∈ l, Cond.classLink (xon o) e.1 "java/lang/Object" ∈ Tg := by
  match o, h with
  | 0, h => cases h; exact xlA_0
  | 1, h => cases h; exact xlA_1
  | 2, h => cases h; exact xlA_2
  | 3, h => cases h; exact xlA_3
  | 4, h => cases h; exact xlA_4
  | 5, h => cases h; exact xlA_5
  | 6, h => cases h; exact xlA_6
  | 7, h => cases h; exact xlA_7
  | 8, h => cases h; exact xlA_8
  | 9, h => cases h; exact xlA_9
  | 10, h => cases h; exact xlA_10
  | 11, h => cases h; exact xlA_11
  | 12, h => cases h; exact xlA_12
  | 13, h => cases h; exact xlA_13
  | 14, h => cases h; exact xlA_14
  | 15, h => cases h; exact xlA_15
  | 16, h => cases h; exact xlA_16
  | 17, h => cases h; exact xlA_17
  | 18, h => cases h; exact xlA_18
  | 19, h => cases h; exact xlA_19
  | 20, h => cases h; exact xlA_20
  | 21, h => cases h; exact xlA_21
  | 22, h => cases h; exact xlA_22
  | n + 23, h => cases h
theorem xcast_ok (ci : Nat) (q : vw_C) (h : ci < xob) (hq : xcl[ci]? = some q) : Cond.castable q.1 "java/lang/Object" ∈ NW := by
  match ci, h, hq with
  | 0, _, hq => cases hq; exact nw_1325
  | 1, _, hq => cases hq; exact nw_1326
  | 2, _, hq => cases hq; exact nw_1334
  | 3, _, hq => cases hq; exact nw_1327
  | 4, _, hq => cases hq; exact nw_1328
  | 5, _, hq => cases hq; exact nw_1333
  | 6, _, hq => cases hq; exact nw_1332
  | 7, _, hq => cases hq; exact nw_1329
  | 8, _, hq => cases hq; exact nw_1331
  | 9, _, hq => cases hq; exact nw_1330
  | n + 10, h, _ => exact absurd h (by unfold xob; omega)
theorem xc_0 : ∀ w ∈ u_ws "BuildingText" (xfT xf0) 9, w ∈ Tg := List.forall_mem_cons.mpr ⟨tw_221, List.forall_mem_cons.mpr ⟨tw_223, List.forall_mem_cons.mpr ⟨tw_225, List.forall_mem_cons.mpr ⟨tw_227, List.forall_mem_cons.mpr ⟨tw_229, List.forall_mem_cons.mpr ⟨tw_231, List.forall_mem_cons.mpr ⟨tw_233, List.forall_mem_cons.mpr ⟨tw_235, List.forall_mem_cons.mpr ⟨tw_237, fun _ h => absurd h List.not_mem_nil⟩⟩⟩⟩⟩⟩⟩⟩⟩
theorem xc_1 : ∀ w ∈ u_ws "BuildingText$Edition" (xfT xf1) 4, w ∈ Tg := List.forall_mem_cons.mpr ⟨tw_85, List.forall_mem_cons.mpr ⟨tw_87, List.forall_mem_cons.mpr ⟨tw_89, List.forall_mem_cons.mpr ⟨tw_91, fun _ h => absurd h List.not_mem_nil⟩⟩⟩⟩
theorem xc_2 : ∀ w ∈ u_ws "BuildingText$Fault" (xfT xf2) 3, w ∈ Tg := List.forall_mem_cons.mpr ⟨tw_696, List.forall_mem_cons.mpr ⟨tw_698, List.forall_mem_cons.mpr ⟨tw_700, fun _ h => absurd h List.not_mem_nil⟩⟩⟩
theorem xc_3 : ∀ w ∈ u_ws "BuildingText$Going" (xfT xf3) 7, w ∈ Tg := List.forall_mem_cons.mpr ⟨tw_168, List.forall_mem_cons.mpr ⟨tw_170, List.forall_mem_cons.mpr ⟨tw_172, List.forall_mem_cons.mpr ⟨tw_174, List.forall_mem_cons.mpr ⟨tw_176, List.forall_mem_cons.mpr ⟨tw_178, List.forall_mem_cons.mpr ⟨tw_180, fun _ h => absurd h List.not_mem_nil⟩⟩⟩⟩⟩⟩⟩
theorem xc_4 : ∀ w ∈ u_ws "BuildingText$Inspection" (xfT xf4) 1, w ∈ Tg := List.forall_mem_cons.mpr ⟨tw_194, fun _ h => absurd h List.not_mem_nil⟩
theorem xc_5 : ∀ w ∈ u_ws "BuildingText$Link" (xfT xf5) 3, w ∈ Tg := List.forall_mem_cons.mpr ⟨tw_591, List.forall_mem_cons.mpr ⟨tw_593, List.forall_mem_cons.mpr ⟨tw_595, fun _ h => absurd h List.not_mem_nil⟩⟩⟩
theorem xc_6 : ∀ w ∈ u_ws "BuildingText$Place" (xfT xf6) 11, w ∈ Tg := List.forall_mem_cons.mpr ⟨tw_527, List.forall_mem_cons.mpr ⟨tw_529, List.forall_mem_cons.mpr ⟨tw_531, List.forall_mem_cons.mpr ⟨tw_533, List.forall_mem_cons.mpr ⟨tw_535, List.forall_mem_cons.mpr ⟨tw_537, List.forall_mem_cons.mpr ⟨tw_539, List.forall_mem_cons.mpr ⟨tw_541, List.forall_mem_cons.mpr ⟨tw_543, List.forall_mem_cons.mpr ⟨tw_545, List.forall_mem_cons.mpr ⟨tw_547, fun _ h => absurd h List.not_mem_nil⟩⟩⟩⟩⟩⟩⟩⟩⟩⟩⟩
theorem xc_7 : ∀ w ∈ u_ws "BuildingText$Plan" (xfT xf7) 2, w ∈ Tg := List.forall_mem_cons.mpr ⟨tw_207, List.forall_mem_cons.mpr ⟨tw_209, fun _ h => absurd h List.not_mem_nil⟩⟩
theorem xc_8 : ∀ w ∈ u_ws "BuildingText$TextReader" (xfT xf8) 6, w ∈ Tg := List.forall_mem_cons.mpr ⟨tw_421, List.forall_mem_cons.mpr ⟨tw_423, List.forall_mem_cons.mpr ⟨tw_425, List.forall_mem_cons.mpr ⟨tw_427, List.forall_mem_cons.mpr ⟨tw_429, List.forall_mem_cons.mpr ⟨tw_431, fun _ h => absurd h List.not_mem_nil⟩⟩⟩⟩⟩⟩
theorem xc_9 : ∀ w ∈ u_ws "BuildingTextModel" (xfT xf9) 67, w ∈ Tg := List.forall_mem_cons.mpr ⟨tw_929, List.forall_mem_cons.mpr ⟨tw_931, List.forall_mem_cons.mpr ⟨tw_933, List.forall_mem_cons.mpr ⟨tw_935, List.forall_mem_cons.mpr ⟨tw_937, List.forall_mem_cons.mpr ⟨tw_939, List.forall_mem_cons.mpr ⟨tw_941, List.forall_mem_cons.mpr ⟨tw_943, List.forall_mem_cons.mpr ⟨tw_945, List.forall_mem_cons.mpr ⟨tw_947, List.forall_mem_cons.mpr ⟨tw_949, List.forall_mem_cons.mpr ⟨tw_951, List.forall_mem_cons.mpr ⟨tw_953, List.forall_mem_cons.mpr ⟨tw_955, List.forall_mem_cons.mpr ⟨tw_957, List.forall_mem_cons.mpr ⟨tw_959, List.forall_mem_cons.mpr ⟨tw_961, List.forall_mem_cons.mpr ⟨tw_963, List.forall_mem_cons.mpr ⟨tw_965, List.forall_mem_cons.mpr ⟨tw_967, List.forall_mem_cons.mpr ⟨tw_969, List.forall_mem_cons.mpr ⟨tw_971, List.forall_mem_cons.mpr ⟨tw_973, List.forall_mem_cons.mpr ⟨tw_975, List.forall_mem_cons.mpr ⟨tw_977, List.forall_mem_cons.mpr ⟨tw_979, List.forall_mem_cons.mpr ⟨tw_981, List.forall_mem_cons.mpr ⟨tw_983, List.forall_mem_cons.mpr ⟨tw_985, List.forall_mem_cons.mpr ⟨tw_987, List.forall_mem_cons.mpr ⟨tw_989, List.forall_mem_cons.mpr ⟨tw_991, List.forall_mem_cons.mpr ⟨tw_993, List.forall_mem_cons.mpr ⟨tw_995, List.forall_mem_cons.mpr ⟨tw_997, List.forall_mem_cons.mpr ⟨tw_999, List.forall_mem_cons.mpr ⟨tw_1001, List.forall_mem_cons.mpr ⟨tw_1003, List.forall_mem_cons.mpr ⟨tw_1005, List.forall_mem_cons.mpr ⟨tw_1007, List.forall_mem_cons.mpr ⟨tw_1009, List.forall_mem_cons.mpr ⟨tw_1011, List.forall_mem_cons.mpr ⟨tw_1013, List.forall_mem_cons.mpr ⟨tw_1015, List.forall_mem_cons.mpr ⟨tw_1017, List.forall_mem_cons.mpr ⟨tw_1019, List.forall_mem_cons.mpr ⟨tw_1021, List.forall_mem_cons.mpr ⟨tw_1023, List.forall_mem_cons.mpr ⟨tw_1025, List.forall_mem_cons.mpr ⟨tw_1027, List.forall_mem_cons.mpr ⟨tw_1029, List.forall_mem_cons.mpr ⟨tw_1031, List.forall_mem_cons.mpr ⟨tw_1033, List.forall_mem_cons.mpr ⟨tw_1035, List.forall_mem_cons.mpr ⟨tw_1037, List.forall_mem_cons.mpr ⟨tw_1039, List.forall_mem_cons.mpr ⟨tw_1041, List.forall_mem_cons.mpr ⟨tw_1043, List.forall_mem_cons.mpr ⟨tw_1045, List.forall_mem_cons.mpr ⟨tw_1047, List.forall_mem_cons.mpr ⟨tw_1049, List.forall_mem_cons.mpr ⟨tw_1051, List.forall_mem_cons.mpr ⟨tw_1053, List.forall_mem_cons.mpr ⟨tw_1055, List.forall_mem_cons.mpr ⟨tw_1057, List.forall_mem_cons.mpr ⟨tw_1059, List.forall_mem_cons.mpr ⟨tw_1061, fun _ h => absurd h List.not_mem_nil⟩⟩⟩⟩⟩⟩⟩⟩⟩⟩⟩⟩⟩⟩⟩⟩⟩⟩⟩⟩⟩⟩⟩⟩⟩⟩⟩⟩⟩⟩⟩⟩⟩⟩⟩⟩⟩⟩⟩⟩⟩⟩⟩⟩⟩⟩⟩⟩⟩⟩⟩⟩⟩⟩⟩⟩⟩⟩⟩⟩⟩⟩⟩⟩⟩⟩⟩
theorem xc_10 : ∀ w ∈ u_ws "java/util/ArrayList" (xfT xf10) 3, w ∈ Tg := List.forall_mem_cons.mpr ⟨tw_54, List.forall_mem_cons.mpr ⟨tw_56, List.forall_mem_cons.mpr ⟨tw_58, fun _ h => absurd h List.not_mem_nil⟩⟩⟩
theorem xc_11 : ∀ w ∈ u_ws "java/lang/IllegalArgumentException" (xfT xf11) 0, w ∈ Tg := fun _ h => absurd h List.not_mem_nil
theorem xc_12 : ∀ w ∈ u_ws "java/lang/UnsupportedOperationException" (xfT xf12) 0, w ∈ Tg := fun _ h => absurd h List.not_mem_nil
theorem xc_13 : ∀ w ∈ u_ws "java/lang/IndexOutOfBoundsException" (xfT xf13) 0, w ∈ Tg := fun _ h => absurd h List.not_mem_nil
theorem xcls_ok : sm_cls Tg := by
  intro ci q hq
  match ci, hq with
  | 0, hq => cases hq; exact ⟨by decide, xc_0, by decide +kernel, by decide +kernel⟩
  | 1, hq => cases hq; exact ⟨by decide, xc_1, by decide +kernel, by decide +kernel⟩
  | 2, hq => cases hq; exact ⟨by decide, xc_2, by decide +kernel, by decide +kernel⟩
  | 3, hq => cases hq; exact ⟨by decide, xc_3, by decide +kernel, by decide +kernel⟩
  | 4, hq => cases hq; exact ⟨by decide, xc_4, by decide +kernel, by decide +kernel⟩
  | 5, hq => cases hq; exact ⟨by decide, xc_5, by decide +kernel, by decide +kernel⟩
  | 6, hq => cases hq; exact ⟨by decide, xc_6, by decide +kernel, by decide +kernel⟩
  | 7, hq => cases hq; exact ⟨by decide, xc_7, by decide +kernel, by decide +kernel⟩
  | 8, hq => cases hq; exact ⟨by decide, xc_8, by decide +kernel, by decide +kernel⟩
  | 9, hq => cases hq; exact ⟨by decide, xc_9, by decide +kernel, by decide +kernel⟩
  | 10, hq => cases hq; exact ⟨by decide, xc_10, by decide +kernel, by decide +kernel⟩
  | 11, hq => cases hq; exact ⟨by decide, xc_11, by decide +kernel, by decide +kernel⟩
  | 12, hq => cases hq; exact ⟨by decide, xc_12, by decide +kernel, by decide +kernel⟩
  | 13, hq => cases hq; exact ⟨by decide, xc_13, by decide +kernel, by decide +kernel⟩
  | n + 14, hq => cases hq
theorem xdecl_ok (ci : Nat) (q : vw_C) (hq : xcl[ci]? = some q) : ∀ k, k < q.2.2 → (q.2.1 k).2.2.2 = true → (q.2.1 k).1 = xon ci := by
  match ci, hq with
  | 0, hq => cases hq; decide +kernel
  | 1, hq => cases hq; decide +kernel
  | 2, hq => cases hq; decide +kernel
  | 3, hq => cases hq; decide +kernel
  | 4, hq => cases hq; decide +kernel
  | 5, hq => cases hq; decide +kernel
  | 6, hq => cases hq; decide +kernel
  | 7, hq => cases hq; decide +kernel
  | 8, hq => cases hq; decide +kernel
  | 9, hq => cases hq; decide +kernel
  | 10, hq => cases hq; decide +kernel
  | 11, hq => cases hq; decide +kernel
  | 12, hq => cases hq; decide +kernel
  | 13, hq => cases hq; decide +kernel
  | n + 14, hq => cases hq
theorem xao : Cond.arrayOver (.object "java/lang/Object") ∈ NW := nw_145
end
section
theorem xm_0 : sm_mf 0 := ⟨fun _ => ⟨tw_31, by decide +kernel, by decide, by decide, by decide +kernel, tw_1, rfl⟩, fun h => absurd h (by decide), fun h => absurd h (by decide), fun _ => ⟨tw_30, rfl, rfl⟩⟩
theorem xm_1 : sm_mf 1 := ⟨fun _ => ⟨tw_244, by decide +kernel, by decide, by decide, by decide +kernel, tw_1, rfl⟩, fun _ => ⟨tw_242, tw_243, _, rfl, rfl⟩, fun h => absurd h (by decide), fun h => absurd h (by decide)⟩
theorem xm_2 : sm_mf 2 := ⟨fun _ => ⟨tw_271, by decide +kernel, by decide, by decide, by decide +kernel, tw_1, rfl⟩, fun _ => ⟨tw_269, tw_270, _, rfl, rfl⟩, fun h => absurd h (by decide), fun h => absurd h (by decide)⟩
theorem xm_3 : sm_mf 3 := ⟨fun _ => ⟨tw_276, by decide +kernel, by decide, by decide, by decide +kernel, tw_1, rfl⟩, fun _ => ⟨tw_274, tw_275, _, rfl, rfl⟩, fun h => absurd h (by decide), fun h => absurd h (by decide)⟩
theorem xm_4 : sm_mf 4 := ⟨fun _ => ⟨tw_308, by decide +kernel, by decide, by decide, by decide +kernel, tw_1, rfl⟩, fun _ => ⟨tw_306, tw_307, _, rfl, rfl⟩, fun h => absurd h (by decide), fun h => absurd h (by decide)⟩
theorem xm_5 : sm_mf 5 := ⟨fun _ => ⟨tw_317, by decide +kernel, by decide, by decide, by decide +kernel, tw_1, rfl⟩, fun _ => ⟨tw_315, tw_316, _, rfl, rfl⟩, fun h => absurd h (by decide), fun h => absurd h (by decide)⟩
theorem xm_6 : sm_mf 6 := ⟨fun _ => ⟨tw_408, by decide +kernel, by decide, by decide, by decide +kernel, tw_1, rfl⟩, fun _ => ⟨tw_406, tw_407, _, rfl, rfl⟩, fun h => absurd h (by decide), fun h => absurd h (by decide)⟩
theorem xm_7 : sm_mf 7 := ⟨fun _ => ⟨tw_632, by decide +kernel, by decide, by decide, by decide +kernel, tw_1, rfl⟩, fun _ => ⟨tw_631, pw_32, _, rfl, rfl⟩, fun h => absurd h (by decide), fun h => absurd h (by decide)⟩
theorem xm_8 : sm_mf 8 := ⟨fun _ => ⟨tw_738, by decide +kernel, by decide, by decide, by decide +kernel, tw_1, rfl⟩, fun _ => ⟨tw_736, tw_737, _, rfl, rfl⟩, fun h => absurd h (by decide), fun h => absurd h (by decide)⟩
theorem xm_9 : sm_mf 9 := ⟨fun _ => ⟨tw_752, by decide +kernel, by decide, by decide, by decide +kernel, tw_1, rfl⟩, fun _ => ⟨tw_750, tw_751, _, rfl, rfl⟩, fun h => absurd h (by decide), fun h => absurd h (by decide)⟩
theorem xm_10 : sm_mf 10 := ⟨fun _ => ⟨tw_777, by decide +kernel, by decide, by decide, by decide +kernel, tw_1, rfl⟩, fun _ => ⟨tw_775, tw_776, _, rfl, rfl⟩, fun h => absurd h (by decide), fun h => absurd h (by decide)⟩
theorem xm_11 : sm_mf 11 := ⟨fun _ => ⟨tw_805, by decide +kernel, by decide, by decide, by decide +kernel, tw_1, rfl⟩, fun _ => ⟨tw_803, tw_804, _, rfl, rfl⟩, fun h => absurd h (by decide), fun h => absurd h (by decide)⟩
theorem xm_12 : sm_mf 12 := ⟨fun _ => ⟨tw_815, by decide +kernel, by decide, by decide, by decide +kernel, tw_1, rfl⟩, fun _ => ⟨tw_813, tw_814, _, rfl, rfl⟩, fun h => absurd h (by decide), fun h => absurd h (by decide)⟩
theorem xm_13 : sm_mf 13 := ⟨fun _ => ⟨tw_819, by decide +kernel, by decide, by decide, by decide +kernel, tw_1, rfl⟩, fun _ => ⟨tw_818, pw_53, _, rfl, rfl⟩, fun h => absurd h (by decide), fun h => absurd h (by decide)⟩
theorem xm_14 : sm_mf 14 := ⟨fun _ => ⟨tw_828, by decide +kernel, by decide, by decide, by decide +kernel, tw_1, rfl⟩, fun _ => ⟨tw_826, tw_827, _, rfl, rfl⟩, fun h => absurd h (by decide), fun h => absurd h (by decide)⟩
theorem xm_15 : sm_mf 15 := ⟨fun _ => ⟨tw_846, by decide +kernel, by decide, by decide, by decide +kernel, tw_1, rfl⟩, fun _ => ⟨tw_844, tw_845, _, rfl, rfl⟩, fun h => absurd h (by decide), fun h => absurd h (by decide)⟩
theorem xm_16 : sm_mf 16 := ⟨fun _ => ⟨tw_854, by decide +kernel, by decide, by decide, by decide +kernel, tw_1, rfl⟩, fun _ => ⟨tw_852, tw_853, _, rfl, rfl⟩, fun h => absurd h (by decide), fun h => absurd h (by decide)⟩
theorem xm_17 : sm_mf 17 := ⟨fun _ => ⟨tw_66, by decide +kernel, by decide, by decide, by decide +kernel, tw_5, rfl⟩, fun h => absurd h (by decide), fun h => absurd h (by decide), fun _ => ⟨tw_65, rfl, rfl⟩⟩
theorem xm_18 : sm_mf 18 := ⟨fun _ => ⟨tw_248, by decide +kernel, by decide, by decide, by decide +kernel, tw_5, rfl⟩, fun _ => ⟨tw_247, pw_3, _, rfl, rfl⟩, fun h => absurd h (by decide), fun h => absurd h (by decide)⟩
theorem xm_19 : sm_mf 19 := ⟨fun _ => ⟨tw_575, by decide +kernel, by decide, by decide, by decide +kernel, tw_5, rfl⟩, fun _ => ⟨tw_574, pw_24, _, rfl, rfl⟩, fun h => absurd h (by decide), fun h => absurd h (by decide)⟩
theorem xm_20 : sm_mf 20 := ⟨fun _ => ⟨tw_615, by decide +kernel, by decide, by decide, by decide +kernel, tw_5, rfl⟩, fun _ => ⟨tw_614, pw_28, _, rfl, rfl⟩, fun h => absurd h (by decide), fun h => absurd h (by decide)⟩
theorem xm_21 : sm_mf 21 := ⟨fun _ => ⟨tw_623, by decide +kernel, by decide, by decide, by decide +kernel, tw_5, rfl⟩, fun _ => ⟨tw_622, pw_30, _, rfl, rfl⟩, fun h => absurd h (by decide), fun h => absurd h (by decide)⟩
theorem xm_22 : sm_mf 22 := ⟨fun _ => ⟨tw_627, by decide +kernel, by decide, by decide, by decide +kernel, tw_5, rfl⟩, fun _ => ⟨tw_626, pw_31, _, rfl, rfl⟩, fun h => absurd h (by decide), fun h => absurd h (by decide)⟩
theorem xm_23 : sm_mf 23 := ⟨fun _ => ⟨tw_742, by decide +kernel, by decide, by decide, by decide +kernel, tw_5, rfl⟩, fun _ => ⟨tw_741, pw_49, _, rfl, rfl⟩, fun h => absurd h (by decide), fun h => absurd h (by decide)⟩
theorem xm_24 : sm_mf 24 := ⟨fun _ => ⟨tw_781, by decide +kernel, by decide, by decide, by decide +kernel, tw_5, rfl⟩, fun _ => ⟨tw_780, pw_50, _, rfl, rfl⟩, fun h => absurd h (by decide), fun h => absurd h (by decide)⟩
theorem xm_25 : sm_mf 25 := ⟨fun _ => ⟨tw_833, by decide +kernel, by decide, by decide, by decide +kernel, tw_5, rfl⟩, fun _ => ⟨tw_832, pw_54, _, rfl, rfl⟩, fun h => absurd h (by decide), fun h => absurd h (by decide)⟩
theorem xm_26 : sm_mf 26 := ⟨fun _ => ⟨tw_688, by decide +kernel, by decide, by decide, by decide +kernel, tw_24, rfl⟩, fun h => absurd h (by decide), fun h => absurd h (by decide), fun _ => ⟨tw_687, rfl, rfl⟩⟩
theorem xm_27 : sm_mf 27 := ⟨fun _ => ⟨tw_159, by decide +kernel, by decide, by decide, by decide +kernel, tw_10, rfl⟩, fun h => absurd h (by decide), fun h => absurd h (by decide), fun _ => ⟨tw_158, rfl, rfl⟩⟩
theorem xm_28 : sm_mf 28 := ⟨fun _ => ⟨tw_636, by decide +kernel, by decide, by decide, by decide +kernel, tw_10, rfl⟩, fun _ => ⟨tw_635, pw_33, _, rfl, rfl⟩, fun h => absurd h (by decide), fun h => absurd h (by decide)⟩
theorem xm_29 : sm_mf 29 := ⟨fun _ => ⟨tw_640, by decide +kernel, by decide, by decide, by decide +kernel, tw_10, rfl⟩, fun _ => ⟨tw_639, pw_34, _, rfl, rfl⟩, fun h => absurd h (by decide), fun h => absurd h (by decide)⟩
theorem xm_30 : sm_mf 30 := ⟨fun _ => ⟨tw_645, by decide +kernel, by decide, by decide, by decide +kernel, tw_10, rfl⟩, fun _ => ⟨tw_644, pw_35, _, rfl, rfl⟩, fun h => absurd h (by decide), fun h => absurd h (by decide)⟩
theorem xm_31 : sm_mf 31 := ⟨fun _ => ⟨tw_651, by decide +kernel, by decide, by decide, by decide +kernel, tw_10, rfl⟩, fun _ => ⟨tw_650, pw_36, _, rfl, rfl⟩, fun h => absurd h (by decide), fun h => absurd h (by decide)⟩
theorem xm_32 : sm_mf 32 := ⟨fun _ => ⟨tw_655, by decide +kernel, by decide, by decide, by decide +kernel, tw_10, rfl⟩, fun _ => ⟨tw_654, pw_37, _, rfl, rfl⟩, fun h => absurd h (by decide), fun h => absurd h (by decide)⟩
theorem xm_33 : sm_mf 33 := ⟨fun _ => ⟨tw_660, by decide +kernel, by decide, by decide, by decide +kernel, tw_10, rfl⟩, fun _ => ⟨tw_659, pw_38, _, rfl, rfl⟩, fun h => absurd h (by decide), fun h => absurd h (by decide)⟩
theorem xm_34 : sm_mf 34 := ⟨fun _ => ⟨tw_664, by decide +kernel, by decide, by decide, by decide +kernel, tw_10, rfl⟩, fun _ => ⟨tw_663, pw_39, _, rfl, rfl⟩, fun h => absurd h (by decide), fun h => absurd h (by decide)⟩
theorem xm_35 : sm_mf 35 := ⟨fun _ => ⟨tw_719, by decide +kernel, by decide, by decide, by decide +kernel, tw_10, rfl⟩, fun _ => ⟨tw_718, pw_45, _, rfl, rfl⟩, fun h => absurd h (by decide), fun h => absurd h (by decide)⟩
theorem xm_36 : sm_mf 36 := ⟨fun _ => ⟨tw_727, by decide +kernel, by decide, by decide, by decide +kernel, tw_10, rfl⟩, fun _ => ⟨tw_726, pw_47, _, rfl, rfl⟩, fun h => absurd h (by decide), fun h => absurd h (by decide)⟩
theorem xm_37 : sm_mf 37 := ⟨fun _ => ⟨tw_788, by decide +kernel, by decide, by decide, by decide +kernel, tw_10, rfl⟩, fun _ => ⟨tw_787, pw_51, _, rfl, rfl⟩, fun h => absurd h (by decide), fun h => absurd h (by decide)⟩
theorem xm_38 : sm_mf 38 := ⟨fun _ => ⟨tw_798, by decide +kernel, by decide, by decide, by decide +kernel, tw_10, rfl⟩, fun _ => ⟨tw_797, pw_52, _, rfl, rfl⟩, fun h => absurd h (by decide), fun h => absurd h (by decide)⟩
theorem xm_39 : sm_mf 39 := ⟨fun _ => ⟨tw_188, by decide +kernel, by decide, by decide, by decide +kernel, tw_11, rfl⟩, fun h => absurd h (by decide), fun h => absurd h (by decide), fun _ => ⟨tw_187, rfl, rfl⟩⟩
theorem xm_40 : sm_mf 40 := ⟨fun _ => ⟨tw_668, by decide +kernel, by decide, by decide, by decide +kernel, tw_11, rfl⟩, fun _ => ⟨tw_667, pw_40, _, rfl, rfl⟩, fun h => absurd h (by decide), fun h => absurd h (by decide)⟩
theorem xm_41 : sm_mf 41 := ⟨fun _ => ⟨tw_679, by decide +kernel, by decide, by decide, by decide +kernel, tw_11, rfl⟩, fun _ => ⟨tw_678, pw_41, _, rfl, rfl⟩, fun h => absurd h (by decide), fun h => absurd h (by decide)⟩
theorem xm_42 : sm_mf 42 := ⟨fun _ => ⟨tw_707, by decide +kernel, by decide, by decide, by decide +kernel, tw_11, rfl⟩, fun _ => ⟨tw_706, pw_43, _, rfl, rfl⟩, fun h => absurd h (by decide), fun h => absurd h (by decide)⟩
theorem xm_43 : sm_mf 43 := ⟨fun _ => ⟨tw_714, by decide +kernel, by decide, by decide, by decide +kernel, tw_11, rfl⟩, fun h => absurd h (by decide), fun _ => tw_713, fun h => absurd h (by decide)⟩
theorem xm_44 : sm_mf 44 := ⟨fun _ => ⟨tw_723, by decide +kernel, by decide, by decide, by decide +kernel, tw_11, rfl⟩, fun _ => ⟨tw_722, pw_46, _, rfl, rfl⟩, fun h => absurd h (by decide), fun h => absurd h (by decide)⟩
theorem xm_45 : sm_mf 45 := ⟨fun _ => ⟨tw_731, by decide +kernel, by decide, by decide, by decide +kernel, tw_11, rfl⟩, fun _ => ⟨tw_730, pw_48, _, rfl, rfl⟩, fun h => absurd h (by decide), fun h => absurd h (by decide)⟩
theorem xm_46 : sm_mf 46 := ⟨fun _ => ⟨tw_580, by decide +kernel, by decide, by decide, by decide +kernel, tw_23, rfl⟩, fun h => absurd h (by decide), fun h => absurd h (by decide), fun _ => ⟨tw_579, rfl, rfl⟩⟩
theorem xm_47 : sm_mf 47 := ⟨fun _ => ⟨tw_485, by decide +kernel, by decide, by decide, by decide +kernel, tw_22, rfl⟩, fun h => absurd h (by decide), fun h => absurd h (by decide), fun _ => ⟨tw_484, rfl, rfl⟩⟩
theorem xm_48 : sm_mf 48 := ⟨fun _ => ⟨tw_683, by decide +kernel, by decide, by decide, by decide +kernel, tw_22, rfl⟩, fun _ => ⟨tw_682, pw_42, _, rfl, rfl⟩, fun h => absurd h (by decide), fun h => absurd h (by decide)⟩
theorem xm_49 : sm_mf 49 := ⟨fun _ => ⟨tw_711, by decide +kernel, by decide, by decide, by decide +kernel, tw_22, rfl⟩, fun _ => ⟨tw_710, pw_44, _, rfl, rfl⟩, fun h => absurd h (by decide), fun h => absurd h (by decide)⟩
theorem xm_50 : sm_mf 50 := ⟨fun _ => ⟨tw_839, by decide +kernel, by decide, by decide, by decide +kernel, tw_22, rfl⟩, fun _ => ⟨tw_838, pw_55, _, rfl, rfl⟩, fun h => absurd h (by decide), fun h => absurd h (by decide)⟩
theorem xm_51 : sm_mf 51 := ⟨fun _ => ⟨tw_201, by decide +kernel, by decide, by decide, by decide +kernel, tw_12, rfl⟩, fun h => absurd h (by decide), fun h => absurd h (by decide), fun _ => ⟨tw_200, rfl, rfl⟩⟩
theorem xm_52 : sm_mf 52 := ⟨fun _ => ⟨tw_280, by decide +kernel, by decide, by decide, by decide +kernel, tw_12, rfl⟩, fun _ => ⟨tw_279, pw_4, _, rfl, rfl⟩, fun h => absurd h (by decide), fun h => absurd h (by decide)⟩
theorem xm_53 : sm_mf 53 := ⟨fun _ => ⟨tw_283, by decide +kernel, by decide, by decide, by decide +kernel, tw_12, rfl⟩, fun h => absurd h (by decide), fun _ => tw_282, fun h => absurd h (by decide)⟩
theorem xm_54 : sm_mf 54 := ⟨fun _ => ⟨tw_291, by decide +kernel, by decide, by decide, by decide +kernel, tw_12, rfl⟩, fun _ => ⟨tw_290, pw_5, _, rfl, rfl⟩, fun h => absurd h (by decide), fun h => absurd h (by decide)⟩
theorem xm_55 : sm_mf 55 := ⟨fun _ => ⟨tw_295, by decide +kernel, by decide, by decide, by decide +kernel, tw_12, rfl⟩, fun _ => ⟨tw_294, pw_6, _, rfl, rfl⟩, fun h => absurd h (by decide), fun h => absurd h (by decide)⟩
theorem xm_56 : sm_mf 56 := ⟨fun _ => ⟨tw_299, by decide +kernel, by decide, by decide, by decide +kernel, tw_12, rfl⟩, fun _ => ⟨tw_298, pw_7, _, rfl, rfl⟩, fun h => absurd h (by decide), fun h => absurd h (by decide)⟩
theorem xm_57 : sm_mf 57 := ⟨fun _ => ⟨tw_303, by decide +kernel, by decide, by decide, by decide +kernel, tw_12, rfl⟩, fun _ => ⟨tw_302, pw_8, _, rfl, rfl⟩, fun h => absurd h (by decide), fun h => absurd h (by decide)⟩
theorem xm_58 : sm_mf 58 := ⟨fun _ => ⟨tw_413, by decide +kernel, by decide, by decide, by decide +kernel, tw_19, rfl⟩, fun h => absurd h (by decide), fun h => absurd h (by decide), fun _ => ⟨tw_412, rfl, rfl⟩⟩
theorem xm_59 : sm_mf 59 := ⟨fun _ => ⟨tw_437, by decide +kernel, by decide, by decide, by decide +kernel, tw_19, rfl⟩, fun _ => ⟨tw_436, pw_10, _, rfl, rfl⟩, fun h => absurd h (by decide), fun h => absurd h (by decide)⟩
theorem xm_60 : sm_mf 60 := ⟨fun _ => ⟨tw_441, by decide +kernel, by decide, by decide, by decide +kernel, tw_19, rfl⟩, fun _ => ⟨tw_440, pw_11, _, rfl, rfl⟩, fun h => absurd h (by decide), fun h => absurd h (by decide)⟩
theorem xm_61 : sm_mf 61 := ⟨fun _ => ⟨tw_445, by decide +kernel, by decide, by decide, by decide +kernel, tw_19, rfl⟩, fun _ => ⟨tw_444, pw_12, _, rfl, rfl⟩, fun h => absurd h (by decide), fun h => absurd h (by decide)⟩
theorem xm_62 : sm_mf 62 := ⟨fun _ => ⟨tw_449, by decide +kernel, by decide, by decide, by decide +kernel, tw_19, rfl⟩, fun _ => ⟨tw_448, pw_13, _, rfl, rfl⟩, fun h => absurd h (by decide), fun h => absurd h (by decide)⟩
theorem xm_63 : sm_mf 63 := ⟨fun _ => ⟨tw_453, by decide +kernel, by decide, by decide, by decide +kernel, tw_19, rfl⟩, fun _ => ⟨tw_452, pw_14, _, rfl, rfl⟩, fun h => absurd h (by decide), fun h => absurd h (by decide)⟩
theorem xm_64 : sm_mf 64 := ⟨fun _ => ⟨tw_457, by decide +kernel, by decide, by decide, by decide +kernel, tw_19, rfl⟩, fun _ => ⟨tw_456, pw_15, _, rfl, rfl⟩, fun h => absurd h (by decide), fun h => absurd h (by decide)⟩
theorem xm_65 : sm_mf 65 := ⟨fun _ => ⟨tw_461, by decide +kernel, by decide, by decide, by decide +kernel, tw_19, rfl⟩, fun _ => ⟨tw_460, pw_16, _, rfl, rfl⟩, fun h => absurd h (by decide), fun h => absurd h (by decide)⟩
theorem xm_66 : sm_mf 66 := ⟨fun _ => ⟨tw_464, by decide +kernel, by decide, by decide, by decide +kernel, tw_19, rfl⟩, fun h => absurd h (by decide), fun _ => tw_463, fun h => absurd h (by decide)⟩
theorem xm_67 : sm_mf 67 := ⟨fun _ => ⟨tw_467, by decide +kernel, by decide, by decide, by decide +kernel, tw_19, rfl⟩, fun h => absurd h (by decide), fun _ => tw_466, fun h => absurd h (by decide)⟩
theorem xm_68 : sm_mf 68 := ⟨fun _ => ⟨tw_470, by decide +kernel, by decide, by decide, by decide +kernel, tw_19, rfl⟩, fun h => absurd h (by decide), fun _ => tw_469, fun h => absurd h (by decide)⟩
theorem xm_69 : sm_mf 69 := ⟨fun _ => ⟨tw_475, by decide +kernel, by decide, by decide, by decide +kernel, tw_19, rfl⟩, fun _ => ⟨tw_474, pw_17, _, rfl, rfl⟩, fun h => absurd h (by decide), fun h => absurd h (by decide)⟩
theorem xm_70 : sm_mf 70 := ⟨fun _ => ⟨tw_479, by decide +kernel, by decide, by decide, by decide +kernel, tw_19, rfl⟩, fun _ => ⟨tw_478, pw_18, _, rfl, rfl⟩, fun h => absurd h (by decide), fun h => absurd h (by decide)⟩
theorem xm_71 : sm_mf 71 := ⟨fun _ => ⟨tw_553, by decide +kernel, by decide, by decide, by decide +kernel, tw_19, rfl⟩, fun _ => ⟨tw_552, pw_19, _, rfl, rfl⟩, fun h => absurd h (by decide), fun h => absurd h (by decide)⟩
theorem xm_72 : sm_mf 72 := ⟨fun _ => ⟨tw_558, by decide +kernel, by decide, by decide, by decide +kernel, tw_19, rfl⟩, fun _ => ⟨tw_557, pw_20, _, rfl, rfl⟩, fun h => absurd h (by decide), fun h => absurd h (by decide)⟩
theorem xm_73 : sm_mf 73 := ⟨fun _ => ⟨tw_562, by decide +kernel, by decide, by decide, by decide +kernel, tw_19, rfl⟩, fun _ => ⟨tw_561, pw_21, _, rfl, rfl⟩, fun h => absurd h (by decide), fun h => absurd h (by decide)⟩
theorem xm_74 : sm_mf 74 := ⟨fun _ => ⟨tw_567, by decide +kernel, by decide, by decide, by decide +kernel, tw_19, rfl⟩, fun _ => ⟨tw_566, pw_22, _, rfl, rfl⟩, fun h => absurd h (by decide), fun h => absurd h (by decide)⟩
theorem xm_75 : sm_mf 75 := ⟨fun _ => ⟨tw_571, by decide +kernel, by decide, by decide, by decide +kernel, tw_19, rfl⟩, fun _ => ⟨tw_570, pw_23, _, rfl, rfl⟩, fun h => absurd h (by decide), fun h => absurd h (by decide)⟩
theorem xm_76 : sm_mf 76 := ⟨fun _ => ⟨tw_602, by decide +kernel, by decide, by decide, by decide +kernel, tw_19, rfl⟩, fun _ => ⟨tw_601, pw_25, _, rfl, rfl⟩, fun h => absurd h (by decide), fun h => absurd h (by decide)⟩
theorem xm_77 : sm_mf 77 := ⟨fun _ => ⟨tw_606, by decide +kernel, by decide, by decide, by decide +kernel, tw_19, rfl⟩, fun _ => ⟨tw_605, pw_26, _, rfl, rfl⟩, fun h => absurd h (by decide), fun h => absurd h (by decide)⟩
theorem xm_78 : sm_mf 78 := ⟨fun _ => ⟨tw_610, by decide +kernel, by decide, by decide, by decide +kernel, tw_19, rfl⟩, fun _ => ⟨tw_609, pw_27, _, rfl, rfl⟩, fun h => absurd h (by decide), fun h => absurd h (by decide)⟩
theorem xm_79 : sm_mf 79 := ⟨fun _ => ⟨tw_619, by decide +kernel, by decide, by decide, by decide +kernel, tw_19, rfl⟩, fun _ => ⟨tw_618, pw_29, _, rfl, rfl⟩, fun h => absurd h (by decide), fun h => absurd h (by decide)⟩
theorem xm_80 : sm_mf 80 := ⟨fun _ => ⟨tw_860, by decide +kernel, by decide, by decide, by decide +kernel, tw_13, rfl⟩, fun h => absurd h (by decide), fun h => absurd h (by decide), fun _ => ⟨tw_859, rfl, rfl⟩⟩
theorem xm_81 : sm_mf 81 := ⟨fun _ => ⟨tw_1068, by decide +kernel, by decide, by decide, by decide +kernel, tw_13, rfl⟩, fun _ => ⟨tw_1066, tw_1067, _, rfl, rfl⟩, fun h => absurd h (by decide), fun h => absurd h (by decide)⟩
theorem xm_82 : sm_mf 82 := ⟨fun _ => ⟨tw_1072, by decide +kernel, by decide, by decide, by decide +kernel, tw_13, rfl⟩, fun _ => ⟨tw_1070, tw_1071, _, rfl, rfl⟩, fun h => absurd h (by decide), fun h => absurd h (by decide)⟩
theorem xm_83 : sm_mf 83 := ⟨fun _ => ⟨tw_1075, by decide +kernel, by decide, by decide, by decide +kernel, tw_13, rfl⟩, fun h => absurd h (by decide), fun _ => tw_1074, fun h => absurd h (by decide)⟩
theorem xm_84 : sm_mf 84 := ⟨fun _ => ⟨tw_1079, by decide +kernel, by decide, by decide, by decide +kernel, tw_13, rfl⟩, fun _ => ⟨tw_1077, tw_1078, _, rfl, rfl⟩, fun h => absurd h (by decide), fun h => absurd h (by decide)⟩
theorem xm_85 : sm_mf 85 := ⟨fun _ => ⟨tw_1083, by decide +kernel, by decide, by decide, by decide +kernel, tw_13, rfl⟩, fun _ => ⟨tw_1082, pw_56, _, rfl, rfl⟩, fun h => absurd h (by decide), fun h => absurd h (by decide)⟩
theorem xm_86 : sm_mf 86 := ⟨fun _ => ⟨tw_1087, by decide +kernel, by decide, by decide, by decide +kernel, tw_13, rfl⟩, fun _ => ⟨tw_1086, pw_57, _, rfl, rfl⟩, fun h => absurd h (by decide), fun h => absurd h (by decide)⟩
theorem xm_87 : sm_mf 87 := ⟨fun _ => ⟨tw_1090, by decide +kernel, by decide, by decide, by decide +kernel, tw_13, rfl⟩, fun h => absurd h (by decide), fun _ => tw_1089, fun h => absurd h (by decide)⟩
theorem xm_88 : sm_mf 88 := ⟨fun _ => ⟨tw_1094, by decide +kernel, by decide, by decide, by decide +kernel, tw_13, rfl⟩, fun _ => ⟨tw_1093, pw_58, _, rfl, rfl⟩, fun h => absurd h (by decide), fun h => absurd h (by decide)⟩
theorem xm_89 : sm_mf 89 := ⟨fun _ => ⟨tw_1098, by decide +kernel, by decide, by decide, by decide +kernel, tw_13, rfl⟩, fun _ => ⟨tw_1097, pw_59, _, rfl, rfl⟩, fun h => absurd h (by decide), fun h => absurd h (by decide)⟩
theorem xm_90 : sm_mf 90 := ⟨fun _ => ⟨tw_1102, by decide +kernel, by decide, by decide, by decide +kernel, tw_13, rfl⟩, fun _ => ⟨tw_1101, pw_60, _, rfl, rfl⟩, fun h => absurd h (by decide), fun h => absurd h (by decide)⟩
theorem xm_91 : sm_mf 91 := ⟨fun _ => ⟨tw_1106, by decide +kernel, by decide, by decide, by decide +kernel, tw_13, rfl⟩, fun _ => ⟨tw_1105, pw_61, _, rfl, rfl⟩, fun h => absurd h (by decide), fun h => absurd h (by decide)⟩
theorem xm_92 : sm_mf 92 := ⟨fun _ => ⟨tw_1110, by decide +kernel, by decide, by decide, by decide +kernel, tw_13, rfl⟩, fun _ => ⟨tw_1109, pw_62, _, rfl, rfl⟩, fun h => absurd h (by decide), fun h => absurd h (by decide)⟩
theorem xm_93 : sm_mf 93 := ⟨fun _ => ⟨tw_1114, by decide +kernel, by decide, by decide, by decide +kernel, tw_13, rfl⟩, fun _ => ⟨tw_1113, pw_63, _, rfl, rfl⟩, fun h => absurd h (by decide), fun h => absurd h (by decide)⟩
theorem xm_94 : sm_mf 94 := ⟨fun _ => ⟨tw_1118, by decide +kernel, by decide, by decide, by decide +kernel, tw_13, rfl⟩, fun _ => ⟨tw_1117, pw_64, _, rfl, rfl⟩, fun h => absurd h (by decide), fun h => absurd h (by decide)⟩
theorem xm_95 : sm_mf 95 := ⟨fun _ => ⟨tw_1122, by decide +kernel, by decide, by decide, by decide +kernel, tw_13, rfl⟩, fun _ => ⟨tw_1121, pw_65, _, rfl, rfl⟩, fun h => absurd h (by decide), fun h => absurd h (by decide)⟩
theorem xm_96 : sm_mf 96 := ⟨fun _ => ⟨tw_1126, by decide +kernel, by decide, by decide, by decide +kernel, tw_13, rfl⟩, fun _ => ⟨tw_1125, pw_66, _, rfl, rfl⟩, fun h => absurd h (by decide), fun h => absurd h (by decide)⟩
theorem xm_97 : sm_mf 97 := ⟨fun _ => ⟨tw_1130, by decide +kernel, by decide, by decide, by decide +kernel, tw_13, rfl⟩, fun _ => ⟨tw_1129, pw_67, _, rfl, rfl⟩, fun h => absurd h (by decide), fun h => absurd h (by decide)⟩
theorem xm_98 : sm_mf 98 := ⟨fun _ => ⟨tw_1134, by decide +kernel, by decide, by decide, by decide +kernel, tw_13, rfl⟩, fun _ => ⟨tw_1133, pw_68, _, rfl, rfl⟩, fun h => absurd h (by decide), fun h => absurd h (by decide)⟩
theorem xm_99 : sm_mf 99 := ⟨fun _ => ⟨tw_1142, by decide +kernel, by decide, by decide, by decide +kernel, tw_13, rfl⟩, fun _ => ⟨tw_1141, pw_69, _, rfl, rfl⟩, fun h => absurd h (by decide), fun h => absurd h (by decide)⟩
theorem xm_100 : sm_mf 100 := ⟨fun _ => ⟨tw_1146, by decide +kernel, by decide, by decide, by decide +kernel, tw_13, rfl⟩, fun _ => ⟨tw_1145, pw_70, _, rfl, rfl⟩, fun h => absurd h (by decide), fun h => absurd h (by decide)⟩
theorem xm_101 : sm_mf 101 := ⟨fun _ => ⟨tw_1150, by decide +kernel, by decide, by decide, by decide +kernel, tw_13, rfl⟩, fun _ => ⟨tw_1149, pw_71, _, rfl, rfl⟩, fun h => absurd h (by decide), fun h => absurd h (by decide)⟩
theorem xm_102 : sm_mf 102 := ⟨fun _ => ⟨tw_1154, by decide +kernel, by decide, by decide, by decide +kernel, tw_13, rfl⟩, fun _ => ⟨tw_1153, pw_72, _, rfl, rfl⟩, fun h => absurd h (by decide), fun h => absurd h (by decide)⟩
theorem xm_103 : sm_mf 103 := ⟨fun _ => ⟨tw_1158, by decide +kernel, by decide, by decide, by decide +kernel, tw_13, rfl⟩, fun _ => ⟨tw_1157, pw_73, _, rfl, rfl⟩, fun h => absurd h (by decide), fun h => absurd h (by decide)⟩
theorem xm_104 : sm_mf 104 := ⟨fun _ => ⟨tw_1162, by decide +kernel, by decide, by decide, by decide +kernel, tw_13, rfl⟩, fun _ => ⟨tw_1161, pw_74, _, rfl, rfl⟩, fun h => absurd h (by decide), fun h => absurd h (by decide)⟩
theorem xm_105 : sm_mf 105 := ⟨fun _ => ⟨tw_1166, by decide +kernel, by decide, by decide, by decide +kernel, tw_13, rfl⟩, fun _ => ⟨tw_1165, pw_75, _, rfl, rfl⟩, fun h => absurd h (by decide), fun h => absurd h (by decide)⟩
theorem xm_106 : sm_mf 106 := ⟨fun _ => ⟨tw_1170, by decide +kernel, by decide, by decide, by decide +kernel, tw_13, rfl⟩, fun _ => ⟨tw_1169, pw_76, _, rfl, rfl⟩, fun h => absurd h (by decide), fun h => absurd h (by decide)⟩
theorem xm_107 : sm_mf 107 := ⟨fun _ => ⟨tw_1174, by decide +kernel, by decide, by decide, by decide +kernel, tw_13, rfl⟩, fun _ => ⟨tw_1173, pw_77, _, rfl, rfl⟩, fun h => absurd h (by decide), fun h => absurd h (by decide)⟩
theorem xm_108 : sm_mf 108 := ⟨fun _ => ⟨tw_1178, by decide +kernel, by decide, by decide, by decide +kernel, tw_13, rfl⟩, fun _ => ⟨tw_1176, tw_1177, _, rfl, rfl⟩, fun h => absurd h (by decide), fun h => absurd h (by decide)⟩
theorem xm_109 : sm_mf 109 := ⟨fun _ => ⟨tw_1182, by decide +kernel, by decide, by decide, by decide +kernel, tw_13, rfl⟩, fun _ => ⟨tw_1181, pw_78, _, rfl, rfl⟩, fun h => absurd h (by decide), fun h => absurd h (by decide)⟩
theorem xm_110 : sm_mf 110 := ⟨fun _ => ⟨tw_1186, by decide +kernel, by decide, by decide, by decide +kernel, tw_13, rfl⟩, fun _ => ⟨tw_1185, pw_79, _, rfl, rfl⟩, fun h => absurd h (by decide), fun h => absurd h (by decide)⟩
theorem xm_111 : sm_mf 111 := ⟨fun _ => ⟨tw_1190, by decide +kernel, by decide, by decide, by decide +kernel, tw_13, rfl⟩, fun _ => ⟨tw_1189, pw_80, _, rfl, rfl⟩, fun h => absurd h (by decide), fun h => absurd h (by decide)⟩
theorem xm_112 : sm_mf 112 := ⟨fun _ => ⟨tw_1194, by decide +kernel, by decide, by decide, by decide +kernel, tw_13, rfl⟩, fun _ => ⟨tw_1193, pw_81, _, rfl, rfl⟩, fun h => absurd h (by decide), fun h => absurd h (by decide)⟩
theorem xm_113 : sm_mf 113 := ⟨fun _ => ⟨tw_1198, by decide +kernel, by decide, by decide, by decide +kernel, tw_13, rfl⟩, fun _ => ⟨tw_1196, tw_1197, _, rfl, rfl⟩, fun h => absurd h (by decide), fun h => absurd h (by decide)⟩
theorem xm_114 : sm_mf 114 := ⟨fun _ => ⟨tw_1202, by decide +kernel, by decide, by decide, by decide +kernel, tw_13, rfl⟩, fun _ => ⟨tw_1200, tw_1201, _, rfl, rfl⟩, fun h => absurd h (by decide), fun h => absurd h (by decide)⟩
theorem xm_115 : sm_mf 115 := ⟨fun _ => ⟨tw_1206, by decide +kernel, by decide, by decide, by decide +kernel, tw_13, rfl⟩, fun _ => ⟨tw_1205, pw_82, _, rfl, rfl⟩, fun h => absurd h (by decide), fun h => absurd h (by decide)⟩
theorem xm_116 : sm_mf 116 := ⟨fun _ => ⟨tw_1210, by decide +kernel, by decide, by decide, by decide +kernel, tw_13, rfl⟩, fun _ => ⟨tw_1209, pw_83, _, rfl, rfl⟩, fun h => absurd h (by decide), fun h => absurd h (by decide)⟩
theorem xm_117 : sm_mf 117 := ⟨fun _ => ⟨tw_1214, by decide +kernel, by decide, by decide, by decide +kernel, tw_13, rfl⟩, fun _ => ⟨tw_1213, pw_84, _, rfl, rfl⟩, fun h => absurd h (by decide), fun h => absurd h (by decide)⟩
theorem xm_118 : sm_mf 118 := ⟨fun _ => ⟨tw_1218, by decide +kernel, by decide, by decide, by decide +kernel, tw_13, rfl⟩, fun _ => ⟨tw_1217, pw_85, _, rfl, rfl⟩, fun h => absurd h (by decide), fun h => absurd h (by decide)⟩
theorem xm_119 : sm_mf 119 := ⟨fun _ => ⟨tw_1222, by decide +kernel, by decide, by decide, by decide +kernel, tw_13, rfl⟩, fun _ => ⟨tw_1221, pw_86, _, rfl, rfl⟩, fun h => absurd h (by decide), fun h => absurd h (by decide)⟩
theorem xm_120 : sm_mf 120 := ⟨fun _ => ⟨tw_1226, by decide +kernel, by decide, by decide, by decide +kernel, tw_13, rfl⟩, fun _ => ⟨tw_1225, pw_87, _, rfl, rfl⟩, fun h => absurd h (by decide), fun h => absurd h (by decide)⟩
theorem xm_121 : sm_mf 121 := ⟨fun _ => ⟨tw_1230, by decide +kernel, by decide, by decide, by decide +kernel, tw_13, rfl⟩, fun _ => ⟨tw_1229, pw_88, _, rfl, rfl⟩, fun h => absurd h (by decide), fun h => absurd h (by decide)⟩
theorem xm_122 : sm_mf 122 := ⟨fun _ => ⟨tw_1234, by decide +kernel, by decide, by decide, by decide +kernel, tw_13, rfl⟩, fun _ => ⟨tw_1233, pw_89, _, rfl, rfl⟩, fun h => absurd h (by decide), fun h => absurd h (by decide)⟩
theorem xm_123 : sm_mf 123 := ⟨fun _ => ⟨tw_1238, by decide +kernel, by decide, by decide, by decide +kernel, tw_13, rfl⟩, fun _ => ⟨tw_1237, pw_90, _, rfl, rfl⟩, fun h => absurd h (by decide), fun h => absurd h (by decide)⟩
theorem xm_124 : sm_mf 124 := ⟨fun _ => ⟨tw_1242, by decide +kernel, by decide, by decide, by decide +kernel, tw_13, rfl⟩, fun _ => ⟨tw_1241, pw_91, _, rfl, rfl⟩, fun h => absurd h (by decide), fun h => absurd h (by decide)⟩
theorem xm_125 : sm_mf 125 := ⟨fun _ => ⟨tw_1246, by decide +kernel, by decide, by decide, by decide +kernel, tw_13, rfl⟩, fun _ => ⟨tw_1245, pw_92, _, rfl, rfl⟩, fun h => absurd h (by decide), fun h => absurd h (by decide)⟩
theorem xm_126 : sm_mf 126 := ⟨fun _ => ⟨tw_1250, by decide +kernel, by decide, by decide, by decide +kernel, tw_13, rfl⟩, fun _ => ⟨tw_1249, pw_93, _, rfl, rfl⟩, fun h => absurd h (by decide), fun h => absurd h (by decide)⟩
theorem xm_127 : sm_mf 127 := ⟨fun _ => ⟨tw_1254, by decide +kernel, by decide, by decide, by decide +kernel, tw_13, rfl⟩, fun _ => ⟨tw_1252, tw_1253, _, rfl, rfl⟩, fun h => absurd h (by decide), fun h => absurd h (by decide)⟩
theorem xm_128 : sm_mf 128 := ⟨fun _ => ⟨tw_1258, by decide +kernel, by decide, by decide, by decide +kernel, tw_13, rfl⟩, fun _ => ⟨tw_1256, tw_1257, _, rfl, rfl⟩, fun h => absurd h (by decide), fun h => absurd h (by decide)⟩
theorem xm_129 : sm_mf 129 := ⟨fun _ => ⟨tw_1262, by decide +kernel, by decide, by decide, by decide +kernel, tw_13, rfl⟩, fun _ => ⟨tw_1261, pw_94, _, rfl, rfl⟩, fun h => absurd h (by decide), fun h => absurd h (by decide)⟩
theorem xm_130 : sm_mf 130 := ⟨fun _ => ⟨tw_1266, by decide +kernel, by decide, by decide, by decide +kernel, tw_13, rfl⟩, fun _ => ⟨tw_1264, tw_1265, _, rfl, rfl⟩, fun h => absurd h (by decide), fun h => absurd h (by decide)⟩
theorem xm_131 : sm_mf 131 := ⟨fun _ => ⟨tw_1270, by decide +kernel, by decide, by decide, by decide +kernel, tw_13, rfl⟩, fun _ => ⟨tw_1268, tw_1269, _, rfl, rfl⟩, fun h => absurd h (by decide), fun h => absurd h (by decide)⟩
theorem xm_132 : sm_mf 132 := ⟨fun _ => ⟨tw_1274, by decide +kernel, by decide, by decide, by decide +kernel, tw_13, rfl⟩, fun _ => ⟨tw_1273, pw_95, _, rfl, rfl⟩, fun h => absurd h (by decide), fun h => absurd h (by decide)⟩
theorem xm_133 : sm_mf 133 := ⟨fun _ => ⟨tw_1278, by decide +kernel, by decide, by decide, by decide +kernel, tw_13, rfl⟩, fun _ => ⟨tw_1276, tw_1277, _, rfl, rfl⟩, fun h => absurd h (by decide), fun h => absurd h (by decide)⟩
theorem xm_134 : sm_mf 134 := ⟨fun _ => ⟨tw_1282, by decide +kernel, by decide, by decide, by decide +kernel, tw_13, rfl⟩, fun _ => ⟨tw_1281, pw_96, _, rfl, rfl⟩, fun h => absurd h (by decide), fun h => absurd h (by decide)⟩
theorem xm_135 : sm_mf 135 := ⟨fun _ => ⟨tw_1286, by decide +kernel, by decide, by decide, by decide +kernel, tw_13, rfl⟩, fun _ => ⟨tw_1284, tw_1285, _, rfl, rfl⟩, fun h => absurd h (by decide), fun h => absurd h (by decide)⟩
theorem xm_136 : sm_mf 136 := ⟨fun _ => ⟨tw_1290, by decide +kernel, by decide, by decide, by decide +kernel, tw_13, rfl⟩, fun _ => ⟨tw_1288, tw_1289, _, rfl, rfl⟩, fun h => absurd h (by decide), fun h => absurd h (by decide)⟩
theorem xm_137 : sm_mf 137 := ⟨fun _ => ⟨tw_1294, by decide +kernel, by decide, by decide, by decide +kernel, tw_13, rfl⟩, fun _ => ⟨tw_1293, pw_97, _, rfl, rfl⟩, fun h => absurd h (by decide), fun h => absurd h (by decide)⟩
theorem xm_138 : sm_mf 138 := ⟨fun _ => ⟨tw_1298, by decide +kernel, by decide, by decide, by decide +kernel, tw_13, rfl⟩, fun _ => ⟨tw_1297, pw_98, _, rfl, rfl⟩, fun h => absurd h (by decide), fun h => absurd h (by decide)⟩
theorem xm_139 : sm_mf 139 := ⟨fun _ => ⟨tw_1302, by decide +kernel, by decide, by decide, by decide +kernel, tw_13, rfl⟩, fun _ => ⟨tw_1301, pw_99, _, rfl, rfl⟩, fun h => absurd h (by decide), fun h => absurd h (by decide)⟩
theorem xm_140 : sm_mf 140 := ⟨fun _ => ⟨tw_1305, by decide +kernel, by decide, by decide, by decide +kernel, tw_13, rfl⟩, fun h => absurd h (by decide), fun _ => tw_1304, fun h => absurd h (by decide)⟩
theorem xm_141 : sm_mf 141 := ⟨fun _ => ⟨tw_1308, by decide +kernel, by decide, by decide, by decide +kernel, tw_13, rfl⟩, fun h => absurd h (by decide), fun _ => tw_1307, fun h => absurd h (by decide)⟩
theorem xm_142 : sm_mf 142 := ⟨fun _ => ⟨tw_1312, by decide +kernel, by decide, by decide, by decide +kernel, tw_13, rfl⟩, fun _ => ⟨tw_1310, tw_1311, _, rfl, rfl⟩, fun h => absurd h (by decide), fun h => absurd h (by decide)⟩
theorem xm_143 : sm_mf 143 := ⟨fun _ => ⟨tw_1316, by decide +kernel, by decide, by decide, by decide +kernel, tw_13, rfl⟩, fun _ => ⟨tw_1314, tw_1315, _, rfl, rfl⟩, fun h => absurd h (by decide), fun h => absurd h (by decide)⟩
theorem xm_144 : sm_mf 144 := ⟨fun _ => ⟨tw_39, by decide +kernel, by decide, by decide, by decide +kernel, tw_4, rfl⟩, fun h => absurd h (by decide), fun h => absurd h (by decide), fun _ => ⟨tw_38, rfl, rfl⟩⟩
theorem xm_145 : sm_mf 145 := ⟨fun _ => ⟨tw_97, by decide +kernel, by decide, by decide, by decide +kernel, tw_4, rfl⟩, fun _ => ⟨tw_95, tw_96, _, rfl, rfl⟩, fun h => absurd h (by decide), fun h => absurd h (by decide)⟩
theorem xm_146 : sm_mf 146 := ⟨fun _ => ⟨tw_101, by decide +kernel, by decide, by decide, by decide +kernel, tw_4, rfl⟩, fun _ => ⟨tw_100, pw_0, _, rfl, rfl⟩, fun h => absurd h (by decide), fun h => absurd h (by decide)⟩
theorem xm_147 : sm_mf 147 := ⟨fun _ => ⟨tw_105, by decide +kernel, by decide, by decide, by decide +kernel, tw_4, rfl⟩, fun _ => ⟨tw_104, pw_1, _, rfl, rfl⟩, fun h => absurd h (by decide), fun h => absurd h (by decide)⟩
theorem xm_148 : sm_mf 148 := ⟨fun _ => ⟨tw_109, by decide +kernel, by decide, by decide, by decide +kernel, tw_4, rfl⟩, fun _ => ⟨tw_108, pw_2, _, rfl, rfl⟩, fun h => absurd h (by decide), fun h => absurd h (by decide)⟩
theorem xm_149 : sm_mf 149 := ⟨fun _ => ⟨tw_252, by decide +kernel, by decide, by decide, by decide +kernel, tw_4, rfl⟩, fun _ => ⟨tw_250, tw_251, _, rfl, rfl⟩, fun h => absurd h (by decide), fun h => absurd h (by decide)⟩
theorem xm_150 : sm_mf 150 := ⟨fun _ => ⟨tw_256, by decide +kernel, by decide, by decide, by decide +kernel, tw_4, rfl⟩, fun _ => ⟨tw_254, tw_255, _, rfl, rfl⟩, fun h => absurd h (by decide), fun h => absurd h (by decide)⟩
theorem xm_151 : sm_mf 151 := ⟨fun _ => ⟨tw_266, by decide +kernel, by decide, by decide, by decide +kernel, tw_4, rfl⟩, fun _ => ⟨tw_264, tw_265, _, rfl, rfl⟩, fun h => absurd h (by decide), fun h => absurd h (by decide)⟩
theorem xm_152 : sm_mf 152 := ⟨fun _ => ⟨tw_672, by decide +kernel, by decide, by decide, by decide +kernel, tw_4, rfl⟩, fun _ => ⟨tw_670, tw_671, _, rfl, rfl⟩, fun h => absurd h (by decide), fun h => absurd h (by decide)⟩
theorem xm_153 : sm_mf 153 := ⟨fun _ => ⟨tw_42, by decide +kernel, by decide, by decide, by decide +kernel, tw_3, rfl⟩, fun h => absurd h (by decide), fun h => absurd h (by decide), fun _ => ⟨tw_41, rfl, rfl⟩⟩
theorem xm_154 : sm_mf 154 := ⟨fun _ => ⟨tw_45, by decide +kernel, by decide, by decide, by decide +kernel, tw_2, rfl⟩, fun h => absurd h (by decide), fun h => absurd h (by decide), fun _ => ⟨tw_44, rfl, rfl⟩⟩
theorem xm_155 : sm_mf 155 := ⟨fun _ => ⟨tw_112, by decide +kernel, by decide, by decide, by decide +kernel, tw_6, rfl⟩, fun h => absurd h (by decide), fun _ => tw_111, fun h => absurd h (by decide)⟩
theorem xm_156 : sm_mf 156 := ⟨fun _ => ⟨tw_259, by decide +kernel, by decide, by decide, by decide +kernel, tw_20, rfl⟩, fun h => absurd h (by decide), fun _ => tw_258, fun h => absurd h (by decide)⟩
theorem xm_157 : sm_mf 157 := ⟨fun _ => ⟨tw_262, by decide +kernel, by decide, by decide, by decide +kernel, tw_21, rfl⟩, fun h => absurd h (by decide), fun _ => tw_261, fun h => absurd h (by decide)⟩
theorem xm_158 : sm_mf 158 := ⟨fun _ => ⟨tw_791, by decide +kernel, by decide, by decide, by decide +kernel, tw_26, rfl⟩, fun h => absurd h (by decide), fun _ => tw_790, fun h => absurd h (by decide)⟩
theorem xm_159 : sm_mf 159 := ⟨fun h => absurd h (by decide), fun h => absurd h (by decide), fun h => absurd h (by decide), fun h => absurd h (by decide)⟩
theorem xm_160 : sm_mf 160 := ⟨fun h => absurd h (by decide), fun h => absurd h (by decide), fun h => absurd h (by decide), fun h => absurd h (by decide)⟩
theorem xm_161 : sm_mf 161 := ⟨fun h => absurd h (by decide), fun h => absurd h (by decide), fun h => absurd h (by decide), fun h => absurd h (by decide)⟩
theorem xm_162 : sm_mf 162 := ⟨fun h => absurd h (by decide), fun h => absurd h (by decide), fun h => absurd h (by decide), fun h => absurd h (by decide)⟩
theorem xm_163 : sm_mf 163 := ⟨fun h => absurd h (by decide), fun h => absurd h (by decide), fun h => absurd h (by decide), fun h => absurd h (by decide)⟩
theorem xm_164 : sm_mf 164 := ⟨fun h => absurd h (by decide), fun h => absurd h (by decide), fun h => absurd h (by decide), fun h => absurd h (by decide)⟩
theorem xm_165 : sm_mf 165 := ⟨fun h => absurd h (by decide), fun h => absurd h (by decide), fun h => absurd h (by decide), fun h => absurd h (by decide)⟩
theorem xm_166 : sm_mf 166 := ⟨fun h => absurd h (by decide), fun h => absurd h (by decide), fun h => absurd h (by decide), fun h => absurd h (by decide)⟩
theorem xm_167 : sm_mf 167 := ⟨fun h => absurd h (by decide), fun h => absurd h (by decide), fun h => absurd h (by decide), fun h => absurd h (by decide)⟩
theorem xm_168 : sm_mf 168 := ⟨fun h => absurd h (by decide), fun h => absurd h (by decide), fun h => absurd h (by decide), fun h => absurd h (by decide)⟩
theorem xm_169 : sm_mf 169 := ⟨fun h => absurd h (by decide), fun h => absurd h (by decide), fun h => absurd h (by decide), fun h => absurd h (by decide)⟩
theorem xm_ok (j : Nat) (h : j < 170) : sm_mf j := by
  match j, h with
  | 0, _ => exact xm_0
  | 1, _ => exact xm_1
  | 2, _ => exact xm_2
  | 3, _ => exact xm_3
  | 4, _ => exact xm_4
  | 5, _ => exact xm_5
  | 6, _ => exact xm_6
  | 7, _ => exact xm_7
  | 8, _ => exact xm_8
  | 9, _ => exact xm_9
  | 10, _ => exact xm_10
  | 11, _ => exact xm_11
  | 12, _ => exact xm_12
  | 13, _ => exact xm_13
  | 14, _ => exact xm_14
  | 15, _ => exact xm_15
  | 16, _ => exact xm_16
  | 17, _ => exact xm_17
  | 18, _ => exact xm_18
  | 19, _ => exact xm_19
  | 20, _ => exact xm_20
  | 21, _ => exact xm_21
  | 22, _ => exact xm_22
  | 23, _ => exact xm_23
  | 24, _ => exact xm_24
  | 25, _ => exact xm_25
  | 26, _ => exact xm_26
  | 27, _ => exact xm_27
  | 28, _ => exact xm_28
  | 29, _ => exact xm_29
  | 30, _ => exact xm_30
  | 31, _ => exact xm_31
  | 32, _ => exact xm_32
  | 33, _ => exact xm_33
  | 34, _ => exact xm_34
  | 35, _ => exact xm_35
  | 36, _ => exact xm_36
  | 37, _ => exact xm_37
  | 38, _ => exact xm_38
  | 39, _ => exact xm_39
  | 40, _ => exact xm_40
  | 41, _ => exact xm_41
  | 42, _ => exact xm_42
  | 43, _ => exact xm_43
  | 44, _ => exact xm_44
  | 45, _ => exact xm_45
  | 46, _ => exact xm_46
  | 47, _ => exact xm_47
  | 48, _ => exact xm_48
  | 49, _ => exact xm_49
  | 50, _ => exact xm_50
  | 51, _ => exact xm_51
  | 52, _ => exact xm_52
  | 53, _ => exact xm_53
  | 54, _ => exact xm_54
  | 55, _ => exact xm_55
  | 56, _ => exact xm_56
  | 57, _ => exact xm_57
  | 58, _ => exact xm_58
  | 59, _ => exact xm_59
  | 60, _ => exact xm_60
  | 61, _ => exact xm_61
  | 62, _ => exact xm_62
  | 63, _ => exact xm_63
  | 64, _ => exact xm_64
  | 65, _ => exact xm_65
  | 66, _ => exact xm_66
  | 67, _ => exact xm_67
  | 68, _ => exact xm_68
  | 69, _ => exact xm_69
  | 70, _ => exact xm_70
  | 71, _ => exact xm_71
  | 72, _ => exact xm_72
  | 73, _ => exact xm_73
  | 74, _ => exact xm_74
  | 75, _ => exact xm_75
  | 76, _ => exact xm_76
  | 77, _ => exact xm_77
  | 78, _ => exact xm_78
  | 79, _ => exact xm_79
  | 80, _ => exact xm_80
  | 81, _ => exact xm_81
  | 82, _ => exact xm_82
  | 83, _ => exact xm_83
  | 84, _ => exact xm_84
  | 85, _ => exact xm_85
  | 86, _ => exact xm_86
  | 87, _ => exact xm_87
  | 88, _ => exact xm_88
  | 89, _ => exact xm_89
  | 90, _ => exact xm_90
  | 91, _ => exact xm_91
  | 92, _ => exact xm_92
  | 93, _ => exact xm_93
  | 94, _ => exact xm_94
  | 95, _ => exact xm_95
  | 96, _ => exact xm_96
  | 97, _ => exact xm_97
  | 98, _ => exact xm_98
  | 99, _ => exact xm_99
  | 100, _ => exact xm_100
  | 101, _ => exact xm_101
  | 102, _ => exact xm_102
  | 103, _ => exact xm_103
  | 104, _ => exact xm_104
  | 105, _ => exact xm_105
  | 106, _ => exact xm_106
  | 107, _ => exact xm_107
  | 108, _ => exact xm_108
  | 109, _ => exact xm_109
  | 110, _ => exact xm_110
  | 111, _ => exact xm_111
  | 112, _ => exact xm_112
  | 113, _ => exact xm_113
  | 114, _ => exact xm_114
  | 115, _ => exact xm_115
  | 116, _ => exact xm_116
  | 117, _ => exact xm_117
  | 118, _ => exact xm_118
  | 119, _ => exact xm_119
  | 120, _ => exact xm_120
  | 121, _ => exact xm_121
  | 122, _ => exact xm_122
  | 123, _ => exact xm_123
  | 124, _ => exact xm_124
  | 125, _ => exact xm_125
  | 126, _ => exact xm_126
  | 127, _ => exact xm_127
  | 128, _ => exact xm_128
  | 129, _ => exact xm_129
  | 130, _ => exact xm_130
  | 131, _ => exact xm_131
  | 132, _ => exact xm_132
  | 133, _ => exact xm_133
  | 134, _ => exact xm_134
  | 135, _ => exact xm_135
  | 136, _ => exact xm_136
  | 137, _ => exact xm_137
  | 138, _ => exact xm_138
  | 139, _ => exact xm_139
  | 140, _ => exact xm_140
  | 141, _ => exact xm_141
  | 142, _ => exact xm_142
  | 143, _ => exact xm_143
  | 144, _ => exact xm_144
  | 145, _ => exact xm_145
  | 146, _ => exact xm_146
  | 147, _ => exact xm_147
  | 148, _ => exact xm_148
  | 149, _ => exact xm_149
  | 150, _ => exact xm_150
  | 151, _ => exact xm_151
  | 152, _ => exact xm_152
  | 153, _ => exact xm_153
  | 154, _ => exact xm_154
  | 155, _ => exact xm_155
  | 156, _ => exact xm_156
  | 157, _ => exact xm_157
  | 158, _ => exact xm_158
  | 159, _ => exact xm_159
  | 160, _ => exact xm_160
  | 161, _ => exact xm_161
  | 162, _ => exact xm_162
  | 163, _ => exact xm_163
  | 164, _ => exact xm_164
  | 165, _ => exact xm_165
  | 166, _ => exact xm_166
  | 167, _ => exact xm_167
  | 168, _ => exact xm_168
  | 169, _ => exact xm_169
  | n + 170, h => exact absurd h (by omega)
theorem xkd_lt {j : Nat} (h : xkd j ≠ 9) : j < 170 := by
  rcases Nat.lt_or_ge j 170 with q | q
  · exact q
  · exact absurd (by unfold xkd; rw [List.getD_eq_getElem?_getD, List.getElem?_eq_none (by show xkds.length ≤ j; exact q)]; rfl) h
end
section
def sm_atm (a : Cond) : Prop := a ∈ Tg ∨ a ∈ NW ∨ a = Cond.laysStatic "java/lang/Throwable" "UNASSIGNED_STACK" "[Ljava/lang/StackTraceElement;" ∨ a = Cond.laysStatic "java/lang/Throwable" "SUPPRESSED_SENTINEL" "Ljava/util/List;" ∨ a = Cond.isRef (.static "java/lang/Throwable" "UNASSIGNED_STACK" "[Ljava/lang/StackTraceElement;") ∨ a = Cond.isRef (.static "java/lang/Throwable" "SUPPRESSED_SENTINEL" "Ljava/util/List;")
/-- an exception's class: what 'throw new' asks of the tables -/
def xaok (ci ic : Nat) : Prop := ∃ q : vw_C, xcl[ci]? = some q ∧ q.2.2 = 0 ∧ Bundle.fit q.1 = true ∧ Cond.instantiable q.1 6 ∈ Tg ∧ Cond.initialized q.1 ∈ Tg ∧ ∀ a ∈ Bundle.ownAtoms "BuildingText" ic q.1 ["java/lang/RuntimeException", "java/lang/Exception"], sm_atm a
/-- a place where something is thrown -/
def sm_site (e : Nat × Nat × Nat × Nat) : Prop := ∃ (x ci : Nat) (tx : String), decode (xcc e.1) e.2.1 = .ok (.new x, 3) ∧ xlk xlC 0 x = some (ci, 1) ∧ decode (xcc e.1) (e.2.1 + 3) = .ok (.dup, 1) ∧ decode (xcc e.1) (e.2.1 + 4) = .ok (.ldc e.2.2.1, 2) ∧ decode (xcc e.1) (e.2.1 + 6) = .ok (.invokespecial e.2.2.2, 3) ∧ decode (xcc e.1) (e.2.1 + 9) = .ok (.athrow, 1) ∧ (e.2.2.1, tx) ∈ xsk ∧ xow e.1 = 0 ∧ xex e.1 = [] ∧ e.1 < 169 ∧ 6 ≤ xrk e.1 ∧ 91 ≤ xrl e.1 ∧ xaok ci e.2.2.2
theorem xtA : ∀ a ∈ Bundle.throwableAtoms, sm_atm a := List.forall_mem_cons.mpr ⟨Or.inl tw_14, List.forall_mem_cons.mpr ⟨Or.inl tw_340, List.forall_mem_cons.mpr ⟨Or.inl tw_349, List.forall_mem_cons.mpr ⟨Or.inl tw_353, List.forall_mem_cons.mpr ⟨Or.inl tw_356, List.forall_mem_cons.mpr ⟨Or.inl tw_358, List.forall_mem_cons.mpr ⟨Or.inl tw_341, List.forall_mem_cons.mpr ⟨Or.inl tw_342, List.forall_mem_cons.mpr ⟨Or.inl tw_33, List.forall_mem_cons.mpr ⟨Or.inl tw_34, List.forall_mem_cons.mpr ⟨Or.inl tw_343, List.forall_mem_cons.mpr ⟨Or.inl tw_348, List.forall_mem_cons.mpr ⟨Or.inl tw_354, List.forall_mem_cons.mpr ⟨Or.inl tw_374, List.forall_mem_cons.mpr ⟨Or.inl tw_330, List.forall_mem_cons.mpr ⟨Or.inl tw_375, List.forall_mem_cons.mpr ⟨Or.inl tw_332, List.forall_mem_cons.mpr ⟨Or.inl tw_376, List.forall_mem_cons.mpr ⟨Or.inl tw_334, List.forall_mem_cons.mpr ⟨Or.inl tw_344, List.forall_mem_cons.mpr ⟨Or.inr (Or.inr (Or.inl rfl)), List.forall_mem_cons.mpr ⟨Or.inl tw_346, List.forall_mem_cons.mpr ⟨Or.inr (Or.inr (Or.inr (Or.inl rfl))), List.forall_mem_cons.mpr ⟨Or.inl tw_336, fun _ h => absurd h List.not_mem_nil⟩⟩⟩⟩⟩⟩⟩⟩⟩⟩⟩⟩⟩⟩⟩⟩⟩⟩⟩⟩⟩⟩⟩⟩
theorem xtS : ∀ a ∈ Bundle.throwableSAtoms, sm_atm a := List.forall_mem_cons.mpr ⟨Or.inl tw_370, List.forall_mem_cons.mpr ⟨Or.inl tw_371, List.forall_mem_cons.mpr ⟨Or.inl tw_373, List.forall_mem_cons.mpr ⟨Or.inl tw_336, fun _ h => absurd h List.not_mem_nil⟩⟩⟩⟩
theorem xtC_11 : ∀ a ∈ Bundle.chainSAtoms "java/lang/IllegalArgumentException" ["java/lang/RuntimeException", "java/lang/Exception"], sm_atm a := List.forall_mem_cons.mpr ⟨Or.inl tw_361, List.forall_mem_cons.mpr ⟨Or.inl tw_362, List.forall_mem_cons.mpr ⟨Or.inl tw_363, List.forall_mem_cons.mpr ⟨Or.inl tw_364, List.forall_mem_cons.mpr ⟨Or.inr (Or.inl nw_322), List.forall_mem_cons.mpr ⟨Or.inl tw_364, List.forall_mem_cons.mpr ⟨Or.inl tw_365, List.forall_mem_cons.mpr ⟨Or.inl tw_366, List.forall_mem_cons.mpr ⟨Or.inl tw_367, List.forall_mem_cons.mpr ⟨Or.inr (Or.inl nw_324), List.forall_mem_cons.mpr ⟨Or.inl tw_367, List.forall_mem_cons.mpr ⟨Or.inl tw_368, List.forall_mem_cons.mpr ⟨Or.inl tw_369, List.forall_mem_cons.mpr ⟨Or.inl tw_370, List.forall_mem_cons.mpr ⟨Or.inr (Or.inl nw_326), fun _ h => absurd h List.not_mem_nil⟩⟩⟩⟩⟩⟩⟩⟩⟩⟩⟩⟩⟩⟩⟩
theorem xtR_11 : ∀ a ∈ ([.methodLink "BuildingText" 60 ⟨"java/lang/IllegalArgumentException", "<init>", "(Ljava/lang/String;)V"⟩, .instantiable "java/lang/IllegalArgumentException" 6, .castable "java/lang/IllegalArgumentException" "java/lang/IllegalArgumentException", .selects "java/lang/IllegalArgumentException" ⟨"java/lang/Throwable", "fillInStackTrace", "(I)Ljava/lang/Throwable;"⟩ ⟨"java/lang/Throwable", "fillInStackTrace", "(I)Ljava/lang/Throwable;"⟩, .selects "java/lang/IllegalArgumentException" ⟨"java/lang/Throwable", "fillInStackTrace", "()Ljava/lang/Throwable;"⟩ ⟨"java/lang/Throwable", "fillInStackTrace", "()Ljava/lang/Throwable;"⟩, .lays "java/lang/IllegalArgumentException" "java/lang/Throwable" "cause" "Ljava/lang/Throwable;", .lays "java/lang/IllegalArgumentException" "java/lang/Throwable" "stackTrace" "[Ljava/lang/StackTraceElement;", .lays "java/lang/IllegalArgumentException" "java/lang/Throwable" "suppressedExceptions" "Ljava/util/List;", .lays "java/lang/IllegalArgumentException" "java/lang/Throwable" "detailMessage" "Ljava/lang/String;", .isRef (.static "java/lang/Throwable" "UNASSIGNED_STACK" "[Ljava/lang/StackTraceElement;"), .isRef (.static "java/lang/Throwable" "SUPPRESSED_SENTINEL" "Ljava/util/List;"), .fieldLink "java/lang/Throwable" 198 "java/lang/Throwable" "backtrace" "Ljava/lang/Object;", .lays "java/lang/Throwable" "java/lang/Throwable" "backtrace" "Ljava/lang/Object;", .lays "java/lang/IllegalArgumentException" "java/lang/Throwable" "backtrace" "Ljava/lang/Object;"] : List Cond), sm_atm a := List.forall_mem_cons.mpr ⟨Or.inl tw_360, List.forall_mem_cons.mpr ⟨Or.inl tw_319, List.forall_mem_cons.mpr ⟨Or.inr (Or.inl nw_320), List.forall_mem_cons.mpr ⟨Or.inl tw_327, List.forall_mem_cons.mpr ⟨Or.inl tw_328, List.forall_mem_cons.mpr ⟨Or.inl tw_329, List.forall_mem_cons.mpr ⟨Or.inl tw_331, List.forall_mem_cons.mpr ⟨Or.inl tw_333, List.forall_mem_cons.mpr ⟨Or.inl tw_335, List.forall_mem_cons.mpr ⟨Or.inr (Or.inr (Or.inr (Or.inr (Or.inl rfl)))), List.forall_mem_cons.mpr ⟨Or.inr (Or.inr (Or.inr (Or.inr (Or.inr rfl)))), List.forall_mem_cons.mpr ⟨Or.inl tw_339, List.forall_mem_cons.mpr ⟨Or.inl tw_338, List.forall_mem_cons.mpr ⟨Or.inl tw_337, fun _ h => absurd h List.not_mem_nil⟩⟩⟩⟩⟩⟩⟩⟩⟩⟩⟩⟩⟩⟩
theorem xa_11 : xaok 11 60 := ⟨_, rfl, rfl, by decide +kernel, tw_319, tw_17, List.forall_mem_append.mpr ⟨List.forall_mem_append.mpr ⟨List.forall_mem_append.mpr ⟨xtA, xtS⟩, xtC_11⟩, xtR_11⟩⟩
theorem xtC_12 : ∀ a ∈ Bundle.chainSAtoms "java/lang/UnsupportedOperationException" ["java/lang/RuntimeException", "java/lang/Exception"], sm_atm a := List.forall_mem_cons.mpr ⟨Or.inl tw_397, List.forall_mem_cons.mpr ⟨Or.inl tw_398, List.forall_mem_cons.mpr ⟨Or.inl tw_399, List.forall_mem_cons.mpr ⟨Or.inl tw_364, List.forall_mem_cons.mpr ⟨Or.inr (Or.inl nw_322), List.forall_mem_cons.mpr ⟨Or.inl tw_364, List.forall_mem_cons.mpr ⟨Or.inl tw_365, List.forall_mem_cons.mpr ⟨Or.inl tw_366, List.forall_mem_cons.mpr ⟨Or.inl tw_367, List.forall_mem_cons.mpr ⟨Or.inr (Or.inl nw_324), List.forall_mem_cons.mpr ⟨Or.inl tw_367, List.forall_mem_cons.mpr ⟨Or.inl tw_368, List.forall_mem_cons.mpr ⟨Or.inl tw_369, List.forall_mem_cons.mpr ⟨Or.inl tw_370, List.forall_mem_cons.mpr ⟨Or.inr (Or.inl nw_326), fun _ h => absurd h List.not_mem_nil⟩⟩⟩⟩⟩⟩⟩⟩⟩⟩⟩⟩⟩⟩⟩
theorem xtR_12 : ∀ a ∈ ([.methodLink "BuildingText" 71 ⟨"java/lang/UnsupportedOperationException", "<init>", "(Ljava/lang/String;)V"⟩, .instantiable "java/lang/UnsupportedOperationException" 6, .castable "java/lang/UnsupportedOperationException" "java/lang/UnsupportedOperationException", .selects "java/lang/UnsupportedOperationException" ⟨"java/lang/Throwable", "fillInStackTrace", "(I)Ljava/lang/Throwable;"⟩ ⟨"java/lang/Throwable", "fillInStackTrace", "(I)Ljava/lang/Throwable;"⟩, .selects "java/lang/UnsupportedOperationException" ⟨"java/lang/Throwable", "fillInStackTrace", "()Ljava/lang/Throwable;"⟩ ⟨"java/lang/Throwable", "fillInStackTrace", "()Ljava/lang/Throwable;"⟩, .lays "java/lang/UnsupportedOperationException" "java/lang/Throwable" "cause" "Ljava/lang/Throwable;", .lays "java/lang/UnsupportedOperationException" "java/lang/Throwable" "stackTrace" "[Ljava/lang/StackTraceElement;", .lays "java/lang/UnsupportedOperationException" "java/lang/Throwable" "suppressedExceptions" "Ljava/util/List;", .lays "java/lang/UnsupportedOperationException" "java/lang/Throwable" "detailMessage" "Ljava/lang/String;", .isRef (.static "java/lang/Throwable" "UNASSIGNED_STACK" "[Ljava/lang/StackTraceElement;"), .isRef (.static "java/lang/Throwable" "SUPPRESSED_SENTINEL" "Ljava/util/List;"), .fieldLink "java/lang/Throwable" 198 "java/lang/Throwable" "backtrace" "Ljava/lang/Object;", .lays "java/lang/Throwable" "java/lang/Throwable" "backtrace" "Ljava/lang/Object;", .lays "java/lang/UnsupportedOperationException" "java/lang/Throwable" "backtrace" "Ljava/lang/Object;"] : List Cond), sm_atm a := List.forall_mem_cons.mpr ⟨Or.inl tw_396, List.forall_mem_cons.mpr ⟨Or.inl tw_387, List.forall_mem_cons.mpr ⟨Or.inr (Or.inl nw_388), List.forall_mem_cons.mpr ⟨Or.inl tw_389, List.forall_mem_cons.mpr ⟨Or.inl tw_352, List.forall_mem_cons.mpr ⟨Or.inl tw_390, List.forall_mem_cons.mpr ⟨Or.inl tw_391, List.forall_mem_cons.mpr ⟨Or.inl tw_392, List.forall_mem_cons.mpr ⟨Or.inl tw_393, List.forall_mem_cons.mpr ⟨Or.inr (Or.inr (Or.inr (Or.inr (Or.inl rfl)))), List.forall_mem_cons.mpr ⟨Or.inr (Or.inr (Or.inr (Or.inr (Or.inr rfl)))), List.forall_mem_cons.mpr ⟨Or.inl tw_339, List.forall_mem_cons.mpr ⟨Or.inl tw_338, List.forall_mem_cons.mpr ⟨Or.inl tw_394, fun _ h => absurd h List.not_mem_nil⟩⟩⟩⟩⟩⟩⟩⟩⟩⟩⟩⟩⟩⟩
theorem xa_12 : xaok 12 71 := ⟨_, rfl, rfl, by decide +kernel, tw_387, tw_18, List.forall_mem_append.mpr ⟨List.forall_mem_append.mpr ⟨List.forall_mem_append.mpr ⟨xtA, xtS⟩, xtC_12⟩, xtR_12⟩⟩
theorem xtC_13 : ∀ a ∈ Bundle.chainSAtoms "java/lang/IndexOutOfBoundsException" ["java/lang/RuntimeException", "java/lang/Exception"], sm_atm a := List.forall_mem_cons.mpr ⟨Or.inl tw_764, List.forall_mem_cons.mpr ⟨Or.inl tw_765, List.forall_mem_cons.mpr ⟨Or.inl tw_766, List.forall_mem_cons.mpr ⟨Or.inl tw_364, List.forall_mem_cons.mpr ⟨Or.inr (Or.inl nw_322), List.forall_mem_cons.mpr ⟨Or.inl tw_364, List.forall_mem_cons.mpr ⟨Or.inl tw_365, List.forall_mem_cons.mpr ⟨Or.inl tw_366, List.forall_mem_cons.mpr ⟨Or.inl tw_367, List.forall_mem_cons.mpr ⟨Or.inr (Or.inl nw_324), List.forall_mem_cons.mpr ⟨Or.inl tw_367, List.forall_mem_cons.mpr ⟨Or.inl tw_368, List.forall_mem_cons.mpr ⟨Or.inl tw_369, List.forall_mem_cons.mpr ⟨Or.inl tw_370, List.forall_mem_cons.mpr ⟨Or.inr (Or.inl nw_326), fun _ h => absurd h List.not_mem_nil⟩⟩⟩⟩⟩⟩⟩⟩⟩⟩⟩⟩⟩⟩⟩
theorem xtR_13 : ∀ a ∈ ([.methodLink "BuildingText" 149 ⟨"java/lang/IndexOutOfBoundsException", "<init>", "(Ljava/lang/String;)V"⟩, .instantiable "java/lang/IndexOutOfBoundsException" 6, .castable "java/lang/IndexOutOfBoundsException" "java/lang/IndexOutOfBoundsException", .selects "java/lang/IndexOutOfBoundsException" ⟨"java/lang/Throwable", "fillInStackTrace", "(I)Ljava/lang/Throwable;"⟩ ⟨"java/lang/Throwable", "fillInStackTrace", "(I)Ljava/lang/Throwable;"⟩, .selects "java/lang/IndexOutOfBoundsException" ⟨"java/lang/Throwable", "fillInStackTrace", "()Ljava/lang/Throwable;"⟩ ⟨"java/lang/Throwable", "fillInStackTrace", "()Ljava/lang/Throwable;"⟩, .lays "java/lang/IndexOutOfBoundsException" "java/lang/Throwable" "cause" "Ljava/lang/Throwable;", .lays "java/lang/IndexOutOfBoundsException" "java/lang/Throwable" "stackTrace" "[Ljava/lang/StackTraceElement;", .lays "java/lang/IndexOutOfBoundsException" "java/lang/Throwable" "suppressedExceptions" "Ljava/util/List;", .lays "java/lang/IndexOutOfBoundsException" "java/lang/Throwable" "detailMessage" "Ljava/lang/String;", .isRef (.static "java/lang/Throwable" "UNASSIGNED_STACK" "[Ljava/lang/StackTraceElement;"), .isRef (.static "java/lang/Throwable" "SUPPRESSED_SENTINEL" "Ljava/util/List;"), .fieldLink "java/lang/Throwable" 198 "java/lang/Throwable" "backtrace" "Ljava/lang/Object;", .lays "java/lang/Throwable" "java/lang/Throwable" "backtrace" "Ljava/lang/Object;", .lays "java/lang/IndexOutOfBoundsException" "java/lang/Throwable" "backtrace" "Ljava/lang/Object;"] : List Cond), sm_atm a := List.forall_mem_cons.mpr ⟨Or.inl tw_763, List.forall_mem_cons.mpr ⟨Or.inl tw_754, List.forall_mem_cons.mpr ⟨Or.inr (Or.inl nw_755), List.forall_mem_cons.mpr ⟨Or.inl tw_756, List.forall_mem_cons.mpr ⟨Or.inl tw_351, List.forall_mem_cons.mpr ⟨Or.inl tw_757, List.forall_mem_cons.mpr ⟨Or.inl tw_758, List.forall_mem_cons.mpr ⟨Or.inl tw_759, List.forall_mem_cons.mpr ⟨Or.inl tw_760, List.forall_mem_cons.mpr ⟨Or.inr (Or.inr (Or.inr (Or.inr (Or.inl rfl)))), List.forall_mem_cons.mpr ⟨Or.inr (Or.inr (Or.inr (Or.inr (Or.inr rfl)))), List.forall_mem_cons.mpr ⟨Or.inl tw_339, List.forall_mem_cons.mpr ⟨Or.inl tw_338, List.forall_mem_cons.mpr ⟨Or.inl tw_761, fun _ h => absurd h List.not_mem_nil⟩⟩⟩⟩⟩⟩⟩⟩⟩⟩⟩⟩⟩⟩
theorem xa_13 : xaok 13 149 := ⟨_, rfl, rfl, by decide +kernel, tw_754, tw_25, List.forall_mem_append.mpr ⟨List.forall_mem_append.mpr ⟨List.forall_mem_append.mpr ⟨xtA, xtS⟩, xtC_13⟩, xtR_13⟩⟩
theorem xts_ok : ∀ e ∈ xts, sm_site e := List.forall_mem_cons.mpr ⟨⟨56, 11, "no sign of a text", by decide +kernel, by decide +kernel, by decide +kernel, by decide +kernel, by decide +kernel, by decide +kernel, by decide +kernel, rfl, rfl, by decide, by decide, by decide, xa_11⟩, List.forall_mem_cons.mpr ⟨⟨67, 12, "too many signs", by decide +kernel, by decide +kernel, by decide +kernel, by decide +kernel, by decide +kernel, by decide +kernel, by decide +kernel, rfl, rfl, by decide, by decide, by decide, xa_12⟩, List.forall_mem_cons.mpr ⟨⟨67, 12, "too large, or too many editions", by decide +kernel, by decide +kernel, by decide +kernel, by decide +kernel, by decide +kernel, by decide +kernel, by decide +kernel, rfl, rfl, by decide, by decide, by decide, xa_12⟩, List.forall_mem_cons.mpr ⟨⟨56, 11, "no such place", by decide +kernel, by decide +kernel, by decide +kernel, by decide +kernel, by decide +kernel, by decide +kernel, by decide +kernel, rfl, rfl, by decide, by decide, by decide, xa_11⟩, List.forall_mem_cons.mpr ⟨⟨56, 11, "no such what", by decide +kernel, by decide +kernel, by decide +kernel, by decide +kernel, by decide +kernel, by decide +kernel, by decide +kernel, rfl, rfl, by decide, by decide, by decide, xa_11⟩, List.forall_mem_cons.mpr ⟨⟨145, 13, "no such fault", by decide +kernel, by decide +kernel, by decide +kernel, by decide +kernel, by decide +kernel, by decide +kernel, by decide +kernel, rfl, rfl, by decide, by decide, by decide, xa_13⟩, List.forall_mem_cons.mpr ⟨⟨56, 11, "no such what", by decide +kernel, by decide +kernel, by decide +kernel, by decide +kernel, by decide +kernel, by decide +kernel, by decide +kernel, rfl, rfl, by decide, by decide, by decide, xa_11⟩, List.forall_mem_cons.mpr ⟨⟨145, 13, "no such piece", by decide +kernel, by decide +kernel, by decide +kernel, by decide +kernel, by decide +kernel, by decide +kernel, by decide +kernel, rfl, rfl, by decide, by decide, by decide, xa_13⟩, List.forall_mem_cons.mpr ⟨⟨56, 11, "no such what", by decide +kernel, by decide +kernel, by decide +kernel, by decide +kernel, by decide +kernel, by decide +kernel, by decide +kernel, rfl, rfl, by decide, by decide, by decide, xa_11⟩, List.forall_mem_cons.mpr ⟨⟨56, 11, "no such bin", by decide +kernel, by decide +kernel, by decide +kernel, by decide +kernel, by decide +kernel, by decide +kernel, by decide +kernel, rfl, rfl, by decide, by decide, by decide, xa_11⟩, List.forall_mem_cons.mpr ⟨⟨56, 11, "no such rack", by decide +kernel, by decide +kernel, by decide +kernel, by decide +kernel, by decide +kernel, by decide +kernel, by decide +kernel, rfl, rfl, by decide, by decide, by decide, xa_11⟩, List.forall_mem_cons.mpr ⟨⟨56, 11, "no such edition", by decide +kernel, by decide +kernel, by decide +kernel, by decide +kernel, by decide +kernel, by decide +kernel, by decide +kernel, rfl, rfl, by decide, by decide, by decide, xa_11⟩, List.forall_mem_cons.mpr ⟨⟨56, 11, "no such bin", by decide +kernel, by decide +kernel, by decide +kernel, by decide +kernel, by decide +kernel, by decide +kernel, by decide +kernel, rfl, rfl, by decide, by decide, by decide, xa_11⟩, List.forall_mem_cons.mpr ⟨⟨56, 11, "units out of range", by decide +kernel, by decide +kernel, by decide +kernel, by decide +kernel, by decide +kernel, by decide +kernel, by decide +kernel, rfl, rfl, by decide, by decide, by decide, xa_11⟩, List.forall_mem_cons.mpr ⟨⟨56, 11, "no such edition", by decide +kernel, by decide +kernel, by decide +kernel, by decide +kernel, by decide +kernel, by decide +kernel, by decide +kernel, rfl, rfl, by decide, by decide, by decide, xa_11⟩, List.forall_mem_cons.mpr ⟨⟨145, 13, "no such bin was found", by decide +kernel, by decide +kernel, by decide +kernel, by decide +kernel, by decide +kernel, by decide +kernel, by decide +kernel, rfl, rfl, by decide, by decide, by decide, xa_13⟩, List.forall_mem_cons.mpr ⟨⟨145, 13, "no such sign was laid out", by decide +kernel, by decide +kernel, by decide +kernel, by decide +kernel, by decide +kernel, by decide +kernel, by decide +kernel, rfl, rfl, by decide, by decide, by decide, xa_13⟩, fun _ h => absurd h List.not_mem_nil⟩⟩⟩⟩⟩⟩⟩⟩⟩⟩⟩⟩⟩⟩⟩⟩⟩
def sm_hlp (j : Nat) : Prop := Cond.codeWith (xmn j) (xcc j) (xml j) (xrt j) (xex j) ∈ Tg ∧ plainName (xmn j).cls = true ∧ (xmn j).cls ≠ "java/lang/invoke/MethodHandle" ∧ (xmn j).cls ≠ "java/lang/invoke/VarHandle" ∧ (parseMethodDescriptor (xmn j).desc).map (fun d => d.parameters.length) = some (xna j) ∧ Cond.initialized (xmn j).cls ∈ Tg ∧ Cond.static (xmn j) ∈ Tg
theorem xh_159 : sm_hlp 159 := ⟨tw_311, by decide +kernel, by decide, by decide, by decide +kernel, tw_0, tw_310⟩
theorem xh_160 : sm_hlp 160 := ⟨tw_404, by decide +kernel, by decide, by decide, by decide +kernel, tw_0, tw_403⟩
theorem xh_161 : sm_hlp 161 := ⟨tw_734, by decide +kernel, by decide, by decide, by decide +kernel, tw_0, tw_733⟩
theorem xh_162 : sm_hlp 162 := ⟨tw_747, by decide +kernel, by decide, by decide, by decide +kernel, tw_0, tw_746⟩
theorem xh_163 : sm_hlp 163 := ⟨tw_773, by decide +kernel, by decide, by decide, by decide +kernel, tw_0, tw_772⟩
theorem xh_164 : sm_hlp 164 := ⟨tw_801, by decide +kernel, by decide, by decide, by decide +kernel, tw_0, tw_800⟩
theorem xh_165 : sm_hlp 165 := ⟨tw_811, by decide +kernel, by decide, by decide, by decide +kernel, tw_0, tw_810⟩
theorem xh_166 : sm_hlp 166 := ⟨tw_824, by decide +kernel, by decide, by decide, by decide +kernel, tw_0, tw_823⟩
theorem xh_167 : sm_hlp 167 := ⟨tw_842, by decide +kernel, by decide, by decide, by decide +kernel, tw_0, tw_841⟩
theorem xh_168 : sm_hlp 168 := ⟨tw_850, by decide +kernel, by decide, by decide, by decide +kernel, tw_0, tw_849⟩
theorem xh_ok (j : Nat) (h : xkd j = 4) : sm_hlp j := by
  have hl : j < 170 := by
    rcases Nat.lt_or_ge j 170 with q | q
    · exact q
    · exact absurd h (by unfold xkd; rw [List.getD_eq_getElem?_getD, List.getElem?_eq_none (by show xkds.length ≤ j; exact q)]; decide)
  match j, hl, h with
  | 0, _, h => exact absurd h (by decide)
  | 1, _, h => exact absurd h (by decide)
  | 2, _, h => exact absurd h (by decide)
  | 3, _, h => exact absurd h (by decide)
  | 4, _, h => exact absurd h (by decide)
  | 5, _, h => exact absurd h (by decide)
  | 6, _, h => exact absurd h (by decide)
  | 7, _, h => exact absurd h (by decide)
  | 8, _, h => exact absurd h (by decide)
  | 9, _, h => exact absurd h (by decide)
  | 10, _, h => exact absurd h (by decide)
  | 11, _, h => exact absurd h (by decide)
  | 12, _, h => exact absurd h (by decide)
  | 13, _, h => exact absurd h (by decide)
  | 14, _, h => exact absurd h (by decide)
  | 15, _, h => exact absurd h (by decide)
  | 16, _, h => exact absurd h (by decide)
  | 17, _, h => exact absurd h (by decide)
  | 18, _, h => exact absurd h (by decide)
  | 19, _, h => exact absurd h (by decide)
  | 20, _, h => exact absurd h (by decide)
  | 21, _, h => exact absurd h (by decide)
  | 22, _, h => exact absurd h (by decide)
  | 23, _, h => exact absurd h (by decide)
  | 24, _, h => exact absurd h (by decide)
  | 25, _, h => exact absurd h (by decide)
  | 26, _, h => exact absurd h (by decide)
  | 27, _, h => exact absurd h (by decide)
  | 28, _, h => exact absurd h (by decide)
  | 29, _, h => exact absurd h (by decide)
  | 30, _, h => exact absurd h (by decide)
  | 31, _, h => exact absurd h (by decide)
  | 32, _, h => exact absurd h (by decide)
  | 33, _, h => exact absurd h (by decide)
  | 34, _, h => exact absurd h (by decide)
  | 35, _, h => exact absurd h (by decide)
  | 36, _, h => exact absurd h (by decide)
  | 37, _, h => exact absurd h (by decide)
  | 38, _, h => exact absurd h (by decide)
  | 39, _, h => exact absurd h (by decide)
  | 40, _, h => exact absurd h (by decide)
  | 41, _, h => exact absurd h (by decide)
  | 42, _, h => exact absurd h (by decide)
  | 43, _, h => exact absurd h (by decide)
  | 44, _, h => exact absurd h (by decide)
  | 45, _, h => exact absurd h (by decide)
  | 46, _, h => exact absurd h (by decide)
  | 47, _, h => exact absurd h (by decide)
  | 48, _, h => exact absurd h (by decide)
  | 49, _, h => exact absurd h (by decide)
  | 50, _, h => exact absurd h (by decide)
  | 51, _, h => exact absurd h (by decide)
  | 52, _, h => exact absurd h (by decide)
  | 53, _, h => exact absurd h (by decide)
  | 54, _, h => exact absurd h (by decide)
  | 55, _, h => exact absurd h (by decide)
  | 56, _, h => exact absurd h (by decide)
  | 57, _, h => exact absurd h (by decide)
  | 58, _, h => exact absurd h (by decide)
  | 59, _, h => exact absurd h (by decide)
  | 60, _, h => exact absurd h (by decide)
  | 61, _, h => exact absurd h (by decide)
  | 62, _, h => exact absurd h (by decide)
  | 63, _, h => exact absurd h (by decide)
  | 64, _, h => exact absurd h (by decide)
  | 65, _, h => exact absurd h (by decide)
  | 66, _, h => exact absurd h (by decide)
  | 67, _, h => exact absurd h (by decide)
  | 68, _, h => exact absurd h (by decide)
  | 69, _, h => exact absurd h (by decide)
  | 70, _, h => exact absurd h (by decide)
  | 71, _, h => exact absurd h (by decide)
  | 72, _, h => exact absurd h (by decide)
  | 73, _, h => exact absurd h (by decide)
  | 74, _, h => exact absurd h (by decide)
  | 75, _, h => exact absurd h (by decide)
  | 76, _, h => exact absurd h (by decide)
  | 77, _, h => exact absurd h (by decide)
  | 78, _, h => exact absurd h (by decide)
  | 79, _, h => exact absurd h (by decide)
  | 80, _, h => exact absurd h (by decide)
  | 81, _, h => exact absurd h (by decide)
  | 82, _, h => exact absurd h (by decide)
  | 83, _, h => exact absurd h (by decide)
  | 84, _, h => exact absurd h (by decide)
  | 85, _, h => exact absurd h (by decide)
  | 86, _, h => exact absurd h (by decide)
  | 87, _, h => exact absurd h (by decide)
  | 88, _, h => exact absurd h (by decide)
  | 89, _, h => exact absurd h (by decide)
  | 90, _, h => exact absurd h (by decide)
  | 91, _, h => exact absurd h (by decide)
  | 92, _, h => exact absurd h (by decide)
  | 93, _, h => exact absurd h (by decide)
  | 94, _, h => exact absurd h (by decide)
  | 95, _, h => exact absurd h (by decide)
  | 96, _, h => exact absurd h (by decide)
  | 97, _, h => exact absurd h (by decide)
  | 98, _, h => exact absurd h (by decide)
  | 99, _, h => exact absurd h (by decide)
  | 100, _, h => exact absurd h (by decide)
  | 101, _, h => exact absurd h (by decide)
  | 102, _, h => exact absurd h (by decide)
  | 103, _, h => exact absurd h (by decide)
  | 104, _, h => exact absurd h (by decide)
  | 105, _, h => exact absurd h (by decide)
  | 106, _, h => exact absurd h (by decide)
  | 107, _, h => exact absurd h (by decide)
  | 108, _, h => exact absurd h (by decide)
  | 109, _, h => exact absurd h (by decide)
  | 110, _, h => exact absurd h (by decide)
  | 111, _, h => exact absurd h (by decide)
  | 112, _, h => exact absurd h (by decide)
  | 113, _, h => exact absurd h (by decide)
  | 114, _, h => exact absurd h (by decide)
  | 115, _, h => exact absurd h (by decide)
  | 116, _, h => exact absurd h (by decide)
  | 117, _, h => exact absurd h (by decide)
  | 118, _, h => exact absurd h (by decide)
  | 119, _, h => exact absurd h (by decide)
  | 120, _, h => exact absurd h (by decide)
  | 121, _, h => exact absurd h (by decide)
  | 122, _, h => exact absurd h (by decide)
  | 123, _, h => exact absurd h (by decide)
  | 124, _, h => exact absurd h (by decide)
  | 125, _, h => exact absurd h (by decide)
  | 126, _, h => exact absurd h (by decide)
  | 127, _, h => exact absurd h (by decide)
  | 128, _, h => exact absurd h (by decide)
  | 129, _, h => exact absurd h (by decide)
  | 130, _, h => exact absurd h (by decide)
  | 131, _, h => exact absurd h (by decide)
  | 132, _, h => exact absurd h (by decide)
  | 133, _, h => exact absurd h (by decide)
  | 134, _, h => exact absurd h (by decide)
  | 135, _, h => exact absurd h (by decide)
  | 136, _, h => exact absurd h (by decide)
  | 137, _, h => exact absurd h (by decide)
  | 138, _, h => exact absurd h (by decide)
  | 139, _, h => exact absurd h (by decide)
  | 140, _, h => exact absurd h (by decide)
  | 141, _, h => exact absurd h (by decide)
  | 142, _, h => exact absurd h (by decide)
  | 143, _, h => exact absurd h (by decide)
  | 144, _, h => exact absurd h (by decide)
  | 145, _, h => exact absurd h (by decide)
  | 146, _, h => exact absurd h (by decide)
  | 147, _, h => exact absurd h (by decide)
  | 148, _, h => exact absurd h (by decide)
  | 149, _, h => exact absurd h (by decide)
  | 150, _, h => exact absurd h (by decide)
  | 151, _, h => exact absurd h (by decide)
  | 152, _, h => exact absurd h (by decide)
  | 153, _, h => exact absurd h (by decide)
  | 154, _, h => exact absurd h (by decide)
  | 155, _, h => exact absurd h (by decide)
  | 156, _, h => exact absurd h (by decide)
  | 157, _, h => exact absurd h (by decide)
  | 158, _, h => exact absurd h (by decide)
  | 159, _, _ => exact xh_159
  | 160, _, _ => exact xh_160
  | 161, _, _ => exact xh_161
  | 162, _, _ => exact xh_162
  | 163, _, _ => exact xh_163
  | 164, _, _ => exact xh_164
  | 165, _, _ => exact xh_165
  | 166, _, _ => exact xh_166
  | 167, _, _ => exact xh_167
  | 168, _, _ => exact xh_168
  | 169, _, h => exact absurd h (by decide)
  | n + 170, hl, _ => exact absurd hl (by omega)
/-- an entry of a catching method's table: its class -/
def sm_ent (e : Nat × Nat × Nat × Nat) (f : Nat × Nat × Nat × Nat) : Prop := e.1 = f.1 ∧ e.2.1 = f.2.1 ∧ e.2.2.1 = f.2.2.1 ∧ e.2.2.2 ≠ 0 ∧ ∃ q : vw_C, xcl[f.2.2.2]? = some q ∧ Cond.classLink "BuildingTextLaw" e.2.2.2 q.1 ∈ Tg
/-- a class's name -/
def xcn (ci : Nat) : String := match xcl[ci]? with
  | some q => q.1
  | none => ""
def sm_ents : List (Nat × Nat × Nat × Nat) → List (Nat × Nat × Nat × Nat) → Prop
  | [], [] => True
  | e :: es, f :: fs => sm_ent e f ∧ (∀ g ∈ fs, (xcn g.2.2.2, xcn f.2.2.2) ∈ xnc) ∧ sm_ents es fs
  | _, _ => False
/-- the exception tables: entry by entry -/
theorem xe_ok (j : Nat) (h : xkd j = 4) : sm_ents (xex j) (xhds.getD j []) ∧ xow j = 14 := by
  have hl : j < 170 := by
    rcases Nat.lt_or_ge j 170 with q | q
    · exact q
    · exact absurd h (by unfold xkd; rw [List.getD_eq_getElem?_getD, List.getElem?_eq_none (by show xkds.length ≤ j; exact q)]; decide)
  match j, hl, h with
  | 0, _, h => exact absurd h (by decide)
  | 1, _, h => exact absurd h (by decide)
  | 2, _, h => exact absurd h (by decide)
  | 3, _, h => exact absurd h (by decide)
  | 4, _, h => exact absurd h (by decide)
  | 5, _, h => exact absurd h (by decide)
  | 6, _, h => exact absurd h (by decide)
  | 7, _, h => exact absurd h (by decide)
  | 8, _, h => exact absurd h (by decide)
  | 9, _, h => exact absurd h (by decide)
  | 10, _, h => exact absurd h (by decide)
  | 11, _, h => exact absurd h (by decide)
  | 12, _, h => exact absurd h (by decide)
  | 13, _, h => exact absurd h (by decide)
  | 14, _, h => exact absurd h (by decide)
  | 15, _, h => exact absurd h (by decide)
  | 16, _, h => exact absurd h (by decide)
  | 17, _, h => exact absurd h (by decide)
  | 18, _, h => exact absurd h (by decide)
  | 19, _, h => exact absurd h (by decide)
  | 20, _, h => exact absurd h (by decide)
  | 21, _, h => exact absurd h (by decide)
  | 22, _, h => exact absurd h (by decide)
  | 23, _, h => exact absurd h (by decide)
  | 24, _, h => exact absurd h (by decide)
  | 25, _, h => exact absurd h (by decide)
  | 26, _, h => exact absurd h (by decide)
  | 27, _, h => exact absurd h (by decide)
  | 28, _, h => exact absurd h (by decide)
  | 29, _, h => exact absurd h (by decide)
  | 30, _, h => exact absurd h (by decide)
  | 31, _, h => exact absurd h (by decide)
  | 32, _, h => exact absurd h (by decide)
  | 33, _, h => exact absurd h (by decide)
  | 34, _, h => exact absurd h (by decide)
  | 35, _, h => exact absurd h (by decide)
  | 36, _, h => exact absurd h (by decide)
  | 37, _, h => exact absurd h (by decide)
  | 38, _, h => exact absurd h (by decide)
  | 39, _, h => exact absurd h (by decide)
  | 40, _, h => exact absurd h (by decide)
  | 41, _, h => exact absurd h (by decide)
  | 42, _, h => exact absurd h (by decide)
  | 43, _, h => exact absurd h (by decide)
  | 44, _, h => exact absurd h (by decide)
  | 45, _, h => exact absurd h (by decide)
  | 46, _, h => exact absurd h (by decide)
  | 47, _, h => exact absurd h (by decide)
  | 48, _, h => exact absurd h (by decide)
  | 49, _, h => exact absurd h (by decide)
  | 50, _, h => exact absurd h (by decide)
  | 51, _, h => exact absurd h (by decide)
  | 52, _, h => exact absurd h (by decide)
  | 53, _, h => exact absurd h (by decide)
  | 54, _, h => exact absurd h (by decide)
  | 55, _, h => exact absurd h (by decide)
  | 56, _, h => exact absurd h (by decide)
  | 57, _, h => exact absurd h (by decide)
  | 58, _, h => exact absurd h (by decide)
  | 59, _, h => exact absurd h (by decide)
  | 60, _, h => exact absurd h (by decide)
  | 61, _, h => exact absurd h (by decide)
  | 62, _, h => exact absurd h (by decide)
  | 63, _, h => exact absurd h (by decide)
  | 64, _, h => exact absurd h (by decide)
  | 65, _, h => exact absurd h (by decide)
  | 66, _, h => exact absurd h (by decide)
  | 67, _, h => exact absurd h (by decide)
  | 68, _, h => exact absurd h (by decide)
  | 69, _, h => exact absurd h (by decide)
  | 70, _, h => exact absurd h (by decide)
  | 71, _, h => exact absurd h (by decide)
  | 72, _, h => exact absurd h (by decide)
  | 73, _, h => exact absurd h (by decide)
  | 74, _, h => exact absurd h (by decide)
  | 75, _, h => exact absurd h (by decide)
  | 76, _, h => exact absurd h (by decide)
  | 77, _, h => exact absurd h (by decide)
  | 78, _, h => exact absurd h (by decide)
  | 79, _, h => exact absurd h (by decide)
  | 80, _, h => exact absurd h (by decide)
  | 81, _, h => exact absurd h (by decide)
  | 82, _, h => exact absurd h (by decide)
  | 83, _, h => exact absurd h (by decide)
  | 84, _, h => exact absurd h (by decide)
  | 85, _, h => exact absurd h (by decide)
  | 86, _, h => exact absurd h (by decide)
  | 87, _, h => exact absurd h (by decide)
  | 88, _, h => exact absurd h (by decide)
  | 89, _, h => exact absurd h (by decide)
  | 90, _, h => exact absurd h (by decide)
  | 91, _, h => exact absurd h (by decide)
  | 92, _, h => exact absurd h (by decide)
  | 93, _, h => exact absurd h (by decide)
  | 94, _, h => exact absurd h (by decide)
  | 95, _, h => exact absurd h (by decide)
  | 96, _, h => exact absurd h (by decide)
  | 97, _, h => exact absurd h (by decide)
  | 98, _, h => exact absurd h (by decide)
  | 99, _, h => exact absurd h (by decide)
  | 100, _, h => exact absurd h (by decide)
  | 101, _, h => exact absurd h (by decide)
  | 102, _, h => exact absurd h (by decide)
  | 103, _, h => exact absurd h (by decide)
  | 104, _, h => exact absurd h (by decide)
  | 105, _, h => exact absurd h (by decide)
  | 106, _, h => exact absurd h (by decide)
  | 107, _, h => exact absurd h (by decide)
  | 108, _, h => exact absurd h (by decide)
  | 109, _, h => exact absurd h (by decide)
  | 110, _, h => exact absurd h (by decide)
  | 111, _, h => exact absurd h (by decide)
  | 112, _, h => exact absurd h (by decide)
  | 113, _, h => exact absurd h (by decide)
  | 114, _, h => exact absurd h (by decide)
  | 115, _, h => exact absurd h (by decide)
  | 116, _, h => exact absurd h (by decide)
  | 117, _, h => exact absurd h (by decide)
  | 118, _, h => exact absurd h (by decide)
  | 119, _, h => exact absurd h (by decide)
  | 120, _, h => exact absurd h (by decide)
  | 121, _, h => exact absurd h (by decide)
  | 122, _, h => exact absurd h (by decide)
  | 123, _, h => exact absurd h (by decide)
  | 124, _, h => exact absurd h (by decide)
  | 125, _, h => exact absurd h (by decide)
  | 126, _, h => exact absurd h (by decide)
  | 127, _, h => exact absurd h (by decide)
  | 128, _, h => exact absurd h (by decide)
  | 129, _, h => exact absurd h (by decide)
  | 130, _, h => exact absurd h (by decide)
  | 131, _, h => exact absurd h (by decide)
  | 132, _, h => exact absurd h (by decide)
  | 133, _, h => exact absurd h (by decide)
  | 134, _, h => exact absurd h (by decide)
  | 135, _, h => exact absurd h (by decide)
  | 136, _, h => exact absurd h (by decide)
  | 137, _, h => exact absurd h (by decide)
  | 138, _, h => exact absurd h (by decide)
  | 139, _, h => exact absurd h (by decide)
  | 140, _, h => exact absurd h (by decide)
  | 141, _, h => exact absurd h (by decide)
  | 142, _, h => exact absurd h (by decide)
  | 143, _, h => exact absurd h (by decide)
  | 144, _, h => exact absurd h (by decide)
  | 145, _, h => exact absurd h (by decide)
  | 146, _, h => exact absurd h (by decide)
  | 147, _, h => exact absurd h (by decide)
  | 148, _, h => exact absurd h (by decide)
  | 149, _, h => exact absurd h (by decide)
  | 150, _, h => exact absurd h (by decide)
  | 151, _, h => exact absurd h (by decide)
  | 152, _, h => exact absurd h (by decide)
  | 153, _, h => exact absurd h (by decide)
  | 154, _, h => exact absurd h (by decide)
  | 155, _, h => exact absurd h (by decide)
  | 156, _, h => exact absurd h (by decide)
  | 157, _, h => exact absurd h (by decide)
  | 158, _, h => exact absurd h (by decide)
  | 159, _, _ => exact ⟨⟨⟨rfl, rfl, rfl, by decide, _, rfl, tw_312⟩, by decide, ⟨⟨rfl, rfl, rfl, by decide, _, rfl, tw_313⟩, by decide, trivial⟩⟩, rfl⟩
  | 160, _, _ => exact ⟨⟨⟨rfl, rfl, rfl, by decide, _, rfl, tw_313⟩, by decide, trivial⟩, rfl⟩
  | 161, _, _ => exact ⟨⟨⟨rfl, rfl, rfl, by decide, _, rfl, tw_312⟩, by decide, trivial⟩, rfl⟩
  | 162, _, _ => exact ⟨⟨⟨rfl, rfl, rfl, by decide, _, rfl, tw_748⟩, by decide, ⟨⟨rfl, rfl, rfl, by decide, _, rfl, tw_312⟩, by decide, trivial⟩⟩, rfl⟩
  | 163, _, _ => exact ⟨⟨⟨rfl, rfl, rfl, by decide, _, rfl, tw_748⟩, by decide, ⟨⟨rfl, rfl, rfl, by decide, _, rfl, tw_312⟩, by decide, trivial⟩⟩, rfl⟩
  | 164, _, _ => exact ⟨⟨⟨rfl, rfl, rfl, by decide, _, rfl, tw_312⟩, by decide, trivial⟩, rfl⟩
  | 165, _, _ => exact ⟨⟨⟨rfl, rfl, rfl, by decide, _, rfl, tw_312⟩, by decide, trivial⟩, rfl⟩
  | 166, _, _ => exact ⟨⟨⟨rfl, rfl, rfl, by decide, _, rfl, tw_312⟩, by decide, trivial⟩, rfl⟩
  | 167, _, _ => exact ⟨⟨⟨rfl, rfl, rfl, by decide, _, rfl, tw_748⟩, by decide, trivial⟩, rfl⟩
  | 168, _, _ => exact ⟨⟨⟨rfl, rfl, rfl, by decide, _, rfl, tw_748⟩, by decide, trivial⟩, rfl⟩
  | 169, _, h => exact absurd h (by decide)
  | n + 170, hl, _ => exact absurd hl (by omega)
theorem xhd_kd (j : Nat) (h : xhds.getD j [] ≠ []) : xkd j = 4 := by
  have hl : j < 170 := by
    rcases Nat.lt_or_ge j 170 with q | q
    · exact q
    · exact absurd (by rw [List.getD_eq_getElem?_getD, List.getElem?_eq_none (by show xhds.length ≤ j; exact q)]; rfl) h
  have ha : ∀ i : Fin 170, xhds.getD i.val [] = [] ∨ xkd i.val = 4 := by decide +kernel
  rcases ha ⟨j, hl⟩ with q | q
  · exact absurd q h
  · exact q
theorem xl14 : ∀ e ∈ ([(7, 5, 0), (17, 6, 0), (21, 8, 0), (25, 9, 0), (30, 10, 0), (33, 11, 0), (37, 12, 0), (41, 14, 0), (45, 15, 0), (48, 16, 0), (51, 0, 0), (54, 80, 0), (55, 159, 3), (60, 82, 0), (61, 81, 0), (64, 160, 3), (67, 84, 0), (68, 161, 3), (71, 108, 0), (72, 1, 0), (75, 113, 0), (76, 2, 0), (79, 114, 0), (80, 162, 3), (82, 127, 0), (83, 163, 3), (85, 128, 0), (86, 164, 3), (88, 130, 0), (89, 165, 3), (92, 131, 0), (93, 166, 3), (96, 133, 0), (97, 167, 3), (99, 135, 0), (100, 3, 0), (103, 136, 0), (104, 168, 3), (106, 142, 0), (107, 4, 0), (110, 143, 0)] : List (Nat × Nat × Nat)), e.2.2 < 2 → Cond.methodLink "BuildingTextLaw" e.1 (xmn e.2.1) ∈ Tg := List.forall_mem_cons.mpr ⟨fun _ => tw_314, List.forall_mem_cons.mpr ⟨fun _ => tw_405, List.forall_mem_cons.mpr ⟨fun _ => tw_735, List.forall_mem_cons.mpr ⟨fun _ => tw_749, List.forall_mem_cons.mpr ⟨fun _ => tw_774, List.forall_mem_cons.mpr ⟨fun _ => tw_802, List.forall_mem_cons.mpr ⟨fun _ => tw_812, List.forall_mem_cons.mpr ⟨fun _ => tw_825, List.forall_mem_cons.mpr ⟨fun _ => tw_843, List.forall_mem_cons.mpr ⟨fun _ => tw_851, List.forall_mem_cons.mpr ⟨fun _ => tw_29, List.forall_mem_cons.mpr ⟨fun _ => tw_858, List.forall_mem_cons.mpr ⟨fun h => absurd h (by decide), List.forall_mem_cons.mpr ⟨fun _ => tw_1069, List.forall_mem_cons.mpr ⟨fun _ => tw_1065, List.forall_mem_cons.mpr ⟨fun h => absurd h (by decide), List.forall_mem_cons.mpr ⟨fun _ => tw_1076, List.forall_mem_cons.mpr ⟨fun h => absurd h (by decide), List.forall_mem_cons.mpr ⟨fun _ => tw_1175, List.forall_mem_cons.mpr ⟨fun _ => tw_241, List.forall_mem_cons.mpr ⟨fun _ => tw_1195, List.forall_mem_cons.mpr ⟨fun _ => tw_268, List.forall_mem_cons.mpr ⟨fun _ => tw_1199, List.forall_mem_cons.mpr ⟨fun h => absurd h (by decide), List.forall_mem_cons.mpr ⟨fun _ => tw_1251, List.forall_mem_cons.mpr ⟨fun h => absurd h (by decide), List.forall_mem_cons.mpr ⟨fun _ => tw_1255, List.forall_mem_cons.mpr ⟨fun h => absurd h (by decide), List.forall_mem_cons.mpr ⟨fun _ => tw_1263, List.forall_mem_cons.mpr ⟨fun h => absurd h (by decide), List.forall_mem_cons.mpr ⟨fun _ => tw_1267, List.forall_mem_cons.mpr ⟨fun h => absurd h (by decide), List.forall_mem_cons.mpr ⟨fun _ => tw_1275, List.forall_mem_cons.mpr ⟨fun h => absurd h (by decide), List.forall_mem_cons.mpr ⟨fun _ => tw_1283, List.forall_mem_cons.mpr ⟨fun _ => tw_273, List.forall_mem_cons.mpr ⟨fun _ => tw_1287, List.forall_mem_cons.mpr ⟨fun h => absurd h (by decide), List.forall_mem_cons.mpr ⟨fun _ => tw_1309, List.forall_mem_cons.mpr ⟨fun _ => tw_305, List.forall_mem_cons.mpr ⟨fun _ => tw_1313, fun _ h => absurd h List.not_mem_nil⟩⟩⟩⟩⟩⟩⟩⟩⟩⟩⟩⟩⟩⟩⟩⟩⟩⟩⟩⟩⟩⟩⟩⟩⟩⟩⟩⟩⟩⟩⟩⟩⟩⟩⟩⟩⟩⟩⟩⟩⟩
end
section
theorem xlk_mem {t : List (List (Nat × Nat × Nat))} {o x : Nat} {d : Nat × Nat} (h : xlk t o x = some d) : ∃ l, t[o]? = some l ∧ (x, d) ∈ l := by
  unfold xlk at h
  cases hf : (t.getD o []).find? (fun e => e.1 == x) with
  | none => rw [hf] at h; cases h
  | some e =>
    rw [hf] at h
    have hd : e.2 = d := Option.some.inj h
    have hm := List.mem_of_find?_eq_some hf
    have he : e.1 = x := by
      have := List.find?_some hf
      exact beq_iff_eq.mp this
    rw [List.getD_eq_getElem?_getD] at hm
    cases ht : t[o]? with
    | none => rw [ht] at hm; cases hm
    | some l =>
      rw [ht] at hm
      refine ⟨l, rfl, ?_⟩
      have hm : e ∈ l := hm
      rw [← hd, ← he]
      exact hm
theorem xif_some {c : Bool} {a : Option (Nat × Nat)} {d : Nat × Nat} (h : xif c a = some d) : c = true ∧ a = some d := by
  unfold xif at h
  split at h
  · rename_i hc; exact ⟨hc, h⟩
  · cases h
theorem xtg_some {pc : Nat} {o : Int} {d : Nat × Nat} (h : xtg pc o = some d) : (pc : Int) + o = (d.1 : Int) := by
  unfold xtg at h
  split at h
  · rename_i hc; cases h; exact hc
  · cases h
theorem xroom_ok {j k : Nat} (h : xroom j k = true) : xrk k + 1 ≤ xrk j ∧ 8 + (xml k + 11) + xrl k ≤ xrl j := by
  unfold xroom at h
  rw [Bool.and_eq_true, decide_eq_true_eq, decide_eq_true_eq] at h
  exact h
theorem xF {j x : Nat} {d : Nat × Nat} (h : xlk xlF (xow j) x = some d) : sm_fok Tg NW (xmn j).cls x d.1 (d.2 / 2) (d.2 % 2) := by
  obtain ⟨l, h1, h2⟩ := xlk_mem h
  exact xlF_ok _ l h1 _ h2
theorem xM1 {j x : Nat} {d : Nat × Nat} (h : xlk xlM (xow j) x = some d) : sm_lm (xmn j).cls (x, d) := by
  obtain ⟨l, h1, h2⟩ := xlk_mem h
  exact xlM_ok _ l h1 _ h2
theorem xmf {k : Nat} {n : Nat} (h : xkd k = n) (hn : n ≠ 9) : sm_mf k := xm_ok k (xkd_lt (by rw [h]; exact hn))
theorem xac_ok (t : ArrayType) (h : sm_nt t ≠ 0) : Cond.arrayClass (newarray.typeOf t) ∈ Tg := by
  cases t with
  | int => exact tg 240 (by decide +kernel) (by decide +kernel)
  | long => exact tg 183 (by decide +kernel) (by decide +kernel)
  | char => exact tg 61 (by decide +kernel) (by decide +kernel)
  | byte => exact tg 385 (by decide +kernel) (by decide +kernel)
  | boolean => exact tg 1064 (by decide +kernel) (by decide +kernel)
  | _ => exact absurd rfl h
theorem xrs_ok {j pc : Nat} {i : Instr} {d : Nat × Nat} (h : xrs j pc i = some d) : sm_kok i d ∧ sm_tok i d pc ∧ sm_hok Tg NW (xmn j).cls (xmn j).name i d ∧ sm_cok Tg NW (xmn j).cls j i d := by
  cases i with
  | iconst n => obtain ⟨h1, h2⟩ := xif_some h; cases h2; exact ⟨(decide_eq_true_eq.mp h1 : Int32.ofInt n = sm_k (sm_kd n)), trivial, trivial, trivial⟩
  | bipush n => obtain ⟨h1, h2⟩ := xif_some h; cases h2; exact ⟨(decide_eq_true_eq.mp h1 : (Int8.ofInt n).toInt32 = sm_k (sm_kd n)), trivial, trivial, trivial⟩
  | sipush n => obtain ⟨h1, h2⟩ := xif_some h; cases h2; exact ⟨(decide_eq_true_eq.mp h1 : (Int16.ofInt n).toInt32 = sm_k (sm_kd n)), trivial, trivial, trivial⟩
  | iinc z n => obtain ⟨h1, h2⟩ := xif_some h; cases h2; exact ⟨(decide_eq_true_eq.mp h1 : Int32.ofInt n = sm_k (sm_kd n)), trivial, trivial, trivial⟩
  | goto o => exact ⟨trivial, xtg_some h, trivial, trivial⟩
  | if_icmp c o => exact ⟨trivial, xtg_some h, trivial, trivial⟩
  | ifCond c o => exact ⟨trivial, xtg_some h, trivial, trivial⟩
  | ifnull o => exact ⟨trivial, xtg_some h, trivial, trivial⟩
  | ifnonnull o => exact ⟨trivial, xtg_some h, trivial, trivial⟩
  | if_acmp c o => exact ⟨trivial, xtg_some h, trivial, trivial⟩
  | getfield x => exact ⟨trivial, trivial, xF h, trivial⟩
  | putfield x =>
    replace h : (match xlk xlF (xow j) x with
      | some d => xif (!(xfin d.1 (d.2 / 2)) || (decide (xkd j = 2) && decide (d.2 % 2 = 0) && decide (d.1 = xow j))) (some d)
      | none => none) = some d := h
    split at h
    · rename_i d' hd
      obtain ⟨h1, h2⟩ := xif_some h
      cases h2
      have hf := xF hd
      refine ⟨trivial, trivial, ⟨hf, ?_⟩, trivial⟩
      obtain ⟨q, ref, hq, hk, -⟩ := hf
      refine ⟨q, hq, ?_⟩
      cases hb : (q.2.1 (d.2 / 2)).2.2.2 with
      | false => exact Or.inl rfl
      | true =>
        have hx : xfin d.1 (d.2 / 2) = true := by unfold xfin; rw [hq]; exact hb
        rw [hx] at h1
        simp only [Bool.not_true, Bool.false_or, Bool.and_eq_true, decide_eq_true_eq] at h1
        obtain ⟨⟨k1, k2⟩, k3⟩ := h1
        refine Or.inr ⟨rfl, k2, ((xmf k1 (by decide)).2.2.2 k1).2.1, ?_⟩
        rw [xdecl_ok d.1 q hq _ hk hb, k3]
        rfl
    · cases h
  | new x =>
    replace h : (match xlk xlC (xow j) x with
      | some d => xif (decide (d.2 = 0) || (xtf j pc).isSome) (some d)
      | none => none) = some d := h
    split at h
    · rename_i d' hd
      obtain ⟨-, h9⟩ := xif_some h
      cases h9
      obtain ⟨l, h1, h2⟩ := xlk_mem hd
      obtain ⟨q, k1, k2, k3⟩ := xlC_ok _ l h1 _ h2
      exact ⟨trivial, trivial, fun hz => ⟨q, k1, k2, k3 hz⟩, trivial⟩
    · cases h
  | checkcast x =>
    obtain ⟨l, h1, h2⟩ := xlk_mem h
    obtain ⟨q, k1, k2, k3⟩ := xlC_ok _ l h1 _ h2
    exact ⟨trivial, trivial, ⟨q, k1, k2⟩, trivial⟩
  | anewarray x =>
    obtain ⟨l, h1, h2⟩ := xlk_mem h
    exact ⟨trivial, trivial, ⟨xlA_ok _ l h1 _ h2, xao⟩, trivial⟩
  | newarray t => obtain ⟨h1, h2⟩ := xif_some h; cases h2; exact ⟨trivial, trivial, xac_ok t (decide_eq_true_eq.mp h1), trivial⟩
  | aastore => exact ⟨trivial, trivial, fun ci q hc hq => xcast_ok ci q hc hq, trivial⟩
  | ldc x =>
    obtain ⟨l, h1, h2⟩ := xlk_mem h
    exact ⟨trivial, trivial, xlN_ok _ l h1 _ h2, trivial⟩
  | ldc2_w x =>
    obtain ⟨l, h1, h2⟩ := xlk_mem h
    exact ⟨trivial, trivial, xlJ_ok _ l h1 _ h2, trivial⟩
  | getstatic x =>
    obtain ⟨l, h1, h2⟩ := xlk_mem h
    exact ⟨trivial, trivial, xlS_ok _ l h1 _ h2, trivial⟩
  | invokevirtual x =>
    replace h : (match xlk xlM (xow j) x with
      | some d => xif (decide (d.2 < 2) && decide (xkd d.1 = 0) && xroom j d.1) (some d)
      | none => none) = some d := h
    split at h
    · rename_i d' hd
      obtain ⟨h1, h2⟩ := xif_some h
      cases h2
      simp only [Bool.and_eq_true, decide_eq_true_eq] at h1
      obtain ⟨⟨k1, k2⟩, k3⟩ := h1
      have hm := xmf k2 (by decide)
      obtain ⟨m1, m2, m3⟩ := hm.2.1 k2
      exact ⟨trivial, trivial, trivial, xroom_ok k3, hm.1 (by omega), m1, m2, m3, (xM1 hd).2.1 k1⟩
    · cases h
  | invokestatic x =>
    replace h : (match xlk xlM (xow j) x with
      | some d => xif ((decide (d.2 < 2) && decide (xkd d.1 = 1) && xroom j d.1) || (decide (d.2 = 3) && decide (xkd d.1 = 4) && xroom j d.1) || ((decide (d.2 = 4) || decide (d.2 = 5)) && decide (1 ≤ xrk j) && decide (21 ≤ xrl j)) || (decide (d.2 = 6) && decide (3 ≤ xrk j) && decide (85 ≤ xrl j))) (some d)
      | none => none) = some d := h
    split at h
    · rename_i d' hd
      obtain ⟨h1, h2⟩ := xif_some h
      cases h2
      simp only [Bool.or_eq_true, Bool.and_eq_true, decide_eq_true_eq] at h1
      have hl := xM1 hd
      refine ⟨trivial, trivial, trivial, fun hz => ?_, fun hz => ?_, fun hz => ⟨hl.2.2.1 hz, xmath.2.1⟩, fun hz => ⟨hl.2.2.2.1 hz, xmath.2.2⟩, fun hz => ?_⟩
      · rcases h1 with ((⟨⟨k1, k2⟩, k3⟩ | ⟨⟨k1, -⟩, -⟩) | ⟨⟨k1, -⟩, -⟩) | ⟨⟨k1, -⟩, -⟩
        · have hm := xmf k2 (by decide)
          exact ⟨xroom_ok k3, hm.1 (by omega), hm.2.2.1 k2, hl.2.1 k1⟩
        · omega
        · omega
        · omega
      · rcases h1 with ((⟨⟨k1, -⟩, -⟩ | ⟨⟨k1, -⟩, -⟩) | ⟨⟨-, k2⟩, k3⟩) | ⟨⟨k1, -⟩, -⟩
        · omega
        · omega
        · exact ⟨⟨k2, k3⟩, xmath.1⟩
        · omega
      · rcases h1 with ((⟨⟨k1, -⟩, -⟩ | ⟨⟨k1, -⟩, -⟩) | ⟨⟨k1, -⟩, -⟩) | ⟨⟨-, k2⟩, k3⟩
        · omega
        · omega
        · omega
        · exact ⟨⟨k2, k3⟩, hl.2.2.2.2.1 hz⟩
    · cases h
  | invokespecial x =>
    replace h : (match xlk xlM (xow j) x with
      | some d => xif ((decide (d.2 = 2) && decide (1 ≤ xrk j) && decide (20 ≤ xrl j)) || (decide (d.2 < 2) && decide (xkd d.1 = 2) && xroom j d.1)) (some d)
      | none => none) = some d := h
    split at h
    · rename_i d' hd
      obtain ⟨h1, h2⟩ := xif_some h
      cases h2
      simp only [Bool.or_eq_true, Bool.and_eq_true, decide_eq_true_eq] at h1
      have hl := xM1 hd
      refine ⟨trivial, trivial, trivial, fun hz => ?_, fun hz => ?_⟩
      · rcases h1 with ⟨⟨-, k2⟩, k3⟩ | ⟨⟨k1, -⟩, -⟩
        · exact ⟨⟨k2, k3⟩, hl.1 hz, xoi⟩
        · omega
      · rcases h1 with ⟨⟨k1, -⟩, -⟩ | ⟨⟨k1, k2⟩, k3⟩
        · exact absurd k1 hz
        · have hm := xmf k2 (by decide)
          obtain ⟨m1, m2, m3⟩ := hm.2.2.2 k2
          exact ⟨xroom_ok k3, hm.1 (by omega), m2, m3, m1, hl.2.1 k1⟩
    · cases h
  | _ => exact ⟨trivial, trivial, trivial, trivial⟩
theorem xnw_ok : ∀ w ∈ NW, sm_nwk w := by
  intro w hw
  have h := (List.mem_filter.mp hw).2
  unfold sm_isnw at h
  split at h
  · exact ⟨fun u U e => va_Nw.same rfl e, fun s U e => va_Nw.warmF e⟩
  · exact ⟨fun u U e => va_Nw.same rfl e, fun s U e => va_Nw.warmM e⟩
  · exact ⟨fun u U e => va_Nw.same rfl e, fun s U e => va_Nw.warmC e⟩
  · exact ⟨fun u U e => va_Nw.same rfl e, fun s U e z => va_tabs rfl (rfl : (s.setVm U.vm).vm = U.vm) (by rw [Cond.declares_setVm e.alike]; exact z)⟩
  · exact ⟨fun u U e z => va_AO.moved (by rw [e]; exact Vm.Alike.refl _) z, fun s U e z => va_AO.moved e.alike z⟩
  · cases h
/-- ALL THAT IS SAID OF THE TABLES -/
theorem xst : sm_st Tg NW := by
  refine ⟨xcls_ok, fun w hw => good_of_word (List.mem_filter.mp hw).2, xnw_ok, fun j pc i d h => ?_⟩
  unfold xat at h
  split at h
  · rename_i i' len hd
    split at h
    · rename_i hcnd
      split at h
      · rename_i d' hx
        cases h
        exact ⟨⟨len, hd, fun hs => hcnd.elim (fun q => by rw [hs] at q; cases q) id⟩, xrs_ok hx⟩
      · cases h
    · cases h
  · cases h
end
section
/-! rules for the roads, one a kind of instruction -/
section SMR
variable {j pc : Nat} {L S L' S' r : List Value} {h h' : sm_H} {Q : Nat → Option Value → sm_H → Prop} {t : Nat → Option (Instr × Nat × Nat)} {x ci kz a : Nat} {v : Value}
theorem wp_get (hx : sm_tab j t) (hi : t pc = some (.getfield x, ci, kz)) (hc : hC h a = 16 + ci) (hv : hF h (128 * ci + kz / 2) a = v) (k : sm_wp j (pc + 3) L (v :: r) h Q) : sm_wp j pc L (.ref a :: r) h Q := by
  subst hv
  refine wp_hp hx hi rfl rfl rfl rfl ?_ k
  show (if hC h a = 16 + ci then some (hF h (128 * ci + kz / 2) a :: r, h) else none) = _
  rw [if_pos hc]
theorem wp_put (hx : sm_tab j t) (hi : t pc = some (.putfield x, ci, kz)) (hc : hC h a = 16 + ci) (hn : narrow (xty ci (kz / 2)) v = v) (hf : fits (xty ci (kz / 2)) v = true) (k : sm_wp j (pc + 3) L r (putF h (128 * ci + kz / 2) a v) Q) : sm_wp j pc L (v :: .ref a :: r) h Q := by
  refine wp_hp hx hi rfl rfl rfl rfl ?_ k
  show (if hC h a = 16 + ci ∧ narrow (xty ci (kz / 2)) v = v ∧ fits (xty ci (kz / 2)) v = true then some (r, putF h (128 * ci + kz / 2) a v) else none) = _
  rw [if_pos ⟨hc, hn, hf⟩]
theorem wp_new (hx : sm_tab j t) (hi : t pc = some (.new x, ci, 0)) {q : vw_C} (hq : xcl[ci]? = some q) (k : sm_wp j (pc + 3) L (.ref (hT h) :: r) (newO h ci q.2.2 (fun g => defaultValue (xty ci (g - 128 * ci)))) Q) : sm_wp j pc L r h Q := by
  refine wp_hp hx hi rfl rfl rfl rfl ?_ k
  show (if (0 : Nat) = 0 then sm_nw ci r h else none) = _
  rw [if_pos rfl]
  unfold sm_nw
  rw [hq]
theorem wp_newa (hx : sm_tab j t) {ty : ArrayType} (hi : t pc = some (.newarray ty, ci, kz)) {n : Nat} (hn : n < 2 ^ 26) (hk : sm_nt ty ≠ 0) (k : sm_wp j (pc + 2) L (.ref (hT h) :: r) (newA h (sm_nt ty) n (defaultValue (newarray.typeOf ty))) Q) : sm_wp j pc L (.int (nI n) :: r) h Q := by
  refine wp_hp hx hi rfl rfl rfl rfl ?_ k
  show (if ¬ nI n < 0 ∧ (nI n).toNatClampNeg * componentBytes (newarray.typeOf ty) ≤ 536870912 ∧ sm_nt ty ≠ 0 then some (.ref (hT h) :: r, newA h (sm_nt ty) (nI n).toNatClampNeg (defaultValue (newarray.typeOf ty))) else none) = _
  have hb : componentBytes (newarray.typeOf ty) ≤ 8 := by cases ty <;> decide
  rw [nI_clamp (by omega), if_pos ⟨nI_pos (by omega), Nat.le_trans (Nat.mul_le_mul (Nat.le_of_lt hn) hb) (by decide), hk⟩]
theorem wp_len (hx : sm_tab j t) (hi : t pc = some (.arraylength, ci, kz)) (hc : (sm_ty (hC h a)).isSome = true) {n : Nat} (hn : hL h a = n) (k : sm_wp j (pc + 1) L (.int (nI n) :: r) h Q) : sm_wp j pc L (.ref a :: r) h Q := by
  subst hn
  refine wp_hp hx hi rfl rfl rfl rfl ?_ k
  show (if (sm_ty (hC h a)).isSome = true then some (.int (nI (hL h a)) :: r, h) else none) = _
  rw [if_pos hc]
theorem wp_ald {ins : Instr} {ty : FieldType} (hx : sm_tab j t) (hi : t pc = some (ins, ci, kz)) (h0 : ∀ d S, sm_th ins d S = none) (h1 : ∀ d L S, sm_ps ins d L S = none) (h2 : ∀ d p S, sm_br ins d p S = none) (h3 : ∀ p S, sm_sw ins p S = none) (h4 : ∀ d S h, sm_hp ins d S h = sm_al ty S h) (hl : sm_len ins = 1) (hc : sm_ty (hC h a) = some ty) {n : Nat} (hn : n < hL h a) (hs : hL h a < 2 ^ 31) (hv : hA h a n = v) (k : sm_wp j (pc + 1) L (v :: r) h Q) : sm_wp j pc L (.int (nI n) :: .ref a :: r) h Q := by
  subst hv
  refine wp_hp hx hi (h0 _ _) (h1 _ _ _) (h2 _ _ _) (h3 _ _) ?_ (by rw [hl]; exact k)
  rw [h4]
  show (if sm_ty (hC h a) = some ty ∧ sm_in (nI n) (hL h a) then some (hA h a (nI n).toNatClampNeg :: r, h) else none) = _
  rw [if_pos ⟨hc, nI_pos (by omega), by rw [nI_clamp (by omega)]; exact hn⟩, nI_clamp (by omega)]
theorem wp_iald (hx : sm_tab j t) (hi : t pc = some (.iaload, ci, kz)) (hc : sm_ty (hC h a) = some .int) {n : Nat} (hn : n < hL h a) (hs : hL h a < 2 ^ 31) (hv : hA h a n = v) (k : sm_wp j (pc + 1) L (v :: r) h Q) : sm_wp j pc L (.int (nI n) :: .ref a :: r) h Q :=
  wp_ald (ty := .int) hx hi (fun _ _ => rfl) (fun _ _ _ => rfl) (fun _ _ _ => rfl) (fun _ _ => rfl) (fun _ _ _ => rfl) rfl hc hn hs hv k
theorem wp_lald (hx : sm_tab j t) (hi : t pc = some (.laload, ci, kz)) (hc : sm_ty (hC h a) = some .long) {n : Nat} (hn : n < hL h a) (hs : hL h a < 2 ^ 31) (hv : hA h a n = v) (k : sm_wp j (pc + 1) L (v :: r) h Q) : sm_wp j pc L (.int (nI n) :: .ref a :: r) h Q :=
  wp_ald (ty := .long) hx hi (fun _ _ => rfl) (fun _ _ _ => rfl) (fun _ _ _ => rfl) (fun _ _ => rfl) (fun _ _ _ => rfl) rfl hc hn hs hv k
theorem wp_cald (hx : sm_tab j t) (hi : t pc = some (.caload, ci, kz)) (hc : sm_ty (hC h a) = some .char) {n : Nat} (hn : n < hL h a) (hs : hL h a < 2 ^ 31) (hv : hA h a n = v) (k : sm_wp j (pc + 1) L (v :: r) h Q) : sm_wp j pc L (.int (nI n) :: .ref a :: r) h Q :=
  wp_ald (ty := .char) hx hi (fun _ _ => rfl) (fun _ _ _ => rfl) (fun _ _ _ => rfl) (fun _ _ => rfl) (fun _ _ _ => rfl) rfl hc hn hs hv k
theorem wp_aald (hx : sm_tab j t) (hi : t pc = some (.aaload, ci, kz)) (hc : sm_ty (hC h a) = some (.object "java/lang/Object")) {n : Nat} (hn : n < hL h a) (hs : hL h a < 2 ^ 31) (hv : hA h a n = v) (k : sm_wp j (pc + 1) L (v :: r) h Q) : sm_wp j pc L (.int (nI n) :: .ref a :: r) h Q :=
  wp_ald (ty := .object "java/lang/Object") hx hi (fun _ _ => rfl) (fun _ _ _ => rfl) (fun _ _ _ => rfl) (fun _ _ => rfl) (fun _ _ _ => rfl) rfl hc hn hs hv k
theorem wp_iast (hx : sm_tab j t) (hi : t pc = some (.iastore, ci, kz)) (hc : hC h a = 1) {n : Nat} {y : Int32} (hn : n < hL h a) (hs : hL h a < 2 ^ 31) (k : sm_wp j (pc + 1) L r (putA h a n (.int y)) Q) : sm_wp j pc L (.int y :: .int (nI n) :: .ref a :: r) h Q := by
  refine wp_hp hx hi rfl rfl rfl rfl ?_ k
  show (if hC h a = 1 ∧ sm_in (nI n) (hL h a) then some (r, putA h a (nI n).toNatClampNeg (.int y)) else none) = _
  rw [if_pos ⟨hc, nI_pos (by omega), by rw [nI_clamp (by omega)]; exact hn⟩, nI_clamp (by omega)]
theorem wp_last (hx : sm_tab j t) (hi : t pc = some (.lastore, ci, kz)) (hc : hC h a = 2) {n : Nat} {y : Int64} (hn : n < hL h a) (hs : hL h a < 2 ^ 31) (k : sm_wp j (pc + 1) L r (putA h a n (.long y)) Q) : sm_wp j pc L (.long y :: .int (nI n) :: .ref a :: r) h Q := by
  refine wp_hp hx hi rfl rfl rfl rfl ?_ k
  show (if hC h a = 2 ∧ sm_in (nI n) (hL h a) then some (r, putA h a (nI n).toNatClampNeg (.long y)) else none) = _
  rw [if_pos ⟨hc, nI_pos (by omega), by rw [nI_clamp (by omega)]; exact hn⟩, nI_clamp (by omega)]
theorem wp_cast1 (hx : sm_tab j t) (hi : t pc = some (.castore, ci, kz)) (hc : hC h a = 3) {n : Nat} {y : Int32} (hn : n < hL h a) (hs : hL h a < 2 ^ 31) (hw : narrow .char (.int y) = .int y) (k : sm_wp j (pc + 1) L r (putA h a n (.int y)) Q) : sm_wp j pc L (.int y :: .int (nI n) :: .ref a :: r) h Q := by
  refine wp_hp hx hi rfl rfl rfl rfl ?_ k
  show (if hC h a = 3 ∧ sm_in (nI n) (hL h a) then some (r, putA h a (nI n).toNatClampNeg (narrow .char (.int y))) else none) = _
  rw [if_pos ⟨hc, nI_pos (by omega), by rw [nI_clamp (by omega)]; exact hn⟩, nI_clamp (by omega), hw]
theorem wp_aast (hx : sm_tab j t) (hi : t pc = some (.aastore, ci, kz)) (hc : hC h a = 7) {n b : Nat} (hn : n < hL h a) (hs : hL h a < 2 ^ 31) (hb : 16 ≤ hC h b ∧ hC h b < 26) (k : sm_wp j (pc + 1) L r (putA h a n (.ref b)) Q) : sm_wp j pc L (.ref b :: .int (nI n) :: .ref a :: r) h Q := by
  refine wp_hp hx hi rfl rfl rfl rfl ?_ k
  show (if hC h a = 7 ∧ sm_in (nI n) (hL h a) ∧ 16 ≤ hC h b ∧ hC h b < 16 + xob then some (r, putA h a (nI n).toNatClampNeg (.ref b)) else none) = _
  rw [if_pos ⟨hc, ⟨nI_pos (by omega), by rw [nI_clamp (by omega)]; exact hn⟩, hb⟩, nI_clamp (by omega)]
theorem wp_aastN (hx : sm_tab j t) (hi : t pc = some (.aastore, ci, kz)) (hc : hC h a = 7) {n : Nat} (hn : n < hL h a) (hs : hL h a < 2 ^ 31) (k : sm_wp j (pc + 1) L r (putA h a n .null) Q) : sm_wp j pc L (.null :: .int (nI n) :: .ref a :: r) h Q := by
  refine wp_hp hx hi rfl rfl rfl rfl ?_ k
  show (if hC h a = 7 ∧ sm_in (nI n) (hL h a) then some (r, putA h a (nI n).toNatClampNeg .null) else none) = _
  rw [if_pos ⟨hc, nI_pos (by omega), by rw [nI_clamp (by omega)]; exact hn⟩, nI_clamp (by omega)]
theorem wp_cc (hx : sm_tab j t) (hi : t pc = some (.checkcast x, ci, kz)) (hc : hC h a = 16 + ci) (k : sm_wp j (pc + 3) L (.ref a :: r) h Q) : sm_wp j pc L (.ref a :: r) h Q := by
  refine wp_hp hx hi rfl rfl rfl rfl ?_ k
  show (if hC h a = 16 + ci then some (.ref a :: r, h) else none) = _
  rw [if_pos hc]
theorem wp_gs (hx : sm_tab j t) (hi : t pc = some (.getstatic x, ci, kz)) (k : sm_wp j (pc + 3) L (.ref (hZ h) :: r) h Q) : sm_wp j pc L r h Q := wp_hp hx hi rfl rfl rfl rfl rfl k
theorem wp_ldc (hx : sm_tab j t) (hi : t pc = some (.ldc x, ci, kz)) (k : sm_wp j (pc + 2) L (.int (sm_k (ci, kz)) :: r) h Q) : sm_wp j pc L r h Q := wp_hp hx hi rfl rfl rfl rfl rfl k
theorem wp_ldc2 (hx : sm_tab j t) (hi : t pc = some (.ldc2_w x, ci, kz)) (k : sm_wp j (pc + 3) L (.long (lN ci) :: r) h Q) : sm_wp j pc L r h Q := wp_hp hx hi rfl rfl rfl rfl rfl k
/-- a call on an object: As the arguments behind it -/
theorem wp_iv (hx : sm_tab j t) (hi : t pc = some (.invokevirtual x, ci, kz)) {b : Nat} (As : List Value) (hn : As.length = xna ci) (hc : hC h b = 16 + xrc ci) (hr : (r.map fun v => v.category).sum ≤ 8) (hl : (sm_fl (.ref b :: As)).length ≤ xml ci) (hS : S = As.reverse ++ .ref b :: r)
    (k : sm_wp ci 0 (sm_en (.ref b :: As) (xml ci)) [] h (fun k v h' => k = 0 ∧ sm_wp j (pc + 3) L (v.toList ++ r) h' Q)) : sm_wp j pc L S h Q := by
  have e1 : S.drop (xna ci) = .ref b :: r := by rw [hS, ← hn, ← List.length_reverse, List.drop_left]
  have e2 : (S.take (xna ci)).reverse = As := by rw [hS, ← hn, ← List.length_reverse, List.take_left, List.reverse_reverse]
  have e3 : xna ci ≤ S.length := by rw [hS, ← hn, List.length_append, List.length_reverse]; omega
  refine wp_call hx hi rfl rfl rfl rfl rfl rfl rfl rfl rfl ?_ k
  unfold sm_cl
  dsimp only
  rw [e1]
  dsimp only
  rw [e2, if_pos ⟨e3, hc, hr, hl⟩]
theorem wp_is (hx : sm_tab j t) (hi : t pc = some (.invokestatic x, ci, kz)) (hz : kz < 4) (As : List Value) (hn : As.length = xna ci) (hr : (r.map fun v => v.category).sum ≤ 8) (hl : (sm_fl As).length ≤ xml ci) (hS : S = As.reverse ++ r)
    (k : sm_wp ci 0 (sm_en As (xml ci)) [] h (fun k v h' => k = 0 ∧ sm_wp j (pc + 3) L (v.toList ++ r) h' Q)) : sm_wp j pc L S h Q := by
  have e1 : S.drop (xna ci) = r := by rw [hS, ← hn, ← List.length_reverse, List.drop_left]
  have e2 : (S.take (xna ci)).reverse = As := by rw [hS, ← hn, ← List.length_reverse, List.take_left, List.reverse_reverse]
  have e3 : xna ci ≤ S.length := by rw [hS, ← hn, List.length_append, List.length_reverse]; omega
  have n4 : ¬ kz = 4 := by omega
  have n5 : ¬ kz = 5 := by omega
  have n6 : ¬ kz = 6 := by omega
  have e7 : sm_mm (.invokestatic x) (ci, kz) S = none := by
    unfold sm_mm
    split
    · split
      · simp [n4, n5]
      · rfl
    · rfl
  have e8 : sm_ex (.invokestatic x) (ci, kz) S h = none := by
    unfold sm_ex
    split
    · exact if_neg (fun q => n6 q.1)
    · rfl
  refine wp_call hx hi rfl rfl rfl rfl rfl rfl ?_ e7 e8 ?_ k
  · rfl
  · unfold sm_cl
    dsimp only
    rw [e1, e2, if_pos ⟨hz, e3, hr, hl⟩]
theorem wp_ic (hx : sm_tab j t) (hi : t pc = some (.invokespecial x, ci, kz)) (hz : ¬ kz = 2) {b : Nat} (As : List Value) (hn : As.length = xna ci) (hr : (r.map fun v => v.category).sum ≤ 8) (hl : (sm_fl (.ref b :: As)).length ≤ xml ci) (hS : S = As.reverse ++ .ref b :: r)
    (k : sm_wp ci 0 (sm_en (.ref b :: As) (xml ci)) [] h (fun k v h' => k = 0 ∧ sm_wp j (pc + 3) L (v.toList ++ r) h' Q)) : sm_wp j pc L S h Q := by
  have e1 : S.drop (xna ci) = .ref b :: r := by rw [hS, ← hn, ← List.length_reverse, List.drop_left]
  have e2 : (S.take (xna ci)).reverse = As := by rw [hS, ← hn, ← List.length_reverse, List.take_left, List.reverse_reverse]
  have e3 : xna ci ≤ S.length := by rw [hS, ← hn, List.length_append, List.length_reverse]; omega
  have e6 : sm_oi (.invokespecial x) (ci, kz) S = none := by
    unfold sm_oi
    split
    · rw [if_neg (fun q => hz q.1)]
    · rfl
  refine wp_call hx hi rfl rfl rfl rfl rfl rfl e6 rfl rfl ?_ k
  unfold sm_cl
  dsimp only
  rw [if_neg hz, e1]
  dsimp only
  rw [e2, if_pos ⟨e3, hr, hl⟩]
theorem wp_obj (hx : sm_tab j t) (hi : t pc = some (.invokespecial x, ci, 2)) (hr : (r.map fun v => v.category).sum ≤ 8) (k : sm_wp j (pc + 3) L r h Q) : sm_wp j pc L (.ref a :: r) h Q := by
  refine wp_oi hx hi ?_ k
  show (if 2 = 2 ∧ (r.map fun v => v.category).sum ≤ 8 then some r else none) = _
  rw [if_pos ⟨rfl, hr⟩]
theorem wp_irt (hx : sm_tab j t) (hi : t pc = some (.ireturn, ci, kz)) {ty : FieldType} (ht : xrt j = some ty) {y : Int32} (hn : narrow ty (.int y) = .int y) (k : Q 0 (some (.int y)) h) : sm_wp j pc L [.int y] h Q := by
  refine wp_rt hx hi rfl rfl rfl rfl rfl ?_ k
  rw [ht]
  unfold sm_rt
  dsimp only
  rw [if_pos hn]
theorem wp_vrt (hx : sm_tab j t) (hi : t pc = some (.return_, ci, kz)) (ht : xrt j = none) (k : Q 0 none h) : sm_wp j pc L [] h Q := by
  refine wp_rt hx hi rfl rfl rfl rfl rfl ?_ k
  rw [ht]
  rfl
end SMR
end
section
/-! more rules: constants by their numbers, counters, throwing calls -/
section SMR2
variable {j pc : Nat} {L S L' S' r : List Value} {h h' : sm_H} {Q : Nat → Option Value → sm_H → Prop} {t : Nat → Option (Instr × Nat × Nat)} {x ci kz a n : Nat} {v : Value} {i : Instr}
theorem wp_kn (hx : sm_tab j t) (hi : t pc = some (i, n, 0)) (hp : sm_ps i (n, 0) L S = some (L, .int (nI n) :: S)) (k : sm_wp j (pc + sm_len i) L (.int (nI n) :: S) h Q) : sm_wp j pc L S h Q := wp_pure hx hi hp k
theorem sm_km1 : sm_k (1, 1) = -1 := by decide
theorem wp_km (hx : sm_tab j t) (hi : t pc = some (i, 1, 1)) (hp : sm_ps i (1, 1) L S = some (L, .int (sm_k (1, 1)) :: S)) (k : sm_wp j (pc + sm_len i) L (.int (-1) :: S) h Q) : sm_wp j pc L S h Q := wp_pure hx hi hp (by rw [sm_km1]; exact k)
theorem wp_inc (hx : sm_tab j t) {q : Nat} {c : Int} {m : Nat} (hi : t pc = some (.iinc q c, n, 0)) (hl : L[q]? = some (.int (nI m))) (hL : sm_s1 L q (.int (nI (m + n))) = L') (k : sm_wp j (pc + 3) L' S h Q) : sm_wp j pc L S h Q := by
  subst hL
  refine wp_pure hx hi ?_ k
  show sm_inc L S q (sm_k (n, 0)) = _
  unfold sm_inc
  rw [hl]
  dsimp only
  rw [show nI m + sm_k (n, 0) = nI (m + n) from nI_add m n]
theorem wp_bald (hx : sm_tab j t) (hi : t pc = some (.baload, ci, kz)) (hc : hC h a = 4 ∨ hC h a = 5) {n : Nat} (hn : n < hL h a) (hs : hL h a < 2 ^ 31) (hv : hA h a n = v) (k : sm_wp j (pc + 1) L (v :: r) h Q) : sm_wp j pc L (.int (nI n) :: .ref a :: r) h Q := by
  subst hv
  refine wp_hp hx hi rfl rfl rfl rfl ?_ k
  show (if (hC h a = 4 ∨ hC h a = 5) ∧ sm_in (nI n) (hL h a) then some (hA h a (nI n).toNatClampNeg :: r, h) else none) = _
  rw [if_pos ⟨hc, nI_pos (by omega), by rw [nI_clamp (by omega)]; exact hn⟩, nI_clamp (by omega)]
theorem wp_zast (hx : sm_tab j t) (hi : t pc = some (.bastore, ci, kz)) (hc : hC h a = 5) {n : Nat} {y : Int32} (hn : n < hL h a) (hs : hL h a < 2 ^ 31) (hw : narrow .boolean (.int y) = .int y) (k : sm_wp j (pc + 1) L r (putA h a n (.int y)) Q) : sm_wp j pc L (.int y :: .int (nI n) :: .ref a :: r) h Q := by
  refine wp_hp hx hi rfl rfl rfl rfl ?_ k
  have h4 : ¬ (hC h a = 4 ∧ sm_in (nI n) (hL h a)) := fun q => by rw [hc] at q; omega
  show (if hC h a = 4 ∧ sm_in (nI n) (hL h a) then some (r, putA h a (nI n).toNatClampNeg (narrow .byte (.int y))) else (if hC h a = 5 ∧ sm_in (nI n) (hL h a) then some (r, putA h a (nI n).toNatClampNeg (narrow .boolean (.int y))) else none)) = _
  rw [if_neg h4, if_pos ⟨hc, nI_pos (by omega), by rw [nI_clamp (by omega)]; exact hn⟩, nI_clamp (by omega), hw]
/-- a call on an object that may throw what is caught here -/
theorem wp_ivX (hx : sm_tab j t) (hi : t pc = some (.invokevirtual x, ci, kz)) {b : Nat} (As : List Value) (hn : As.length = xna ci) (hc : hC h b = 16 + xrc ci) (hr : (r.map fun v => v.category).sum ≤ 8) (hl : (sm_fl (.ref b :: As)).length ≤ xml ci) (hS : S = As.reverse ++ .ref b :: r)
    (k : sm_wp ci 0 (sm_en (.ref b :: As) (xml ci)) [] h (fun k v h' => (k = 0 ∧ sm_wp j (pc + 3) L (v.toList ++ r) h' Q) ∨ ∃ k' a hp, k = k' + 1 ∧ v = some (.ref a) ∧ xhi (.invokevirtual x) j pc k' = some hp ∧ sm_wp j hp L [.ref a] h' Q)) : sm_wp j pc L S h Q := by
  have e1 : S.drop (xna ci) = .ref b :: r := by rw [hS, ← hn, ← List.length_reverse, List.drop_left]
  have e2 : (S.take (xna ci)).reverse = As := by rw [hS, ← hn, ← List.length_reverse, List.take_left, List.reverse_reverse]
  have e3 : xna ci ≤ S.length := by rw [hS, ← hn, List.length_append, List.length_reverse]; omega
  refine wp_callX hx hi rfl rfl rfl rfl rfl rfl rfl rfl rfl ?_ k
  unfold sm_cl
  dsimp only
  rw [e1]
  dsimp only
  rw [e2, if_pos ⟨e3, hc, hr, hl⟩]
end SMR2
end
section
/-! 'throw new E(text)': the state is taken as the start of a new account, so that nothing that stood in the heap is forgotten -/
theorem sm_eqCell {c c' : Cell} (h1 : c' = { c with slots := c'.slots }) (h2 : c'.slots.size = c.slots.size) (h3 : ∀ i : Nat, c'.slots[i]? = c.slots[i]?) : c' = c := by
  have e : c'.slots = c.slots := Array.ext_getElem? h3
  rw [h1, e]
section SMTH
variable {p : Program} {l : Launch} {e : Env} {R : Room} {s : State} {m : MethodId} {args : Array Value} {below : List Frame} {meth : Method} {c : Code} {T : State} {locs : List Loc} {cells slots : Nat}
theorem sm_rebase (X : Stand p l e R s m args below meth c T locs cells slots) (hc : cells ≤ R.cells) (hs : slots ≤ R.slots) :
    Stand p l e { frames := R.frames, cells := R.cells - cells, slots := R.slots - slots, locals := R.locals } (T.setFrames (.invoking m args :: below)) m args below meth c T [] 0 0 := by
  obtain ⟨g₀, hg₀⟩ := X.frames_eq
  obtain ⟨th, hth, -⟩ := State.frames_cons hg₀
  have hcur : T.cur < T.threads.size := (Array.getElem?_eq_some_iff.mp hth).1
  have hfr : (T.setFrames (.invoking m args :: below)).frames = .invoking m args :: below := State.frames_setFrames _ hcur
  have hmt : (T.setFrames (.invoking m args :: below)).vm.method? m = some meth := by
    show T.vm.method? m = some meth
    rw [X.warmed.alike.method?]
    exact X.method
  have hself : (T.setFrames (.invoking m args :: below)).setFrames T.frames = T := by
    rw [State.setFrames_setFrames]
    exact State.setFrames_self hth
  obtain ⟨th', hth', -⟩ := State.frames_cons hfr
  have hcur' : (T.setFrames (.invoking m args :: below)).cur < (T.setFrames (.invoking m args :: below)).threads.size := (Array.getElem?_eq_some_iff.mp hth').1
  have hsame := (State.sameButNew.refl (T.setFrames (.invoking m args :: below)) hth').setFrames T.frames hcur'
  rw [hself] at hsame
  refine ⟨X.admits, X.cas, X.clock, hfr, ?_, ?_, hmt, X.code, X.here, X.tail, State.WarmedH.refl (T.setFrames (.invoking m args :: below)), ?_, ?_, hsame⟩
  · have hr := X.room
    have hl1 := State.localsInUse_invoking X.frames X.method X.code
    have hl2 := State.localsInUse_invoking hfr hmt X.code
    have hlim : e.platform.stackLimits (T.setFrames (.invoking m args :: below)).me = e.platform.stackLimits s.me := by rw [State.stackLimits_setFrames, X.limits]
    have hbt : (T.setFrames (.invoking m args :: below)).me.stackBytes = s.me.stackBytes := by rw [State.stackBytes_setFrames, X.bytes]
    have hhs := X.heapSize
    have hus := X.used
    have hbk : (T.setFrames (.invoking m args :: below)).slotsTrue = true := X.book
    simp only [State.hasRoom, Bool.and_eq_true, decide_eq_true_eq] at hr ⊢
    rw [hl1, X.frames] at hr
    rw [hl2, hfr, hlim, hbt]
    obtain ⟨⟨⟨⟨r1, r2⟩, r3⟩, r4⟩, r5⟩ := hr
    refine ⟨⟨⟨⟨r1, r2⟩, ?_⟩, ?_⟩, hbk⟩
    · show T.heap.size + (R.cells - cells) ≤ _
      omega
    · show T.slotsUsed + (R.slots - slots) ≤ _
      omega
  · have hh := X.hears
    have hcd : ∀ x, (T.setFrames (.invoking m args :: below)).code? x = s.code? x := fun x => by
      rw [State.code?_eq, State.code?_eq]
      show (T.vm.method? x).bind _ = _
      rw [X.warmed.alike.method?]
    unfold State.hears at hh ⊢
    split at hh
    · rw [hcd]; exact hh
    · rfl
    · rfl
    · show (T.vm.method? m).any _ = true
      rw [X.warmed.alike.method?]
      exact hh
  · rw [State.stackLimits_setFrames]
  · rw [State.stackBytes_setFrames]
/-- what comes of it, told of the true start -/
theorem sm_rebased (X : Stand p l e R s m args below meth c T locs cells slots) {U : State} {k n : Nat} (hW : (T.setFrames (.invoking m args :: below)).WarmedH U.vm) (h : (T.setFrames (.invoking m args :: below)).sameButNew ({ U with vm := (T.setFrames (.invoking m args :: below)).vm } : State) [] k n) :
    s.WarmedH U.vm ∧ s.sameButNew ({ U with vm := s.vm } : State) locs (cells + k) (slots + n) := by
  refine ⟨State.WarmedH.trans X.warmed hW, ?_⟩
  have h1 : T.sameButNew ({ U with vm := T.vm } : State) [] k n := by
    obtain ⟨e2, q2⟩ := h
    rw [State.setFrames_setFrames] at e2
    exact ⟨e2, q2⟩
  have h2 := X.same.trans (h1.setVm s.vm)
  rw [List.append_nil] at h2
  exact h2
end SMTH
theorem xsite {j pc x ci : Nat} (h : xat j pc = some (.new x, ci, 1)) : ∃ e ∈ xts, e.1 = j ∧ e.2.1 = pc ∧ decode (xcc j) pc = .ok (.new x, 3) ∧ xlk xlC (xow j) x = some (ci, 1) := by
  unfold xat at h
  split at h
  · rename_i i len hd
    split at h
    · rename_i hl
      split at h
      · rename_i d' hx
        cases h
        replace hx : (match xlk xlC (xow j) x with
          | some d => xif (decide (d.2 = 0) || (xtf j pc).isSome) (some d)
          | none => none) = some (ci, 1) := hx
        split at hx
        · rename_i d hd'
          obtain ⟨h1, h2⟩ := xif_some hx
          cases h2
          have h3 : (xtf j pc).isSome = true := by simpa using h1
          obtain ⟨e, he⟩ := Option.isSome_iff_exists.mp h3
          have hm := List.mem_of_find?_eq_some he
          have hp := List.find?_some he
          simp only [Bool.and_eq_true, decide_eq_true_eq] at hp
          have hlen : len = 3 := by
            rcases hl with q | q
            · cases q
            · exact q
          subst hlen
          exact ⟨e, hm, hp.1, hp.2, hd, hd'⟩
        · cases hx
      · cases h
    · cases h
  · cases h
theorem sm_LS.words {C n d : String} {A : Nat → Prop} {s : State} {H : Heap} (h : sm_LS C n d A s H) {args : Array Value} (hH : s.heap = H) : (Cond.laysStatic C n d).before args s = true ∧ (Cond.isRef (.static C n d)).before args s = true := by
  obtain ⟨c, k, i, f, a, cell, h0, h1, h2, h3, h4, h5, h6, h7, h8, h9, h10⟩ := h
  subst hH
  refine ⟨Cond.laysStatic_of h0 h1 h2 h3 h4 h5 h6 h7 h8, ?_⟩
  have he : (Term.static C n d).eval args s none [] s = cell.slots[f.slot]? := by
    simp [Term.eval, State.fieldNamed?, h1, h2, h3, h4, h5]
  rcases h9 with h9 | ⟨q, h9⟩
  · simp [Cond.before, Cond.holds, Cond.value, he, h9]
  · simp [Cond.before, Cond.holds, Cond.value, he, h9]
set_option maxHeartbeats 1000000 in
theorem xthrows {l : Launch} {D : va_G} {base : Nat} (hl : l.flags = pinnedFlags ++ [noTraceFlag]) : sm_throws l Tg NW D base := by
  intro j x pc ci mc ms h p e s m args below meth c H locs cells slots ls hin hsz hR hf hb0 hx hmc hms
  obtain ⟨hexec, hb, hml, hret, hlocks, hmn, hown, hts, hnw, hK, hX, -, hexT⟩ := id hin
  obtain ⟨te, hte, rfl, rfl, hdg, hlk⟩ := xsite hx
  obtain ⟨x', ci', tx, d0, d1, d2, d3, d4, d5, d6, d7, d8, d9, d10, d11, d12⟩ := xts_ok te hte
  rw [hdg] at d0
  cases d0
  rw [d7, d1] at hlk
  cases hlk
  obtain ⟨q, hq, hq0, hfit, hins, hini, hat⟩ := d12
  obtain ⟨ql, hl1, hl2⟩ := xlk_mem d1
  obtain ⟨q', k1, k2, -⟩ := xlC_ok _ ql hl1 _ hl2
  cases hq.symm.trans k1
  have hcls : (xmn te.1).cls = "BuildingText" := by
    show xon (xow te.1) = _
    rw [d7]
    rfl
  rw [hcls] at hown
  intro T eT X
  have hc1 : cells ≤ mc := by omega
  have hs1 : slots ≤ ms := by omega
  have X' := sm_rebase X hc1 hs1
  generalize hs' : T.setFrames (.invoking m args :: below) = s' at X'
  have hvm : s'.vm = T.vm := by rw [← hs']; rfl
  have hheap : s'.heap = H := by rw [← hs', ← eT]; rfl
  have hW : s.WarmedH s'.vm := by rw [hvm]; exact X.warmed
  have hts' : ∀ w ∈ Tg, ∀ a, w.before a s' = true := fun w hw a => word_at hW (xst.2.1 w hw) (hts w hw)
  have hnw' : ∀ w ∈ NW, va_Nw w s' := fun w hw => (xst.2.2.1 w hw).2 s s' hW (hnw w hw)
  have hX' := hX.warm hW
  have hK' : va_K D xcl [] s' := hK.moved hW.alike
  have hown' : s'.vm.findClass "BuildingText" = some m.cls := by rw [hW.alike.findClass]; exact hown
  have hR' := hR.moved hW.alike
  have hKn := hK'.1 ci q hq
  obtain ⟨qs, hqs⟩ := hX'.1 _ d6
  have hgo : W p l e { frames := (sm_rm te.1 mc ms).frames, cells := (sm_rm te.1 mc ms).cells - cells, slots := (sm_rm te.1 mc ms).slots - slots, locals := (sm_rm te.1 mc ms).locals } s' m args below meth c H [] 0 0
      (fun U => U.status = .running ∧ Ended U below (.threw (hT h)) ∧ s'.WarmedH U.vm ∧ s'.sameButNew ({ U with vm := s'.vm } : State) [] 1 6 ∧ ∃ ce, U.heap[hT h]? = some ce ∧ s'.vm.findClass q.1 = some ce.cls ∧ ce.vm = .none) (F0 m te.2.1 ls []) := by
    refine W.newcK hexec hb hown' (hts' _ k2 _) (hts' _ hins _) (hts' _ hini _) rfl hdg (by show 0 + 1 ≤ mc - cells; omega) (by show 0 + 6 ≤ ms - slots; omega) hKn.2.1 hR.1 fun H1 kC hkC e1 e2 e3 => ?_
    refine lv_dup (pc := te.2.1 + 3) (rest := []) hexec hb d2 rfl ?_
    refine va_ldcS (pc := te.2.1 + 3 + 1) hexec hb hown' hqs d3 ?_
    intro T1 hT1 X1
    have htr := Launch.traces_off hl X.admits
    have hZs := hR'.2.2.2.2.2
    have hatoms : ∀ a ∈ Bundle.ownAtoms "BuildingText" te.2.2.2 q.1 ["java/lang/RuntimeException", "java/lang/Exception"], a.before args s' = true := by
      intro a ha
      rcases hat a ha with z | z | z | z | z | z
      · exact hts' a z args
      · have z2 := hnw' a z
        have z3 := (List.mem_filter.mp z).2
        unfold sm_isnw at z3
        split at z3
        · exact va_any rfl z2
        · exact va_any rfl z2
        · exact va_any rfl z2
        · exact va_any rfl z2
        · exact z2
        · cases z3
      · rw [z]; exact (hZs.2.1.words hheap).1
      · rw [z]; exact (hZs.2.2.1.words hheap).1
      · rw [z]; exact (hZs.2.1.words hheap).2
      · rw [z]; exact (hZs.2.2.1.words hheap).2
    obtain ⟨U, st, hrun, hend, hWU, hsame, ce, hce, hO⟩ := X1.ctorThrowS hexec htr (own := "BuildingText") (cls := q.1) (names := ["java/lang/RuntimeException", "java/lang/Exception"]) (ic := te.2.2.2) hown' hfit (by decide +kernel) hatoms (fun y hy => by cases hy) (a := hT h) (cX := D.1 ci) (kX := kC) hKn.2.1 hkC (by rw [hT1]; exact e1) (by rw [hheap, hR.1]; exact Nat.le_refl _)
      (msg := .ref qs) rfl (g := F0 m (te.2.1 + 3 + 1 + 2) ls [.ref qs, .ref (hT h), .ref (hT h)]) rfl (hsz.trans hml.symm) rfl rfl (rest := []) rfl (by rw [hb]; exact d4) (by rw [hb]; exact d5)
      (by
        have h0 := hexT d9
        rw [d8] at h0
        have h1 : c.exceptionTable.toList = [] := List.map_eq_nil_iff.mp h0
        rw [h1]
        intro y hy
        cases hy) (by show 2 + 3 < xrk te.1; omega) (by show 2 * 0 + (1 + 0) + (13 * (2 + 1) + 42) ≤ xrl te.1; omega) hlocks
    exact ⟨U, st, hrun, hend, hWU, hsame, ce, hce, hO.cls, hO.vm⟩
  obtain ⟨U, st, hrun, hend, hWU, hsame, ce, hce, hcc, hvn⟩ := hgo T eT X'
  refine ⟨U, st, .threw (hT h), hrun, hend, ⟨⟨_, rfl, rfl⟩, ?_⟩, locs, ?_, hf⟩
  · have hRU := hR'.moved hWU.alike
    obtain ⟨-, z2, z3, -, -, z6⟩ := hsame
    replace z2 : s'.heap.size ≤ U.heap.size := z2
    replace z3 : U.heap.size ≤ s'.heap.size + 1 := z3
    rw [hheap, hR.1] at z2 z3
    have hlt : hT h < U.heap.size := (Array.getElem?_eq_some_iff.mp hce).1
    refine hRU.mkO (ci := ci) (n := 6) (dv := fun _ => .null) hb0 hq ⟨ce, hce, ?_, hvn, fun k hk => absurd hk (by omega)⟩ (by omega) (fun y hy => ?_)
    · have h9 := hKn.2.1
      rw [hcc] at h9
      exact Option.some.inj h9
    · have hyl : y < H.size := by rw [hR.1]; exact hy
      obtain ⟨c', w1, w2, w3, w4⟩ := z6 y H[y] (by rw [hheap]; exact Array.getElem?_eq_getElem hyl)
      have w1 : U.heap[y]? = some c' := w1
      rw [w1, Array.getElem?_eq_getElem hyl, sm_eqCell w2 w3 (fun i => w4 i (by intro q; cases q))]
  · rw [← hs'] at hWU hsame
    have := sm_rebased X hWU hsame
    rw [hmc, hms] at this
    exact this
end
section
/-! calls of methods that catch; calls that throw and are caught -/
section SMC
variable {p : Program} {l : Launch} {e : Env} {R : Room} {s : State} {m : MethodId} {args : Array Value} {below : List Frame} {meth : Method} {c : Code} {H : Heap} {locs : List Loc} {cells slots : Nat} {Q : State → Prop} {base : Nat} {D : va_G} {h h' : sm_H}
/-- the words of a method that catches -/
def xwc (j : Nat) : List Cond := Cond.codeWith (xmn j) (xcc j) (xml j) (xrt j) (xex j) :: Tg
theorem sm_withex {y : MethodName} {S : Spec} {cc : ByteArray} {ml : Nat} {rt : Option FieldType} {s₁ : State} (B : BodyLoose p l y S cc ml rt e s m args below meth c s₁) {bytes : ByteArray} {maxL : Nat} {ret : Option FieldType} {hh : List (Nat × Nat × Nat × Nat)} (h : (Cond.codeWith y bytes maxL ret hh).before args s = true) : c.exceptionTable.toList.map (fun h => (h.startPc, h.endPc, h.handlerPc, h.catchType)) = hh := by
  obtain ⟨m9, meth', c', hn9, hm', hc', -, -, hx, -⟩ := Cond.codeWith_spec h
  cases B.named.symm.trans hn9
  have hcd := B.here.code
  rw [State.code?_eq] at hcd
  have hvm : s₁.vm = s.vm := by rw [B.state]; rfl
  rw [hvm, hm'] at hcd
  have e1 : c' = c := Option.some.inj (hc'.symm.trans hcd)
  subst e1
  exact hx
theorem sm_metW {n : Nat} (hrd : sm_Road l Tg NW D base n) {j : Nat} (hm : sm_hlp j) {As : List Value} {v : Option Value} (hlen : (sm_fl As).length ≤ xml j) (hb0 : base ≤ hT h) (hrun : sm_run n j 0 (sm_en As (xml j)) [] h = some (0, v, h')) :
    Met l (xmn j) (xwc j) (sm_rm j (hT h' - hT h) (hU h' - hU h)) (sm_Pc D base NW As h) (sm_Qc D base v h') (hT h' - hT h) (hU h' - hU h) (fun q => base ≤ q) := by
  refine va_MetW (cc := xcc j) (maxL := xml j) (ret := xrt j) (hh := xex j) hm.2.1 rfl ?_
  intro p e s m args below meth c s₁ B hml hv
  obtain ⟨rfl, hR, hK, hnw, hX⟩ := hv
  have hts := atoms_spec (ws := xwc j) B.pre
  have hin : sm_In Tg NW D base j p s m As.toArray meth c := ⟨B.exec, B.bytes, hml, B.returns, B.notSynchronized, (name_of_methodNamed B.named B.method).1, findClass_of_methodNamed B.named, fun w hw => hts w (List.mem_cons_of_mem _ hw), hnw, hK, hX, ⟨_, hR.2.2.2.2.2⟩, fun _ => sm_withex B (hts _ List.mem_cons_self)⟩
  rw [lg_entry_eq]
  refine sm_Wm (fun t ht => ?_) (hrd j 0 _ [] h 0 v h' hrun p e s m As.toArray below meth c s.heap [] 0 0 _ _ _ hin (sm_entry As hlen) hR (fun q hq => by cases hq) hb0 (Nat.zero_add _) (Nat.zero_add _))
  obtain ⟨o, h1, h2, ⟨h3, h4⟩, L, h5, h6⟩ := ht
  exact ⟨o, h1, h2, ⟨h3, h4⟩, L, ⟨⟨v, h3⟩, h5.1, h5.2⟩, h6⟩
theorem xhelps {l : Launch} {D : va_G} {base : Nat} : sm_helps l Tg NW D base := by
  intro n hrd j j' pc x z mc ms S As r v h h1 p e s m args below meth c H locs cells slots ls Q hin hsz hR hf hb0 hx hcl hrun q1 q2 go
  obtain ⟨hexec, hb, hml, hret, hlocks, hmn, hown, hts, hnw, hK, hX, -, hexT⟩ := id hin
  obtain ⟨hdg, hlk, hk4, hroom⟩ : decode (xcc j) pc = .ok (.invokestatic x, 3) ∧ xlk xlM (xow j) x = some (z, 3) ∧ xkd z = 4 ∧ xroom j z = true := by
    unfold xat at hx
    split at hx
    · rename_i i len hd
      split at hx
      · rename_i hl
        split at hx
        · rename_i d' hxr
          cases hx
          have hlen : len = 3 := by
            rcases hl with q | q
            · cases q
            · exact q
          subst hlen
          replace hxr : (match xlk xlM (xow j) x with
            | some d => xif ((decide (d.2 < 2) && decide (xkd d.1 = 1) && xroom j d.1) || (decide (d.2 = 3) && decide (xkd d.1 = 4) && xroom j d.1) || ((decide (d.2 = 4) || decide (d.2 = 5)) && decide (1 ≤ xrk j) && decide (21 ≤ xrl j)) || (decide (d.2 = 6) && decide (3 ≤ xrk j) && decide (85 ≤ xrl j))) (some d)
            | none => none) = some (z, 3) := hxr
          split at hxr
          · rename_i d hd'
            obtain ⟨k1, k2⟩ := xif_some hxr
            cases k2
            simp only [Bool.or_eq_true, Bool.and_eq_true, decide_eq_true_eq] at k1
            rcases k1 with ((⟨⟨k1, -⟩, -⟩ | ⟨⟨-, k2⟩, k3⟩) | ⟨⟨k1, -⟩, -⟩) | ⟨⟨k1, -⟩, -⟩
            · omega
            · exact ⟨hd, hd', k2, k3⟩
            · omega
            · omega
          · cases hxr
        · cases hx
      · cases hx
    · cases hx
  have hlp := xh_ok z hk4
  have hlink : Cond.methodLink (xmn j).cls x (xmn z) ∈ Tg := (xM1 hlk).2.2.2.2.2 rfl
  have hrm := xroom_ok hroom
  unfold sm_cl at hcl
  dsimp only at hcl
  split at hcl
  · rename_i hq
    cases hcl
    have hM := sm_metW hrd hlp hq.2.2.2 hb0 hrun
    have hn : (S.take (xna j')).reverse.length = xna j' := by rw [List.length_reverse, List.length_take]; omega
    have hsk : S = (S.take (xna j')).reverse.reverse ++ S.drop (xna j') := by rw [List.reverse_reverse, List.take_append_drop]
    have hgd : ∀ w ∈ xwc j', w ∈ Tg ∧ sm_good w := by
      intro w hw
      have hw' : w ∈ Tg := by
        rcases List.mem_cons.mp hw with q | q
        · rw [q]; exact hlp.1
        · exact q
      exact ⟨hw', xst.2.1 w hw'⟩
    have hK9 : Back l (sm_rm j mc ms) p e below s args (xmn j') 3 8 (PreOf (sm_rm j mc ms) (hT h1 - hT h) (hU h1 - hU h) (sm_Pc D base NW (S.take (xna j')).reverse h)) (PostOf (sm_Qc D base v h1) (hT h1 - hT h) (hU h1 - hU h) (fun q => base ≤ q)) :=
      va_backW (hh := xex j') (bytes := xcc j') (maxL := xml j') (ret := xrt j') hM (sm_Pc_blind xst.2.2.1) rfl rfl hrm.1 hrm.2 (pay_in hts hgd) List.mem_cons_self (fun a' U hW => word_at hW (xst.2.1 _ hlp.2.2.2.2.2.1) (hts _ hlp.2.2.2.2.2.1))
    refine sm_back (H := H) (g := F0 m pc ls S) (rest := S.drop (xna j')) (a := (S.take (xna j')).reverse.toArray) (h' := h1) (D := D) (base := base) (v := v) ?_ hf go
    intro T eT X
    obtain ⟨mk, methM, cM, hnamed, hmethM, -, -, -, -, -, -, hsigM⟩ := Cond.codeWith_spec (hts _ hlp.1)
    have hstatic : methM.isStatic = true := Cond.static_spec hnamed hmethM (hts _ hlp.2.2.2.2.2.2)
    obtain ⟨kP, hkP, -⟩ := className_of_methodNamed hnamed
    have hinitP : kP.init = .initialized := Cond.initialized_spec (findClass_of_methodNamed hnamed) hkP (hts _ hlp.2.2.2.2.2.1)
    have hpl : (S.take (xna j')).reverse.length = methM.sig.parameters.length := by
      have h2 := hlp.2.2.2.2.1
      rw [hsigM] at h2
      rw [hn]
      exact (Option.some.inj h2).symm
    obtain ⟨vm₁, X₁, hstep₁⟩ := X.invokestatic hexec hown (hts _ hlink) hnamed hmethM hstatic hkP hinitP ⟨hlp.2.2.1, hlp.2.2.2.1⟩ (g := F0 m pc ls S) rfl (argsL := (S.take (xna j')).reverse) (rest := S.drop (xna j')) hpl hsk (by rw [hb]; exact hdg)
    obtain ⟨v', ⟨U', l2, c2, s2⟩, X', ⟨g', mk', t, L, e1, e2, hq9, w1, hL, w2, w3⟩, hsteps⟩ := hK9 m meth c ⟨T.setVm vm₁, locs, cells, slots⟩ (F0 m pc ls (S.drop (xna j'))) (.invokestatic x) mk (S.take (xna j')).reverse.toArray X₁ rfl (hsz.trans hml.symm) (by rw [hb]; exact hdg) (lv_room hq.2.2.1) (X₁.named hnamed) ⟨q1, q2, sm_Pc_at xst.2.2.1 hR hK hnw hX (T.setVm vm₁) eT X₁.warmed⟩
    dsimp only [Pt.U, Pt.locs, Pt.cells, Pt.slots] at X' e1 e2 w1 w2 w3 hsteps
    subst w1; subst w2; subst w3
    exact ⟨v', (T.setVm vm₁).calling g' mk' (S.take (xna j')).reverse.toArray, t, U', L, eT, X', hL, e1, e2, hq9, fun target hh => hstep₁ _ fun acts => by rw [doInvoke_state]; exact hsteps.trans hh⟩
  · cases hcl
end SMC
end
section
/-! a call that throws, and is caught -/
theorem sm_thrown : ∀ (n j pc : Nat) (L S : List Value) (h : sm_H) (k : Nat) (v : Option Value) (h' : sm_H), sm_run n j pc L S h = some (k + 1, v, h') → ∃ a, v = some (.ref a) ∧ hC h' a = 16 + k
  | 0, j, pc, L, S, h, k, v, h', r => by cases r
  | n + 1, j, pc, L, S, h, k, v, h', r => by
    have ih := sm_thrown n
    unfold sm_run at r
    split at r
    · cases r
    · split at r
      · cases r; exact ⟨_, rfl, if_pos rfl⟩
      split at r
      · exact ih _ _ _ _ _ _ _ _ r
      · split at r
        · rename_i C t f S' _
          by_cases hC : C
          · rw [if_pos hC] at r; exact ih _ _ _ _ _ _ _ _ r
          · rw [if_neg hC] at r; exact ih _ _ _ _ _ _ _ _ r
        · split at r
          · exact ih _ _ _ _ _ _ _ _ r
          · split at r
            · exact ih _ _ _ _ _ _ _ _ r
            · split at r
              · cases r
              · split at r
                · exact ih _ _ _ _ _ _ _ _ r
                · split at r
                  · exact ih _ _ _ _ _ _ _ _ r
                  · split at r
                    · exact ih _ _ _ _ _ _ _ _ r
                    · split at r
                      · split at r
                        · exact ih _ _ _ _ _ _ _ _ r
                        · split at r
                          · exact ih _ _ _ _ _ _ _ _ r
                          · cases r
                        · cases r
                      · cases r
section SMK
variable {E : CtlPost} {e : Env} {d : Bool} {acts : List Action} {U : State} {f : JFrame} {a : Addr} {Q : Handler → Pre}
/-- one entry that covers the place: its class is resolved, or is resolved now -/
theorem sm_go_cold {x : ExceptionTableEntry} {t : List ExceptionTableEntry} {cc : ClassId} {cell : Cell} (hx : covers x f.pc = true) (h0 : x.catchType ≠ 0) (hcl : U.vm.ClassLinks e.platform f.method.cls x.catchType cc) (hcell : U.heap[a]? = some cell) (hobj : ∀ k, cell.vm ≠ .statics k)
    (hk : ∃ k, (U.vm.noted f.method.cls x.catchType (.cls cc)).classes[cell.cls]? = some k) (hc : ∃ k, (U.vm.noted f.method.cls x.catchType (.cls cc)).classes[cc]? = some k) :
    wp (findHandler.go f a (x :: t)) Q E e d acts U ↔
      if (U.vm.noted f.method.cls x.catchType (.cls cc)).assignable cell.cls cc = true then Q (.found x.handlerPc) d acts (U.setVm (U.vm.noted f.method.cls x.catchType (.cls cc))) else wp (findHandler.go f a t) Q E e d acts (U.setVm (U.vm.noted f.method.cls x.catchType (.cls cc))) := by
  simp only [covers] at hx
  have hg := resolveClass_links e.toSetting hcl
  obtain ⟨ha, ht⟩ := hg.op (op := VmOp.resolveClass f.method.cls x.catchType) rfl
  have hsz : (U.vm.noted f.method.cls x.catchType (.cls cc)).classes.size ≤ U.vm.classes.size := by no_record
  generalize U.vm.noted f.method.cls x.catchType (.cls cc) = vm2 at *
  cases hfit : vm2.assignable cell.cls cc <;>
    simp [findHandler.go, hx, h0, ha, ht, hsz, hcell, hobj, hk, hc, hfit, VmOp.dirties, VmOp.acts]
theorem sm_catch_step {r : List Frame} {pc : Nat} {vm2 : Vm} (hfind : ∀ (Q : Handler → Pre) (E : CtlPost) (d : Bool) (acts : List Action), wp (findHandler f a) Q E e d acts U ↔ Q (.found pc) d acts (U.setVm vm2)) :
    (stepThrowing e U a (.java f :: r)).Is ((U.setVm vm2).setFrames (.java { f with pc := pc, stack := [.ref a] } :: r)) [] := by
  simp only [stepThrowing, searchFrame, vmDo]
  generalize hr : Sem.go _ e false [] U = res
  obtain ⟨as, rfl, ha⟩ := Sem.eq_ok_of hr (a := Handler.found pc) (s' := U.setVm vm2) (acts' := []) (by simp [hfind _ _ _ _])
  exact ⟨rfl, ha⟩
theorem sm_caught {tb : Tables} {T target : State} {g : JFrame} {c : Code} {below : List Frame} (h : At T g.method c below) {pc : Nat} {vm2 : Vm} (hfind : ∀ (Q : Handler → Pre) (E : CtlPost) (d : Bool) (acts : List Action), wp (findHandler g a) Q E e d acts ((T.setTop g).pushFrame (.throwing a)) ↔ Q (.found pc) d acts (((T.setTop g).pushFrame (.throwing a)).setVm vm2))
    (hrest : Steps tb e below ((T.setVm vm2).setTop { g with pc := pc, stack := [.ref a] }) target) : Steps tb e below ((T.setTop g).pushFrame (.throwing a)) target := by
  obtain ⟨hgo, hw⟩ := h.throwing a
  refine Steps.head hgo hw ?_
  rw [stepThread_throwing (frames_entered h.top _), (sm_catch_step (U := (T.setTop g).pushFrame (.throwing a)) hfind).1]
  obtain ⟨g₀, hg⟩ := Option.isSome_iff_exists.mp h.top
  obtain ⟨r, hr⟩ := State.topJava?_eq_some.mp hg
  have hr2 : (T.setVm vm2).frames = .java g₀ :: r := hr
  have e1 : (((T.setTop g).pushFrame (.throwing a)).setVm vm2).setFrames (.java { g with pc := pc, stack := [.ref a] } :: T.frames.tail) = (T.setVm vm2).setTop { g with pc := pc, stack := [.ref a] } := by
    rw [State.setTop_of_frames _ hr2, hr]
    show ((((T.setTop g).pushFrame (.throwing a)).setFrames _).setVm vm2) = ((T.setFrames _).setVm vm2)
    rw [State.pushFrame, State.setFrames_setFrames, State.setTop_of_frames _ hr, State.setFrames_setFrames]
    rfl
  rw [e1]
  exact hrest
end SMK
/-- the search through a catching method's table -/
theorem sm_search {s U : State} {e : Env} {f : JFrame} {a k : Nat} {cell : Cell} {args : Array Value} {D : va_G} (hpl : e.platform.magicAccessors = ({} : Platform).magicAccessors) (hown : s.vm.findClass "BuildingTextLaw" = some f.method.cls) (hts : ∀ w ∈ Tg, w.before args s = true) (hK : va_K D xcl [] s) (hX : sm_X s) (hcell : U.heap[a]? = some cell) (hobj : cell.vm = .none) {qk : vw_C} (hqk : xcl[k]? = some qk) (hcc : cell.cls = D.1 k) :
    ∀ (es : List ExceptionTableEntry) (ex hd : List (Nat × Nat × Nat × Nat)) (he : Nat × Nat × Nat × Nat), es.map (fun h => (h.startPc, h.endPc, h.handlerPc, h.catchType)) = ex → sm_ents ex hd → hd.find? (fun e => decide (e.1 ≤ f.pc) && decide (f.pc < e.2.1) && decide (e.2.2.2 = k)) = some he → ∀ vm : Vm, s.WarmedH vm →
      ∃ vm', s.WarmedH vm' ∧ ∀ (Q : Handler → Pre) (E : CtlPost) (d : Bool) (acts : List Action), wp (findHandler.go f a es) Q E e d acts (U.setVm vm) ↔ Q (.found he.2.2.1) d acts (U.setVm vm')
  | [], ex, hd, he, h1, h2, h3, vm0, hW => by
    cases h1
    cases hd with
    | nil => cases h3
    | cons _ _ => exact absurd h2 id
  | x :: es, ex, hd, he, h1, h2, h3, vm0, hW => by
    cases h1
    cases hd with
    | nil => exact absurd h2 id
    | cons f0 fs =>
      obtain ⟨⟨a1, a2, a3, a4, q, a5, a6⟩, hp, h2⟩ := h2
      dsimp only at a1 a2 a3 a4 a6
      by_cases hcv : covers x f.pc = true
      · obtain ⟨cc, hcc', hcl⟩ := Cond.classLink_spec hown (hts _ a6) e.platform hpl
        have hcl2 := hW.classLinks hcl
        obtain ⟨dk, _, _, kt, hdk, _, _, _, _, hkt, _, hopen⟩ := hcl.here
        have hW2 : s.WarmedH (vm0.noted f.method.cls x.catchType (.cls cc)) := hW.noted hdk hopen (State.rightAt_cls hcl)
        have hKk := (hK.1 k qk hqk).2.1
        obtain ⟨ks, hks, -⟩ := Vm.findClass_spec hKk
        obtain ⟨ks', hks', -⟩ := hW2.alike.2.2 _ _ hks
        obtain ⟨kt', hkt', -⟩ := hW2.alike.2.2 _ _ hkt
        have hgo := fun (Q : Handler → Pre) (E : CtlPost) (d : Bool) (acts : List Action) => sm_go_cold (U := U.setVm vm0) (f := f) (a := a) (e := e) (E := E) (d := d) (acts := acts) (Q := Q) (t := es) (cell := cell) hcv a4 hcl2 hcell (fun z => by rw [hobj]; exact fun w => by cases w) ⟨ks', by rw [hcc]; exact hks'⟩ ⟨kt', hkt'⟩
        by_cases hk : f0.2.2.2 = k
        · have hfe : he = f0 := by
            rw [List.find?_cons] at h3
            have hc1 : (decide (f0.1 ≤ f.pc) && decide (f.pc < f0.2.1) && decide (f0.2.2.2 = k)) = true := by
              simp only [covers, Bool.and_eq_true, decide_eq_true_eq] at hcv ⊢
              rw [← a1, ← a2]
              exact ⟨hcv, hk⟩
            rw [hc1] at h3
            exact (Option.some.inj h3).symm
          subst hfe
          refine ⟨_, hW2, fun Q E d acts => (hgo Q E d acts).trans ?_⟩
          have hqq : q = qk := by
            rw [hk, hqk] at a5
            exact (Option.some.inj a5).symm
          subst hqq
          have hcd : cc = D.1 k := Option.some.inj (hcc'.symm.trans hKk)
          have hasg : (vm0.noted f.method.cls x.catchType (.cls cc)).assignable cell.cls cc = true := by rw [hcc, hcd]; exact va_asg _ _
          rw [a3]
          exact iff_of_eq (if_pos hasg)
        · have h3' : fs.find? (fun e => decide (e.1 ≤ f.pc) && decide (f.pc < e.2.1) && decide (e.2.2.2 = k)) = some he := by
            rw [List.find?_cons] at h3
            have hc1 : (decide (f0.1 ≤ f.pc) && decide (f.pc < f0.2.1) && decide (f0.2.2.2 = k)) = false := by
              rw [decide_eq_false hk, Bool.and_false]
            rw [hc1] at h3
            exact h3
          have hmem := List.mem_of_find?_eq_some h3'
          have hpr := List.find?_some h3'
          simp only [Bool.and_eq_true, decide_eq_true_eq] at hpr
          have hpair := hp he hmem
          have n1 : xcn he.2.2.2 = qk.1 := by unfold xcn; rw [hpr.2, hqk]
          have n2 : xcn f0.2.2.2 = q.1 := by unfold xcn; rw [a5]
          rw [n1, n2] at hpair
          have hno := hX.2.1 _ hpair _ _ hKk hcc'
          obtain ⟨vm', g1, g2⟩ := sm_search hpl hown hts hK hX hcell hobj hqk hcc es _ fs he rfl h2 h3' (vm0.noted f.method.cls x.catchType (.cls cc)) hW2
          refine ⟨vm', g1, fun Q E d acts => (hgo Q E d acts).trans ?_⟩
          have hasg : ¬ (vm0.noted f.method.cls x.catchType (.cls cc)).assignable cell.cls cc = true := by
            rw [hW2.alike.assignable, hcc, hno]
            decide
          exact (iff_of_eq (if_neg hasg)).trans (g2 Q E d acts)
      · have hcf : covers x f.pc = false := by simpa using hcv
        have h3' : fs.find? (fun e => decide (e.1 ≤ f.pc) && decide (f.pc < e.2.1) && decide (e.2.2.2 = k)) = some he := by
          rw [List.find?_cons] at h3
          have hc1 : (decide (f0.1 ≤ f.pc) && decide (f.pc < f0.2.1) && decide (f0.2.2.2 = k)) = false := by
            simp only [covers] at hcf
            rw [← a1, ← a2, hcf, Bool.false_and]
          rw [hc1] at h3
          exact h3
        obtain ⟨vm', g1, g2⟩ := sm_search hpl hown hts hK hX hcell hobj hqk hcc es _ fs he rfl h2 h3' vm0 hW
        exact ⟨vm', g1, fun Q E d acts => (W.findHandler_go_skip hcf).trans (g2 Q E d acts)⟩
set_option maxHeartbeats 1000000 in
theorem xcatches {l : Launch} {D : va_G} {base : Nat} : sm_catches l Tg NW D base := by
  intro n hrd j j' pc k a hp mc ms i d S As r h h1 p e s m args below meth c H locs cells slots ls Q hin hsz hR hf hb0 hx hcl hrun hhd q1 q2 go
  obtain ⟨hexec, hb, hml, hret, hlocks, hmn, hown, hts, hnw, hK, hX, -, hexT⟩ := id hin
  obtain ⟨x, rfl, hhd⟩ : ∃ x, i = .invokevirtual x ∧ xhd j pc k = some hp := by
    unfold xhi at hhd
    split at hhd
    · exact ⟨_, rfl, hhd⟩
    · cases hhd
  replace hhd : xhd j pc k = some hp := hhd
  unfold xhd at hhd
  obtain ⟨he, hfd, hhp⟩ := Option.map_eq_some_iff.mp hhd
  have hne : xhds.getD j [] ≠ [] := fun z => by rw [z] at hfd; cases hfd
  have hk4 := xhd_kd j hne
  obtain ⟨hents, how⟩ := xe_ok j hk4
  obtain ⟨⟨len, hdg, hlen⟩, -, -, -, hc⟩ := xst.2.2.2 j pc _ d hx
  rw [hlen rfl] at hdg
  obtain ⟨c1, cm, c2, c3, ⟨q, hq1, hq2⟩, -⟩ := hc
  have hcls : (xmn j).cls = "BuildingTextLaw" := by
    show xon (xow j) = _
    rw [how]
    rfl
  rw [hcls] at hown
  have hlink : Cond.methodLink "BuildingTextLaw" x (xmn d.1) ∈ Tg := by
    unfold xat at hx
    split at hx
    · split at hx
      · split at hx
        · rename_i d' hxr
          cases hx
          replace hxr : (match xlk xlM (xow j) x with
            | some d => xif (decide (d.2 < 2) && decide (xkd d.1 = 0) && xroom j d.1) (some d)
            | none => none) = some d := hxr
          split at hxr
          · rename_i d2 hd'
            obtain ⟨k1, k2⟩ := xif_some hxr
            cases k2
            simp only [Bool.and_eq_true, decide_eq_true_eq] at k1
            rw [how] at hd'
            obtain ⟨ql, w1, w2⟩ := xlk_mem hd'
            cases w1
            exact xl14 _ w2 k1.1.1
          · cases hxr
        · cases hx
      · cases hx
    · cases hx
  unfold sm_cl at hcl
  dsimp only at hcl
  split at hcl
  · rename_i b r2 hdrop
    split at hcl
    · rename_i hq
      cases hcl
      have hn : (S.take (xna d.1)).reverse.length = xna d.1 := by rw [List.length_reverse, List.length_take]; omega
      have hsk : S = (S.take (xna d.1)).reverse.reverse ++ .ref b :: r := by rw [List.reverse_reverse, ← hdrop, List.take_append_drop]
      generalize hAs : (S.take (xna d.1)).reverse = As at *
      obtain ⟨cellB, kb1, kb2, kb3, -⟩ := hR.2.2.1 b _ q hq.2.1 hq1
      have hfc : s.vm.findClass (xmn d.1).cls = some cellB.cls := by rw [kb2, ← hq2]; exact (hK.1 _ q hq1).2.1
      intro T eT X
      obtain ⟨mk, methM, hnamed, hmethM, hstM, habM⟩ := Cond.instanceMethod_spec (hts _ c2)
      obtain ⟨methM', cM, hmethM', hcM, -, hlM, -, -, -, hsigM⟩ := Cond.code_spec hnamed (hts _ cm.1)
      cases hmethM.symm.trans hmethM'
      obtain ⟨c9, r9, m9, z1, z2, z3, z4, kP, hkP, hkPi⟩ := Cond.selects_spec (hts _ c3)
      cases hfc.symm.trans z1
      cases (State.methodFound?_of_named hnamed ⟨cm.2.2.1, cm.2.2.2.1⟩).symm.trans z2
      cases hnamed.symm.trans z3
      have hselP : selectMethod e.platform s.vm cellB.cls mk = .method mk := by rw [Launch.admits_selectMethod X.admits]; exact z4
      have hpl : As.length = methM.sig.parameters.length := by
        have h2 := cm.2.2.2.2.1
        rw [hsigM] at h2
        rw [hn]
        exact (Option.some.inj h2).symm
      obtain ⟨vm₁, X₁, hstep₁⟩ := X.invokevirtual hexec hown (hts _ hlink) hnamed hmethM hstM hkP hkPi ⟨cm.2.2.1, cm.2.2.2.1⟩ (a := b) (cell := cellB) (by rw [eT]; exact kb1)
        (fun z hz => by rw [kb3] at hz; cases hz) hselP hmethM habM hkP hkPi (g := F0 m pc ls S) rfl (argsL := As) (rest := r) hpl hsk (by rw [hb]; exact hdg)
      have hM : MetFree l (xmn d.1) (headSpec (xws Tg d.1) (sm_rm d.1 (hT h1 - hT h) (hU h1 - hU h))) (sm_Pc D base NW (.ref b :: As) h) (fun _ _ _ _ _ => True) (fun a0 st o t => (o = .threw a ∧ sm_R D base t h1 t.heap) ∧ ∃ L, sm_FE st t L (hT h1 - hT h) (hU h1 - hU h) ∧ ∀ q ∈ L, base ≤ q.base) := by
        refine MetFree.of_bodyS (code := xcc d.1) (maxLocals := xml d.1) (ret := xrt d.1) cm.2.1 ?_ ?_
        · intro args s m hpre hnm
          obtain ⟨meth, c, g1, g2, g3, g4, g5, g6, -⟩ := Cond.code_spec hnm (atoms_spec (ws := xws Tg d.1) hpre _ List.mem_cons_self)
          exact ⟨meth, c, g1, g2, g3, g4, g5, g6⟩
        · intro p e s m args below meth c s₁ B hml hv _
          obtain ⟨rfl, hR, hK, hnw, hX⟩ := hv
          have hts := atoms_spec (ws := xws Tg d.1) B.pre
          have hin : sm_In Tg NW D base d.1 p s m (Value.ref b :: As).toArray meth c := ⟨B.exec, B.bytes, hml, B.returns, B.notSynchronized, (name_of_methodNamed B.named B.method).1, findClass_of_methodNamed B.named, fun w hw => hts w (List.mem_cons_of_mem _ hw), hnw, hK, hX, ⟨_, hR.2.2.2.2.2⟩, fun _ => by rw [sm_noex B (hts _ List.mem_cons_self), cm.2.2.2.2.2.2]; rfl⟩
          have hw := hrd d.1 0 _ [] h (k + 1) (some (.ref a)) h1 hrun p e s m (Value.ref b :: As).toArray below meth c s.heap [] 0 0 _ _ _ hin (sm_entry (.ref b :: As) hq.2.2.2) hR (fun q hq => by cases hq) hb0 (Nat.zero_add _) (Nat.zero_add _)
          have hh0 : s₁.heap = s.heap := by rw [B.state]; rfl
          obtain ⟨t, st, o, g1, g2, ⟨⟨a', g3, g4⟩, g5⟩, L, g6, g7⟩ := hw s₁ hh0 (Stand.of_body B)
          cases g3
          rw [lg_entry_eq]
          exact ⟨t, o, st, g1, g2, ⟨g4, g5⟩, L, g6, g7⟩
      have hnm₁ : (T.setVm vm₁).methodNamed? (xmn d.1) = some mk := X₁.named hnamed
      obtain ⟨kY, hkY, -⟩ := className_of_methodNamed hnm₁
      have hgd : ∀ w ∈ xws Tg d.1, w ∈ Tg ∧ sm_good w := by
        intro w hw
        have hw' : w ∈ Tg := sm_inX cm.1 w hw
        exact ⟨hw', xst.2.1 w hw'⟩
      have hwords := pay_in hts hgd
      have hinitY : kY.init = .initialized := Cond.initialized_spec (findClass_of_methodNamed hnm₁) hkY (hwords _ (List.mem_cons_of_mem _ cm.2.2.2.2.2.1) #[] (T.setVm vm₁) X₁.warmed)
      have hmY : (T.setVm vm₁).vm.method? mk = some methM := by
        rw [X₁.warmed.alike.method?]
        exact hmethM
      have hat : At (T.setVm vm₁) (F0 m pc ls r).method c below := X₁.here
      have happ : (headSpec (xws Tg d.1) (sm_rm d.1 (hT h1 - hT h) (hU h1 - hU h))).appliesLoose (xmn d.1) e.platform ((T.setVm vm₁).calling (F0 m pc ls r) mk (Value.ref b :: As).toArray) = true :=
        Spec.appliesLoose_calling (g := F0 m pc ls r) hat (by rw [hb]; exact hdg) hnm₁ hkY hinitY
          (X₁.room_calling (g := F0 m pc ls r) (R' := sm_rm d.1 (hT h1 - hT h) (hU h1 - hU h)) (hsz.trans hml.symm) hmY hcM c1.1 (by rw [hlM]; have c12 := c1.2; have c13 := hq.2.2.1; show 2 * 0 + (r.map fun v => v.category).sum + (xml d.1 + 11) + xrl d.1 ≤ xrl j; omega) q1 q2)
          (atoms_intro fun w hw => hwords w hw _ _ X₁.warmed)
      obtain ⟨mid, hmid⟩ := hat.above
      have hfr : ((T.setVm vm₁).setTop (F0 m pc ls r)).frames = (.java (F0 m pc ls r) :: mid) ++ below := by rw [State.frames_setTop' _ hat.top, hmid]; rfl
      obtain ⟨o, s₂, hsteps, -, hend, ⟨ho, hR1⟩, L, hfe, hL⟩ := Steps.callFree hM p X.admits X.cas X.clock (acts := []) hfr happ ((sm_Pc_blind xst.2.2.1) _ _ _ _ (sm_Pc_at xst.2.2.1 hR hK hnw hX (T.setVm vm₁) eT X₁.warmed)) trivial
      subst ho
      have htl : (T.setVm vm₁).frames.tail = below := X₁.tail
      rw [State.frames_setTop' _ hat.top, htl] at hend
      obtain ⟨T', X', hWT, -, ht⟩ := X₁.outOfThrown (g := F0 m pc ls r) rfl hend hfe.1 hfe.2
      have hheap : s₂.heap = T'.heap := by rw [ht]; exact Stand.throwing_heap _ _ _
      have hvm : s₂.vm = T'.vm := by rw [ht]; exact Stand.throwing_vm _ _ _
      have hRs : sm_R D base s h1 T'.heap := by
        rw [← hheap]
        refine hR1.moved ?_
        rw [hvm]
        exact X'.warmed.alike.symm
      obtain ⟨a', ea, hka⟩ := sm_thrown n d.1 0 _ [] h k _ h1 hrun
      cases ea
      have hlk : he.2.2.2 = k := by
        have := List.find?_some hfd
        simp only [Bool.and_eq_true, decide_eq_true_eq] at this
        exact this.2
      obtain ⟨qk, hqk⟩ : ∃ qk, xcl[k]? = some qk := by
        have hmem := List.mem_of_find?_eq_some hfd
        have : ∀ (ex hd : List (Nat × Nat × Nat × Nat)), sm_ents ex hd → ∀ e ∈ hd, ∃ q, xcl[e.2.2.2]? = some q := by
          intro ex hd
          induction hd generalizing ex with
          | nil => intro _ e he; cases he
          | cons f0 fs ih =>
            intro hh e he
            cases ex with
            | nil => exact absurd hh id
            | cons e0 es =>
              obtain ⟨⟨-, -, -, -, q, w5, -⟩, -, w2⟩ := hh
              rcases List.mem_cons.mp he with z | z
              · rw [z]; exact ⟨q, w5⟩
              · exact ih es w2 e z
        rw [← hlk]
        exact this _ _ hents he hmem
      obtain ⟨ce, w1, w2, w3, -⟩ := hRs.2.2.1 a k qk hka hqk
      have hj9 : j < 169 := by
        rcases Nat.lt_or_ge j 169 with z | z
        · exact z
        · exfalso
          rcases Nat.lt_or_ge j 170 with y | y
          · have : j = 169 := by omega
            subst this
            exact absurd hk4 (by decide)
          · exact absurd hk4 (by unfold xkd; rw [List.getD_eq_getElem?_getD, List.getElem?_eq_none (by show xkds.length ≤ j; exact y)]; decide)
      have hplat : e.platform.magicAccessors = ({} : Platform).magicAccessors := by rw [X.admits.platform]
      obtain ⟨vm', g1, g2⟩ := sm_search (U := (T'.setTop (F0 m pc ls r)).pushFrame (.throwing a)) (f := F0 m pc ls r) (a := a) (k := k) (cell := ce) hplat hown hts hK hX (by rw [Stand.throwing_heap]; exact w1) w3 hqk w2 c.exceptionTable.toList _ _ he (hexT hj9) hents hfd T'.vm X'.warmed
      have hmeth : ((T'.setTop (F0 m pc ls r)).pushFrame (.throwing a)).vm.method? (F0 m pc ls r).method = some meth := by
        rw [Stand.throwing_vm, X'.warmed.alike.method?]
        exact X'.method
      have hself : ((T'.setTop (F0 m pc ls r)).pushFrame (.throwing a)).setVm T'.vm = (T'.setTop (F0 m pc ls r)).pushFrame (.throwing a) := by
        have := Stand.throwing_vm T' (F0 m pc ls r) a
        conv => rhs; rw [show (T'.setTop (F0 m pc ls r)).pushFrame (.throwing a) = ((T'.setTop (F0 m pc ls r)).pushFrame (.throwing a)).setVm ((T'.setTop (F0 m pc ls r)).pushFrame (.throwing a)).vm from rfl, this]
      rw [hself] at g2
      obtain ⟨tt, st, hQ⟩ := go T'.heap (locs ++ L) hRs (fun q hq => by
        rcases List.mem_append.mp hq with z | z
        · exact hf q z
        · exact hL q z) (T'.setVm vm') rfl (X'.noted g1)
      refine ⟨tt, hstep₁ _ fun acts => ?_, hQ⟩
      rw [doInvoke_state]
      refine hsteps.trans ?_
      rw [ht]
      rw [← hhp] at st
      exact sm_caught (g := F0 m pc ls r) X'.here (fun Q E d acts => (W.findHandler_eq hmeth X'.code).trans (g2 Q E d acts)) st
    · cases hcl
  · cases hcl
end
section
/-! Arrays.copyOf of references -/
def cp3n : MethodName := ⟨"java/util/Arrays", "copyOf", "([Ljava/lang/Object;ILjava/lang/Class;)[Ljava/lang/Object;"⟩
def cpT : FieldType := .array (.object "java/lang/Object")
def cp2w : List Cond := Cond.code sm_cname prog_28_method_119_code 2 (some cpT) :: Tg
def cp3w : List Cond := Cond.code cp3n prog_28_method_120_code 4 (some cpT) :: Tg
def cp3P (D : va_G) (base : Nat) (a : Nat) (n : Int32) (mi : Nat) (h : sm_H) : Array Value → State → Prop := fun v U => sm_Pc D base NW [.ref a, .int n, .ref mi] h v U ∧ va_Mi "[Ljava/lang/Object;" mi U
theorem cp3P_blind {D : va_G} {base a mi : Nat} {n : Int32} {h : sm_H} : FrameBlind (cp3P D base a n mi h) := by
  intro v U g mk hp
  exact ⟨sm_Pc_blind xst.2.2.1 v U g mk hp.1, va_Mi.moved (u := U) (U := U.calling g mk v) (Vm.Alike.refl U.vm) hp.2⟩
theorem nI_hL {h : sm_H} {a : Nat} {n : Int32} (hn : ¬ n < 0) (hle : hL h a ≤ n.toNatClampNeg) : (if n < nI (hL h a) then n else nI (hL h a)) = nI (hL h a) ∧ (nI (hL h a)).toNatClampNeg = hL h a ∧ ¬ nI (hL h a) < 0 := by
  have hb : n.toNatClampNeg < 2 ^ 31 := by
    have := n.toInt_lt
    show n.toInt.toNat < _
    omega
  have hlt : hL h a < 2 ^ 31 := by omega
  have e1 := nI_clamp hlt
  refine ⟨?_, e1, nI_pos hlt⟩
  rw [if_neg]
  intro z
  have z1 := Int32.lt_iff_toInt_lt.mp z
  have z2 : (nI (hL h a)).toInt.toNat = hL h a := e1
  have z3 : n.toInt.toNat = n.toNatClampNeg := rfl
  have z4 : 0 ≤ n.toInt := by
    have := Int32.not_lt.mp hn
    simpa using Int32.le_iff_toInt_le.mp this
  omega
/-- an array's places are written anew -/
theorem sm_R.setAll {D : va_G} {base : Nat} {U : State} {h : sm_H} {H H1 : Heap} (hR : sm_R D base U h H) {a : Nat} {g : Nat → Value} {cA : ClassId} {ty : FieldType} (h15 : ¬ sm_ro (hC h a)) (ht : sm_ty (hC h a) = some ty) (hA1 : ArrOfT U cA ty) (hA2 : va_RA U cA ty)
    (e1 : H1[a]? = some (arrV cA (hL h a) g)) (e2 : H1.size = H.size) (e3 : ∀ q, q ≠ a → H1[q]? = H[q]?) : sm_R D base U (hT h, hU h, hC h, hL h, hF h, fun b j => if b = a then g j else hA h b j, hZ h) H1 := by
  obtain ⟨r1, r2, r3, r4, r5, r6⟩ := hR
  have hba : base ≤ a := r2 a (fun z => by rw [z] at ht; cases ht) h15
  refine ⟨e2.trans r1, r2, fun b ci q hb hq => ?_, fun b ty' hb hb' => ?_, fun b ty' hb hb' => ?_, sm_Zk r6 hba e3 (sm_arS e1)⟩
  · replace hb : hC h b = 16 + ci := hb
    have hne : b ≠ a := by
      intro e
      subst e
      rw [hb] at ht
      unfold sm_ty at ht
      split at ht <;> first | omega | cases ht
    exact (r3 b ci q hb hq).kept (e3 b hne)
  · replace hb : ¬ sm_ro (hC h b) := hb
    replace hb' : sm_ty (hC h b) = some ty' := hb'
    by_cases e : b = a
    · subst e
      rw [ht] at hb'
      cases hb'
      refine ⟨cA, hA1, hA2, e1.trans ?_⟩
      congr 2
      funext j
      show g j = if b = b then g j else hA h b j
      rw [if_pos rfl]
    · obtain ⟨cB, k1, k2, k3⟩ := r4 b ty' hb hb'
      refine ⟨cB, k1, k2, (e3 b e).trans (k3.trans ?_)⟩
      congr 2
      funext j
      show hA h b j = if b = a then g j else hA h b j
      rw [if_neg e]
  · replace hb : sm_ro (hC h b) := hb
    have e : b ≠ a := fun q => h15 (q ▸ hb)
    obtain ⟨cell, k1, k2, k3, k4, k5⟩ := r5 b ty' hb hb'
    refine ⟨cell, (e3 b e).trans k1, k2, k3, k4, fun j hj => (k5 j hj).trans ?_⟩
    show some (hA h b j) = some (if b = a then g j else hA h b j)
    rw [if_neg e]
set_option maxHeartbeats 1000000 in
theorem cp3 {l : Launch} {D : va_G} {base a mi : Nat} {n : Int32} {h : sm_H} (hCa : hC h a = 7) (hn0 : ¬ n < 0) (hle : hL h a ≤ n.toNatClampNeg) (hbig : n.toNatClampNeg * 4 ≤ 536870912) (hel : cpE h a) (hb0 : base ≤ hT h) :
    Met l cp3n cp3w { frames := 1, cells := 1, slots := n.toNatClampNeg, locals := 41 } (cp3P D base a n mi h) (sm_Qc D base (some (.ref (hT h))) (cpA h a n.toNatClampNeg)) 1 n.toNatClampNeg (fun q => base ≤ q) := by
  refine Met.ofW (cc := prog_28_method_120_code) (maxL := 4) (ret := some cpT) (by decide +kernel) rfl ?_
  intro p e s m args below meth c s₁ B hml hv
  obtain ⟨⟨rfl, hR, hK, hnw, hX⟩, hMi⟩ := hv
  have hts0 := atoms_spec (ws := cp3w) B.pre
  have hts : ∀ w ∈ Tg, w.before _ s = true := fun w hw => hts0 w (List.mem_cons_of_mem _ hw)
  have hexec := B.exec
  have hb := B.bytes
  have hown : s.vm.findClass "java/util/Arrays" = some m.cls := findClass_of_methodNamed B.named
  have hname : meth.name = "copyOf" := (name_of_methodNamed B.named B.method).1
  obtain ⟨k1, k2, k3⟩ := nI_hL hn0 hle
  rw [lg_entry_eq]
  have hl := sm_entry [.ref a, .int n, .ref mi] (n := 4) (Nat.le_of_ble_eq_true rfl)
  replace hl : sm_lc _ 4 [.ref a, .int n, .ref mi, jk] := hl
  generalize (lg_sl [Value.ref a, .int n, .ref mi] ++ List.replicate (4 - (lg_sl [Value.ref a, .int n, .ref mi]).length) Slot.unset).toArray = ls at hl ⊢
  refine sm_pure (i := .aload_n 2) (d := (0, 0)) hexec hb (by decide +kernel) trivial hl rfl (fun ls hl => ?_)
  refine va_ldcM (pc := 1) hexec hb hown (hts _ tw_144) hMi (by decide +kernel) ?_
  refine sm_branch (pc := 3) (i := .if_acmp .ne 10) (d := (13, 0)) hexec hb (by decide +kernel) rfl rfl (fun z => absurd rfl z) (fun _ => ?_)
  refine sm_pure (pc := 6) (i := .iload_n 1) (d := (0, 0)) hexec hb (by decide +kernel) trivial hl rfl (fun ls hl => ?_)
  have hs7 : sm_hp (.anewarray 2) (0, 0) [.int n] h = some ([.ref (hT h)], newA h 7 n.toNatClampNeg .null) := if_pos ⟨hn0, hbig⟩
  have w1 : hT (newA h 7 n.toNatClampNeg .null) - hT h = 1 := by show hT h + 1 - hT h = 1; omega
  have w2 : hU (newA h 7 n.toNatClampNeg .null) - hU h = n.toNatClampNeg := by show hU h + n.toNatClampNeg - hU h = _; omega
  refine sm_heap (pc := 7) (i := .anewarray 2) (d := (0, 0)) (own := "java/util/Arrays") hexec hb hts hnw xst.1 hown hK hR (by decide +kernel) ⟨tw_146, xao⟩ hs7 (fun q hq => by cases hq) hb0 (by rw [w1]; exact Nat.le_refl 1) (by rw [w2, Nat.zero_add]; exact Nat.le_refl _) (fun H1 locs1 hR1 hf1 => ?_)
  rw [w1, w2]
  generalize hh1 : newA h 7 n.toNatClampNeg .null = h1 at hR1
  have c1 : hC h1 (hT h) = 7 := by rw [← hh1]; exact if_pos rfl
  have hne : a ≠ hT h := by
    intro z
    have := (hR.lt (a := a)).2 (.object "java/lang/Object") (by rw [hCa]; rfl)
    rw [hR.1] at this
    omega
  have c2 : hC h1 a = 7 := by rw [← hh1]; exact (if_neg hne).trans hCa
  have l1 : hL h1 a = hL h a := by rw [← hh1]; exact if_neg hne
  have l2 : hL h1 (hT h) = n.toNatClampNeg := by rw [← hh1]; exact if_pos rfl
  have a1 : hA h1 a = hA h a := by rw [← hh1]; funext j; exact if_neg hne
  refine sm_branch (pc := 10) (i := .goto 14) (d := (24, 0)) hexec hb (by decide +kernel) rfl rfl (fun _ => ?_) (fun z => absurd trivial z)
  refine sm_pure (pc := 24) (i := .astore_n 3) (d := (0, 0)) hexec hb (by decide +kernel) trivial hl rfl (fun ls hl => ?_)
  replace hl : sm_lc ls 4 [.ref a, .int n, .ref mi, .ref (hT h)] := hl
  refine sm_pure (pc := 25) (i := .aload_n 0) (d := (0, 0)) hexec hb (by decide +kernel) trivial hl rfl (fun ls hl => ?_)
  refine sm_pure (pc := 26) (i := .iconst 0) (d := (0, 0)) hexec hb (by decide +kernel) rfl hl rfl (fun ls hl => ?_)
  refine sm_pure (pc := 27) (i := .aload_n 3) (d := (0, 0)) hexec hb (by decide +kernel) trivial hl rfl (fun ls hl => ?_)
  refine sm_pure (pc := 28) (i := .iconst 0) (d := (0, 0)) hexec hb (by decide +kernel) rfl hl rfl (fun ls hl => ?_)
  refine sm_pure (pc := 29) (i := .aload_n 0) (d := (0, 0)) hexec hb (by decide +kernel) trivial hl rfl (fun ls hl => ?_)
  have hs30 : sm_hp .arraylength (0, 0) [.ref a, .int (sm_k (0, 0)), .ref (hT h), .int (sm_k (0, 0)), .ref a] h1 = some ([.int (nI (hL h1 a)), .int (sm_k (0, 0)), .ref (hT h), .int (sm_k (0, 0)), .ref a], h1) := if_pos (by rw [c2]; rfl)
  refine sm_heap (pc := 30) (i := .arraylength) (d := (0, 0)) (own := "java/util/Arrays") hexec hb hts hnw xst.1 hown hK hR1 (by decide +kernel) trivial hs30 hf1 (by rw [← hh1]; exact Nat.le_succ_of_le hb0) (by rw [Nat.sub_self]; exact Nat.le_refl 1) (by rw [Nat.sub_self, Nat.zero_add]; exact Nat.le_refl _) (fun H2 locs2 hR2 hf2 => ?_)
  rw [Nat.sub_self, Nat.sub_self, l1]
  refine sm_pure (pc := 31) (i := .iload_n 1) (d := (0, 0)) hexec hb (by decide +kernel) trivial hl rfl (fun ls hl => ?_)
  refine va_mmin (pc := 32) hexec hb (hml.trans hl.2.1.symm) hown (hts _ tw_147) (hts _ tw_148) (hts _ xmath.1) (hts _ tw_149) (Nat.le_refl 1) (by show 1 + (1 + (1 + (1 + 0))) + 13 ≤ 41; decide) (Nat.le_refl _) (by show 0 + n.toNatClampNeg + 0 ≤ n.toNatClampNeg; omega) (by decide +kernel) ?_
  rw [k1]
  intro T eT X
  obtain ⟨cA, x1, x2, x3⟩ := hR2.2.2.2.1 a (.object "java/lang/Object") (by rw [c2]; decide) (by rw [c2]; rfl)
  obtain ⟨cB, y1, y2, y3⟩ := hR2.2.2.2.1 (hT h) (.object "java/lang/Object") (by rw [c1]; decide) (by rw [c1]; rfl)
  rw [l1, a1] at x3
  rw [l2] at y3
  obtain ⟨kA, compA, u1, u2, u3, -⟩ := id x2
  obtain ⟨kB, compB, v1, v2, v3, -⟩ := id y2
  have d35 : decode prog_28_method_120_code 35 = .ok (.invokestatic 150, 3) := by decide +kernel
  have hk0 : (0 : Int32).toNatClampNeg = 0 := by decide
  obtain ⟨vm', X', step⟩ := X.arraycopy hexec hown (hts _ tw_150) (hts _ tw_152) (hts _ tw_151) (hts _ tw_9) (src := a) (dst := hT h) (cs := arrV cA (hL h a) (hA h a)) (cd := arrV cB n.toNatClampNeg (hA h1 (hT h))) (srcPos := 0) (destPos := 0) (n := nI (hL h a)) (by rw [eT]; exact x3) (by rw [eT]; exact y3)
    (fun _ w => by cases w) (fun _ w => by cases w) (fun w => by cases w) (fun w => by cases w) u1 v1 u2 v2 rfl (by decide) (by decide) k3
    (by rw [arrV_size]; have q : (nI (hL h a)).toInt.toNat = hL h a := k2; have q2 : (0 : Int32).toInt = 0 := by decide
        omega)
    (by rw [arrV_size]; have q : (nI (hL h a)).toInt.toNat = hL h a := k2; have q2 : (0 : Int32).toInt = 0 := by decide
        omega)
    (fun vm₁ hal i hi => by
      rw [k2] at hi
      have e9 : (arrV cA (hL h a) (hA h a)).slots.getD ((0 : Int32).toNatClampNeg + i) .null = hA h a i := by
        rw [hk0, Nat.zero_add, Array.getD_eq_getD_getElem?, arrV_read _ _ hi]
        rfl
      rw [e9]
      rcases hel i hi with q | ⟨b, q, q1, q2⟩
      · rw [q]; exact ⟨rfl, trivial⟩
      · rw [q]
        obtain ⟨ci, hci⟩ : ∃ ci, hC h b = 16 + ci := ⟨hC h b - 16, by omega⟩
        have hlt : ci < xob := by omega
        obtain ⟨qq, hqq⟩ : ∃ q, xcl[ci]? = some q := ⟨_, List.getElem?_eq_getElem (Nat.lt_of_lt_of_le hlt xob_le)⟩
        have hbT : b ≠ hT h := by
          intro z
          have := (hR.lt (a := b)).1 ci qq hci hqq
          rw [hR.1] at this
          exact absurd z (Nat.ne_of_lt this)
        have hci1 : hC h1 b = 16 + ci := by rw [← hh1]; exact (if_neg hbT).trans hci
        obtain ⟨cellV, g1, g2, g3, -⟩ := hR2.2.2.1 b ci qq hci1 hqq
        have hcls := (hK.1 ci qq hqq).2
        obtain ⟨c0, t1, f1, f2, f3⟩ := Cond.castable_spec (va_Nw.use (A := #[Value.ref a, .int n, .ref mi]) rfl (hnw _ (xcast_ok ci qq hlt hqq)))
        cases hcls.1.symm.trans f1
        cases v3.symm.trans f2
        obtain ⟨kC, hkC, -⟩ := hcls.2
        obtain ⟨kE, hkE, -⟩ := Vm.findClass_spec v3
        obtain ⟨kC', hkC', -⟩ := hal.2.2 _ _ hkC
        obtain ⟨kE', hkE', -⟩ := hal.2.2 _ _ hkE
        refine ⟨rfl, cellV, (show T.heap[b]? = some cellV by rw [eT]; exact g1), (fun q w => by rw [g3] at w; cases w), ⟨kC', by rw [g2]; exact hkC'⟩, ⟨kE', hkE'⟩, ?_⟩
        show vm₁.assignable _ _ = true
        rw [hal.assignable, g2]
        exact f3)
    (g := F0 m 35 ls [.int (nI (hL h a)), .int 0, .ref (hT h), .int 0, .ref a]) rfl (by rw [hml]; exact hl.2.1) (rest := []) rfl (by rw [hb]; exact d35) (Nat.le_refl 1) (by show 2 * 0 + 0 + (nativeFrameWords "java/lang/System" "arraycopy" 5 + 11) ≤ 41; decide)
  have e1 : copied (arrV cA (hL h a) (hA h a)) (arrV cB n.toNatClampNeg (hA h1 (hT h))) 0 0 (nI (hL h a)) = arrV cB n.toNatClampNeg (va_cpy (hA h a) (hA h1 (hT h)) 0 0 (hL h a)) := by
    have := va_copied (fun v : Value => v) cA cB (n0 := hL h a) (n1 := n.toNatClampNeg) (sp := 0) (dp := 0) (n := hL h a) (hA h a) (hA h1 (hT h)) (by omega)
    rw [← this]
    unfold copied
    rw [hk0, k2]
  rw [e1] at X' step
  generalize hW : (T.setVm vm').setCell (hT h) (arrV cB n.toNatClampNeg (va_cpy (hA h a) (hA h1 (hT h)) 0 0 (hL h a))) = T3 at X' step
  have hlt : hT h < H2.size := (Array.getElem?_eq_some_iff.mp y3).1
  have hheap : T3.heap = H2.setIfInBounds (hT h) (arrV cB n.toNatClampNeg (va_cpy (hA h a) (hA h1 (hT h)) 0 0 (hL h a))) := by rw [← hW, ← eT]; rfl
  have hR3 : sm_R D base s (cpA h a n.toNatClampNeg) T3.heap := by
    have := hR2.setAll (a := hT h) (g := va_cpy (hA h a) (hA h1 (hT h)) 0 0 (hL h a)) (H1 := T3.heap) (by rw [c1]; decide) (by rw [c1]; rfl) y1 y2 (by rw [hheap, l2]; simp [Array.getElem?_setIfInBounds, hlt]) (by rw [hheap]; simp) (fun q hq => by rw [hheap]; simp [Array.getElem?_setIfInBounds, Ne.symm hq])
    have e5 : (hT h1, hU h1, hC h1, hL h1, hF h1, fun b j => if b = hT h then va_cpy (hA h a) (hA h1 (hT h)) 0 0 (hL h a) j else hA h1 b j, hZ h1) = cpA h a n.toNatClampNeg := by
      subst hh1
      unfold cpA
      refine congrArg (fun z => (hT h + 1, hU h + n.toNatClampNeg, (fun b => if b = hT h then 7 else hC h b), (fun b => if b = hT h then n.toNatClampNeg else hL h b), hF h, z, hZ h)) ?_
      funext b j
      by_cases hbb : b = hT h
      · rw [if_pos hbb, if_pos hbb]
        unfold va_cpy
        by_cases hj : j < hL h a
        · rw [if_pos ⟨Nat.zero_le _, by omega⟩, if_pos hj, Nat.zero_add, Nat.sub_zero]
        · rw [if_neg (fun z => hj (by omega)), if_neg hj]
          exact if_pos rfl
      · rw [if_neg hbb, if_neg hbb]
        exact if_neg hbb
    rw [e5] at this
    exact this
  have hend : W p l e (headSpec cp3w { frames := 1, cells := 1, slots := n.toNatClampNeg, locals := 41 }).room s m #[Value.ref a, .int n, .ref mi] below meth c T3.heap (locs2 ++ ((arrV cA (hL h a) (hA h a)).stretch (0 : Int32).toNatClampNeg (nI (hL h a)).toNatClampNeg).zipIdx.map fun q => ⟨hT h, (0 : Int32).toNatClampNeg + q.2⟩) 1 (0 + n.toNatClampNeg)
      (MQ below (sm_Qc D base (some (.ref (hT h))) (cpA h a n.toNatClampNeg)) #[Value.ref a, .int n, .ref mi] s 1 n.toNatClampNeg (fun q => base ≤ q)) (F0 m 38 ls []) := by
    refine sm_pure (pc := 38) (i := .aload_n 3) (d := (0, 0)) hexec hb (by decide +kernel) trivial hl rfl (fun ls hl => ?_)
    rw [Nat.zero_add]
    refine sm_return (pc := 39) (i := .areturn) (ret := some cpT) (v := some (.ref (hT h))) (Qc := sm_Qc D base (some (.ref (hT h))) (cpA h a n.toNatClampNeg)) (free := fun q => base ≤ q) hexec hb (by decide +kernel) B.returns rfl B.notSynchronized (fun t ht hW => ⟨rfl, by rw [ht]; exact hR3.moved hW.alike⟩) (fun q hq => ?_)
    rcases List.mem_append.mp hq with z | z
    · exact hf2 q z
    · obtain ⟨y, -, hy⟩ := List.mem_map.mp z
      rw [← hy]
      exact hb0
  obtain ⟨t, st, hQ⟩ := hend T3 rfl X'
  exact ⟨t, step t st, hQ⟩
set_option maxHeartbeats 1000000 in
theorem cp2 {l : Launch} {D : va_G} {base a : Nat} {n : Int32} {h : sm_H} (hCa : hC h a = 7) (hn0 : ¬ n < 0) (hle : hL h a ≤ n.toNatClampNeg) (hbig : n.toNatClampNeg * 4 ≤ 536870912) (hel : cpE h a) (hb0 : base ≤ hT h) :
    Met l sm_cname cp2w { frames := 2, cells := 1, slots := n.toNatClampNeg, locals := 64 } (sm_Pc D base NW [.ref a, .int n] h) (sm_Qc D base (some (.ref (hT h))) (cpA h a n.toNatClampNeg)) 1 n.toNatClampNeg (fun q => base ≤ q) := by
  refine Met.ofW (cc := prog_28_method_119_code) (maxL := 2) (ret := some cpT) (by decide +kernel) rfl ?_
  intro p e s m args below meth c s₁ B hml hv
  obtain ⟨rfl, hR, hK, hnw, hX⟩ := hv
  have hts0 := atoms_spec (ws := cp2w) B.pre
  have hts : ∀ w ∈ Tg, w.before _ s = true := fun w hw => hts0 w (List.mem_cons_of_mem _ hw)
  have hexec := B.exec
  have hb := B.bytes
  have hown : s.vm.findClass "java/util/Arrays" = some m.cls := findClass_of_methodNamed B.named
  obtain ⟨mi, hMi⟩ := hX.2.2
  rw [lg_entry_eq]
  have hl := sm_entry [.ref a, .int n] (n := 2) (Nat.le_of_ble_eq_true rfl)
  replace hl : sm_lc _ 2 [.ref a, .int n] := hl
  generalize (lg_sl [Value.ref a, .int n] ++ List.replicate (2 - (lg_sl [Value.ref a, .int n]).length) Slot.unset).toArray = ls at hl ⊢
  refine sm_pure (pc := 0) (i := .aload_n 0) (d := (0, 0)) hexec hb (by decide +kernel) trivial hl rfl (fun ls hl => ?_)
  refine sm_pure (pc := 1) (i := .iload_n 1) (d := (0, 0)) hexec hb (by decide +kernel) trivial hl rfl (fun ls hl => ?_)
  refine sm_pure (pc := 2) (i := .aload_n 0) (d := (0, 0)) hexec hb (by decide +kernel) trivial hl rfl (fun ls hl => ?_)
  obtain ⟨cA, x1, x2, x3⟩ := hR.2.2.2.1 a (.object "java/lang/Object") (by rw [hCa]; decide) (by rw [hCa]; rfl)
  refine va_getC (pc := 3) (C := "[Ljava/lang/Object;") hexec hb (hml.trans hl.2.1.symm) hown (hts _ tw_123) (va_Nw.use (A := _) rfl (hnw _ nw_1324)) (hts _ tw_1323) (hts _ tw_124) (hts _ tw_140) hMi ⟨_, x3, rfl, va_nmO x2 (by decide +kernel)⟩ (by show 1 ≤ 2; decide) (by show 1 + (1 + 0) + 14 ≤ 64; decide) (by decide +kernel) ?_
  have hM := cp3 (l := l) (D := D) (mi := mi) hCa hn0 hle hbig hel hb0
  have hgd : ∀ w ∈ cp3w, w ∈ Tg ∧ sm_good w := by
    intro w hw
    have hw' : w ∈ Tg := by
      rcases List.mem_cons.mp hw with q | q
      · rw [q]; exact tw_143
      · exact q
    exact ⟨hw', xst.2.1 w hw'⟩
  have hgd2 : GoodIn Tg (va_wsS "java/util/Arrays" 300 cp3n cp3w) := by
    intro w hw
    unfold va_wsS at hw
    rcases List.mem_append.mp hw with q | q
    · rcases List.mem_cons.mp q with q | q
      · rw [q]; exact ⟨tw_141, xst.2.1 _ tw_141⟩
      · rcases List.mem_cons.mp q with q | q
        · rw [q]; exact ⟨tw_142, xst.2.1 _ tw_142⟩
        · rw [List.mem_singleton.mp q]; exact ⟨tw_8, xst.2.1 _ tw_8⟩
    · exact hgd w q
  have d6 : decode prog_28_method_119_code 6 = .ok (.invokestatic 300, 3) := by decide +kernel
  refine sm_back (H := s.heap) (g := F0 m 6 ls [.ref mi, .int n, .ref a]) (rest := []) (a := #[Value.ref a, .int n, .ref mi]) (h' := cpA h a n.toNatClampNeg) (D := D) (base := base) (v := some (.ref (hT h))) (va_runS ⟨hexec, hb, hml, hown, hts⟩ hM (va_cwS 3 hts hgd2 rfl rfl rfl ⟨by decide, by decide, by decide +kernel⟩ ⟨Nat.le_refl 2, Nat.le_of_ble_eq_true rfl⟩) ⟨cp3P_blind, fun U hU hW => ⟨sm_Pc_at xst.2.2.1 hR hK hnw hX U hU hW, hMi.moved hW.alike⟩⟩ rfl rfl hl.2.1 rfl (Nat.le_of_ble_eq_true rfl) d6 ⟨Nat.le_refl _, by show 0 + n.toNatClampNeg ≤ n.toNatClampNeg; omega⟩) (fun q hq => by cases hq) (fun H' locs' hR' hf' => ?_)
  · rw [Nat.zero_add, Nat.zero_add]
    exact sm_return (pc := 9) (i := .areturn) (ret := some cpT) (v := some (.ref (hT h))) (Qc := sm_Qc D base (some (.ref (hT h))) (cpA h a n.toNatClampNeg)) (free := fun q => base ≤ q) hexec hb (by decide +kernel) B.returns rfl B.notSynchronized (fun t ht hW => ⟨rfl, by rw [ht]; exact hR'.moved hW.alike⟩) hf'
theorem xcopy {l : Launch} {D : va_G} {base : Nat} : sm_copy l Tg NW D base := by
  intro j x pc mc ms a n r h p e s m args below meth c H locs cells slots ls Q hin hsz hR hf hb0 hrm hlink hdg hCa hn0 hle hbig hsum hel hcells hslots kk
  obtain ⟨hexec, hb, hml, hret, hlocks, hmn, hown, hts, hnw, hK, hX, -, hexT⟩ := id hin
  have hM := cp2 (l := l) (D := D) hCa hn0 hle hbig hel hb0
  have hgd2 : GoodIn Tg (va_wsS (xmn j).cls x sm_cname cp2w) := by
    intro w hw
    unfold va_wsS at hw
    rcases List.mem_append.mp hw with q | q
    · rcases List.mem_cons.mp q with q | q
      · rw [q]; exact ⟨hlink, xst.2.1 _ hlink⟩
      · rcases List.mem_cons.mp q with q | q
        · rw [q]; exact ⟨tw_121, xst.2.1 _ tw_121⟩
        · rw [List.mem_singleton.mp q]; exact ⟨tw_8, xst.2.1 _ tw_8⟩
    · have hw' : w ∈ Tg := by
        rcases List.mem_cons.mp q with q | q
        · rw [q]; exact tw_122
        · exact q
      exact ⟨hw', xst.2.1 w hw'⟩
  exact sm_back (H := H) (g := F0 m pc ls (.int n :: .ref a :: r)) (rest := r) (a := #[Value.ref a, .int n]) (h' := cpA h a n.toNatClampNeg) (D := D) (base := base) (v := some (.ref (hT h))) (va_runS ⟨hexec, hb, hml, hown, hts⟩ hM (va_cwS 2 hts hgd2 rfl rfl rfl ⟨by decide, by decide, by decide +kernel⟩ ⟨hrm.1, hrm.2⟩) ⟨sm_Pc_blind xst.2.2.1, sm_Pc_at xst.2.2.1 hR hK hnw hX⟩ rfl rfl hsz rfl (lv_room hsum) hdg ⟨hcells, hslots⟩) hf kk
/-- WHAT THE SMALL MACHINE ANSWERS THE MODEL ANSWERS: nothing is owed any more -/
theorem x_road {l : Launch} {D : va_G} {base : Nat} (hl : l.flags = pinnedFlags ++ [noTraceFlag]) : ∀ n, sm_Road l Tg NW D base n := sm_road xst xcopy (xthrows hl) xcatches xhelps
end
section
/-! FROM THE SMALL MACHINE TO THE CLAIM: what is owed of the law's own run, and that it is enough -/
def law_ok : Prop := ∀ (L : Nat) (xs : Nat → Int32) (h : sm_H) (b : Nat), L ≤ 2048 → hC h b = 15 → hL h b = L → (∀ i, i < L → hA h b i = .int (xs i)) → hC h (hZ h) = 14 → nI (hL h (hZ h)) = 0 → (∀ a, hC h a ≠ 0 → a = b ∨ a = hZ h) → b < hT h → hZ h < hT h →
  sm_wp 169 0 [.ref b, jk, jk, jk, jk, jk, jk] [] h (fun k v h' => k = 0 ∧ v = some (.int 1) ∧ hT h' ≤ hT h + 601024 ∧ hU h' ≤ hU h + 7293034)
theorem tl {w : Cond} (i : Nat) (h : tables_1[i]? = some w) : w ∈ lw_tbl := List.mem_append_right _ (List.mem_of_getElem? h)
theorem xinst {ci : Nat} {q : vw_C} (hq : xcl[ci]? = some q) : ∃ n, Cond.instantiable q.1 n ∈ Tg := by
  match ci, hq with
  | 0, hq => cases hq; exact ⟨_, tw_28⟩
  | 1, hq => cases hq; exact ⟨_, tw_63⟩
  | 2, hq => cases hq; exact ⟨_, tw_685⟩
  | 3, hq => cases hq; exact ⟨_, tw_156⟩
  | 4, hq => cases hq; exact ⟨_, tw_185⟩
  | 5, hq => cases hq; exact ⟨_, tw_577⟩
  | 6, hq => cases hq; exact ⟨_, tw_482⟩
  | 7, hq => cases hq; exact ⟨_, tw_198⟩
  | 8, hq => cases hq; exact ⟨_, tw_410⟩
  | 9, hq => cases hq; exact ⟨_, tw_857⟩
  | 10, hq => cases hq; exact ⟨_, tw_36⟩
  | 11, hq => cases hq; exact ⟨_, tw_319⟩
  | 12, hq => cases hq; exact ⟨_, tw_387⟩
  | 13, hq => cases hq; exact ⟨_, tw_754⟩
  | n + 14, hq => cases hq
def sm_str (e : Nat × String) : Prop := Cond.stringRef "BuildingText" e.1 e.2 ∈ lw_tbl ∧ Cond.exactly (.string "BuildingText" e.1) "java/lang/String" ∈ flatC (Jvm.Cond.and given_1 narrow_1)
theorem xsk_ok : ∀ e ∈ xsk, sm_str e := List.forall_mem_cons.mpr ⟨⟨tl 359 (by decide +kernel), by decide +kernel⟩, List.forall_mem_cons.mpr ⟨⟨tl 395 (by decide +kernel), by decide +kernel⟩, List.forall_mem_cons.mpr ⟨⟨tl 628 (by decide +kernel), by decide +kernel⟩, List.forall_mem_cons.mpr ⟨⟨tl 743 (by decide +kernel), by decide +kernel⟩, List.forall_mem_cons.mpr ⟨⟨tl 744 (by decide +kernel), by decide +kernel⟩, List.forall_mem_cons.mpr ⟨⟨tl 762 (by decide +kernel), by decide +kernel⟩, List.forall_mem_cons.mpr ⟨⟨tl 782 (by decide +kernel), by decide +kernel⟩, List.forall_mem_cons.mpr ⟨⟨tl 806 (by decide +kernel), by decide +kernel⟩, List.forall_mem_cons.mpr ⟨⟨tl 807 (by decide +kernel), by decide +kernel⟩, List.forall_mem_cons.mpr ⟨⟨tl 820 (by decide +kernel), by decide +kernel⟩, List.forall_mem_cons.mpr ⟨⟨tl 821 (by decide +kernel), by decide +kernel⟩, List.forall_mem_cons.mpr ⟨⟨tl 847 (by decide +kernel), by decide +kernel⟩, List.forall_mem_cons.mpr ⟨⟨tl 855 (by decide +kernel), by decide +kernel⟩, fun _ h => absurd h List.not_mem_nil⟩⟩⟩⟩⟩⟩⟩⟩⟩⟩⟩⟩⟩
theorem xnc_ok : ∀ e ∈ xnc, Cond.not (Cond.castable e.1 e.2) ∈ flatC (Jvm.Cond.and given_1 narrow_1) := List.forall_mem_cons.mpr ⟨by decide +kernel, List.forall_mem_cons.mpr ⟨by decide +kernel, fun _ h => absurd h List.not_mem_nil⟩⟩
theorem sm_LSof {args : Array Value} {s : State} {C n d : String} {A : Nat → Prop} (hl : (Cond.laysStatic C n d).before args s = true) (hr : (Cond.isRef (.static C n d)).before args s = true) (hA : ∀ a : Nat, a < s.heap.size → ¬ A a) : sm_LS C n d A s s.heap := by
  obtain ⟨c, k, i, f, a, cell, h0, h1, h2, h3, h4, h5, h6, h7, h8⟩ := Cond.laysStatic_spec hl
  obtain ⟨u, hu⟩ := Cond.staticRefV h1 h2 h3 h4 h5 hr
  refine ⟨c, k, i, f, a, cell, h0, h1, h2, h3, h4, h5, h6, h7, h8, ?_, hA a (Array.getElem?_eq_some_iff.mp h4).1⟩
  obtain ⟨v, hv⟩ := u
  cases v with
  | null => exact Or.inl hu
  | ref q => exact Or.inr ⟨q, hu⟩
  | _ => cases hv
theorem sm_lessRoom {p : Program} {l : Launch} {e : Env} {R R' : Room} {s : State} {m : MethodId} {args : Array Value} {below : List Frame} {meth : Method} {c : Code} {T : State} {locs : List Loc} {cells slots : Nat} (X : Stand p l e R s m args below meth c T locs cells slots) (h1 : R'.frames ≤ R.frames) (h2 : R'.cells ≤ R.cells) (h3 : R'.slots ≤ R.slots) (h4 : R'.locals ≤ R.locals) : Stand p l e R' s m args below meth c T locs cells slots := by
  refine ⟨X.admits, X.cas, X.clock, X.frames, ?_, X.hears, X.method, X.code, X.here, X.tail, X.warmed, X.limits, X.bytes, X.same⟩
  have hr := X.room
  simp only [State.hasRoom, Bool.and_eq_true, decide_eq_true_eq] at hr ⊢
  obtain ⟨⟨⟨⟨r1, r2, r3, r4, r5, r6⟩, r7⟩, r8⟩, r9⟩ := hr
  exact ⟨⟨⟨⟨by omega, by omega, by omega, by omega, by omega, r6⟩, by omega⟩, by omega⟩, r9⟩
def R_law : String := "BuildingTextLaw"
def lw_P (b : Addr) (xs : List Int32) (args : Array Value) (s : State) : Prop := args = #[.ref b] ∧ s.IntsAt b xs ∧ xs.length ≤ 2048 ∧ (Jvm.Cond.and given_1 narrow_1).before args s = true
def lw_Q (_ : Array Value) (s : State) (o : Outcome) (t : State) : Prop := o = .returned (some (.int 1)) ∧ Framed s o t [] 601024 7293034
def lw_Z (below : List Frame) (a : Array Value) (s : State) : State → Prop := fun t => ∃ o, t.status = .running ∧ Ended t below o ∧ lw_Q a s o t
def lw_At (p : Program) (s : State) (m : MethodId) (meth : Method) (c : Code) (b L : Nat) (xs : Nat → Int32) : Prop :=
  p.tables.exec = Jvm.exec ∧ c.code = code ∧ meth.sig.returnType = ret ∧ c.maxLocals = 7 ∧ s.vm.findClass R_law = some m.cls ∧ (∀ w ∈ lw_tbl, w.before #[Value.ref b] s = true) ∧ va_X b L xs s s.heap ∧ b < s.heap.size ∧ meth.locks = false ∧ meth.name = "law" ∧ (Jvm.Cond.and given_1 narrow_1).before #[Value.ref b] s = true
set_option maxHeartbeats 2000000 in
theorem whole_start (hok : law_ok) {p : Program} {e : Env} {s : State} {m : MethodId} {below : List Frame} {meth : Method} {c : Code} (l : Launch) (hfl : l.flags = pinnedFlags ++ [noTraceFlag]) {b L : Nat} {xs : Nat → Int32} (hLe : L ≤ 2048) (C0 : lw_At p s m meth c b L xs) : W p l e room_1 s m #[Value.ref b] below meth c s.heap [] 0 0 (lw_Z below #[Value.ref b] s) (entryFrame m ([Value.ref b] : List Value).toArray 7) := by
  obtain ⟨hx, hb, hr, hml, hown, hts, hXs, hbl, hlocks, hnm, hgv⟩ := id C0
  have hfg := flat_of_before _ hgv
  have hnA : ∀ a : Nat, a < s.heap.size → ¬ s.heap.size ≤ a := fun a h => Nat.not_le.mpr h
  have hsl : Cond.laysStatic "java/util/ArrayList" "DEFAULTCAPACITY_EMPTY_ELEMENTDATA" "[Ljava/lang/Object;" ∈ lw_tbl := tl 48 (by decide +kernel)
  have hl1 : Cond.laysStatic "java/lang/Throwable" "UNASSIGNED_STACK" "[Ljava/lang/StackTraceElement;" ∈ lw_tbl := tl 345 (by decide +kernel)
  have hl2 : Cond.laysStatic "java/lang/Throwable" "SUPPRESSED_SENTINEL" "Ljava/util/List;" ∈ lw_tbl := tl 347 (by decide +kernel)
  have hini : Cond.initialized "java/util/ArrayList" ∈ lw_tbl := tl 4 (by decide +kernel)
  have m1 : Cond.arrayOf (.static "java/util/ArrayList" "DEFAULTCAPACITY_EMPTY_ELEMENTDATA" "[Ljava/lang/Object;") (.object "java/lang/Object") ∈ flatC (Jvm.Cond.and given_1 narrow_1) := by decide +kernel
  have m2 : Cond.eq (.length (.static "java/util/ArrayList" "DEFAULTCAPACITY_EMPTY_ELEMENTDATA" "[Ljava/lang/Object;")) (.int 0) ∈ flatC (Jvm.Cond.and given_1 narrow_1) := by decide +kernel
  have m3 : Cond.isRef (.static "java/lang/Throwable" "UNASSIGNED_STACK" "[Ljava/lang/StackTraceElement;") ∈ flatC (Jvm.Cond.and given_1 narrow_1) := by decide +kernel
  have m4 : Cond.isRef (.static "java/lang/Throwable" "SUPPRESSED_SENTINEL" "Ljava/util/List;") ∈ flatC (Jvm.Cond.and given_1 narrow_1) := by decide +kernel
  have m5 : Cond.isRef (.mirror "[Ljava/lang/Object;") ∈ flatC (Jvm.Cond.and given_1 narrow_1) := by decide +kernel
  obtain ⟨z0, hz0, cz, hzc, hza, hzk, -, hzn, -, -⟩ := va_Tof (N := 0) (f := fun _ => .null) (A := fun q => s.heap.size ≤ q) (by decide) (hfg _ m1) (va_eqt (hfg _ m2)) (fun j hj => absurd hj (Nat.not_lt_zero j)) hnA
  have hZ0 : va_Z "java/util/ArrayList" "DEFAULTCAPACITY_EMPTY_ELEMENTDATA" "[Ljava/lang/Object;" (.ref z0) (fun q => s.heap.size ≤ q) s s.heap := va_Zof (hts _ hsl) (hts _ hini) hz0 hnA
  obtain ⟨scr, hs1, hs2, hs3, hs4, hs5⟩ := hXs
  have hbz : b ≠ z0 := by
    intro z
    subst z
    rw [hs1] at hzc
    cases hzc
    obtain ⟨-, k1, g1, c1, g2⟩ := hs2
    obtain ⟨-, k2, g3, c2, g4⟩ := hza
    rw [g1] at g3
    cases g3
    rw [g2] at g4
    cases g4
  -- the classes
  have htg : ∀ w ∈ Tg, w.before #[Value.ref b] s = true := fun w hw => hts w (List.mem_filter.mp hw).1
  have hKn : ∀ ci : Nat, ∃ y : ClassId × (Nat → Nat), ∀ q : vw_C, xcl[ci]? = some q → u_Kn s q.1 q.2.1 q.2.2 y.1 y.2 := by
    intro ci
    cases hq : xcl[ci]? with
    | none => exact ⟨(0, fun _ => 0), fun q h => by cases h⟩
    | some q =>
      obtain ⟨n, hn⟩ := xinst hq
      obtain ⟨cC, iS, h⟩ := u_known (C := q.1) (T := q.2.1) (N := q.2.2) (n := n) htg (xcls_ok ci q hq).2.1 (htg _ hn)
      exact ⟨(cC, iS), fun q' h' => by cases h'; exact h⟩
  obtain ⟨fD, hD⟩ := Classical.axiomOfChoice hKn
  have hK : va_K (fun ci => (fD ci).1, fun ci => (fD ci).2) xcl [] s := ⟨fun ci q hq => hD ci q hq, fun k q h => by cases h⟩
  -- the heap
  generalize hh : ((s.heap.size, 0, (fun a => if a = b then 15 else if a = z0 then 14 else 0), (fun a => if a = b then L else if a = z0 then cz.slots.size else 0), (fun _ _ => .null), (fun a i => if a = b then .int (xs i) else cz.slots.getD i .null), z0) : sm_H) = h
  have e1 : hT h = s.heap.size := by rw [← hh]; rfl
  have e2 : ∀ a, hC h a = if a = b then 15 else if a = z0 then 14 else 0 := fun a => by rw [← hh]; rfl
  have e3 : ∀ a, hL h a = if a = b then L else if a = z0 then cz.slots.size else 0 := fun a => by rw [← hh]; rfl
  have e4 : ∀ a i, hA h a i = if a = b then .int (xs i) else cz.slots.getD i .null := fun a i => by rw [← hh]; rfl
  have e5 : hZ h = z0 := by rw [← hh]; rfl
  have hR : sm_R (fun ci => (fD ci).1, fun ci => (fD ci).2) s.heap.size s h s.heap := by
    refine ⟨e1.symm, fun a q1 q2 => ?_, fun a ci q h1 h2 => ?_, fun a ty h1 h2 => ?_, fun a ty h1 h2 => ?_, ?_⟩
    · exfalso
      rw [e2] at q1 q2
      by_cases w : a = b
      · rw [if_pos w] at q2; exact q2 (Or.inr rfl)
      · rw [if_neg w] at q1 q2
        by_cases w2 : a = z0
        · rw [if_pos w2] at q2; exact q2 (Or.inl rfl)
        · rw [if_neg w2] at q1; exact q1 rfl
    · exfalso
      rw [e2] at h1
      split at h1
      · omega
      · split at h1 <;> omega
    · exfalso
      rw [e2] at h1 h2
      by_cases w : a = b
      · rw [if_pos w] at h1; exact h1 (Or.inr rfl)
      · rw [if_neg w] at h1 h2
        by_cases w2 : a = z0
        · rw [if_pos w2] at h1; exact h1 (Or.inl rfl)
        · rw [if_neg w2] at h2; cases h2
    · rw [e2] at h2
      by_cases w : a = b
      · rw [if_pos w] at h2
        cases h2
        subst w
        refine ⟨scr, hs1, hs2, hs3, by rw [hs4, e3, if_pos rfl], fun i hi => ?_⟩
        rw [e3, if_pos rfl] at hi
        rw [e4, if_pos rfl]
        exact hs5 i hi
      · rw [if_neg w] at h2
        by_cases w2 : a = z0
        · rw [if_pos w2] at h2
          cases h2
          subst w2
          refine ⟨cz, hzc, hza, hzk, by rw [e3, if_neg w, if_pos rfl], fun i hi => ?_⟩
          rw [e3, if_neg w, if_pos rfl] at hi
          rw [e4, if_neg w, Array.getD_eq_getD_getElem?, Array.getElem?_eq_getElem hi]
          rfl
        · rw [if_neg w2] at h2; cases h2
    · rw [e5]
      exact ⟨hZ0, sm_LSof (hts _ hl1) (hfg _ m3) hnA, sm_LSof (hts _ hl2) (hfg _ m4) hnA, fun a cell h1 h2 => absurd (Array.getElem?_eq_some_iff.mp h2).1 (Nat.not_lt.mpr h1)⟩
  have hXw : sm_X s := by
    refine ⟨fun e he => ?_, fun e he cA cB h1 h2 => ?_, va_Mi.of (hfg _ m5)⟩
    · obtain ⟨k1, k2⟩ := xsk_ok e he
      obtain ⟨a, c9, cA, kA, q1, -⟩ := Cond.exactly_spec (args := #[Value.ref b]) (first := s) (o := none) (s := s) (idx := []) (t := .string "BuildingText" e.1) (cls := "java/lang/String") (hfg _ k2)
      exact ⟨a, vk_R.of (hts _ k1) q1⟩
    · have := hfg _ (xnc_ok e he)
      simp only [Cond.before, Cond.holds, Cond.value, h1, h2] at this
      cases hq : s.vm.assignable cA cB with
      | false => rfl
      | true => simp [hq] at this
  have hnw : ∀ w ∈ NW, va_Nw w s := by
    intro w hw
    have h1 := hts w (List.mem_filter.mp hw).1
    have h2 := (List.mem_filter.mp hw).2
    unfold sm_isnw at h2
    split at h2
    · exact va_any rfl h1
    · exact va_any rfl h1
    · exact va_any rfl h1
    · exact va_any rfl h1
    · exact h1
    · cases h2
  obtain ⟨n, k, v, h', hrun, rfl, rfl, hb1, hb2⟩ := hok L xs h b hLe (by rw [e2, if_pos rfl]) (by rw [e3, if_pos rfl]) (fun i hi => by rw [e4, if_pos rfl]) (by rw [e5, e2, if_neg (Ne.symm hbz), if_pos rfl]) (by rw [e5, e3, if_neg (Ne.symm hbz), if_pos rfl]; exact hzn) (fun a ha => by
      rw [e2] at ha
      rw [e5]
      by_cases w : a = b
      · exact Or.inl w
      · rw [if_neg w] at ha
        by_cases w2 : a = z0
        · exact Or.inr w2
        · rw [if_neg w2] at ha; exact absurd rfl ha) (by rw [e1]; exact hbl) (by rw [e1, e5]; exact (Array.getElem?_eq_some_iff.mp hzc).1)
  have hin : sm_In Tg NW (fun ci => (fD ci).1, fun ci => (fD ci).2) s.heap.size 169 p s m #[Value.ref b] meth c := ⟨hx, hb, hml, hr, hlocks, hnm, hown, htg, hnw, hK, hXw, ⟨_, hR.2.2.2.2.2⟩, fun h => absurd h (by decide)⟩
  rw [lg_entry_eq]
  intro T eT X
  have hw := x_road (D := (fun ci => (fD ci).1, fun ci => (fD ci).2)) (base := s.heap.size) hfl n 169 0 _ [] h 0 _ h' hrun p e s m #[Value.ref b] below meth c s.heap [] 0 0 _ _ _ hin (sm_entry [.ref b] (n := 7) (Nat.le_of_ble_eq_true rfl)) hR (fun q hq => by cases hq) (by rw [e1]; exact Nat.le_refl _) (Nat.zero_add _) (Nat.zero_add _)
  obtain ⟨t, st, o, g1, g2, ⟨g3, -⟩, L9, ⟨g4, g5⟩, g6⟩ := hw T eT (sm_lessRoom X (Nat.le_of_ble_eq_true rfl) (by show hT h' - hT h ≤ 601024; omega) (by show hU h' - hU h ≤ 7293034; omega) (Nat.le_of_ble_eq_true rfl))
  have g3 : o = .returned (some (.int 1)) := g3
  refine ⟨t, st, o, g1, g2, g3, ⟨_, g3⟩, g4, ?_⟩
  exact g5.weaken (fun y hy hlt => absurd (g6 y hy) (Nat.not_le.mpr hlt)) (by omega) (by omega)
end
section
/-! java.util.ArrayList as it is used: size, get -/
theorem s_size {h : sm_H} {a : Nat} {n : Int32} {Q : Nat → Option Value → sm_H → Prop} (hc : hC h a = 26) (hs : hF h 1281 a = .int n) (k : Q 0 (some (.int n)) h) : sm_wp 149 0 [.ref a] [] h Q := by
  refine wp_pure k_149 rfl rfl ?_
  refine wp_get k_149 rfl hc hs ?_
  exact wp_irt k_149 rfl (ty := .int) rfl rfl k
theorem s_pci {h : sm_H} {i n : Nat} {Q : Nat → Option Value → sm_H → Prop} (hi : i < n) (hn : n < 2 ^ 31) (k : Q 0 (some (.int (nI i))) h) : sm_wp 157 0 [.int (nI i), .int (nI n), .null] [] h Q := by
  refine wp_pure k_157 rfl rfl ?_
  refine wp_br k_157 rfl rfl rfl rfl (fun c => absurd c (nI_pos (by omega))) (fun _ => ?_)
  refine wp_pure k_157 rfl rfl ?_
  refine wp_pure k_157 rfl rfl ?_
  refine wp_br k_157 rfl rfl rfl rfl (fun _ => ?_) (fun c => absurd (nI_lt hi hn) c)
  refine wp_pure k_157 rfl rfl ?_
  exact wp_irt k_157 rfl (ty := .int) rfl rfl k
theorem s_oci {h : sm_H} {i n : Nat} {Q : Nat → Option Value → sm_H → Prop} (hi : i < n) (hn : n < 2 ^ 31) (k : Q 0 (some (.int (nI i))) h) : sm_wp 156 0 [.int (nI i), .int (nI n)] [] h Q := by
  refine wp_pure k_156 rfl rfl ?_
  refine wp_pure k_156 rfl rfl ?_
  refine wp_pure k_156 rfl rfl ?_
  refine wp_is k_156 rfl (by decide) [.int (nI i), .int (nI n), .null] rfl (r := []) (by decide) (Nat.le_of_ble_eq_true rfl) rfl ?_
  refine s_pci hi hn ⟨rfl, ?_⟩
  exact wp_irt k_156 rfl (ty := .int) rfl rfl k
/-- a list at a of the objects xs -/
def isL (h : sm_H) (a : Nat) (xs : List Nat) : Prop := hC h a = 26 ∧ hF h 1281 a = .int (nI xs.length) ∧ (∃ m, hF h 1282 a = .int m) ∧ ∃ e, hF h 1280 a = .ref e ∧ xs.length ≤ hL h e ∧ hL h e < 2 ^ 20 ∧ ((e = hZ h ∧ hC h e = 14 ∧ hL h e = 0) ∨ (hC h e = 7 ∧ 0 < hL h e)) ∧ ∀ (i x : Nat), xs[i]? = some x → hA h e i = .ref x
theorem s_get {h : sm_H} {a i x : Nat} {xs : List Nat} {Q : Nat → Option Value → sm_H → Prop} (hl : isL h a xs) (hx : xs[i]? = some x) (k : Q 0 (some (.ref x)) h) : sm_wp 150 0 [.ref a, .int (nI i)] [] h Q := by
  obtain ⟨h1, h2, -, e, h3, h4, h5, h6, h7⟩ := hl
  have hi : i < xs.length := (List.getElem?_eq_some_iff.mp hx).1
  have hk : sm_ty (hC h e) = some (.object "java/lang/Object") := by
    rcases h6 with ⟨-, q, -⟩ | ⟨q, -⟩ <;> rw [q] <;> rfl
  refine wp_pure k_150 rfl rfl ?_
  refine wp_pure k_150 rfl rfl ?_
  refine wp_get k_150 rfl h1 h2 ?_
  refine wp_is k_150 rfl (by decide) [.int (nI i), .int (nI xs.length)] rfl (r := []) (by decide) (Nat.le_of_ble_eq_true rfl) rfl ?_
  refine s_oci hi (by omega) ⟨rfl, ?_⟩
  refine wp_pure k_150 rfl rfl ?_
  refine wp_pure k_150 rfl rfl ?_
  refine wp_pure k_150 rfl rfl ?_
  refine wp_iv k_150 rfl [.int (nI i)] rfl h1 (r := []) (by decide) (Nat.le_of_ble_eq_true rfl) rfl ?_
  refine wp_pure k_151 rfl rfl ?_
  refine wp_get k_151 rfl h1 h3 ?_
  refine wp_pure k_151 rfl rfl ?_
  refine wp_aald k_151 rfl hk (by omega) (by omega) (h7 i x hx) ?_
  refine wp_rt k_151 rfl rfl rfl rfl rfl rfl rfl ⟨rfl, ?_⟩
  exact wp_rt k_150 rfl rfl rfl rfl rfl rfl rfl k
/-- Edition.find: the first of the places with that name -/
theorem s_find_l {h : sm_H} {e pl : Nat} {ps : List Nat} {nm : Nat → Int32} {c : Int32} {Q : Nat → Option Value → sm_H → Prop} (he : hC h e = 17) (hp : hF h 128 e = .ref pl) (hl : isL h pl ps) (hn : ∀ p ∈ ps, hC h p = 22 ∧ hF h 768 p = .int (nm p))
    (k : Q 0 (some (.int (match ps.findIdx? (fun p => decide (nm p = c)) with | some i => nI i | none => -1))) h) : ∀ (m i : Nat), i + m = ps.length → (∀ q, q < i → ∀ p, ps[q]? = some p → ¬ nm p = c) → sm_wp 18 2 [.ref e, .int c, .int (nI i)] [] h Q := by
  have hlen : ps.length < 2 ^ 20 := by
    obtain ⟨h1, h2, -, e, h3, h4, h5, -⟩ := hl
    omega
  intro m
  induction m with
  | zero =>
    intro i hi hq
    refine wp_pure k_18 rfl rfl ?_
    refine wp_pure k_18 rfl rfl ?_
    refine wp_get k_18 rfl he hp ?_
    refine wp_iv k_18 rfl [] rfl hl.1 (r := [.int (nI i)]) (Nat.le_of_ble_eq_true rfl) (Nat.le_of_ble_eq_true rfl) rfl ?_
    refine s_size hl.1 hl.2.1 ⟨rfl, ?_⟩
    refine wp_br k_18 rfl rfl rfl rfl (fun _ => ?_) (fun z => absurd (nI_le (by omega) (by omega)) z)
    refine wp_pure k_18 rfl rfl ?_
    refine wp_irt k_18 rfl (ty := .int) rfl rfl ?_
    have hnone : ps.findIdx? (fun p => decide (nm p = c)) = none := by
      rw [List.findIdx?_eq_none_iff]
      intro p hp
      obtain ⟨q, hq1⟩ := List.getElem?_of_mem hp
      have := hq q (by have := (List.getElem?_eq_some_iff.mp hq1).1; omega) p hq1
      simp [this]
    rw [hnone] at k
    exact k
  | succ m ih =>
    intro i hi hq
    have hlt : i < ps.length := by omega
    obtain ⟨p, hpi⟩ : ∃ p, ps[i]? = some p := ⟨_, List.getElem?_eq_getElem hlt⟩
    obtain ⟨hpc, hpn⟩ := hn p (List.mem_of_getElem? hpi)
    refine wp_pure k_18 rfl rfl ?_
    refine wp_pure k_18 rfl rfl ?_
    refine wp_get k_18 rfl he hp ?_
    refine wp_iv k_18 rfl [] rfl hl.1 (r := [.int (nI i)]) (Nat.le_of_ble_eq_true rfl) (Nat.le_of_ble_eq_true rfl) rfl ?_
    refine s_size hl.1 hl.2.1 ⟨rfl, ?_⟩
    refine wp_br k_18 rfl rfl rfl rfl (fun z => absurd z (nI_ge hlt (by omega))) (fun _ => ?_)
    refine wp_pure k_18 rfl rfl ?_
    refine wp_get k_18 rfl he hp ?_
    refine wp_pure k_18 rfl rfl ?_
    refine wp_iv k_18 rfl [.int (nI i)] rfl hl.1 (r := []) (by decide) (Nat.le_of_ble_eq_true rfl) rfl ?_
    refine s_get hl hpi ⟨rfl, ?_⟩
    refine wp_cc k_18 rfl hpc ?_
    refine wp_get k_18 rfl hpc hpn ?_
    refine wp_pure k_18 rfl rfl ?_
    refine wp_br k_18 rfl rfl rfl rfl (fun z => ?_) (fun z => ?_)
    · refine wp_pure k_18 rfl rfl ?_
      refine wp_br k_18 rfl rfl rfl rfl (fun _ => ?_) (fun z => absurd trivial z)
      have e1 : nI i + sm_k (1, 0) = nI (i + 1) := nI_1 i
      show sm_wp 18 2 [.ref e, .int c, .int (nI i + sm_k (1, 0))] [] h Q
      rw [e1]
      refine ih (i + 1) (by omega) (fun q hq1 p' hp' => ?_)
      by_cases eq : q = i
      · subst eq
        rw [hpi] at hp'
        cases hp'
        exact z
      · exact hq q (by omega) p' hp'
    · refine wp_pure k_18 rfl rfl ?_
      refine wp_irt k_18 rfl (ty := .int) rfl rfl ?_
      have z : nm p = c := Classical.not_not.mp z
      have hsome : ps.findIdx? (fun p => decide (nm p = c)) = some i := by
        rw [List.findIdx?_eq_some_iff_getElem]
        refine ⟨hlt, ?_, fun q hq1 => ?_⟩
        · have : ps[i] = p := (List.getElem?_eq_some_iff.mp hpi).2
          rw [this]
          simp [z]
        · have := hq q hq1 (ps[q]) (List.getElem?_eq_getElem (by omega))
          simp [this]
      rw [hsome] at k
      exact k
theorem s_find {h : sm_H} {e pl : Nat} {ps : List Nat} {nm : Nat → Int32} {c : Int32} {Q : Nat → Option Value → sm_H → Prop} (he : hC h e = 17) (hp : hF h 128 e = .ref pl) (hl : isL h pl ps) (hn : ∀ p ∈ ps, hC h p = 22 ∧ hF h 768 p = .int (nm p))
    (k : Q 0 (some (.int (match ps.findIdx? (fun p => decide (nm p = c)) with | some i => nI i | none => -1))) h) : sm_wp 18 0 [.ref e, .int c, jk] [] h Q := by
  refine wp_pure k_18 rfl rfl ?_
  refine wp_pure k_18 rfl rfl ?_
  exact s_find_l he hp hl hn k ps.length 0 (by omega) (fun q hq => absurd hq (Nat.not_lt_zero q))
end
section
def samA (h h' : sm_H) (a : Nat) : Prop := hC h' a = hC h a ∧ hL h' a = hL h a ∧ (∀ f, hF h' f a = hF h f a) ∧ ∀ i, hA h' a i = hA h a i
theorem samA.refl (h : sm_H) (a : Nat) : samA h h a := ⟨rfl, rfl, fun _ => rfl, fun _ => rfl⟩
theorem samA.trans {h h1 h2 : sm_H} {a : Nat} (x : samA h h1 a) (y : samA h1 h2 a) : samA h h2 a := ⟨y.1.trans x.1, y.2.1.trans x.2.1, fun f => (y.2.2.1 f).trans (x.2.2.1 f), fun i => (y.2.2.2 i).trans (x.2.2.2 i)⟩
theorem samA.symm {h h1 : sm_H} {a : Nat} (x : samA h h1 a) : samA h1 h a := ⟨x.1.symm, x.2.1.symm, fun f => (x.2.2.1 f).symm, fun i => (x.2.2.2 i).symm⟩
theorem samA.putF {h : sm_H} {f b : Nat} {v : Value} {a : Nat} (hne : a ≠ b) : samA h (putF h f b v) a := ⟨rfl, rfl, fun _ => if_neg (fun q => hne q.2), fun _ => rfl⟩
theorem samA.putA {h : sm_H} {i b : Nat} {v : Value} {a : Nat} (hne : a ≠ b) : samA h (putA h b i v) a := ⟨rfl, rfl, fun _ => rfl, fun _ => if_neg (fun q => hne q.1)⟩
theorem samA.newO {h : sm_H} {ci n : Nat} {dv : Nat → Value} {a : Nat} (hne : a ≠ hT h) : samA h (newO h ci n dv) a := ⟨if_neg hne, rfl, fun _ => if_neg hne, fun _ => rfl⟩
theorem samA.newA {h : sm_H} {t n : Nat} {dv : Value} {a : Nat} (hne : a ≠ hT h) : samA h (newA h t n dv) a := ⟨if_neg hne, if_neg hne, fun _ => rfl, fun _ => if_neg hne⟩
theorem samA.cpA {h : sm_H} {b n : Nat} {a : Nat} (hne : a ≠ hT h) : samA h (cpA h b n) a := ⟨if_neg hne, if_neg hne, fun _ => rfl, fun _ => if_neg hne⟩
theorem samA.thH {h : sm_H} {ci : Nat} {a : Nat} (hne : a ≠ hT h) : samA h (thH h ci) a := samA.newO hne
theorem hF_putF {h : sm_H} {f b : Nat} {v : Value} : hF (putF h f b v) f b = v := if_pos ⟨rfl, rfl⟩
theorem hF_putF_f {h : sm_H} {f g b a : Nat} {v : Value} (hne : g ≠ f) : hF (putF h f b v) g a = hF h g a := if_neg (fun q => hne q.1)
theorem hF_putF_a {h : sm_H} {f g b a : Nat} {v : Value} (hne : a ≠ b) : hF (putF h f b v) g a = hF h g a := if_neg (fun q => hne q.2)
theorem hA_putA {h : sm_H} {i b : Nat} {v : Value} : hA (putA h b i v) b i = v := if_pos ⟨rfl, rfl⟩
theorem hA_putA_i {h : sm_H} {i j b a : Nat} {v : Value} (hne : j ≠ i) : hA (putA h b i v) a j = hA h a j := if_neg (fun q => hne q.2)
theorem hA_putA_a {h : sm_H} {i j b a : Nat} {v : Value} (hne : a ≠ b) : hA (putA h b i v) a j = hA h a j := if_neg (fun q => hne q.1)
/-! THE REFERENCE's MEMORY: its object at m, its arrays behind it in the order in which they are made; g: its plain fields, ar: its arrays -/
def mos : List Nat := [0, 1, 0, 0, 2, 3, 4, 5, 6, 7, 8, 9, 10, 11, 0, 12, 13, 14, 0, 15, 16, 17, 18, 0, 0, 0, 0, 0, 19, 20, 21, 0, 22, 23, 24, 25, 26, 27, 28, 29, 30, 31, 32, 33, 34, 0, 35, 0, 0, 0, 0, 0, 0, 0, 0, 0, 0, 36, 0, 0, 0, 0, 37, 38, 39, 40, 0]
def mo (k : Nat) : Nat := mos.getD k 0
def mls : List Nat := [0, 3000, 0, 0, 8, 480, 480, 480, 480, 480, 480, 480, 480, 480, 0, 60, 60, 60, 0, 60, 60, 60, 240, 0, 0, 0, 0, 0, 60, 60, 60, 0, 60, 60, 501, 2004, 501, 501, 501, 501, 501, 501, 501, 501, 60, 0, 820, 0, 0, 0, 0, 0, 0, 0, 0, 0, 0, 4, 0, 0, 0, 0, 3600, 200, 200, 200, 0]
def ml (k : Nat) : Nat := mls.getD k 0
def mts : List Nat := [0, 1, 0, 0, 1, 1, 1, 1, 1, 1, 1, 1, 1, 1, 0, 1, 1, 5, 0, 1, 1, 1, 1, 0, 0, 0, 0, 0, 1, 1, 5, 0, 1, 1, 1, 1, 1, 1, 1, 1, 1, 1, 1, 1, 1, 0, 1, 0, 0, 0, 0, 0, 0, 0, 0, 0, 0, 1, 0, 0, 0, 0, 1, 1, 1, 1, 0]
def mt (k : Nat) : Nat := mts.getD k 0
def uF (g : Nat → Int32) (k : Nat) (v : Int32) : Nat → Int32 := fun i => if i = k then v else g i
def uA (ar : Nat → Nat → Int32) (k n : Nat) (v : Int32) : Nat → Nat → Int32 := fun k' n' => if k' = k ∧ n' = n then v else ar k' n'
/-- the reference's own cells -/
def isM (m a : Nat) : Prop := m ≤ a ∧ a ≤ m + 40
def mfr (h0 h : sm_H) (m : Nat) : Prop := hT h = hT h0 ∧ hU h = hU h0 ∧ hZ h = hZ h0 ∧ ∀ a, ¬ isM m a → samA h0 h a
def MS (h0 h : sm_H) (m : Nat) (g : Nat → Int32) (ar : Nat → Nat → Int32) : Prop := hC h m = 25 ∧ (∀ k, k < 67 → mo k = 0 → hF h (1152 + k) m = .int (g k)) ∧ (∀ k, k < 67 → mo k ≠ 0 → hF h (1152 + k) m = .ref (m + mo k) ∧ hC h (m + mo k) = mt k ∧ hL h (m + mo k) = ml k ∧ ∀ i, i < ml k → hA h (m + mo k) i = .int (ar k i)) ∧ mfr h0 h m
theorem mo_le : ∀ k, k < 67 → mo k ≤ 40 := by decide +kernel
theorem mo_inj : ∀ k, k < 67 → ∀ k', k' < 67 → mo k ≠ 0 → mo k = mo k' → k = k' := by decide +kernel
theorem ml_le : ∀ k, k < 67 → ml k ≤ 3600 := by decide +kernel
theorem MS.putI {h0 h : sm_H} {m : Nat} {g : Nat → Int32} {ar : Nat → Nat → Int32} (M : MS h0 h m g ar) {k : Nat} (hk : k < 67) (ho : mo k = 0) (v : Int32) : MS h0 (putF h (1152 + k) m (.int v)) m (uF g k v) ar := by
  obtain ⟨h1, h2, h3, h4, h5, h6, h7⟩ := M
  refine ⟨h1, fun k' hk' ho' => ?_, fun k' hk' ho' => ?_, h4, h5, h6, fun a ha => ?_⟩
  · by_cases e : k' = k
    · subst e
      rw [hF_putF]
      exact congrArg Value.int (if_pos rfl).symm
    · rw [hF_putF_f (by omega), h2 k' hk' ho']
      exact congrArg Value.int (if_neg e).symm
  · have e : k' ≠ k := fun e => ho' (by rw [e]; exact ho)
    rw [hF_putF_f (by omega)]
    exact h3 k' hk' ho'
  · exact (h7 a ha).trans (samA.putF (fun e => ha (by rw [e]; exact ⟨Nat.le_refl _, by omega⟩)))
theorem MS.stA {h0 h : sm_H} {m : Nat} {g : Nat → Int32} {ar : Nat → Nat → Int32} (M : MS h0 h m g ar) {k : Nat} (hk : k < 67) (ho : mo k ≠ 0) {n : Nat} (v : Int32) : MS h0 (putA h (m + mo k) n (.int v)) m g (uA ar k n v) := by
  obtain ⟨h1, h2, h3, h4, h5, h6, h7⟩ := M
  refine ⟨h1, h2, fun k' hk' ho' => ?_, h4, h5, h6, fun a ha => ?_⟩
  · obtain ⟨q1, q2, q3, q4⟩ := h3 k' hk' ho'
    refine ⟨q1, q2, q3, fun i hi => ?_⟩
    by_cases e : k' = k
    · subst e
      by_cases ei : i = n
      · subst ei
        rw [hA_putA]
        exact congrArg Value.int (if_pos ⟨rfl, rfl⟩).symm
      · rw [hA_putA_i ei, q4 i hi]
        exact congrArg Value.int (if_neg (fun q => ei q.2)).symm
    · have hne : m + mo k' ≠ m + mo k := fun z => e (mo_inj k' hk' k hk ho' (by omega))
      rw [hA_putA_a hne, q4 i hi]
      exact congrArg Value.int (if_neg (fun q => e q.1)).symm
  · exact (h7 a ha).trans (samA.putA (fun e => ha (by have := mo_le k hk; rw [e]; exact ⟨by omega, by omega⟩)))
section WM
variable {h0 h : sm_H} {m : Nat} {g : Nat → Int32} {ar : Nat → Nat → Int32} {j pc : Nat} {L S r : List Value} {Q : Nat → Option Value → sm_H → Prop} {t : Nat → Option (Instr × Nat × Nat)} {x kz ci : Nat}
theorem wm_gi (k : Nat) (M : MS h0 h m g ar) (hx : sm_tab j t) (hi : t pc = some (.getfield x, 9, kz)) (hk : kz / 2 = k) (hl : Nat.blt k 67 = true) (ho : mo k = 0) {v : Int32} (hv : g k = v) (kk : sm_wp j (pc + 3) L (.int v :: r) h Q) : sm_wp j pc L (.ref m :: r) h Q := by
  subst hk
  subst hv
  exact wp_get hx hi M.1 (M.2.1 _ (Nat.le_of_ble_eq_true hl) ho) kk
theorem wm_ga (k : Nat) (M : MS h0 h m g ar) (hx : sm_tab j t) (hi : t pc = some (.getfield x, 9, kz)) (hk : kz / 2 = k) (hl : Nat.blt k 67 = true) (ho : mo k ≠ 0) (kk : sm_wp j (pc + 3) L (.ref (m + mo k) :: r) h Q) : sm_wp j pc L (.ref m :: r) h Q := by
  subst hk
  exact wp_get hx hi M.1 (M.2.2.1 _ (Nat.le_of_ble_eq_true hl) ho).1 kk
theorem wm_pi (k : Nat) (M : MS h0 h m g ar) (hx : sm_tab j t) (hi : t pc = some (.putfield x, 9, kz)) (hk : kz / 2 = k) (hl : Nat.blt k 67 = true) (ho : mo k = 0) {v : Int32} (hn : narrow (xty 9 k) (.int v) = .int v) (hf : fits (xty 9 k) (.int v) = true) (kk : ∀ h', MS h0 h' m (uF g k v) ar → sm_wp j (pc + 3) L r h' Q) : sm_wp j pc L (.int v :: .ref m :: r) h Q := by
  subst hk
  exact wp_put hx hi M.1 hn hf (kk _ (M.putI (Nat.le_of_ble_eq_true hl) ho v))
theorem wm_al (k : Nat) (M : MS h0 h m g ar) (hx : sm_tab j t) (hi : t pc = some (.iaload, ci, kz)) (hl : Nat.blt k 67 = true) (ho : mo k ≠ 0) (ht : mt k = 1) {n : Nat} (hn : n < ml k) {v : Int32} (hv : ar k n = v) (kk : sm_wp j (pc + 1) L (.int v :: r) h Q) : sm_wp j pc L (.int (nI n) :: .ref (m + mo k) :: r) h Q := by
  subst hv
  obtain ⟨q1, q2, q3, q4⟩ := M.2.2.1 k (Nat.le_of_ble_eq_true hl) ho
  have hb := ml_le k (Nat.le_of_ble_eq_true hl)
  exact wp_iald hx hi (by rw [q2, ht]; rfl) (by rw [q3]; exact hn) (by rw [q3]; omega) (q4 n hn) kk
theorem wm_bl (k : Nat) (M : MS h0 h m g ar) (hx : sm_tab j t) (hi : t pc = some (.baload, ci, kz)) (hl : Nat.blt k 67 = true) (ho : mo k ≠ 0) (ht : mt k = 5) {n : Nat} (hn : n < ml k) {v : Int32} (hv : ar k n = v) (kk : sm_wp j (pc + 1) L (.int v :: r) h Q) : sm_wp j pc L (.int (nI n) :: .ref (m + mo k) :: r) h Q := by
  subst hv
  obtain ⟨q1, q2, q3, q4⟩ := M.2.2.1 k (Nat.le_of_ble_eq_true hl) ho
  have hb := ml_le k (Nat.le_of_ble_eq_true hl)
  exact wp_bald hx hi (by rw [q2, ht]; exact Or.inr rfl) (by rw [q3]; exact hn) (by rw [q3]; omega) (q4 n hn) kk
theorem wm_as (k : Nat) (M : MS h0 h m g ar) (hx : sm_tab j t) (hi : t pc = some (.iastore, ci, kz)) (hl : Nat.blt k 67 = true) (ho : mo k ≠ 0) (ht : mt k = 1) {n : Nat} (hn : n < ml k) {v : Int32} (kk : ∀ h', MS h0 h' m g (uA ar k n v) → sm_wp j (pc + 1) L r h' Q) : sm_wp j pc L (.int v :: .int (nI n) :: .ref (m + mo k) :: r) h Q := by
  obtain ⟨q1, q2, q3, q4⟩ := M.2.2.1 k (Nat.le_of_ble_eq_true hl) ho
  have hb := ml_le k (Nat.le_of_ble_eq_true hl)
  exact wp_iast hx hi (by rw [q2, ht]) (by rw [q3]; exact hn) (by rw [q3]; omega) (kk _ (M.stA (Nat.le_of_ble_eq_true hl) ho v))
theorem wm_bs (k : Nat) (M : MS h0 h m g ar) (hx : sm_tab j t) (hi : t pc = some (.bastore, ci, kz)) (hl : Nat.blt k 67 = true) (ho : mo k ≠ 0) (ht : mt k = 5) {n : Nat} (hn : n < ml k) {v : Int32} (hw : narrow .boolean (.int v) = .int v) (kk : ∀ h', MS h0 h' m g (uA ar k n v) → sm_wp j (pc + 1) L r h' Q) : sm_wp j pc L (.int v :: .int (nI n) :: .ref (m + mo k) :: r) h Q := by
  obtain ⟨q1, q2, q3, q4⟩ := M.2.2.1 k (Nat.le_of_ble_eq_true hl) ho
  have hb := ml_le k (Nat.le_of_ble_eq_true hl)
  exact wp_zast hx hi (by rw [q2, ht]) (by rw [q3]; exact hn) (by rw [q3]; omega) hw (kk _ (M.stA (Nat.le_of_ble_eq_true hl) ho v))
/-- a call of the reference's own method -/
theorem wm_iv (hx : sm_tab j t) (hi : t pc = some (.invokevirtual x, ci, kz)) (hrc : xrc ci = 9) (M : MS h0 h m g ar) (As : List Value) (hn : As.length = xna ci) (hr : (r.map fun v => v.category).sum ≤ 8) (hl : (sm_fl (.ref m :: As)).length ≤ xml ci) (hS : S = As.reverse ++ .ref m :: r)
    (k : sm_wp ci 0 (sm_en (.ref m :: As) (xml ci)) [] h (fun k v h' => k = 0 ∧ sm_wp j (pc + 3) L (v.toList ++ r) h' Q)) : sm_wp j pc L S h Q := wp_iv hx hi As hn (by rw [hrc]; exact M.1) hr hl hS k
/-- arithmetic of numbers -/
theorem wp_addN (hx : sm_tab j t) (hi : t pc = some (.iadd, ci, kz)) {a b : Nat} (k : sm_wp j (pc + 1) L (.int (nI (a + b)) :: r) h Q) : sm_wp j pc L (.int (nI b) :: .int (nI a) :: r) h Q := by
  refine wp_pure hx hi rfl ?_
  show sm_wp j (pc + 1) L (.int (nI a + nI b) :: r) h Q
  rw [nI_add]
  exact k
theorem nI_mul (a b : Nat) : nI a * nI b = nI (a * b) := (Int32.ofNat_mul a b).symm
theorem wp_mulN (hx : sm_tab j t) (hi : t pc = some (.imul, ci, kz)) {a b : Nat} (k : sm_wp j (pc + 1) L (.int (nI (a * b)) :: r) h Q) : sm_wp j pc L (.int (nI b) :: .int (nI a) :: r) h Q := by
  refine wp_pure hx hi rfl ?_
  show sm_wp j (pc + 1) L (.int (nI a * nI b) :: r) h Q
  rw [nI_mul]
  exact k
theorem nI_sub {a b : Nat} (hb : b ≤ a) : nI a - nI b = nI (a - b) := by
  have e : nI a = nI (a - b) + nI b := by rw [nI_add, Nat.sub_add_cancel hb]
  rw [e, Int32.add_sub_cancel]
theorem wp_subN (hx : sm_tab j t) (hi : t pc = some (.isub, ci, kz)) {a b : Nat} (hb : b ≤ a) (k : sm_wp j (pc + 1) L (.int (nI (a - b)) :: r) h Q) : sm_wp j pc L (.int (nI b) :: .int (nI a) :: r) h Q := by
  refine wp_pure hx hi rfl ?_
  show sm_wp j (pc + 1) L (.int (nI a - nI b) :: r) h Q
  rw [nI_sub hb]
  exact k
theorem wp_iadd (hx : sm_tab j t) (hi : t pc = some (.iadd, ci, kz)) {a b : Int32} (k : sm_wp j (pc + 1) L (.int (a + b) :: r) h Q) : sm_wp j pc L (.int b :: .int a :: r) h Q := wp_pure hx hi rfl k
theorem wp_isub (hx : sm_tab j t) (hi : t pc = some (.isub, ci, kz)) {a b : Int32} (k : sm_wp j (pc + 1) L (.int (a - b) :: r) h Q) : sm_wp j pc L (.int b :: .int a :: r) h Q := wp_pure hx hi rfl k
theorem wp_imul (hx : sm_tab j t) (hi : t pc = some (.imul, ci, kz)) {a b : Int32} (k : sm_wp j (pc + 1) L (.int (a * b) :: r) h Q) : sm_wp j pc L (.int b :: .int a :: r) h Q := wp_pure hx hi rfl k
theorem wp_iand (hx : sm_tab j t) (hi : t pc = some (.iand, ci, kz)) {a b : Int32} (k : sm_wp j (pc + 1) L (.int (a &&& b) :: r) h Q) : sm_wp j pc L (.int b :: .int a :: r) h Q := wp_pure hx hi rfl k
theorem wp_ior (hx : sm_tab j t) (hi : t pc = some (.ior, ci, kz)) {a b : Int32} (k : sm_wp j (pc + 1) L (.int (a ||| b) :: r) h Q) : sm_wp j pc L (.int b :: .int a :: r) h Q := wp_pure hx hi rfl k
theorem wp_ladd (hx : sm_tab j t) (hi : t pc = some (.ladd, ci, kz)) {a b : Int64} (k : sm_wp j (pc + 1) L (.long (a + b) :: r) h Q) : sm_wp j pc L (.long b :: .long a :: r) h Q := wp_pure hx hi rfl k
theorem wp_lsub (hx : sm_tab j t) (hi : t pc = some (.lsub, ci, kz)) {a b : Int64} (k : sm_wp j (pc + 1) L (.long (a - b) :: r) h Q) : sm_wp j pc L (.long b :: .long a :: r) h Q := wp_pure hx hi rfl k
theorem wp_lmul (hx : sm_tab j t) (hi : t pc = some (.lmul, ci, kz)) {a b : Int64} (k : sm_wp j (pc + 1) L (.long (a * b) :: r) h Q) : sm_wp j pc L (.long b :: .long a :: r) h Q := wp_pure hx hi rfl k
theorem wp_land (hx : sm_tab j t) (hi : t pc = some (.land, ci, kz)) {a b : Int64} (k : sm_wp j (pc + 1) L (.long (a &&& b) :: r) h Q) : sm_wp j pc L (.long b :: .long a :: r) h Q := wp_pure hx hi rfl k
theorem wp_lor (hx : sm_tab j t) (hi : t pc = some (.lor, ci, kz)) {a b : Int64} (k : sm_wp j (pc + 1) L (.long (a ||| b) :: r) h Q) : sm_wp j pc L (.long b :: .long a :: r) h Q := wp_pure hx hi rfl k
theorem wp_ishl (hx : sm_tab j t) (hi : t pc = some (.ishl, ci, kz)) {a b : Int32} (k : sm_wp j (pc + 1) L (.int (a <<< (b &&& 31)) :: r) h Q) : sm_wp j pc L (.int b :: .int a :: r) h Q := wp_pure hx hi rfl k
theorem wp_i2l (hx : sm_tab j t) (hi : t pc = some (.i2l, ci, kz)) {a : Int32} (k : sm_wp j (pc + 1) L (.long a.toInt64 :: r) h Q) : sm_wp j pc L (.int a :: r) h Q := wp_pure hx hi rfl k
theorem wp_l2i (hx : sm_tab j t) (hi : t pc = some (.l2i, ci, kz)) {a : Int64} (k : sm_wp j (pc + 1) L (.int a.toInt32 :: r) h Q) : sm_wp j pc L (.long a :: r) h Q := wp_pure hx hi rfl k
theorem wp_lcmp (hx : sm_tab j t) (hi : t pc = some (.lcmp, ci, kz)) {a b : Int64} (k : sm_wp j (pc + 1) L (.int (lg_cmp a b) :: r) h Q) : sm_wp j pc L (.long b :: .long a :: r) h Q := wp_pure hx hi rfl k
end WM
/-- downward induction: how loops are gone through -/
theorem dn {n : Nat} {P : Nat → Prop} (h0 : P n) (hs : ∀ i, i < n → P (i + 1) → P i) : ∀ i, i ≤ n → P i := by
  intro i hi
  induction hk : n - i generalizing i with
  | zero =>
    have : i = n := by omega
    rw [this]
    exact h0
  | succ k ih => exact hs i (by omega) (ih (i + 1) (by omega) (by omega))
end
section
/-! TEXTS: reading a line, as the reference does it; a place of the text, or where it is refused -/
def tk (tx : Nat → Int32) (len p : Nat) : Int32 := if p < len then tx p else -1
def isLt (c : Int32) : Prop := 97 ≤ c ∧ c ≤ 122
def isDg (c : Int32) : Prop := 48 ≤ c ∧ c ≤ 57
theorem tk_end {tx : Nat → Int32} {len p : Nat} (h : len ≤ p) : tk tx len p = -1 := if_neg (by omega)
theorem tk_in {tx : Nat → Int32} {len p : Nat} (h : p < len) : tk tx len p = tx p := if_pos h
theorem tk_lt {tx : Nat → Int32} {len p : Nat} (h : tk tx len p ≠ -1) : p < len := Nat.not_le.mp (fun q => h (tk_end q))
theorem isDg_lt {tx : Nat → Int32} {len p : Nat} (h : isDg (tk tx len p)) : p < len := tk_lt (fun e => by rw [e] at h; exact absurd h (by unfold isDg; decide))
theorem isLt_lt {tx : Nat → Int32} {len p : Nat} (h : isLt (tk tx len p)) : p < len := tk_lt (fun e => by rw [e] at h; exact absurd h (by unfold isLt; decide))
/-- one sign -/
noncomputable def skM (tx : Nat → Int32) (len : Nat) (c : Int32) (p : Nat) : Except Nat Nat := @ite _ (tk tx len p = c) (Classical.propDecidable _) (.ok (p + 1)) (.error p)
/-- digits: the value as the reference reckons it -/
noncomputable def numL (tx : Nat → Int32) (len : Nat) : Nat → Nat → Nat → Nat × Nat
  | 0, p, w => (w, p)
  | f + 1, p, w => @ite _ (isDg (tk tx len p)) (Classical.propDecidable _) (numL tx len f (p + 1) (if 1000000 < w then w else 10 * w + ((tk tx len p).toNatClampNeg - 48))) (w, p)
def numV (w : Nat) : Nat := if 1000000 < w then 1000001 else w
/-- a number behind a blank -/
noncomputable def numM (tx : Nat → Int32) (len low high p : Nat) : Except Nat (Nat × Nat) :=
  match skM tx len (nI 32) p with
  | .error q => .error q
  | .ok f => @ite _ ((numL tx len len f 0).2 = f) (Classical.propDecidable _) (.error f)
    (@ite _ (f + 1 < (numL tx len len f 0).2 ∧ tk tx len f = nI 48) (Classical.propDecidable _) (.error (if 0 < low then f else f + 1))
      (@ite _ (low ≤ numV (numL tx len len f 0).1 ∧ numV (numL tx len len f 0).1 ≤ high) (Classical.propDecidable _) (.ok (numV (numL tx len len f 0).1, (numL tx len len f 0).2)) (.error f)))
noncomputable def nmL (tx : Nat → Int32) (len : Nat) : Nat → Nat → Int32 → Int32 × Nat
  | 0, p, v => (v, p)
  | k + 1, p, v => @ite _ (isLt (tk tx len p) ∨ isDg (tk tx len p)) (Classical.propDecidable _) (nmL tx len k (p + 1) ((v <<< 8) ||| tk tx len p)) (v, p)
/-- a name behind a blank: its number, where it begins, where it ends -/
noncomputable def nameM (tx : Nat → Int32) (len p : Nat) : Except Nat (Int32 × Nat × Nat) :=
  match skM tx len (nI 32) p with
  | .error q => .error q
  | .ok f => @ite _ (isLt (tk tx len f)) (Classical.propDecidable _) (.ok ((nmL tx len 4 f (nI 0)).1, f, (nmL tx len 4 f (nI 0)).2)) (.error f)
/-- the first of n numbers that is c -/
def fI (f : Nat → Int32) (n : Nat) (c : Int32) : Option Nat := (List.range n).find? (fun k => decide (f k = c))
def fIv (o : Option Nat) : Int32 := match o with
  | some k => nI k
  | none => -1
noncomputable def newM (tx : Nat → Int32) (len : Nat) (nm : Nat → Int32) (n p : Nat) : Except Nat (Int32 × Nat) :=
  match nameM tx len p with
  | .error q => .error q
  | .ok (v, f, q) => match fI nm n v with
    | none => .ok (v, q)
    | some _ => .error f
noncomputable def oldM (tx : Nat → Int32) (len : Nat) (nm kd : Nat → Int32) (n : Nat) (of0 : Int32) (p : Nat) : Except Nat (Nat × Nat × Nat) :=
  match nameM tx len p with
  | .error q => .error q
  | .ok (v, f, q) => match fI nm n v with
    | none => .error f
    | some k => @ite _ (kd k = of0) (Classical.propDecidable _) (.ok (k, f, q)) (.error f)
theorem fI_none {f : Nat → Int32} {n : Nat} {c : Int32} (h : ∀ k, k < n → ¬ f k = c) : fI f n c = none := by
  unfold fI
  rw [List.find?_eq_none]
  intro k hk
  have := h k (List.mem_range.mp hk)
  simp [this]
theorem fI_some {f : Nat → Int32} {n k : Nat} {c : Int32} (hk : k < n) (he : f k = c) (h : ∀ i, i < k → ¬ f i = c) : fI f n c = some k := by
  unfold fI
  rw [List.find?_range_eq_some]
  refine ⟨by simp [he], List.mem_range.mpr hk, fun i hi => ?_⟩
  simp [h i hi]
theorem fI_spec {f : Nat → Int32} {n k : Nat} {c : Int32} (h : fI f n c = some k) : k < n ∧ f k = c := by
  unfold fI at h
  have h1 := List.mem_of_find?_eq_some h
  have h2 := List.find?_some h
  exact ⟨List.mem_range.mp h1, by simpa using h2⟩
theorem fI_none_iff {f : Nat → Int32} {n : Nat} {c : Int32} : fI f n c = none ↔ ∀ k, k < n → ¬ f k = c := by
  refine ⟨fun h k hk e => ?_, fI_none⟩
  unfold fI at h
  rw [List.find?_eq_none] at h
  exact absurd (h k (List.mem_range.mpr hk)) (by simp [e])
theorem fI_congr {f f' : Nat → Int32} {n : Nat} {c : Int32} (h : ∀ k, k < n → f k = f' k) : fI f n c = fI f' n c := by
  cases hf : fI f n c with
  | none =>
    rw [fI_none_iff] at hf
    exact (fI_none (fun k hk => by rw [← h k hk]; exact hf k hk)).symm
  | some k =>
    symm
    unfold fI at hf ⊢
    rw [List.find?_range_eq_some] at hf ⊢
    obtain ⟨h1, h2, h3⟩ := hf
    have hk := List.mem_range.mp h2
    refine ⟨by rw [← h k hk]; exact h1, h2, fun i hi => ?_⟩
    rw [← h i (by omega)]
    exact h3 i hi
/-- fields that may have changed -/
def eqx (S : List Nat) (g g' : Nat → Int32) : Prop := ∀ k, k ∉ S → g' k = g k
theorem eqx.trans {S S' S'' : List Nat} {g g1 g2 : Nat → Int32} (a : eqx S g g1) (b : eqx S' g1 g2) (h : ∀ k, k ∈ S ++ S' → k ∈ S'') : eqx S'' g g2 := fun k hk => (b k (fun q => hk (h k (List.mem_append_right _ q)))).trans (a k (fun q => hk (h k (List.mem_append_left _ q))))
theorem eqx.u1 {S : List Nat} {g : Nat → Int32} {k : Nat} {v : Int32} (h : k ∈ S) : eqx S g (uF g k v) := fun k' hk' => if_neg (fun e => hk' (by rw [e]; exact h))
theorem eqx.refl (S : List Nat) (g : Nat → Int32) : eqx S g g := fun _ _ => rfl
theorem eqx.more {S S' : List Nat} {g g' : Nat → Int32} (a : eqx S g g') (h : ∀ k, k ∈ S → k ∈ S') : eqx S' g g' := fun k hk => a k (fun q => hk (h k q))
theorem uF_at {g : Nat → Int32} {k : Nat} {v : Int32} : uF g k v k = v := if_pos rfl
theorem uF_ne {g : Nat → Int32} {k k' : Nat} {v : Int32} (h : k' ≠ k) : uF g k v k' = g k' := if_neg h
theorem skM_ok {tx : Nat → Int32} {len : Nat} {c : Int32} {p : Nat} (h : tk tx len p = c) : skM tx len c p = .ok (p + 1) := if_pos h
theorem skM_er {tx : Nat → Int32} {len : Nat} {c : Int32} {p : Nat} (h : ¬ tk tx len p = c) : skM tx len c p = .error p := if_neg h
theorem skM_inv {tx : Nat → Int32} {len : Nat} {c : Int32} {p q : Nat} (h : skM tx len c p = .ok q) : q = p + 1 ∧ tk tx len p = c := by
  by_cases e : tk tx len p = c
  · rw [skM_ok e] at h; cases h; exact ⟨rfl, e⟩
  · rw [skM_er e] at h; cases h
theorem nmL_le {tx : Nat → Int32} {len : Nat} : ∀ (k p : Nat) (v : Int32), p ≤ len → p ≤ (nmL tx len k p v).2 ∧ (nmL tx len k p v).2 ≤ len ∧ (nmL tx len k p v).2 ≤ p + k
  | 0, p, v, h => ⟨Nat.le_refl _, h, Nat.le_refl _⟩
  | k + 1, p, v, h => by
    by_cases e : isLt (tk tx len p) ∨ isDg (tk tx len p)
    · rw [show nmL tx len (k + 1) p v = nmL tx len k (p + 1) ((v <<< 8) ||| tk tx len p) from if_pos e]
      have hp : p < len := e.elim isLt_lt isDg_lt
      have := nmL_le (tx := tx) k (p + 1) ((v <<< 8) ||| tk tx len p) hp
      omega
    · rw [show nmL tx len (k + 1) p v = (v, p) from if_neg e]
      exact ⟨Nat.le_refl _, h, by omega⟩
theorem nameM_ok {tx : Nat → Int32} {len p f q : Nat} {v : Int32} (h : nameM tx len p = .ok (v, f, q)) : f = p + 1 ∧ p + 1 < q ∧ q ≤ len ∧ p < len := by
  unfold nameM at h
  split at h
  · cases h
  · rename_i f' hs
    obtain ⟨rfl, hc⟩ := skM_inv hs
    have hp : p < len := tk_lt (fun e => by rw [e] at hc; exact absurd hc (by decide))
    by_cases e : isLt (tk tx len (p + 1))
    · rw [if_pos e] at h
      cases h
      have hp1 := isLt_lt e
      have h1 : nmL tx len 4 (p + 1) (nI 0) = nmL tx len 3 (p + 2) (((nI 0) <<< 8) ||| tk tx len (p + 1)) := if_pos (Or.inl e)
      have h2 := nmL_le (tx := tx) 3 (p + 2) (((nI 0) <<< 8) ||| tk tx len (p + 1)) (len := len) (by omega)
      rw [h1]
      omega
    · rw [if_neg e] at h; cases h
theorem numL_le {tx : Nat → Int32} {len : Nat} : ∀ (k p w : Nat), p ≤ len → p ≤ (numL tx len k p w).2 ∧ (numL tx len k p w).2 ≤ len
  | 0, p, w, h => ⟨Nat.le_refl _, h⟩
  | k + 1, p, w, h => by
    by_cases e : isDg (tk tx len p)
    · rw [show numL tx len (k + 1) p w = numL tx len k (p + 1) (if 1000000 < w then w else 10 * w + ((tk tx len p).toNatClampNeg - 48)) from if_pos e]
      have hp : p < len := isDg_lt e
      have := numL_le (tx := tx) k (p + 1) (if 1000000 < w then w else 10 * w + ((tk tx len p).toNatClampNeg - 48)) hp
      omega
    · rw [show numL tx len (k + 1) p w = (w, p) from if_neg e]
      exact ⟨Nat.le_refl _, h⟩
theorem numM_ok {tx : Nat → Int32} {len low high p v q : Nat} (h : numM tx len low high p = .ok (v, q)) : p + 1 < q ∧ q ≤ len ∧ low ≤ v ∧ v ≤ high ∧ p < len := by
  unfold numM at h
  split at h
  · cases h
  · rename_i f hs
    obtain ⟨rfl, hc⟩ := skM_inv hs
    have hp : p < len := tk_lt (fun e => by rw [e] at hc; exact absurd hc (by decide))
    have hle := numL_le (tx := tx) (len := len) len (p + 1) 0 hp
    split at h
    · cases h
    · split at h
      · cases h
      · split at h
        · rename_i h1 h2 h3
          cases h
          exact ⟨by omega, hle.2, h3.1, h3.2, hp⟩
        · cases h
theorem isDg_nI {c : Int32} (h : isDg c) : ∃ d, d ≤ 9 ∧ c = nI (48 + d) := by
  obtain ⟨h1, h2⟩ := h
  obtain ⟨j, hj, e⟩ := nI_of (x := c) (fun z => absurd (Int32.le_trans h1 (Int32.le_of_lt z)) (by decide))
  subst e
  have a := (nI_leI (a := 48) (b := j) (by decide) hj).mp h1
  have b := (nI_leI (a := j) (b := 57) hj (by decide)).mp h2
  exact ⟨j - 48, by omega, by rw [show 48 + (j - 48) = j by omega]⟩
theorem eqx.u {S : List Nat} {g g1 : Nat → Int32} {k : Nat} {v : Int32} (a : eqx S g g1) (h : k ∈ S) : eqx S g (uF g1 k v) := fun k' hk' => (if_neg (fun e => hk' (by rw [e]; exact h))).trans (a k' hk')
theorem tkc {tx : Nat → Int32} {len p : Nat} {c : Int32} (h : tk tx len p = c) (hc : c ≠ -1) : p + 1 ≤ len := tk_lt (fun e => hc (h.symm.trans e))
theorem lcmp_le {a b : Nat} (ha : a < 2 ^ 31) (hb : b < 2 ^ 31) : lg_cmp (lN a) (lN b) ≤ 0 ↔ a ≤ b := (lg_cmp_le _ _).trans (lN_le ha hb)
end
section
/-! the reference: reading signs -/
theorem yL {a b : Nat} (ha : a < 2 ^ 31) (hb : b < 2 ^ 31) (z : nI a < nI b) : a < b := (nI_ltI ha hb).mp z
theorem yNL {a b : Nat} (hb : b < 2 ^ 31) (ha : a < 2 ^ 31) (z : ¬ nI a < nI b) : b ≤ a := Nat.not_lt.mp (fun q => z ((nI_ltI ha hb).mpr q))
theorem yLe {a b : Nat} (ha : a < 2 ^ 31) (hb : b < 2 ^ 31) (z : nI a ≤ nI b) : a ≤ b := (nI_leI ha hb).mp z
theorem yNLe {a b : Nat} (hb : b < 2 ^ 31) (ha : a < 2 ^ 31) (z : ¬ nI a ≤ nI b) : b < a := Nat.not_le.mp (fun q => z ((nI_leI ha hb).mpr q))
theorem yE {a b : Nat} (ha : a < 2 ^ 31) (hb : b < 2 ^ 31) (z : nI a = nI b) : a = b := (nI_eq ha hb).mp z
theorem yNE {a b : Nat} (_ : a < 2 ^ 31) (_ : b < 2 ^ 31) (z : ¬ nI a = nI b) : ¬ a = b := fun q => z (by rw [q])
theorem yNNE {a b : Nat} (ha : a < 2 ^ 31) (hb : b < 2 ^ 31) (z : ¬ ¬ nI a = nI b) : a = b := (nI_eq ha hb).mp (Classical.not_not.mp z)
theorem m_in {h : sm_H} {Q : Nat → Option Value → sm_H → Prop} {v lo hi : Int32} (k1 : lo ≤ v ∧ v ≤ hi → Q 0 (some (.int (nI 1))) h) (k0 : ¬ (lo ≤ v ∧ v ≤ hi) → Q 0 (some (.int (nI 0))) h) : sm_wp 83 0 [.int v, .int lo, .int hi] [] h Q := by
  refine wp_pure k_83 rfl rfl ?_
  refine wp_pure k_83 rfl rfl ?_
  refine wp_br k_83 rfl rfl rfl rfl (fun z2 => ?_) (fun z2 => ?_)
  · refine wp_kn k_83 rfl rfl ?_
    exact wp_irt k_83 rfl rfl rfl (k0 (fun q => absurd q.1 (Int32.not_le.mpr z2)))
  · refine wp_pure k_83 rfl rfl ?_
    refine wp_pure k_83 rfl rfl ?_
    refine wp_br k_83 rfl rfl rfl rfl (fun z7 => ?_) (fun z7 => ?_)
    · refine wp_kn k_83 rfl rfl ?_
      exact wp_irt k_83 rfl rfl rfl (k0 (fun q => absurd q.2 (Int32.not_le.mpr z7)))
    · refine wp_kn k_83 rfl rfl ?_
      refine wp_br k_83 rfl rfl rfl rfl (fun _ => ?_) (fun z => absurd trivial z)
      exact wp_irt k_83 rfl rfl rfl (k1 ⟨Int32.not_lt.mp z2, Int32.not_lt.mp z7⟩)
theorem m_next {h0 h : sm_H} {m : Nat} {g : Nat → Int32} {ar : Nat → Nat → Int32} {Q : Nat → Option Value → sm_H → Prop} (M : MS h0 h m g ar) {len p : Nat} (hn : g 2 = nI len) (hl : len ≤ 3000) (hp : g 23 = nI p) (hpl : p ≤ len) (k : Q 0 (some (.int (tk (ar 1) len p))) h) : sm_wp 86 0 [.ref m] [] h Q := by
  refine wp_pure k_86 rfl rfl ?_
  refine wm_gi 23 M k_86 rfl rfl rfl rfl hp ?_
  refine wp_pure k_86 rfl rfl ?_
  refine wm_gi 2 M k_86 rfl rfl rfl rfl hn ?_
  refine wp_br k_86 rfl rfl rfl rfl (fun z8 => ?_) (fun z8 => ?_)
  · have y8 : len ≤ p := yLe (by omega) (by omega) z8
    refine wp_km k_86 rfl rfl ?_
    rw [tk_end y8] at k
    exact wp_irt k_86 rfl rfl rfl (k)
  · have y8 : p < len := yNLe (by omega) (by omega) z8
    refine wp_pure k_86 rfl rfl ?_
    refine wm_ga 1 M k_86 rfl rfl rfl (by decide) ?_
    refine wp_pure k_86 rfl rfl ?_
    refine wm_gi 23 M k_86 rfl rfl rfl rfl hp ?_
    refine wm_al 1 M k_86 rfl rfl (by decide) rfl (show p < 3000 by omega) rfl ?_
    refine wp_br k_86 rfl rfl rfl rfl (fun _ => ?_) (fun z => absurd trivial z)
    rw [tk_in y8] at k
    exact wp_irt k_86 rfl rfl rfl (k)
theorem m_wrong {h0 h : sm_H} {m : Nat} {g : Nat → Int32} {ar : Nat → Nat → Int32} {Q : Nat → Option Value → sm_H → Prop} (M : MS h0 h m g ar) {q : Int32} (k : ∀ h', MS h0 h' m (uF g 24 q) ar → Q 0 (some (.int (nI 0))) h') : sm_wp 88 0 [.ref m, .int q] [] h Q := by
  refine wp_pure k_88 rfl rfl ?_
  refine wp_pure k_88 rfl rfl ?_
  refine wm_pi 24 M k_88 rfl rfl rfl rfl rfl rfl (fun h1 M1 => ?_)
  refine wp_kn k_88 rfl rfl ?_
  exact wp_irt k_88 rfl rfl rfl (k _ M1)
theorem m_takes {h0 h : sm_H} {m : Nat} {g : Nat → Int32} {ar : Nat → Nat → Int32} {Q : Nat → Option Value → sm_H → Prop} (M : MS h0 h m g ar) {len p : Nat} (hn : g 2 = nI len) (hl : len ≤ 3000) (hp : g 23 = nI p) (hpl : p ≤ len) {c : Int32} (k1 : tk (ar 1) len p = c → ∀ h', MS h0 h' m (uF g 23 (nI (p + 1))) ar → Q 0 (some (.int (nI 1))) h') (k0 : ¬ tk (ar 1) len p = c → ∀ h', MS h0 h' m (uF g 24 (nI p)) ar → Q 0 (some (.int (nI 0))) h') : sm_wp 93 0 [.ref m, .int c] [] h Q := by
  refine wp_pure k_93 rfl rfl ?_
  refine wm_iv k_93 rfl rfl M [] rfl (r := []) (Nat.le_of_ble_eq_true rfl) (Nat.le_of_ble_eq_true rfl) rfl ?_
  refine m_next M hn hl hp hpl ⟨rfl, ?_⟩
  refine wp_pure k_93 rfl rfl ?_
  refine wp_br k_93 rfl rfl rfl rfl (fun z5 => ?_) (fun z5 => ?_)
  · refine wp_pure k_93 rfl rfl ?_
    refine wp_pure k_93 rfl rfl ?_
    refine wm_gi 23 M k_93 rfl rfl rfl rfl hp ?_
    refine wp_kn k_93 rfl rfl ?_
    refine wp_addN k_93 rfl ?_
    refine wm_pi 23 M k_93 rfl rfl rfl rfl rfl rfl (fun h1 M1 => ?_)
    refine wp_kn k_93 rfl rfl ?_
    exact wp_irt k_93 rfl rfl rfl (k1 z5 _ M1)
  · refine wp_pure k_93 rfl rfl ?_
    refine wp_pure k_93 rfl rfl ?_
    refine wm_gi 23 M k_93 rfl rfl rfl rfl hp ?_
    refine wm_iv k_93 rfl rfl M [.int (nI p)] rfl (r := []) (Nat.le_of_ble_eq_true rfl) (Nat.le_of_ble_eq_true rfl) rfl ?_
    refine m_wrong M (fun h2 M2 => ⟨rfl, ?_⟩)
    exact wp_irt k_93 rfl rfl rfl (k0 z5 _ M2)
theorem m_isLt {h0 h : sm_H} {m : Nat} {g : Nat → Int32} {ar : Nat → Nat → Int32} {Q : Nat → Option Value → sm_H → Prop} (M : MS h0 h m g ar) {len p : Nat} (hn : g 2 = nI len) (hl : len ≤ 3000) (hp : g 23 = nI p) (hpl : p ≤ len) (k1 : isLt (tk (ar 1) len p) → Q 0 (some (.int (nI 1))) h) (k0 : ¬ isLt (tk (ar 1) len p) → Q 0 (some (.int (nI 0))) h) : sm_wp 94 0 [.ref m] [] h Q := by
  refine wp_pure k_94 rfl rfl ?_
  refine wm_iv k_94 rfl rfl M [] rfl (r := []) (Nat.le_of_ble_eq_true rfl) (Nat.le_of_ble_eq_true rfl) rfl ?_
  refine m_next M hn hl hp hpl ⟨rfl, ?_⟩
  refine wp_kn k_94 rfl rfl ?_
  refine wp_kn k_94 rfl rfl ?_
  refine wp_is k_94 rfl (by decide) [.int (tk (ar 1) len p), .int (nI 97), .int (nI 122)] rfl (r := []) (Nat.le_of_ble_eq_true rfl) (Nat.le_of_ble_eq_true rfl) rfl ?_
  refine m_in (fun z => ⟨rfl, ?_⟩) (fun z => ⟨rfl, ?_⟩)
  · exact wp_irt k_94 rfl rfl rfl (k1 z)
  · exact wp_irt k_94 rfl rfl rfl (k0 z)
theorem m_isDg {h0 h : sm_H} {m : Nat} {g : Nat → Int32} {ar : Nat → Nat → Int32} {Q : Nat → Option Value → sm_H → Prop} (M : MS h0 h m g ar) {len p : Nat} (hn : g 2 = nI len) (hl : len ≤ 3000) (hp : g 23 = nI p) (hpl : p ≤ len) (k1 : isDg (tk (ar 1) len p) → Q 0 (some (.int (nI 1))) h) (k0 : ¬ isDg (tk (ar 1) len p) → Q 0 (some (.int (nI 0))) h) : sm_wp 95 0 [.ref m] [] h Q := by
  refine wp_pure k_95 rfl rfl ?_
  refine wm_iv k_95 rfl rfl M [] rfl (r := []) (Nat.le_of_ble_eq_true rfl) (Nat.le_of_ble_eq_true rfl) rfl ?_
  refine m_next M hn hl hp hpl ⟨rfl, ?_⟩
  refine wp_kn k_95 rfl rfl ?_
  refine wp_kn k_95 rfl rfl ?_
  refine wp_is k_95 rfl (by decide) [.int (tk (ar 1) len p), .int (nI 48), .int (nI 57)] rfl (r := []) (Nat.le_of_ble_eq_true rfl) (Nat.le_of_ble_eq_true rfl) rfl ?_
  refine m_in (fun z => ⟨rfl, ?_⟩) (fun z => ⟨rfl, ?_⟩)
  · exact wp_irt k_95 rfl rfl rfl (k1 z)
  · exact wp_irt k_95 rfl rfl rfl (k0 z)
theorem m_numberOf {h0 h : sm_H} {m : Nat} {g : Nat → Int32} {ar : Nat → Nat → Int32} {Q : Nat → Option Value → sm_H → Prop} (M : MS h0 h m g ar) {n : Nat} (hn : g 26 = nI n) (h5 : n ≤ 501) {c : Int32} (k : Q 0 (some (.int (fIv (fI (ar 37) n c)))) h) : sm_wp 96 0 [.ref m, .int c, jk] [] h Q := by
  refine wp_kn k_96 rfl rfl ?_
  refine wp_pure k_96 rfl rfl ?_
  refine dn (n := n) (P := fun i => (∀ i', i' < i → ¬ ar 37 i' = c) → sm_wp 96 2 [.ref m, .int c, .int (nI i)] [] h Q) (fun hb => ?_) (fun i hi ih hb => ?_) 0 (Nat.zero_le n) (fun i hi => absurd hi (Nat.not_lt_zero i))
  · refine wp_pure k_96 rfl rfl ?_
    refine wp_pure k_96 rfl rfl ?_
    refine wm_gi 26 M k_96 rfl rfl rfl rfl hn ?_
    refine wp_br k_96 rfl rfl rfl rfl (fun _ => ?_) (fun z => absurd (nI_le (Nat.le_refl n) (by omega)) z)
    refine wp_km k_96 rfl rfl ?_
    rw [fI_none (fun i hi => hb i hi)] at k
    exact wp_irt k_96 rfl rfl rfl (k)
  · refine wp_pure k_96 rfl rfl ?_
    refine wp_pure k_96 rfl rfl ?_
    refine wm_gi 26 M k_96 rfl rfl rfl rfl hn ?_
    refine wp_br k_96 rfl rfl rfl rfl (fun z => absurd z (nI_ge hi (by omega))) (fun _ => ?_)
    refine wp_pure k_96 rfl rfl ?_
    refine wm_ga 37 M k_96 rfl rfl rfl (by decide) ?_
    refine wp_pure k_96 rfl rfl ?_
    refine wm_al 37 M k_96 rfl rfl (by decide) rfl (show i < 501 by omega) rfl ?_
    refine wp_pure k_96 rfl rfl ?_
    refine wp_br k_96 rfl rfl rfl rfl (fun z17 => ?_) (fun z17 => ?_)
    · refine wp_inc k_96 rfl rfl rfl ?_
      refine wp_br k_96 rfl rfl rfl rfl (fun _ => ?_) (fun z => absurd trivial z)
      exact ih (fun j hj => (Nat.lt_succ_iff_lt_or_eq.mp hj).elim (hb j) (fun e => by rw [e]; exact z17))
    · refine wp_pure k_96 rfl rfl ?_
      rw [fI_some hi (Classical.not_not.mp z17) hb] at k
      exact wp_irt k_96 rfl rfl rfl (k)
theorem nI_nm1 {k : Nat} (h : k < 2 ^ 31) : ¬ nI k = -1 := fun e => absurd (show nI k < 0 by rw [e]; decide) (nI_pos h)
theorem m_numOf {h0 h : sm_H} {m : Nat} {g : Nat → Int32} {ar : Nat → Nat → Int32} {Q : Nat → Option Value → sm_H → Prop} (M : MS h0 h m g ar) {n : Nat} (hn : g 26 = nI n) (h5 : n ≤ 501) {c : Int32} (K0 : fI (ar 37) n c = none → Q 0 (some (.int (-1))) h) (K1 : ∀ k, fI (ar 37) n c = some k → k < n → Q 0 (some (.int (nI k))) h) : sm_wp 96 0 [.ref m, .int c, jk] [] h Q := by
  refine m_numberOf M hn h5 ?_
  cases e : fI (ar 37) n c with
  | none => exact K0 e
  | some k => exact K1 k e (fI_spec e).1
theorem m_nameL {h0 : sm_H} {m : Nat} {ar : Nat → Nat → Int32} {Q : Nat → Option Value → sm_H → Prop} {len f : Nat} (hl : len ≤ 3000) : ∀ (k : Nat) {h : sm_H} {g : Nat → Int32} (M : MS h0 h m g ar) (hn : g 2 = nI len) {p : Nat} {v : Int32} (hp : g 23 = nI p) (hpl : p ≤ len) (hf : g 49 = nI f) (hfp : p + k = f + 4) (hf2 : f ≤ p)
    (K : ∀ h' g', MS h0 h' m g' ar → eqx [23, 48] g g' → ∀ r, nmL (ar 1) len k p v = r → g' 23 = nI r.2 → g' 48 = r.1 → r.2 ≤ len → Q 0 (some (.int (nI 1))) h'), sm_wp 92 37 [.ref m, .int v] [] h Q := by
  intro k
  induction k with
  | zero =>
    intro h g M hn p v hp hpl hf hfp hf2 K
    refine wp_pure k_92 rfl rfl ?_
    refine wm_iv k_92 rfl rfl M [] rfl (r := []) (Nat.le_of_ble_eq_true rfl) (Nat.le_of_ble_eq_true rfl) rfl ?_
    refine m_isLt M hn hl hp hpl (fun zisLt => ⟨rfl, ?_⟩) (fun zisLt => ⟨rfl, ?_⟩)
    · refine wp_br k_92 rfl rfl rfl rfl (fun _ => ?_) (fun z => absurd (show ¬ (nI 1 : Int32) = 0 by decide) z)
      refine wp_pure k_92 rfl rfl ?_
      refine wm_gi 23 M k_92 rfl rfl rfl rfl hp ?_
      refine wp_pure k_92 rfl rfl ?_
      refine wm_gi 49 M k_92 rfl rfl rfl rfl hf ?_
      refine wp_subN k_92 rfl (show f ≤ p by omega) ?_
      refine wp_kn k_92 rfl rfl ?_
      refine wp_br k_92 rfl rfl rfl rfl (fun _ => ?_) (fun z => absurd (nI_le (show 4 ≤ p - f by omega) (by omega)) z)
      refine wp_pure k_92 rfl rfl ?_
      refine wp_pure k_92 rfl rfl ?_
      refine wm_pi 48 M k_92 rfl rfl rfl rfl rfl rfl (fun h1 M1 => ?_)
      refine wp_kn k_92 rfl rfl ?_
      exact wp_irt k_92 rfl rfl rfl (K _ _ M1 (eqx.u1 (by decide)) (v, p) rfl ((uF_ne (by decide)).trans hp) uF_at hpl)
    · refine wp_br k_92 rfl rfl rfl rfl (fun z => absurd z (show ¬ (¬ (nI 0 : Int32) = 0) by decide)) (fun _ => ?_)
      refine wp_pure k_92 rfl rfl ?_
      refine wm_iv k_92 rfl rfl M [] rfl (r := []) (Nat.le_of_ble_eq_true rfl) (Nat.le_of_ble_eq_true rfl) rfl ?_
      refine m_isDg M hn hl hp hpl (fun zisDg => ⟨rfl, ?_⟩) (fun zisDg => ⟨rfl, ?_⟩)
      · refine wp_br k_92 rfl rfl rfl rfl (fun z => absurd z (show ¬ ((nI 1 : Int32) = 0) by decide)) (fun _ => ?_)
        refine wp_pure k_92 rfl rfl ?_
        refine wm_gi 23 M k_92 rfl rfl rfl rfl hp ?_
        refine wp_pure k_92 rfl rfl ?_
        refine wm_gi 49 M k_92 rfl rfl rfl rfl hf ?_
        refine wp_subN k_92 rfl (show f ≤ p by omega) ?_
        refine wp_kn k_92 rfl rfl ?_
        refine wp_br k_92 rfl rfl rfl rfl (fun _ => ?_) (fun z => absurd (nI_le (show 4 ≤ p - f by omega) (by omega)) z)
        refine wp_pure k_92 rfl rfl ?_
        refine wp_pure k_92 rfl rfl ?_
        refine wm_pi 48 M k_92 rfl rfl rfl rfl rfl rfl (fun h2 M2 => ?_)
        refine wp_kn k_92 rfl rfl ?_
        exact wp_irt k_92 rfl rfl rfl (K _ _ M2 (eqx.u1 (by decide)) (v, p) rfl ((uF_ne (by decide)).trans hp) uF_at hpl)
      · refine wp_br k_92 rfl rfl rfl rfl (fun _ => ?_) (fun z => absurd (show (nI 0 : Int32) = 0 by decide) z)
        refine wp_pure k_92 rfl rfl ?_
        refine wp_pure k_92 rfl rfl ?_
        refine wm_pi 48 M k_92 rfl rfl rfl rfl rfl rfl (fun h3 M3 => ?_)
        refine wp_kn k_92 rfl rfl ?_
        exact wp_irt k_92 rfl rfl rfl (K _ _ M3 (eqx.u1 (by decide)) (v, p) rfl ((uF_ne (by decide)).trans hp) uF_at hpl)
  | succ k ih =>
    intro h g M hn p v hp hpl hf hfp hf2 K
    refine wp_pure k_92 rfl rfl ?_
    refine wm_iv k_92 rfl rfl M [] rfl (r := []) (Nat.le_of_ble_eq_true rfl) (Nat.le_of_ble_eq_true rfl) rfl ?_
    refine m_isLt M hn hl hp hpl (fun zisLt => ⟨rfl, ?_⟩) (fun zisLt => ⟨rfl, ?_⟩)
    · refine wp_br k_92 rfl rfl rfl rfl (fun _ => ?_) (fun z => absurd (show ¬ (nI 1 : Int32) = 0 by decide) z)
      refine wp_pure k_92 rfl rfl ?_
      refine wm_gi 23 M k_92 rfl rfl rfl rfl hp ?_
      refine wp_pure k_92 rfl rfl ?_
      refine wm_gi 49 M k_92 rfl rfl rfl rfl hf ?_
      refine wp_subN k_92 rfl (show f ≤ p by omega) ?_
      refine wp_kn k_92 rfl rfl ?_
      refine wp_br k_92 rfl rfl rfl rfl (fun z => absurd z (nI_ge (show p - f < 4 by omega) (by omega))) (fun _ => ?_)
      refine wp_pure k_92 rfl rfl ?_
      refine wp_kn k_92 rfl rfl ?_
      refine wp_ishl k_92 rfl ?_
      refine wp_pure k_92 rfl rfl ?_
      refine wm_iv k_92 rfl rfl M [] rfl (r := [.int (v <<< ((nI 8) &&& 31))]) (Nat.le_of_ble_eq_true rfl) (Nat.le_of_ble_eq_true rfl) rfl ?_
      refine m_next M hn hl hp hpl ⟨rfl, ?_⟩
      refine wp_ior k_92 rfl ?_
      refine wp_pure k_92 rfl rfl ?_
      refine wp_pure k_92 rfl rfl ?_
      refine wp_pure k_92 rfl rfl ?_
      refine wm_gi 23 M k_92 rfl rfl rfl rfl hp ?_
      refine wp_kn k_92 rfl rfl ?_
      refine wp_addN k_92 rfl ?_
      refine wm_pi 23 M k_92 rfl rfl rfl rfl rfl rfl (fun h1 M1 => ?_)
      refine wp_br k_92 rfl rfl rfl rfl (fun _ => ?_) (fun z => absurd trivial z)
      have hlt : p < len := isLt_lt zisLt
      rw [show (nI 8 &&& 31 : Int32) = 8 by decide]
      refine ih M1 ((uF_ne (by decide)).trans hn) (uF_at : (uF g 23 (nI (p + 1))) 23 = nI (p + 1)) hlt ((uF_ne (by decide)).trans hf) (by omega) (by omega) (fun h9 g9 M9 e9 r9 hr9 a9 b9 c9 => K h9 g9 M9 ((eqx.u1 (S := [23, 48]) (by decide)).trans e9 (by decide)) r9 ?_ a9 b9 c9)
      rw [← hr9]
      exact if_pos (Or.inl zisLt)
    · refine wp_br k_92 rfl rfl rfl rfl (fun z => absurd z (show ¬ (¬ (nI 0 : Int32) = 0) by decide)) (fun _ => ?_)
      refine wp_pure k_92 rfl rfl ?_
      refine wm_iv k_92 rfl rfl M [] rfl (r := []) (Nat.le_of_ble_eq_true rfl) (Nat.le_of_ble_eq_true rfl) rfl ?_
      refine m_isDg M hn hl hp hpl (fun zisDg => ⟨rfl, ?_⟩) (fun zisDg => ⟨rfl, ?_⟩)
      · refine wp_br k_92 rfl rfl rfl rfl (fun z => absurd z (show ¬ ((nI 1 : Int32) = 0) by decide)) (fun _ => ?_)
        refine wp_pure k_92 rfl rfl ?_
        refine wm_gi 23 M k_92 rfl rfl rfl rfl hp ?_
        refine wp_pure k_92 rfl rfl ?_
        refine wm_gi 49 M k_92 rfl rfl rfl rfl hf ?_
        refine wp_subN k_92 rfl (show f ≤ p by omega) ?_
        refine wp_kn k_92 rfl rfl ?_
        refine wp_br k_92 rfl rfl rfl rfl (fun z => absurd z (nI_ge (show p - f < 4 by omega) (by omega))) (fun _ => ?_)
        refine wp_pure k_92 rfl rfl ?_
        refine wp_kn k_92 rfl rfl ?_
        refine wp_ishl k_92 rfl ?_
        refine wp_pure k_92 rfl rfl ?_
        refine wm_iv k_92 rfl rfl M [] rfl (r := [.int (v <<< ((nI 8) &&& 31))]) (Nat.le_of_ble_eq_true rfl) (Nat.le_of_ble_eq_true rfl) rfl ?_
        refine m_next M hn hl hp hpl ⟨rfl, ?_⟩
        refine wp_ior k_92 rfl ?_
        refine wp_pure k_92 rfl rfl ?_
        refine wp_pure k_92 rfl rfl ?_
        refine wp_pure k_92 rfl rfl ?_
        refine wm_gi 23 M k_92 rfl rfl rfl rfl hp ?_
        refine wp_kn k_92 rfl rfl ?_
        refine wp_addN k_92 rfl ?_
        refine wm_pi 23 M k_92 rfl rfl rfl rfl rfl rfl (fun h2 M2 => ?_)
        refine wp_br k_92 rfl rfl rfl rfl (fun _ => ?_) (fun z => absurd trivial z)
        have hlt : p < len := isDg_lt zisDg
        rw [show (nI 8 &&& 31 : Int32) = 8 by decide]
        refine ih M2 ((uF_ne (by decide)).trans hn) (uF_at : (uF g 23 (nI (p + 1))) 23 = nI (p + 1)) hlt ((uF_ne (by decide)).trans hf) (by omega) (by omega) (fun h9 g9 M9 e9 r9 hr9 a9 b9 c9 => K h9 g9 M9 ((eqx.u1 (S := [23, 48]) (by decide)).trans e9 (by decide)) r9 ?_ a9 b9 c9)
        rw [← hr9]
        exact if_pos (Or.inr zisDg)
      · refine wp_br k_92 rfl rfl rfl rfl (fun _ => ?_) (fun z => absurd (show (nI 0 : Int32) = 0 by decide) z)
        refine wp_pure k_92 rfl rfl ?_
        refine wp_pure k_92 rfl rfl ?_
        refine wm_pi 48 M k_92 rfl rfl rfl rfl rfl rfl (fun h3 M3 => ?_)
        refine wp_kn k_92 rfl rfl ?_
        exact wp_irt k_92 rfl rfl rfl (K _ _ M3 (eqx.u1 (by decide)) (v, p) (if_neg (fun q => q.elim zisLt zisDg)) ((uF_ne (by decide)).trans hp) uF_at hpl)
end
section
theorem m_name {h0 h : sm_H} {m : Nat} {g : Nat → Int32} {ar : Nat → Nat → Int32} {Q : Nat → Option Value → sm_H → Prop} (M : MS h0 h m g ar) {len p : Nat} (hn : g 2 = nI len) (hl : len ≤ 3000) (hp : g 23 = nI p) (hpl : p ≤ len) (K1 : ∀ h' g' v f q, MS h0 h' m g' ar → eqx [23, 48, 49] g g' → nameM (ar 1) len p = .ok (v, f, q) → g' 23 = nI q → g' 48 = v → g' 49 = nI f → Q 0 (some (.int (nI 1))) h') (K0 : ∀ h' g' q, MS h0 h' m g' ar → eqx [23, 24, 49] g g' → nameM (ar 1) len p = .error q → g' 24 = nI q → Q 0 (some (.int (nI 0))) h') : sm_wp 92 0 [.ref m, jk] [] h Q := by
  refine wp_pure k_92 rfl rfl ?_
  refine wp_kn k_92 rfl rfl ?_
  refine wm_iv k_92 rfl rfl M [.int (nI 32)] rfl (r := []) (Nat.le_of_ble_eq_true rfl) (Nat.le_of_ble_eq_true rfl) rfl ?_
  refine m_takes M hn hl hp hpl (fun zt1 h1 M1 => ⟨rfl, ?_⟩) (fun zt2 h2 M2 => ⟨rfl, ?_⟩)
  · have hp1 : p + 1 ≤ len := tkc zt1 (by decide)
    refine wp_br k_92 rfl rfl rfl rfl (fun _ => ?_) (fun z => absurd (show ¬ (nI 1 : Int32) = 0 by decide) z)
    refine wp_pure k_92 rfl rfl ?_
    refine wp_pure k_92 rfl rfl ?_
    refine wm_gi 23 M1 k_92 rfl rfl rfl rfl rfl ?_
    refine wm_pi 49 M1 k_92 rfl rfl rfl rfl rfl rfl (fun h3 M3 => ?_)
    refine wp_pure k_92 rfl rfl ?_
    refine wm_iv k_92 rfl rfl M3 [] rfl (r := []) (Nat.le_of_ble_eq_true rfl) (Nat.le_of_ble_eq_true rfl) rfl ?_
    refine m_isLt M3 (show _ = nI len from hn) hl (show _ = nI (p + 1) from rfl) hp1 (fun zl => ⟨rfl, ?_⟩) (fun zl => ⟨rfl, ?_⟩)
    · refine wp_br k_92 rfl rfl rfl rfl (fun _ => ?_) (fun z => absurd (show ¬ (nI 1 : Int32) = 0 by decide) z)
      refine wp_kn k_92 rfl rfl ?_
      refine wp_pure k_92 rfl rfl ?_
      refine m_nameL hl 4 M3 (show _ = nI len from hn) (show _ = nI (p + 1) from rfl) hp1 (show _ = nI (p + 1) from rfl) rfl (Nat.le_refl _) (fun h9 g9 M9 e9 r9 hr9 a9 b9 c9 => K1 h9 g9 r9.1 (p + 1) r9.2 M9 (((((eqx.refl _ _).u (by decide)).u (by decide)) : eqx [23, 49] g _).trans e9 (by decide)) ?_ a9 b9 ((e9 49 (by decide)).trans rfl))
      unfold nameM
      rw [skM_ok zt1]
      dsimp only
      rw [if_pos zl, hr9]
    · refine wp_br k_92 rfl rfl rfl rfl (fun z => absurd z (show ¬ (¬ (nI 0 : Int32) = 0) by decide)) (fun _ => ?_)
      refine wp_pure k_92 rfl rfl ?_
      refine wp_pure k_92 rfl rfl ?_
      refine wm_gi 23 M3 k_92 rfl rfl rfl rfl rfl ?_
      refine wm_iv k_92 rfl rfl M3 [.int (nI (p + 1))] rfl (r := []) (Nat.le_of_ble_eq_true rfl) (Nat.le_of_ble_eq_true rfl) rfl ?_
      refine m_wrong M3 (fun h4 M4 => ⟨rfl, ?_⟩)
      exact wp_irt k_92 rfl rfl rfl (K0 _ _ (p + 1) M4 ((((eqx.refl _ _).u (by decide)).u (by decide)).u (by decide)) (by unfold nameM; rw [skM_ok zt1]; exact if_neg zl) rfl)
  · refine wp_br k_92 rfl rfl rfl rfl (fun z => absurd z (show ¬ (¬ (nI 0 : Int32) = 0) by decide)) (fun _ => ?_)
    refine wp_kn k_92 rfl rfl ?_
    exact wp_irt k_92 rfl rfl rfl (K0 _ _ p M2 ((eqx.refl _ _).u (by decide)) (by unfold nameM; rw [skM_er zt2]) rfl)
theorem dgN {c : Int32} (hd : isDg c) : ∃ d, d ≤ 9 ∧ c = nI (48 + d) ∧ c.toNatClampNeg - 48 = d := by
  obtain ⟨d, h1, h2⟩ := isDg_nI hd
  exact ⟨d, h1, h2, by rw [h2, nI_clamp (by omega)]; omega⟩
theorem numStep {w d : Nat} (hd : d ≤ 9) (hw : w ≤ 1000000) : lN 10 * lN w + (nI (48 + d)).toInt64 - lN 48 = lN (10 * w + d) := by
  rw [lN_mul, nI_l (by omega), lN_add, lN_sub (by omega)]
  congr 1
  omega
theorem m_numL {h0 : sm_H} {m : Nat} {ar : Nat → Nat → Int32} {Q : Nat → Option Value → sm_H → Prop} {len f low high W E : Nat} (hl : len ≤ 3000) (hf1 : 1 ≤ f) (hfl : f ≤ len) (hlo : low < 2 ^ 31) (hhi : high < 2 ^ 31) : ∀ (k : Nat) {h : sm_H} {g : Nat → Int32} (M : MS h0 h m g ar) (hn : g 2 = nI len) {p w : Nat} (hp : g 23 = nI p) (hpl : p ≤ len) (hf : g 49 = nI f) (hfp : f ≤ p) (hk : k + (p - f) = len) (hz : p ≤ f + 1 ∨ ¬ tk (ar 1) len f = nI 48) (hw : w ≤ 10000009) (hr : numL (ar 1) len k p w = (W, E))
    (K1 : ∀ h' g', MS h0 h' m g' ar → eqx [23, 48] g g' → g' 23 = nI E → g' 48 = nI (numV W) → ¬ E = f → ¬ (f + 1 < E ∧ tk (ar 1) len f = nI 48) → (low ≤ numV W ∧ numV W ≤ high) → Q 0 (some (.int (nI 1))) h')
    (K0 : ∀ h' g' q, MS h0 h' m g' ar → eqx [23, 24, 48] g g' → g' 24 = nI q → (E = f ∧ q = f) ∨ (¬ E = f ∧ (f + 1 < E ∧ tk (ar 1) len f = nI 48) ∧ q = (if 0 < low then f else f + 1)) ∨ (¬ E = f ∧ ¬ (f + 1 < E ∧ tk (ar 1) len f = nI 48) ∧ ¬ (low ≤ numV W ∧ numV W ≤ high) ∧ q = f) → Q 0 (some (.int (nI 0))) h'), sm_wp 98 21 [.ref m, .int (nI low), .int (nI high), .long (lN w), jk] [] h Q := by
  intro k
  induction k with
  | zero =>
    intro h g M hn p w hp hpl hf hfp hk hz hw hr K1 K0
    omega
  | succ k ih =>
    intro h g M hn p w hp hpl hf hfp hk hz hw hr K1 K0
    refine wp_pure k_98 rfl rfl ?_
    refine wm_iv k_98 rfl rfl M [] rfl (r := []) (Nat.le_of_ble_eq_true rfl) (Nat.le_of_ble_eq_true rfl) rfl ?_
    refine m_isDg M hn hl hp hpl (fun zd => ⟨rfl, ?_⟩) (fun zd => ⟨rfl, ?_⟩)
    · refine wp_br k_98 rfl rfl rfl rfl (fun z => absurd z (show ¬ ((nI 1 : Int32) = 0) by decide)) (fun _ => ?_)
      refine wp_pure k_98 rfl rfl ?_
      refine wm_gi 23 M k_98 rfl rfl rfl rfl hp ?_
      refine wp_pure k_98 rfl rfl ?_
      refine wm_gi 49 M k_98 rfl rfl rfl rfl hf ?_
      refine wp_br k_98 rfl rfl rfl rfl (fun z36 => ?_) (fun z36 => ?_)
      · have y36 : p ≤ f := yLe (by omega) (by omega) z36
        refine wp_pure k_98 rfl rfl ?_
        refine wp_ldc2 k_98 rfl ?_
        refine wp_lcmp k_98 rfl ?_
        refine wp_br k_98 rfl rfl rfl rfl (fun z78 => ?_) (fun z78 => ?_)
        · refine wp_ldc2 k_98 rfl ?_
          refine wp_pure k_98 rfl rfl ?_
          refine wp_lmul k_98 rfl ?_
          refine wp_pure k_98 rfl rfl ?_
          refine wm_iv k_98 rfl rfl M [] rfl (r := [.long ((lN 10) * (lN w))]) (Nat.le_of_ble_eq_true rfl) (Nat.le_of_ble_eq_true rfl) rfl ?_
          refine m_next M hn hl hp hpl ⟨rfl, ?_⟩
          refine wp_i2l k_98 rfl ?_
          refine wp_ladd k_98 rfl ?_
          refine wp_ldc2 k_98 rfl ?_
          refine wp_lsub k_98 rfl ?_
          refine wp_pure k_98 rfl rfl ?_
          refine wp_pure k_98 rfl rfl ?_
          refine wp_pure k_98 rfl rfl ?_
          refine wm_gi 23 M k_98 rfl rfl rfl rfl hp ?_
          refine wp_kn k_98 rfl rfl ?_
          refine wp_addN k_98 rfl ?_
          refine wm_pi 23 M k_98 rfl rfl rfl rfl rfl rfl (fun h1 M1 => ?_)
          refine wp_br k_98 rfl rfl rfl rfl (fun _ => ?_) (fun z => absurd trivial z)
          have hpd : p < len := isDg_lt zd
          replace hr := (if_pos zd).symm.trans hr
          have hw6 : w ≤ 1000000 := (lcmp_le (by omega) (by omega)).mp z78
          obtain ⟨d, hd1, hd2, hd3⟩ := dgN zd
          rw [if_neg (by omega), hd3] at hr
          rw [hd2, numStep hd1 hw6]
          exact ih M1 (show _ = nI len from hn) (show _ = nI (p + 1) from rfl) (by omega) (show _ = nI f from hf) (by omega) (by omega) (Or.inl (by omega)) (by omega) hr (fun h' g' M' e' => K1 h' g' M' ((((eqx.refl _ _).u (by decide)) : eqx [23, 48] g _).trans e' (by decide))) (fun h' g' q' M' e' => K0 h' g' q' M' ((((eqx.refl _ _).u (by decide)) : eqx [23, 48] g _).trans e' (by decide)))
        · refine wp_pure k_98 rfl rfl ?_
          refine wp_br k_98 rfl rfl rfl rfl (fun _ => ?_) (fun z => absurd trivial z)
          refine wp_pure k_98 rfl rfl ?_
          refine wp_pure k_98 rfl rfl ?_
          refine wp_pure k_98 rfl rfl ?_
          refine wm_gi 23 M k_98 rfl rfl rfl rfl hp ?_
          refine wp_kn k_98 rfl rfl ?_
          refine wp_addN k_98 rfl ?_
          refine wm_pi 23 M k_98 rfl rfl rfl rfl rfl rfl (fun h2 M2 => ?_)
          refine wp_br k_98 rfl rfl rfl rfl (fun _ => ?_) (fun z => absurd trivial z)
          have hpd : p < len := isDg_lt zd
          replace hr := (if_pos zd).symm.trans hr
          have hw6 : ¬ w ≤ 1000000 := fun q => z78 ((lcmp_le (by omega) (by omega)).mpr q)
          rw [if_pos (by omega)] at hr
          exact ih M2 (show _ = nI len from hn) (show _ = nI (p + 1) from rfl) (by omega) (show _ = nI f from hf) (by omega) (by omega) (Or.inl (by omega)) hw hr (fun h' g' M' e' => K1 h' g' M' ((((eqx.refl _ _).u (by decide)) : eqx [23, 48] g _).trans e' (by decide))) (fun h' g' q' M' e' => K0 h' g' q' M' ((((eqx.refl _ _).u (by decide)) : eqx [23, 48] g _).trans e' (by decide)))
      · have y36 : f < p := yNLe (by omega) (by omega) z36
        refine wp_pure k_98 rfl rfl ?_
        refine wm_ga 1 M k_98 rfl rfl rfl (by decide) ?_
        refine wp_pure k_98 rfl rfl ?_
        refine wm_gi 49 M k_98 rfl rfl rfl rfl hf ?_
        refine wm_al 1 M k_98 rfl rfl (by decide) rfl (show f < 3000 by omega) rfl ?_
        refine wp_kn k_98 rfl rfl ?_
        refine wp_br k_98 rfl rfl rfl rfl (fun z50 => ?_) (fun z50 => ?_)
        · refine wp_pure k_98 rfl rfl ?_
          refine wp_ldc2 k_98 rfl ?_
          refine wp_lcmp k_98 rfl ?_
          refine wp_br k_98 rfl rfl rfl rfl (fun z78 => ?_) (fun z78 => ?_)
          · refine wp_ldc2 k_98 rfl ?_
            refine wp_pure k_98 rfl rfl ?_
            refine wp_lmul k_98 rfl ?_
            refine wp_pure k_98 rfl rfl ?_
            refine wm_iv k_98 rfl rfl M [] rfl (r := [.long ((lN 10) * (lN w))]) (Nat.le_of_ble_eq_true rfl) (Nat.le_of_ble_eq_true rfl) rfl ?_
            refine m_next M hn hl hp hpl ⟨rfl, ?_⟩
            refine wp_i2l k_98 rfl ?_
            refine wp_ladd k_98 rfl ?_
            refine wp_ldc2 k_98 rfl ?_
            refine wp_lsub k_98 rfl ?_
            refine wp_pure k_98 rfl rfl ?_
            refine wp_pure k_98 rfl rfl ?_
            refine wp_pure k_98 rfl rfl ?_
            refine wm_gi 23 M k_98 rfl rfl rfl rfl hp ?_
            refine wp_kn k_98 rfl rfl ?_
            refine wp_addN k_98 rfl ?_
            refine wm_pi 23 M k_98 rfl rfl rfl rfl rfl rfl (fun h3 M3 => ?_)
            refine wp_br k_98 rfl rfl rfl rfl (fun _ => ?_) (fun z => absurd trivial z)
            have hpd : p < len := isDg_lt zd
            replace hr := (if_pos zd).symm.trans hr
            have hw6 : w ≤ 1000000 := (lcmp_le (by omega) (by omega)).mp z78
            obtain ⟨d, hd1, hd2, hd3⟩ := dgN zd
            rw [if_neg (by omega), hd3] at hr
            rw [hd2, numStep hd1 hw6]
            exact ih M3 (show _ = nI len from hn) (show _ = nI (p + 1) from rfl) (by omega) (show _ = nI f from hf) (by omega) (by omega) (Or.inr (by rw [tk_in (by omega)]; exact z50)) (by omega) hr (fun h' g' M' e' => K1 h' g' M' ((((eqx.refl _ _).u (by decide)) : eqx [23, 48] g _).trans e' (by decide))) (fun h' g' q' M' e' => K0 h' g' q' M' ((((eqx.refl _ _).u (by decide)) : eqx [23, 48] g _).trans e' (by decide)))
          · refine wp_pure k_98 rfl rfl ?_
            refine wp_br k_98 rfl rfl rfl rfl (fun _ => ?_) (fun z => absurd trivial z)
            refine wp_pure k_98 rfl rfl ?_
            refine wp_pure k_98 rfl rfl ?_
            refine wp_pure k_98 rfl rfl ?_
            refine wm_gi 23 M k_98 rfl rfl rfl rfl hp ?_
            refine wp_kn k_98 rfl rfl ?_
            refine wp_addN k_98 rfl ?_
            refine wm_pi 23 M k_98 rfl rfl rfl rfl rfl rfl (fun h4 M4 => ?_)
            refine wp_br k_98 rfl rfl rfl rfl (fun _ => ?_) (fun z => absurd trivial z)
            have hpd : p < len := isDg_lt zd
            replace hr := (if_pos zd).symm.trans hr
            have hw6 : ¬ w ≤ 1000000 := fun q => z78 ((lcmp_le (by omega) (by omega)).mpr q)
            rw [if_pos (by omega)] at hr
            exact ih M4 (show _ = nI len from hn) (show _ = nI (p + 1) from rfl) (by omega) (show _ = nI f from hf) (by omega) (by omega) (Or.inr (by rw [tk_in (by omega)]; exact z50)) hw hr (fun h' g' M' e' => K1 h' g' M' ((((eqx.refl _ _).u (by decide)) : eqx [23, 48] g _).trans e' (by decide))) (fun h' g' q' M' e' => K0 h' g' q' M' ((((eqx.refl _ _).u (by decide)) : eqx [23, 48] g _).trans e' (by decide)))
        · refine wp_pure k_98 rfl rfl ?_
          refine wp_pure k_98 rfl rfl ?_
          refine wp_br k_98 rfl rfl rfl rfl (fun z55 => ?_) (fun z55 => ?_)
          · refine wp_pure k_98 rfl rfl ?_
            refine wm_gi 23 M k_98 rfl rfl rfl rfl hp ?_
            refine wm_iv k_98 rfl rfl M [.int (nI p)] rfl (r := []) (Nat.le_of_ble_eq_true rfl) (Nat.le_of_ble_eq_true rfl) rfl ?_
            refine m_wrong M (fun h5 M5 => ⟨rfl, ?_⟩)
            have hpd : p < len := isDg_lt zd
            replace hr := (if_pos zd).symm.trans hr
            have hle := numL_le (tx := ar 1) (len := len) k (p + 1) (if 1000000 < w then w else 10 * w + ((tk (ar 1) len p).toNatClampNeg - 48)) hpd
            rw [hr] at hle
            replace hle : p + 1 ≤ E ∧ E ≤ len := hle
            have hf48 : tk (ar 1) len f = nI 48 := by rw [tk_in (by omega)]; exact Classical.not_not.mp z50
            have hpf : p = f + 1 := by rcases hz with q | q
                                       · omega
                                       · exact absurd hf48 q
            have hlow : low ≤ 0 := yLe (by omega) (by decide) (show nI low ≤ nI 0 from z55)
            exact wp_irt k_98 rfl rfl rfl (K0 _ _ p M5 ((eqx.refl _ _).u (by decide)) rfl (Or.inr (Or.inl ⟨by omega, ⟨by omega, hf48⟩, by rw [if_neg (by omega)]; omega⟩)))
          · refine wp_pure k_98 rfl rfl ?_
            refine wm_gi 49 M k_98 rfl rfl rfl rfl hf ?_
            refine wp_br k_98 rfl rfl rfl rfl (fun _ => ?_) (fun z => absurd trivial z)
            refine wm_iv k_98 rfl rfl M [.int (nI f)] rfl (r := []) (Nat.le_of_ble_eq_true rfl) (Nat.le_of_ble_eq_true rfl) rfl ?_
            refine m_wrong M (fun h6 M6 => ⟨rfl, ?_⟩)
            have hpd : p < len := isDg_lt zd
            replace hr := (if_pos zd).symm.trans hr
            have hle := numL_le (tx := ar 1) (len := len) k (p + 1) (if 1000000 < w then w else 10 * w + ((tk (ar 1) len p).toNatClampNeg - 48)) hpd
            rw [hr] at hle
            replace hle : p + 1 ≤ E ∧ E ≤ len := hle
            have hf48 : tk (ar 1) len f = nI 48 := by rw [tk_in (by omega)]; exact Classical.not_not.mp z50
            have hpf : p = f + 1 := by rcases hz with q | q
                                       · omega
                                       · exact absurd hf48 q
            have hlow : 0 < low := yNLe (by decide) (by omega) (show ¬ nI low ≤ nI 0 from z55)
            exact wp_irt k_98 rfl rfl rfl (K0 _ _ f M6 ((eqx.refl _ _).u (by decide)) rfl (Or.inr (Or.inl ⟨by omega, ⟨by omega, hf48⟩, by rw [if_pos (by omega)]⟩)))
    · refine wp_br k_98 rfl rfl rfl rfl (fun _ => ?_) (fun z => absurd (show (nI 0 : Int32) = 0 by decide) z)
      refine wp_pure k_98 rfl rfl ?_
      refine wm_gi 23 M k_98 rfl rfl rfl rfl hp ?_
      refine wp_pure k_98 rfl rfl ?_
      refine wm_gi 49 M k_98 rfl rfl rfl rfl hf ?_
      refine wp_br k_98 rfl rfl rfl rfl (fun z122 => ?_) (fun z122 => ?_)
      · have y122 : ¬ p = f := yNE (by omega) (by omega) z122
        refine wp_pure k_98 rfl rfl ?_
        refine wp_pure k_98 rfl rfl ?_
        refine wp_ldc2 k_98 rfl ?_
        refine wp_lcmp k_98 rfl ?_
        refine wp_br k_98 rfl rfl rfl rfl (fun z140 => ?_) (fun z140 => ?_)
        · refine wp_pure k_98 rfl rfl ?_
          refine wp_l2i k_98 rfl ?_
          refine wm_pi 48 M k_98 rfl rfl rfl rfl rfl rfl (fun h7 M7 => ?_)
          refine wp_pure k_98 rfl rfl ?_
          refine wm_gi 48 M7 k_98 rfl rfl rfl rfl rfl ?_
          refine wp_pure k_98 rfl rfl ?_
          refine wp_pure k_98 rfl rfl ?_
          refine wp_is k_98 rfl (by decide) [.int ((lN w).toInt32), .int (nI low), .int (nI high)] rfl (r := []) (Nat.le_of_ble_eq_true rfl) (Nat.le_of_ble_eq_true rfl) rfl ?_
          refine m_in (fun zi => ⟨rfl, ?_⟩) (fun zi => ⟨rfl, ?_⟩)
          · refine wp_br k_98 rfl rfl rfl rfl (fun _ => ?_) (fun z => absurd (show ¬ (nI 1 : Int32) = 0 by decide) z)
            refine wp_kn k_98 rfl rfl ?_
            refine wp_br k_98 rfl rfl rfl rfl (fun _ => ?_) (fun z => absurd trivial z)
            replace hr := (if_neg zd).symm.trans hr
            cases hr
            have hw6 : W ≤ 1000000 := (lcmp_le (by omega) (by omega)).mp z140
            have hV : numV W = W := if_neg (by omega)
            rw [lN_i] at *
            have hrg : (low ≤ numV W ∧ numV W ≤ high) ↔ (nI low ≤ nI W ∧ nI W ≤ nI high) := by rw [hV, nI_leI (by omega) (by omega), nI_leI (by omega) (by omega)]
            exact wp_irt k_98 rfl rfl rfl (K1 _ _ M7 ((eqx.refl _ _).u (by decide)) hp (by rw [hV]; rfl) y122 (fun q => hz.elim (fun y => absurd q.1 (by omega)) (fun y => y q.2)) (hrg.mpr zi))
          · refine wp_br k_98 rfl rfl rfl rfl (fun z => absurd z (show ¬ (¬ (nI 0 : Int32) = 0) by decide)) (fun _ => ?_)
            refine wp_pure k_98 rfl rfl ?_
            refine wp_pure k_98 rfl rfl ?_
            refine wm_gi 49 M7 k_98 rfl rfl rfl rfl hf ?_
            refine wm_iv k_98 rfl rfl M7 [.int (nI f)] rfl (r := []) (Nat.le_of_ble_eq_true rfl) (Nat.le_of_ble_eq_true rfl) rfl ?_
            refine m_wrong M7 (fun h8 M8 => ⟨rfl, ?_⟩)
            refine wp_br k_98 rfl rfl rfl rfl (fun _ => ?_) (fun z => absurd (show (nI 0 : Int32) = 0 by decide) z)
            refine wp_kn k_98 rfl rfl ?_
            replace hr := (if_neg zd).symm.trans hr
            cases hr
            have hw6 : W ≤ 1000000 := (lcmp_le (by omega) (by omega)).mp z140
            have hV : numV W = W := if_neg (by omega)
            rw [lN_i] at *
            have hrg : (low ≤ numV W ∧ numV W ≤ high) ↔ (nI low ≤ nI W ∧ nI W ≤ nI high) := by rw [hV, nI_leI (by omega) (by omega), nI_leI (by omega) (by omega)]
            exact wp_irt k_98 rfl rfl rfl (K0 _ _ f M8 (((eqx.refl _ _).u (by decide)).u (by decide)) rfl (Or.inr (Or.inr ⟨y122, (fun q => hz.elim (fun y => absurd q.1 (by omega)) (fun y => y q.2)), fun q => zi (hrg.mp q), rfl⟩)))
        · refine wp_ldc k_98 rfl ?_
          refine wp_br k_98 rfl rfl rfl rfl (fun _ => ?_) (fun z => absurd trivial z)
          refine wm_pi 48 M k_98 rfl rfl rfl rfl rfl rfl (fun h9 M9 => ?_)
          refine wp_pure k_98 rfl rfl ?_
          refine wm_gi 48 M9 k_98 rfl rfl rfl rfl rfl ?_
          refine wp_pure k_98 rfl rfl ?_
          refine wp_pure k_98 rfl rfl ?_
          refine wp_is k_98 rfl (by decide) [.int (nI 1000001), .int (nI low), .int (nI high)] rfl (r := []) (Nat.le_of_ble_eq_true rfl) (Nat.le_of_ble_eq_true rfl) rfl ?_
          refine m_in (fun zi => ⟨rfl, ?_⟩) (fun zi => ⟨rfl, ?_⟩)
          · refine wp_br k_98 rfl rfl rfl rfl (fun _ => ?_) (fun z => absurd (show ¬ (nI 1 : Int32) = 0 by decide) z)
            refine wp_kn k_98 rfl rfl ?_
            refine wp_br k_98 rfl rfl rfl rfl (fun _ => ?_) (fun z => absurd trivial z)
            replace hr := (if_neg zd).symm.trans hr
            cases hr
            have hw6 : ¬ W ≤ 1000000 := fun q => z140 ((lcmp_le (by omega) (by omega)).mpr q)
            have hV : numV W = 1000001 := if_pos (by omega)
            have hrg : (low ≤ numV W ∧ numV W ≤ high) ↔ (nI low ≤ nI 1000001 ∧ nI 1000001 ≤ nI high) := by rw [hV, nI_leI (by omega) (by omega), nI_leI (by omega) (by omega)]
            exact wp_irt k_98 rfl rfl rfl (K1 _ _ M9 ((eqx.refl _ _).u (by decide)) hp (by rw [hV]; rfl) y122 (fun q => hz.elim (fun y => absurd q.1 (by omega)) (fun y => y q.2)) (hrg.mpr zi))
          · refine wp_br k_98 rfl rfl rfl rfl (fun z => absurd z (show ¬ (¬ (nI 0 : Int32) = 0) by decide)) (fun _ => ?_)
            refine wp_pure k_98 rfl rfl ?_
            refine wp_pure k_98 rfl rfl ?_
            refine wm_gi 49 M9 k_98 rfl rfl rfl rfl hf ?_
            refine wm_iv k_98 rfl rfl M9 [.int (nI f)] rfl (r := []) (Nat.le_of_ble_eq_true rfl) (Nat.le_of_ble_eq_true rfl) rfl ?_
            refine m_wrong M9 (fun h10 M10 => ⟨rfl, ?_⟩)
            refine wp_br k_98 rfl rfl rfl rfl (fun _ => ?_) (fun z => absurd (show (nI 0 : Int32) = 0 by decide) z)
            refine wp_kn k_98 rfl rfl ?_
            replace hr := (if_neg zd).symm.trans hr
            cases hr
            have hw6 : ¬ W ≤ 1000000 := fun q => z140 ((lcmp_le (by omega) (by omega)).mpr q)
            have hV : numV W = 1000001 := if_pos (by omega)
            have hrg : (low ≤ numV W ∧ numV W ≤ high) ↔ (nI low ≤ nI 1000001 ∧ nI 1000001 ≤ nI high) := by rw [hV, nI_leI (by omega) (by omega), nI_leI (by omega) (by omega)]
            exact wp_irt k_98 rfl rfl rfl (K0 _ _ f M10 (((eqx.refl _ _).u (by decide)).u (by decide)) rfl (Or.inr (Or.inr ⟨y122, (fun q => hz.elim (fun y => absurd q.1 (by omega)) (fun y => y q.2)), fun q => zi (hrg.mp q), rfl⟩)))
      · have y122 : p = f := yNNE (by omega) (by omega) z122
        refine wp_pure k_98 rfl rfl ?_
        refine wp_pure k_98 rfl rfl ?_
        refine wm_gi 23 M k_98 rfl rfl rfl rfl hp ?_
        refine wm_iv k_98 rfl rfl M [.int (nI p)] rfl (r := []) (Nat.le_of_ble_eq_true rfl) (Nat.le_of_ble_eq_true rfl) rfl ?_
        refine m_wrong M (fun h11 M11 => ⟨rfl, ?_⟩)
        replace hr := (if_neg zd).symm.trans hr
        cases hr
        exact wp_irt k_98 rfl rfl rfl (K0 _ _ E M11 ((eqx.refl _ _).u (by decide)) rfl (Or.inl ⟨y122, y122⟩))
theorem m_number {h0 h : sm_H} {m : Nat} {g : Nat → Int32} {ar : Nat → Nat → Int32} {Q : Nat → Option Value → sm_H → Prop} (M : MS h0 h m g ar) {len p : Nat} (hn : g 2 = nI len) (hl : len ≤ 3000) (hp : g 23 = nI p) (hpl : p ≤ len) {low high : Nat} (hlo : low < 2 ^ 31) (hhi : high < 2 ^ 31) (K1 : ∀ h' g' v q, MS h0 h' m g' ar → eqx [23, 48, 49] g g' → numM (ar 1) len low high p = .ok (v, q) → g' 23 = nI q → g' 48 = nI v → Q 0 (some (.int (nI 1))) h') (K0 : ∀ h' g' q, MS h0 h' m g' ar → eqx [23, 24, 48, 49] g g' → numM (ar 1) len low high p = .error q → g' 24 = nI q → Q 0 (some (.int (nI 0))) h') : sm_wp 98 0 [.ref m, .int (nI low), .int (nI high), jk, jk] [] h Q := by
  refine wp_pure k_98 rfl rfl ?_
  refine wp_kn k_98 rfl rfl ?_
  refine wm_iv k_98 rfl rfl M [.int (nI 32)] rfl (r := []) (Nat.le_of_ble_eq_true rfl) (Nat.le_of_ble_eq_true rfl) rfl ?_
  refine m_takes M hn hl hp hpl (fun zt1 h1 M1 => ⟨rfl, ?_⟩) (fun zt2 h2 M2 => ⟨rfl, ?_⟩)
  · have hp1 : p + 1 ≤ len := tkc zt1 (by decide)
    refine wp_br k_98 rfl rfl rfl rfl (fun _ => ?_) (fun z => absurd (show ¬ (nI 1 : Int32) = 0 by decide) z)
    refine wp_pure k_98 rfl rfl ?_
    refine wp_pure k_98 rfl rfl ?_
    refine wm_gi 23 M1 k_98 rfl rfl rfl rfl rfl ?_
    refine wm_pi 49 M1 k_98 rfl rfl rfl rfl rfl rfl (fun h3 M3 => ?_)
    refine wp_pure k_98 rfl rfl ?_
    refine wp_pure k_98 rfl rfl ?_
    refine m_numL (W := (numL (ar 1) len len (p + 1) 0).1) (E := (numL (ar 1) len len (p + 1) 0).2) hl (by omega) hp1 hlo hhi len M3 (show _ = nI len from hn) (show _ = nI (p + 1) from rfl) hp1 (show _ = nI (p + 1) from rfl) (Nat.le_refl _) (by omega) (Or.inl (by omega)) (by omega) rfl (fun h9 g9 M9 e9 a9 b9 c9 d9 f9 => K1 h9 g9 _ _ M9 (((((eqx.refl _ _).u (by decide)).u (by decide)) : eqx [23, 49] g _).trans e9 (by decide)) ?_ a9 b9) (fun h9 g9 q9 M9 e9 a9 b9 => K0 h9 g9 q9 M9 (((((eqx.refl _ _).u (by decide)).u (by decide)) : eqx [23, 49] g _).trans e9 (by decide)) ?_ a9)
    · unfold numM
      rw [skM_ok zt1]
      dsimp only
      rw [if_neg c9, if_neg d9, if_pos f9]
    · unfold numM
      rw [skM_ok zt1]
      dsimp only
      rcases b9 with ⟨q1, q2⟩ | ⟨q1, q2, q3⟩ | ⟨q1, q2, q3, q4⟩
      · rw [if_pos q1, q2]
      · rw [if_neg q1, if_pos q2, q3]
      · rw [if_neg q1, if_neg q2, if_neg q3, q4]
  · refine wp_br k_98 rfl rfl rfl rfl (fun z => absurd z (show ¬ (¬ (nI 0 : Int32) = 0) by decide)) (fun _ => ?_)
    refine wp_kn k_98 rfl rfl ?_
    exact wp_irt k_98 rfl rfl rfl (K0 _ _ p M2 ((eqx.refl _ _).u (by decide)) (by unfold numM; rw [skM_er zt2]) rfl)
theorem m_new {h0 h : sm_H} {m : Nat} {g : Nat → Int32} {ar : Nat → Nat → Int32} {Q : Nat → Option Value → sm_H → Prop} (M : MS h0 h m g ar) {len p : Nat} (hn : g 2 = nI len) (hl : len ≤ 3000) (hp : g 23 = nI p) (hpl : p ≤ len) {n : Nat} (h26 : g 26 = nI n) (h5 : n ≤ 501) (K1 : ∀ h' g' v q, MS h0 h' m g' ar → eqx [23, 48, 49] g g' → newM (ar 1) len (ar 37) n p = .ok (v, q) → g' 23 = nI q → g' 48 = v → Q 0 (some (.int (nI 1))) h') (K0 : ∀ h' g' q, MS h0 h' m g' ar → eqx [23, 24, 48, 49] g g' → newM (ar 1) len (ar 37) n p = .error q → g' 24 = nI q → Q 0 (some (.int (nI 0))) h') : sm_wp 91 0 [.ref m] [] h Q := by
  refine wp_pure k_91 rfl rfl ?_
  refine wm_iv k_91 rfl rfl M [] rfl (r := []) (Nat.le_of_ble_eq_true rfl) (Nat.le_of_ble_eq_true rfl) rfl ?_
  refine m_name M hn hl hp hpl (fun h1 g1 vn fn qn M1 en zn an bn cn => ⟨rfl, ?_⟩) (fun h2 g2 qn M2 en zn an => ⟨rfl, ?_⟩)
  · refine wp_br k_91 rfl rfl rfl rfl (fun z => absurd z (show ¬ ((nI 1 : Int32) = 0) by decide)) (fun _ => ?_)
    refine wp_pure k_91 rfl rfl ?_
    refine wp_pure k_91 rfl rfl ?_
    refine wm_gi 48 M1 k_91 rfl rfl rfl rfl bn ?_
    refine wm_iv k_91 rfl rfl M1 [.int (vn)] rfl (r := []) (Nat.le_of_ble_eq_true rfl) (Nat.le_of_ble_eq_true rfl) rfl ?_
    refine m_numOf M1 (show _ = nI n from (en 26 (by decide)).trans h26) h5 (fun zf => ⟨rfl, ?_⟩) (fun kf zf kl => ⟨rfl, ?_⟩)
    · refine wp_km k_91 rfl rfl ?_
      refine wp_br k_91 rfl rfl rfl rfl (fun _ => ?_) (fun z => absurd (rfl) z)
      refine wp_kn k_91 rfl rfl ?_
      refine wp_br k_91 rfl rfl rfl rfl (fun _ => ?_) (fun z => absurd trivial z)
      exact wp_irt k_91 rfl rfl rfl (K1 _ _ vn qn M1 en (by unfold newM; rw [zn]; show (match fI (ar 37) n vn with | none => _ | some _ => _) = _; rw [zf]) an bn)
    · refine wp_km k_91 rfl rfl ?_
      refine wp_br k_91 rfl rfl rfl rfl (fun z => absurd z (nI_nm1 (by omega))) (fun _ => ?_)
      refine wp_pure k_91 rfl rfl ?_
      refine wp_pure k_91 rfl rfl ?_
      refine wm_gi 49 M1 k_91 rfl rfl rfl rfl cn ?_
      refine wm_iv k_91 rfl rfl M1 [.int (nI fn)] rfl (r := []) (Nat.le_of_ble_eq_true rfl) (Nat.le_of_ble_eq_true rfl) rfl ?_
      refine m_wrong M1 (fun h3 M3 => ⟨rfl, ?_⟩)
      refine wp_br k_91 rfl rfl rfl rfl (fun _ => ?_) (fun z => absurd (show (nI 0 : Int32) = 0 by decide) z)
      refine wp_kn k_91 rfl rfl ?_
      exact wp_irt k_91 rfl rfl rfl (K0 _ _ fn M3 ((en.more (by decide)).u (by decide)) (by unfold newM; rw [zn]; show (match fI (ar 37) n vn with | none => _ | some _ => _) = _; rw [zf]) rfl)
  · refine wp_br k_91 rfl rfl rfl rfl (fun _ => ?_) (fun z => absurd (show (nI 0 : Int32) = 0 by decide) z)
    refine wp_kn k_91 rfl rfl ?_
    exact wp_irt k_91 rfl rfl rfl (K0 _ _ qn M2 (en.more (by decide)) (by unfold newM; rw [zn]) an)
theorem m_old {h0 h : sm_H} {m : Nat} {g : Nat → Int32} {ar : Nat → Nat → Int32} {Q : Nat → Option Value → sm_H → Prop} (M : MS h0 h m g ar) {len p : Nat} (hn : g 2 = nI len) (hl : len ≤ 3000) (hp : g 23 = nI p) (hpl : p ≤ len) {n : Nat} (h26 : g 26 = nI n) (h5 : n ≤ 501) {c : Int32} (K1 : ∀ h' g' k f q, MS h0 h' m g' ar → eqx [23, 48, 49] g g' → oldM (ar 1) len (ar 37) (ar 36) n c p = .ok (k, f, q) → g' 23 = nI q → g' 48 = nI k → g' 49 = nI f → k < n → Q 0 (some (.int (nI 1))) h') (K0 : ∀ h' g' q, MS h0 h' m g' ar → eqx [23, 24, 48, 49] g g' → oldM (ar 1) len (ar 37) (ar 36) n c p = .error q → g' 24 = nI q → Q 0 (some (.int (nI 0))) h') : sm_wp 100 0 [.ref m, .int c, jk] [] h Q := by
  refine wp_pure k_100 rfl rfl ?_
  refine wm_iv k_100 rfl rfl M [] rfl (r := []) (Nat.le_of_ble_eq_true rfl) (Nat.le_of_ble_eq_true rfl) rfl ?_
  refine m_name M hn hl hp hpl (fun h1 g1 vn fn qn M1 en zn an bn cn => ⟨rfl, ?_⟩) (fun h2 g2 qn M2 en zn an => ⟨rfl, ?_⟩)
  · refine wp_br k_100 rfl rfl rfl rfl (fun _ => ?_) (fun z => absurd (show ¬ (nI 1 : Int32) = 0 by decide) z)
    refine wp_pure k_100 rfl rfl ?_
    refine wp_pure k_100 rfl rfl ?_
    refine wm_gi 48 M1 k_100 rfl rfl rfl rfl bn ?_
    refine wm_iv k_100 rfl rfl M1 [.int (vn)] rfl (r := []) (Nat.le_of_ble_eq_true rfl) (Nat.le_of_ble_eq_true rfl) rfl ?_
    refine m_numOf M1 (show _ = nI n from (en 26 (by decide)).trans h26) h5 (fun zf => ⟨rfl, ?_⟩) (fun kf zf kl => ⟨rfl, ?_⟩)
    · refine wp_pure k_100 rfl rfl ?_
      refine wp_pure k_100 rfl rfl ?_
      refine wp_km k_100 rfl rfl ?_
      refine wp_br k_100 rfl rfl rfl rfl (fun _ => ?_) (fun z => absurd (rfl) z)
      refine wp_pure k_100 rfl rfl ?_
      refine wp_pure k_100 rfl rfl ?_
      refine wm_gi 49 M1 k_100 rfl rfl rfl rfl cn ?_
      refine wm_iv k_100 rfl rfl M1 [.int (nI fn)] rfl (r := []) (Nat.le_of_ble_eq_true rfl) (Nat.le_of_ble_eq_true rfl) rfl ?_
      refine m_wrong M1 (fun h3 M3 => ⟨rfl, ?_⟩)
      exact wp_irt k_100 rfl rfl rfl (K0 _ _ fn M3 ((en.more (by decide)).u (by decide)) (by unfold oldM; rw [zn]; show (match fI (ar 37) n vn with | none => _ | some _ => _) = _; rw [zf]) rfl)
    · refine wp_pure k_100 rfl rfl ?_
      refine wp_pure k_100 rfl rfl ?_
      refine wp_km k_100 rfl rfl ?_
      refine wp_br k_100 rfl rfl rfl rfl (fun z => absurd z (nI_nm1 (by omega))) (fun _ => ?_)
      refine wp_pure k_100 rfl rfl ?_
      refine wm_ga 36 M1 k_100 rfl rfl rfl (by decide) ?_
      refine wp_pure k_100 rfl rfl ?_
      refine wm_al 36 M1 k_100 rfl rfl (by decide) rfl (show kf < 501 by omega) rfl ?_
      refine wp_pure k_100 rfl rfl ?_
      refine wp_br k_100 rfl rfl rfl rfl (fun z30 => ?_) (fun z30 => ?_)
      · refine wp_pure k_100 rfl rfl ?_
        refine wp_pure k_100 rfl rfl ?_
        refine wm_pi 48 M1 k_100 rfl rfl rfl rfl rfl rfl (fun h4 M4 => ?_)
        refine wp_kn k_100 rfl rfl ?_
        exact wp_irt k_100 rfl rfl rfl (K1 _ _ kf fn qn M4 (en.u (by decide)) (by unfold oldM; rw [zn]; show (match fI (ar 37) n vn with | none => _ | some _ => _) = _; rw [zf]; exact if_pos z30) an rfl cn kl)
      · refine wp_pure k_100 rfl rfl ?_
        refine wp_pure k_100 rfl rfl ?_
        refine wm_gi 49 M1 k_100 rfl rfl rfl rfl cn ?_
        refine wm_iv k_100 rfl rfl M1 [.int (nI fn)] rfl (r := []) (Nat.le_of_ble_eq_true rfl) (Nat.le_of_ble_eq_true rfl) rfl ?_
        refine m_wrong M1 (fun h5 M5 => ⟨rfl, ?_⟩)
        exact wp_irt k_100 rfl rfl rfl (K0 _ _ fn M5 ((en.more (by decide)).u (by decide)) (by unfold oldM; rw [zn]; show (match fI (ar 37) n vn with | none => _ | some _ => _) = _; rw [zf]; exact if_neg z30) rfl)
  · refine wp_br k_100 rfl rfl rfl rfl (fun z => absurd z (show ¬ (¬ (nI 0 : Int32) = 0) by decide)) (fun _ => ?_)
    refine wp_kn k_100 rfl rfl ?_
    exact wp_irt k_100 rfl rfl rfl (K0 _ _ qn M2 (en.more (by decide)) (by unfold oldM; rw [zn]) an)
end
