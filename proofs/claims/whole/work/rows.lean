section
/-! PART A of the skeleton (the tables' words), then this claim's classes, methods and rooms: printed by wip/whole/gen01.py -/
-- ===== PART A: goes FIRST, ahead of the names: the tables' words, and 'selects' of the private methods out of them =====
/-- a private method of a class that the tables say can be made, by its rows of tables_1 -/
def lw_okq (q : MethodName × Nat) : Prop := (q.1.cls ≠ "java/lang/invoke/MethodHandle" ∧ q.1.cls ≠ "java/lang/invoke/VarHandle") ∧ Cond.instantiable q.1.cls q.2 ∈ tables_1 ∧ Cond.privateMethod q.1 ∈ tables_1 ∧ Cond.instanceMethod q.1 ∈ tables_1
theorem lw_p0 : lw_okq (⟨"EscapeRouter$GridText", "isAllowed", "(II)Z"⟩, 5) := ⟨⟨by decide +kernel, by decide +kernel⟩, List.mem_of_getElem? (i := 85) (by decide +kernel), List.mem_of_getElem? (i := 241) (by decide +kernel), List.mem_of_getElem? (i := 242) (by decide +kernel)⟩
theorem lw_p1 : lw_okq (⟨"EscapeRouter", "beginEdit", "()V"⟩, 10) := ⟨⟨by decide +kernel, by decide +kernel⟩, List.mem_of_getElem? (i := 11) (by decide +kernel), List.mem_of_getElem? (i := 249) (by decide +kernel), List.mem_of_getElem? (i := 250) (by decide +kernel)⟩
theorem lw_p2 : lw_okq (⟨"EscapeRouter$History", "dropOldest", "()V"⟩, 2) := ⟨⟨by decide +kernel, by decide +kernel⟩, List.mem_of_getElem? (i := 68) (by decide +kernel), List.mem_of_getElem? (i := 257) (by decide +kernel), List.mem_of_getElem? (i := 258) (by decide +kernel)⟩
theorem lw_p3 : lw_okq (⟨"EscapeRouter", "forgetResults", "()V"⟩, 10) := ⟨⟨by decide +kernel, by decide +kernel⟩, List.mem_of_getElem? (i := 11) (by decide +kernel), List.mem_of_getElem? (i := 268) (by decide +kernel), List.mem_of_getElem? (i := 269) (by decide +kernel)⟩
theorem lw_p4 : lw_okq (⟨"EscapeRouter", "solveSelection", "()V"⟩, 10) := ⟨⟨by decide +kernel, by decide +kernel⟩, List.mem_of_getElem? (i := 11) (by decide +kernel), List.mem_of_getElem? (i := 361) (by decide +kernel), List.mem_of_getElem? (i := 362) (by decide +kernel)⟩
theorem lw_p5 : lw_okq (⟨"EscapeRouter$FlowNetwork", "connect", "(III)V"⟩, 11) := ⟨⟨by decide +kernel, by decide +kernel⟩, List.mem_of_getElem? (i := 111) (by decide +kernel), List.mem_of_getElem? (i := 369) (by decide +kernel), List.mem_of_getElem? (i := 370) (by decide +kernel)⟩
theorem lw_p6 : lw_okq (⟨"EscapeRouter$FlowNetwork", "connectPins", "(LEscapeRouter$Board;I)V"⟩, 11) := ⟨⟨by decide +kernel, by decide +kernel⟩, List.mem_of_getElem? (i := 111) (by decide +kernel), List.mem_of_getElem? (i := 373) (by decide +kernel), List.mem_of_getElem? (i := 374) (by decide +kernel)⟩
theorem lw_p7 : lw_okq (⟨"EscapeRouter$FlowNetwork", "connectTiles", "(LEscapeRouter$Board;)V"⟩, 11) := ⟨⟨by decide +kernel, by decide +kernel⟩, List.mem_of_getElem? (i := 111) (by decide +kernel), List.mem_of_getElem? (i := 381) (by decide +kernel), List.mem_of_getElem? (i := 382) (by decide +kernel)⟩
theorem lw_p8 : lw_okq (⟨"EscapeRouter$FlowNetwork", "connectChannels", "(LEscapeRouter$Board;[Z)V"⟩, 11) := ⟨⟨by decide +kernel, by decide +kernel⟩, List.mem_of_getElem? (i := 111) (by decide +kernel), List.mem_of_getElem? (i := 386) (by decide +kernel), List.mem_of_getElem? (i := 387) (by decide +kernel)⟩
theorem lw_p9 : lw_okq (⟨"EscapeRouter$FlowNetwork", "connectBothWays", "(III)V"⟩, 11) := ⟨⟨by decide +kernel, by decide +kernel⟩, List.mem_of_getElem? (i := 111) (by decide +kernel), List.mem_of_getElem? (i := 390) (by decide +kernel), List.mem_of_getElem? (i := 391) (by decide +kernel)⟩
theorem lw_p10 : lw_okq (⟨"EscapeRouter$FlowNetwork", "findWay", "()Z"⟩, 11) := ⟨⟨by decide +kernel, by decide +kernel⟩, List.mem_of_getElem? (i := 111) (by decide +kernel), List.mem_of_getElem? (i := 406) (by decide +kernel), List.mem_of_getElem? (i := 407) (by decide +kernel)⟩
theorem lw_p11 : lw_okq (⟨"EscapeRouter$FlowNetwork", "isNear", "(I)Z"⟩, 11) := ⟨⟨by decide +kernel, by decide +kernel⟩, List.mem_of_getElem? (i := 111) (by decide +kernel), List.mem_of_getElem? (i := 422) (by decide +kernel), List.mem_of_getElem? (i := 423) (by decide +kernel)⟩
theorem lw_p12 : lw_okq (⟨"EscapeRouter$FlowNetwork", "leavesNearSide", "(I)Z"⟩, 11) := ⟨⟨by decide +kernel, by decide +kernel⟩, List.mem_of_getElem? (i := 111) (by decide +kernel), List.mem_of_getElem? (i := 434) (by decide +kernel), List.mem_of_getElem? (i := 435) (by decide +kernel)⟩
theorem lw_p13 : lw_okq (⟨"EscapeRouter$Layering", "putInOrder", "(LEscapeRouter$Board;)V"⟩, 9) := ⟨⟨by decide +kernel, by decide +kernel⟩, List.mem_of_getElem? (i := 152) (by decide +kernel), List.mem_of_getElem? (i := 449) (by decide +kernel), List.mem_of_getElem? (i := 450) (by decide +kernel)⟩
theorem lw_p14 : lw_okq (⟨"EscapeRouter$Layering", "addByRows", "(LEscapeRouter$Board;)V"⟩, 9) := ⟨⟨by decide +kernel, by decide +kernel⟩, List.mem_of_getElem? (i := 152) (by decide +kernel), List.mem_of_getElem? (i := 453) (by decide +kernel), List.mem_of_getElem? (i := 454) (by decide +kernel)⟩
theorem lw_p15 : lw_okq (⟨"EscapeRouter$Layering", "addPlace", "(II)V"⟩, 9) := ⟨⟨by decide +kernel, by decide +kernel⟩, List.mem_of_getElem? (i := 152) (by decide +kernel), List.mem_of_getElem? (i := 457) (by decide +kernel), List.mem_of_getElem? (i := 458) (by decide +kernel)⟩
def lw_privs_1 : List (MethodName × Nat) := [(⟨"EscapeRouter$GridText", "isAllowed", "(II)Z"⟩, 5), (⟨"EscapeRouter", "beginEdit", "()V"⟩, 10), (⟨"EscapeRouter$History", "dropOldest", "()V"⟩, 2), (⟨"EscapeRouter", "forgetResults", "()V"⟩, 10), (⟨"EscapeRouter", "solveSelection", "()V"⟩, 10), (⟨"EscapeRouter$FlowNetwork", "connect", "(III)V"⟩, 11), (⟨"EscapeRouter$FlowNetwork", "connectPins", "(LEscapeRouter$Board;I)V"⟩, 11), (⟨"EscapeRouter$FlowNetwork", "connectTiles", "(LEscapeRouter$Board;)V"⟩, 11), (⟨"EscapeRouter$FlowNetwork", "connectChannels", "(LEscapeRouter$Board;[Z)V"⟩, 11), (⟨"EscapeRouter$FlowNetwork", "connectBothWays", "(III)V"⟩, 11), (⟨"EscapeRouter$FlowNetwork", "findWay", "()Z"⟩, 11), (⟨"EscapeRouter$FlowNetwork", "isNear", "(I)Z"⟩, 11), (⟨"EscapeRouter$FlowNetwork", "leavesNearSide", "(I)Z"⟩, 11), (⟨"EscapeRouter$Layering", "putInOrder", "(LEscapeRouter$Board;)V"⟩, 9), (⟨"EscapeRouter$Layering", "addByRows", "(LEscapeRouter$Board;)V"⟩, 9), (⟨"EscapeRouter$Layering", "addPlace", "(II)V"⟩, 9)]
theorem lw_r1 : ∀ q ∈ lw_privs_1, lw_okq q := List.forall_mem_cons.mpr ⟨lw_p0, List.forall_mem_cons.mpr ⟨lw_p1, List.forall_mem_cons.mpr ⟨lw_p2, List.forall_mem_cons.mpr ⟨lw_p3, List.forall_mem_cons.mpr ⟨lw_p4, List.forall_mem_cons.mpr ⟨lw_p5, List.forall_mem_cons.mpr ⟨lw_p6, List.forall_mem_cons.mpr ⟨lw_p7, List.forall_mem_cons.mpr ⟨lw_p8, List.forall_mem_cons.mpr ⟨lw_p9, List.forall_mem_cons.mpr ⟨lw_p10, List.forall_mem_cons.mpr ⟨lw_p11, List.forall_mem_cons.mpr ⟨lw_p12, List.forall_mem_cons.mpr ⟨lw_p13, List.forall_mem_cons.mpr ⟨lw_p14, List.forall_mem_cons.mpr ⟨lw_p15, fun _ h => absurd h List.not_mem_nil⟩⟩⟩⟩⟩⟩⟩⟩⟩⟩⟩⟩⟩⟩⟩⟩
theorem lw_p16 : lw_okq (⟨"EscapeRouter$Layering", "addByColumns", "(LEscapeRouter$Board;)V"⟩, 9) := ⟨⟨by decide +kernel, by decide +kernel⟩, List.mem_of_getElem? (i := 152) (by decide +kernel), List.mem_of_getElem? (i := 462) (by decide +kernel), List.mem_of_getElem? (i := 463) (by decide +kernel)⟩
theorem lw_p17 : lw_okq (⟨"EscapeRouter$Layering", "addRing", "(LEscapeRouter$Board;I)V"⟩, 9) := ⟨⟨by decide +kernel, by decide +kernel⟩, List.mem_of_getElem? (i := 152) (by decide +kernel), List.mem_of_getElem? (i := 466) (by decide +kernel), List.mem_of_getElem? (i := 467) (by decide +kernel)⟩
theorem lw_p18 : lw_okq (⟨"EscapeRouter$Layering", "fill", "(ILEscapeRouter$Board;LEscapeRouter$FlowNetwork;)I"⟩, 9) := ⟨⟨by decide +kernel, by decide +kernel⟩, List.mem_of_getElem? (i := 152) (by decide +kernel), List.mem_of_getElem? (i := 475) (by decide +kernel), List.mem_of_getElem? (i := 476) (by decide +kernel)⟩
theorem lw_p19 : lw_okq (⟨"EscapeRouter$Layering", "consider", "(IIILEscapeRouter$FlowNetwork;)I"⟩, 9) := ⟨⟨by decide +kernel, by decide +kernel⟩, List.mem_of_getElem? (i := 152) (by decide +kernel), List.mem_of_getElem? (i := 480) (by decide +kernel), List.mem_of_getElem? (i := 481) (by decide +kernel)⟩
theorem lw_p20 : lw_okq (⟨"EscapeRouterModel", "readGrid", "()I"⟩, 22) := ⟨⟨by decide +kernel, by decide +kernel⟩, List.mem_of_getElem? (i := 529) (by decide +kernel), List.mem_of_getElem? (i := 622) (by decide +kernel), List.mem_of_getElem? (i := 623) (by decide +kernel)⟩
theorem lw_p21 : lw_okq (⟨"EscapeRouterModel", "edit", "()V"⟩, 22) := ⟨⟨by decide +kernel, by decide +kernel⟩, List.mem_of_getElem? (i := 529) (by decide +kernel), List.mem_of_getElem? (i := 626) (by decide +kernel), List.mem_of_getElem? (i := 627) (by decide +kernel)⟩
theorem lw_p22 : lw_okq (⟨"EscapeRouterModel", "signals", "()I"⟩, 22) := ⟨⟨by decide +kernel, by decide +kernel⟩, List.mem_of_getElem? (i := 529) (by decide +kernel), List.mem_of_getElem? (i := 630) (by decide +kernel), List.mem_of_getElem? (i := 631) (by decide +kernel)⟩
theorem lw_p23 : lw_okq (⟨"EscapeRouterModel", "isPosition", "(II)Z"⟩, 22) := ⟨⟨by decide +kernel, by decide +kernel⟩, List.mem_of_getElem? (i := 529) (by decide +kernel), List.mem_of_getElem? (i := 638) (by decide +kernel), List.mem_of_getElem? (i := 639) (by decide +kernel)⟩
theorem lw_p24 : lw_okq (⟨"EscapeRouterModel", "unpair", "(I)V"⟩, 22) := ⟨⟨by decide +kernel, by decide +kernel⟩, List.mem_of_getElem? (i := 529) (by decide +kernel), List.mem_of_getElem? (i := 642) (by decide +kernel), List.mem_of_getElem? (i := 643) (by decide +kernel)⟩
theorem lw_p25 : lw_okq (⟨"EscapeRouterModel", "isFree", "(I)Z"⟩, 22) := ⟨⟨by decide +kernel, by decide +kernel⟩, List.mem_of_getElem? (i := 529) (by decide +kernel), List.mem_of_getElem? (i := 674) (by decide +kernel), List.mem_of_getElem? (i := 675) (by decide +kernel)⟩
theorem lw_p26 : lw_okq (⟨"EscapeRouterModel", "pairs", "()I"⟩, 22) := ⟨⟨by decide +kernel, by decide +kernel⟩, List.mem_of_getElem? (i := 529) (by decide +kernel), List.mem_of_getElem? (i := 678) (by decide +kernel), List.mem_of_getElem? (i := 679) (by decide +kernel)⟩
theorem lw_p27 : lw_okq (⟨"EscapeRouterModel", "selected", "()I"⟩, 22) := ⟨⟨by decide +kernel, by decide +kernel⟩, List.mem_of_getElem? (i := 529) (by decide +kernel), List.mem_of_getElem? (i := 694) (by decide +kernel), List.mem_of_getElem? (i := 695) (by decide +kernel)⟩
theorem lw_p28 : lw_okq (⟨"EscapeRouterModel", "escape", "()I"⟩, 22) := ⟨⟨by decide +kernel, by decide +kernel⟩, List.mem_of_getElem? (i := 529) (by decide +kernel), List.mem_of_getElem? (i := 710) (by decide +kernel), List.mem_of_getElem? (i := 711) (by decide +kernel)⟩
theorem lw_p29 : lw_okq (⟨"EscapeRouterModel", "openNone", "()V"⟩, 22) := ⟨⟨by decide +kernel, by decide +kernel⟩, List.mem_of_getElem? (i := 529) (by decide +kernel), List.mem_of_getElem? (i := 714) (by decide +kernel), List.mem_of_getElem? (i := 715) (by decide +kernel)⟩
theorem lw_p30 : lw_okq (⟨"EscapeRouterModel", "lay", "()V"⟩, 22) := ⟨⟨by decide +kernel, by decide +kernel⟩, List.mem_of_getElem? (i := 529) (by decide +kernel), List.mem_of_getElem? (i := 718) (by decide +kernel), List.mem_of_getElem? (i := 719) (by decide +kernel)⟩
theorem lw_p31 : lw_okq (⟨"EscapeRouterModel", "join", "(III)V"⟩, 22) := ⟨⟨by decide +kernel, by decide +kernel⟩, List.mem_of_getElem? (i := 529) (by decide +kernel), List.mem_of_getElem? (i := 725) (by decide +kernel), List.mem_of_getElem? (i := 726) (by decide +kernel)⟩
def lw_privs_2 : List (MethodName × Nat) := [(⟨"EscapeRouter$Layering", "addByColumns", "(LEscapeRouter$Board;)V"⟩, 9), (⟨"EscapeRouter$Layering", "addRing", "(LEscapeRouter$Board;I)V"⟩, 9), (⟨"EscapeRouter$Layering", "fill", "(ILEscapeRouter$Board;LEscapeRouter$FlowNetwork;)I"⟩, 9), (⟨"EscapeRouter$Layering", "consider", "(IIILEscapeRouter$FlowNetwork;)I"⟩, 9), (⟨"EscapeRouterModel", "readGrid", "()I"⟩, 22), (⟨"EscapeRouterModel", "edit", "()V"⟩, 22), (⟨"EscapeRouterModel", "signals", "()I"⟩, 22), (⟨"EscapeRouterModel", "isPosition", "(II)Z"⟩, 22), (⟨"EscapeRouterModel", "unpair", "(I)V"⟩, 22), (⟨"EscapeRouterModel", "isFree", "(I)Z"⟩, 22), (⟨"EscapeRouterModel", "pairs", "()I"⟩, 22), (⟨"EscapeRouterModel", "selected", "()I"⟩, 22), (⟨"EscapeRouterModel", "escape", "()I"⟩, 22), (⟨"EscapeRouterModel", "openNone", "()V"⟩, 22), (⟨"EscapeRouterModel", "lay", "()V"⟩, 22), (⟨"EscapeRouterModel", "join", "(III)V"⟩, 22)]
theorem lw_r2 : ∀ q ∈ lw_privs_2, lw_okq q := List.forall_mem_cons.mpr ⟨lw_p16, List.forall_mem_cons.mpr ⟨lw_p17, List.forall_mem_cons.mpr ⟨lw_p18, List.forall_mem_cons.mpr ⟨lw_p19, List.forall_mem_cons.mpr ⟨lw_p20, List.forall_mem_cons.mpr ⟨lw_p21, List.forall_mem_cons.mpr ⟨lw_p22, List.forall_mem_cons.mpr ⟨lw_p23, List.forall_mem_cons.mpr ⟨lw_p24, List.forall_mem_cons.mpr ⟨lw_p25, List.forall_mem_cons.mpr ⟨lw_p26, List.forall_mem_cons.mpr ⟨lw_p27, List.forall_mem_cons.mpr ⟨lw_p28, List.forall_mem_cons.mpr ⟨lw_p29, List.forall_mem_cons.mpr ⟨lw_p30, List.forall_mem_cons.mpr ⟨lw_p31, fun _ h => absurd h List.not_mem_nil⟩⟩⟩⟩⟩⟩⟩⟩⟩⟩⟩⟩⟩⟩⟩⟩
theorem lw_p32 : lw_okq (⟨"EscapeRouterModel", "lead", "(III)V"⟩, 22) := ⟨⟨by decide +kernel, by decide +kernel⟩, List.mem_of_getElem? (i := 529) (by decide +kernel), List.mem_of_getElem? (i := 729) (by decide +kernel), List.mem_of_getElem? (i := 730) (by decide +kernel)⟩
theorem lw_p33 : lw_okq (⟨"EscapeRouterModel", "isRim", "(II)Z"⟩, 22) := ⟨⟨by decide +kernel, by decide +kernel⟩, List.mem_of_getElem? (i := 529) (by decide +kernel), List.mem_of_getElem? (i := 733) (by decide +kernel), List.mem_of_getElem? (i := 734) (by decide +kernel)⟩
theorem lw_p34 : lw_okq (⟨"EscapeRouterModel", "joinTiles", "(IIII)V"⟩, 22) := ⟨⟨by decide +kernel, by decide +kernel⟩, List.mem_of_getElem? (i := 529) (by decide +kernel), List.mem_of_getElem? (i := 738) (by decide +kernel), List.mem_of_getElem? (i := 739) (by decide +kernel)⟩
theorem lw_p35 : lw_okq (⟨"EscapeRouterModel", "layPin", "(II)V"⟩, 22) := ⟨⟨by decide +kernel, by decide +kernel⟩, List.mem_of_getElem? (i := 529) (by decide +kernel), List.mem_of_getElem? (i := 742) (by decide +kernel), List.mem_of_getElem? (i := 743) (by decide +kernel)⟩
theorem lw_p36 : lw_okq (⟨"EscapeRouterModel", "augmentAll", "()I"⟩, 22) := ⟨⟨by decide +kernel, by decide +kernel⟩, List.mem_of_getElem? (i := 529) (by decide +kernel), List.mem_of_getElem? (i := 746) (by decide +kernel), List.mem_of_getElem? (i := 747) (by decide +kernel)⟩
theorem lw_p37 : lw_okq (⟨"EscapeRouterModel", "augment", "()I"⟩, 22) := ⟨⟨by decide +kernel, by decide +kernel⟩, List.mem_of_getElem? (i := 529) (by decide +kernel), List.mem_of_getElem? (i := 750) (by decide +kernel), List.mem_of_getElem? (i := 751) (by decide +kernel)⟩
theorem lw_p38 : lw_okq (⟨"EscapeRouterModel", "reach", "()V"⟩, 22) := ⟨⟨by decide +kernel, by decide +kernel⟩, List.mem_of_getElem? (i := 529) (by decide +kernel), List.mem_of_getElem? (i := 754) (by decide +kernel), List.mem_of_getElem? (i := 755) (by decide +kernel)⟩
theorem lw_p39 : lw_okq (⟨"EscapeRouterModel", "isCut", "(II)I"⟩, 22) := ⟨⟨by decide +kernel, by decide +kernel⟩, List.mem_of_getElem? (i := 529) (by decide +kernel), List.mem_of_getElem? (i := 766) (by decide +kernel), List.mem_of_getElem? (i := 767) (by decide +kernel)⟩
theorem lw_p40 : lw_okq (⟨"EscapeRouterModel", "layering", "(I)I"⟩, 22) := ⟨⟨by decide +kernel, by decide +kernel⟩, List.mem_of_getElem? (i := 529) (by decide +kernel), List.mem_of_getElem? (i := 777) (by decide +kernel), List.mem_of_getElem? (i := 778) (by decide +kernel)⟩
theorem lw_p41 : lw_okq (⟨"EscapeRouterModel", "sort", "(I)V"⟩, 22) := ⟨⟨by decide +kernel, by decide +kernel⟩, List.mem_of_getElem? (i := 529) (by decide +kernel), List.mem_of_getElem? (i := 781) (by decide +kernel), List.mem_of_getElem? (i := 782) (by decide +kernel)⟩
theorem lw_p42 : lw_okq (⟨"EscapeRouterModel", "rank", "(II)I"⟩, 22) := ⟨⟨by decide +kernel, by decide +kernel⟩, List.mem_of_getElem? (i := 529) (by decide +kernel), List.mem_of_getElem? (i := 785) (by decide +kernel), List.mem_of_getElem? (i := 786) (by decide +kernel)⟩
theorem lw_p43 : lw_okq (⟨"EscapeRouterModel", "ring", "(I)I"⟩, 22) := ⟨⟨by decide +kernel, by decide +kernel⟩, List.mem_of_getElem? (i := 529) (by decide +kernel), List.mem_of_getElem? (i := 789) (by decide +kernel), List.mem_of_getElem? (i := 790) (by decide +kernel)⟩
theorem lw_p44 : lw_okq (⟨"EscapeRouterModel", "isFirst", "(II)Z"⟩, 22) := ⟨⟨by decide +kernel, by decide +kernel⟩, List.mem_of_getElem? (i := 529) (by decide +kernel), List.mem_of_getElem? (i := 793) (by decide +kernel), List.mem_of_getElem? (i := 794) (by decide +kernel)⟩
theorem lw_p45 : lw_okq (⟨"EscapeRouterModel", "puts", "(II)Z"⟩, 22) := ⟨⟨by decide +kernel, by decide +kernel⟩, List.mem_of_getElem? (i := 529) (by decide +kernel), List.mem_of_getElem? (i := 797) (by decide +kernel), List.mem_of_getElem? (i := 798) (by decide +kernel)⟩
theorem lw_p46 : lw_okq (⟨"EscapeRouterModel", "cutBack", "(I)V"⟩, 22) := ⟨⟨by decide +kernel, by decide +kernel⟩, List.mem_of_getElem? (i := 529) (by decide +kernel), List.mem_of_getElem? (i := 801) (by decide +kernel), List.mem_of_getElem? (i := 802) (by decide +kernel)⟩
theorem lw_p47 : lw_okq (⟨"EscapeRouterModel", "most", "()I"⟩, 22) := ⟨⟨by decide +kernel, by decide +kernel⟩, List.mem_of_getElem? (i := 529) (by decide +kernel), List.mem_of_getElem? (i := 821) (by decide +kernel), List.mem_of_getElem? (i := 822) (by decide +kernel)⟩
def lw_privs_3 : List (MethodName × Nat) := [(⟨"EscapeRouterModel", "lead", "(III)V"⟩, 22), (⟨"EscapeRouterModel", "isRim", "(II)Z"⟩, 22), (⟨"EscapeRouterModel", "joinTiles", "(IIII)V"⟩, 22), (⟨"EscapeRouterModel", "layPin", "(II)V"⟩, 22), (⟨"EscapeRouterModel", "augmentAll", "()I"⟩, 22), (⟨"EscapeRouterModel", "augment", "()I"⟩, 22), (⟨"EscapeRouterModel", "reach", "()V"⟩, 22), (⟨"EscapeRouterModel", "isCut", "(II)I"⟩, 22), (⟨"EscapeRouterModel", "layering", "(I)I"⟩, 22), (⟨"EscapeRouterModel", "sort", "(I)V"⟩, 22), (⟨"EscapeRouterModel", "rank", "(II)I"⟩, 22), (⟨"EscapeRouterModel", "ring", "(I)I"⟩, 22), (⟨"EscapeRouterModel", "isFirst", "(II)Z"⟩, 22), (⟨"EscapeRouterModel", "puts", "(II)Z"⟩, 22), (⟨"EscapeRouterModel", "cutBack", "(I)V"⟩, 22), (⟨"EscapeRouterModel", "most", "()I"⟩, 22)]
theorem lw_r3 : ∀ q ∈ lw_privs_3, lw_okq q := List.forall_mem_cons.mpr ⟨lw_p32, List.forall_mem_cons.mpr ⟨lw_p33, List.forall_mem_cons.mpr ⟨lw_p34, List.forall_mem_cons.mpr ⟨lw_p35, List.forall_mem_cons.mpr ⟨lw_p36, List.forall_mem_cons.mpr ⟨lw_p37, List.forall_mem_cons.mpr ⟨lw_p38, List.forall_mem_cons.mpr ⟨lw_p39, List.forall_mem_cons.mpr ⟨lw_p40, List.forall_mem_cons.mpr ⟨lw_p41, List.forall_mem_cons.mpr ⟨lw_p42, List.forall_mem_cons.mpr ⟨lw_p43, List.forall_mem_cons.mpr ⟨lw_p44, List.forall_mem_cons.mpr ⟨lw_p45, List.forall_mem_cons.mpr ⟨lw_p46, List.forall_mem_cons.mpr ⟨lw_p47, fun _ h => absurd h List.not_mem_nil⟩⟩⟩⟩⟩⟩⟩⟩⟩⟩⟩⟩⟩⟩⟩⟩
def lw_privs : List (MethodName × Nat) := lw_privs_1 ++ (lw_privs_2 ++ (lw_privs_3))
def lw_tbl : List Cond := k2_sels lw_privs ++ tables_1
theorem lw_privs_ok : ∀ q ∈ lw_privs, lw_okq q := by
  show ∀ q ∈ lw_privs_1 ++ (lw_privs_2 ++ (lw_privs_3)), lw_okq q
  exact List.forall_mem_append.mpr ⟨lw_r1, List.forall_mem_append.mpr ⟨lw_r2, lw_r3⟩⟩
/-- the words that ride through calls by themselves -/
def er_tb : List Cond := lw_tbl.filter goodWord
theorem er_tb_of {w : Cond} (h : w ∈ lw_tbl) (g : goodWord w = true) : w ∈ er_tb := List.mem_filter.mpr ⟨h, g⟩
theorem er_tb_in {w : Cond} (h : w ∈ er_tb) : w ∈ lw_tbl := (List.mem_filter.mp h).1
/-- the words of nest mates (they do not): own, entry, method, host -/
def er_nw : List (String × Nat × MethodName × String) := [("EscapeRouter$Board", 35, ⟨"EscapeRouter", "placeOf", "(II)I"⟩, "EscapeRouter"), ("EscapeRouter$GridText", 32, ⟨"EscapeRouter", "placeOf", "(II)I"⟩, "EscapeRouter"), ("EscapeRouter$FlowNetwork", 70, ⟨"EscapeRouter", "placeOf", "(II)I"⟩, "EscapeRouter"), ("EscapeRouter$FlowNetwork", 77, ⟨"EscapeRouter", "tileAt", "(II)I"⟩, "EscapeRouter"), ("EscapeRouter$Layering", 114, ⟨"EscapeRouter", "placeOf", "(II)I"⟩, "EscapeRouter")]
def er_FB : u_T := fun k => match k with
  | 0 => ("EscapeRouter$Board", "rowCount", "I", false)
  | 1 => ("EscapeRouter$Board", "columnCount", "I", false)
  | 2 => ("EscapeRouter$Board", "channelCapacity", "I", false)
  | 3 => ("EscapeRouter$Board", "tileCapacity", "I", false)
  | 4 => ("EscapeRouter$Board", "kinds", "[I", true)
  | 5 => ("EscapeRouter$Board", "partners", "[I", true)
  | _ => ("EscapeRouter$Board", "selected", "[Z", true)
def er_tB : Nat → FieldType := fun k => match k with
  | 0 => .int
  | 1 => .int
  | 2 => .int
  | 3 => .int
  | 4 => .array .int
  | 5 => .array .int
  | _ => .array .boolean
theorem er_nB : ∀ a, a < 7 → ∀ b, b < 7 → a ≠ b → (er_FB a).2.1 ≠ (er_FB b).2.1 := by decide +kernel
theorem er_tB_ok : ∀ k, k < 7 → parseFieldDescriptor (er_FB k).2.2.1 = some (er_tB k) := by decide +kernel
set_option maxRecDepth 20000 in
theorem er_iB : ∀ w ∈ u_ws "EscapeRouter$Board" er_FB 7, w ∈ er_tb := by decide +kernel
def er_FN : u_T := fun k => match k with
  | 0 => ("EscapeRouter$FlowNetwork", "firstEdge", "[I", true)
  | 1 => ("EscapeRouter$FlowNetwork", "nextEdge", "[I", true)
  | 2 => ("EscapeRouter$FlowNetwork", "target", "[I", true)
  | 3 => ("EscapeRouter$FlowNetwork", "residual", "[I", true)
  | 4 => ("EscapeRouter$FlowNetwork", "keptResidual", "[I", true)
  | 5 => ("EscapeRouter$FlowNetwork", "reachedIn", "[I", true)
  | 6 => ("EscapeRouter$FlowNetwork", "reachedBy", "[I", true)
  | 7 => ("EscapeRouter$FlowNetwork", "queue", "[I", true)
  | 8 => ("EscapeRouter$FlowNetwork", "edgeCount", "I", false)
  | 9 => ("EscapeRouter$FlowNetwork", "firstChannelEdge", "I", false)
  | _ => ("EscapeRouter$FlowNetwork", "search", "I", false)
def er_tN : Nat → FieldType := fun k => match k with
  | 0 => .array .int
  | 1 => .array .int
  | 2 => .array .int
  | 3 => .array .int
  | 4 => .array .int
  | 5 => .array .int
  | 6 => .array .int
  | 7 => .array .int
  | 8 => .int
  | 9 => .int
  | _ => .int
theorem er_nN : ∀ a, a < 11 → ∀ b, b < 11 → a ≠ b → (er_FN a).2.1 ≠ (er_FN b).2.1 := by decide +kernel
theorem er_tN_ok : ∀ k, k < 11 → parseFieldDescriptor (er_FN k).2.2.1 = some (er_tN k) := by decide +kernel
set_option maxRecDepth 20000 in
theorem er_iN : ∀ w ∈ u_ws "EscapeRouter$FlowNetwork" er_FN 11, w ∈ er_tb := by decide +kernel
def er_FG : u_T := fun k => match k with
  | 0 => ("EscapeRouter$GridText", "characters", "[I", true)
  | 1 => ("EscapeRouter$GridText", "length", "I", false)
  | 2 => ("EscapeRouter$GridText", "rowCount", "I", false)
  | 3 => ("EscapeRouter$GridText", "columnCount", "I", false)
  | _ => ("EscapeRouter$GridText", "kinds", "[I", true)
def er_tG : Nat → FieldType := fun k => match k with
  | 0 => .array .int
  | 1 => .int
  | 2 => .int
  | 3 => .int
  | _ => .array .int
theorem er_nG : ∀ a, a < 5 → ∀ b, b < 5 → a ≠ b → (er_FG a).2.1 ≠ (er_FG b).2.1 := by decide +kernel
theorem er_tG_ok : ∀ k, k < 5 → parseFieldDescriptor (er_FG k).2.2.1 = some (er_tG k) := by decide +kernel
set_option maxRecDepth 20000 in
theorem er_iG : ∀ w ∈ u_ws "EscapeRouter$GridText" er_FG 5, w ∈ er_tb := by decide +kernel
def er_FH : u_T := fun k => match k with
  | 0 => ("EscapeRouter$History", "boards", "[LEscapeRouter$Board;", true)
  | _ => ("EscapeRouter$History", "count", "I", false)
def er_tH : Nat → FieldType := fun k => match k with
  | 0 => .array (.object "EscapeRouter$Board")
  | _ => .int
theorem er_nH : ∀ a, a < 2 → ∀ b, b < 2 → a ≠ b → (er_FH a).2.1 ≠ (er_FH b).2.1 := by decide +kernel
theorem er_tH_ok : ∀ k, k < 2 → parseFieldDescriptor (er_FH k).2.2.1 = some (er_tH k) := by decide +kernel
set_option maxRecDepth 20000 in
theorem er_iH : ∀ w ∈ u_ws "EscapeRouter$History" er_FH 2, w ∈ er_tb := by decide +kernel
def er_FY : u_T := fun k => match k with
  | 0 => ("EscapeRouter$Layering", "strategy", "I", true)
  | 1 => ("EscapeRouter$Layering", "order", "[I", true)
  | 2 => ("EscapeRouter$Layering", "ordered", "I", false)
  | 3 => ("EscapeRouter$Layering", "consideredFor", "[I", true)
  | 4 => ("EscapeRouter$Layering", "open", "[Z", true)
  | 5 => ("EscapeRouter$Layering", "layerAt", "[I", true)
  | 6 => ("EscapeRouter$Layering", "layers", "I", false)
  | 7 => ("EscapeRouter$Layering", "complete", "Z", false)
  | _ => ("EscapeRouter$Layering", "fresh", "Z", false)
def er_tY : Nat → FieldType := fun k => match k with
  | 0 => .int
  | 1 => .array .int
  | 2 => .int
  | 3 => .array .int
  | 4 => .array .boolean
  | 5 => .array .int
  | 6 => .int
  | 7 => .boolean
  | _ => .boolean
theorem er_nY : ∀ a, a < 9 → ∀ b, b < 9 → a ≠ b → (er_FY a).2.1 ≠ (er_FY b).2.1 := by decide +kernel
theorem er_tY_ok : ∀ k, k < 9 → parseFieldDescriptor (er_FY k).2.2.1 = some (er_tY k) := by decide +kernel
set_option maxRecDepth 20000 in
theorem er_iY : ∀ w ∈ u_ws "EscapeRouter$Layering" er_FY 9, w ∈ er_tb := by decide +kernel
def er_FR : u_T := fun k => match k with
  | 0 => ("EscapeRouter", "board", "LEscapeRouter$Board;", true)
  | 1 => ("EscapeRouter", "history", "LEscapeRouter$History;", true)
  | 2 => ("EscapeRouter", "text", "LEscapeRouter$GridText;", true)
  | 3 => ("EscapeRouter", "selectionNetwork", "LEscapeRouter$FlowNetwork;", true)
  | 4 => ("EscapeRouter", "layerNetwork", "LEscapeRouter$FlowNetwork;", true)
  | 5 => ("EscapeRouter", "layerings", "[LEscapeRouter$Layering;", true)
  | 6 => ("EscapeRouter", "open", "[Z", true)
  | 7 => ("EscapeRouter", "selectionSolved", "Z", false)
  | 8 => ("EscapeRouter", "escaping", "I", false)
  | _ => ("EscapeRouter", "knownThroughput", "I", false)
def er_tR : Nat → FieldType := fun k => match k with
  | 0 => .object "EscapeRouter$Board"
  | 1 => .object "EscapeRouter$History"
  | 2 => .object "EscapeRouter$GridText"
  | 3 => .object "EscapeRouter$FlowNetwork"
  | 4 => .object "EscapeRouter$FlowNetwork"
  | 5 => .array (.object "EscapeRouter$Layering")
  | 6 => .array .boolean
  | 7 => .boolean
  | 8 => .int
  | _ => .int
theorem er_nR : ∀ a, a < 10 → ∀ b, b < 10 → a ≠ b → (er_FR a).2.1 ≠ (er_FR b).2.1 := by decide +kernel
theorem er_tR_ok : ∀ k, k < 10 → parseFieldDescriptor (er_FR k).2.2.1 = some (er_tR k) := by decide +kernel
set_option maxRecDepth 20000 in
theorem er_iR : ∀ w ∈ u_ws "EscapeRouter" er_FR 10, w ∈ er_tb := by decide +kernel
def er_FM : u_T := fun k => match k with
  | 0 => ("EscapeRouterModel", "s", "[I", true)
  | 1 => ("EscapeRouterModel", "past", "[I", true)
  | 2 => ("EscapeRouterModel", "pasts", "I", false)
  | 3 => ("EscapeRouterModel", "text", "[B", true)
  | 4 => ("EscapeRouterModel", "typed", "I", false)
  | 5 => ("EscapeRouterModel", "draft", "[I", true)
  | 6 => ("EscapeRouterModel", "draftRows", "I", false)
  | 7 => ("EscapeRouterModel", "draftColumns", "I", false)
  | 8 => ("EscapeRouterModel", "from", "[I", true)
  | 9 => ("EscapeRouterModel", "to", "[I", true)
  | 10 => ("EscapeRouterModel", "room", "[I", true)
  | 11 => ("EscapeRouterModel", "latest", "[I", true)
  | 12 => ("EscapeRouterModel", "former", "[I", true)
  | 13 => ("EscapeRouterModel", "edges", "I", false)
  | 14 => ("EscapeRouterModel", "isOpen", "[Z", true)
  | 15 => ("EscapeRouterModel", "line", "[I", true)
  | 16 => ("EscapeRouterModel", "by", "[I", true)
  | 17 => ("EscapeRouterModel", "isNear", "[Z", true)
  | 18 => ("EscapeRouterModel", "layer", "[I", true)
  | 19 => ("EscapeRouterModel", "order", "[I", true)
  | 20 => ("EscapeRouterModel", "ordered", "I", false)
  | _ => ("EscapeRouterModel", "before", "[I", true)
def er_tM : Nat → FieldType := fun k => match k with
  | 0 => .array .int
  | 1 => .array .int
  | 2 => .int
  | 3 => .array .byte
  | 4 => .int
  | 5 => .array .int
  | 6 => .int
  | 7 => .int
  | 8 => .array .int
  | 9 => .array .int
  | 10 => .array .int
  | 11 => .array .int
  | 12 => .array .int
  | 13 => .int
  | 14 => .array .boolean
  | 15 => .array .int
  | 16 => .array .int
  | 17 => .array .boolean
  | 18 => .array .int
  | 19 => .array .int
  | 20 => .int
  | _ => .array .int
theorem er_nM : ∀ a, a < 22 → ∀ b, b < 22 → a ≠ b → (er_FM a).2.1 ≠ (er_FM b).2.1 := by decide +kernel
theorem er_tM_ok : ∀ k, k < 22 → parseFieldDescriptor (er_FM k).2.2.1 = some (er_tM k) := by decide +kernel
set_option maxRecDepth 20000 in
theorem er_iM : ∀ w ∈ u_ws "EscapeRouterModel" er_FM 22, w ∈ er_tb := by decide +kernel
abbrev er_cl : List vw_C := [("EscapeRouter$Board", er_FB, 7), ("EscapeRouter$FlowNetwork", er_FN, 11), ("EscapeRouter$GridText", er_FG, 5), ("EscapeRouter$History", er_FH, 2), ("EscapeRouter$Layering", er_FY, 9), ("EscapeRouter", er_FR, 10), ("EscapeRouterModel", er_FM, 22)]
-- the law itself: frames, locals needed: (7, 176)
abbrev er_I : Type := MethodName × ByteArray × Nat × Option FieldType × Room
def mi_R_init : er_I := (⟨"EscapeRouter", "<init>", "()V"⟩, prog_1_method_1_code, 2, none, { frames := 3, cells := 81, slots := 8876, locals := 64 })
def mi_R_appendCharacter : er_I := (⟨"EscapeRouter", "appendCharacter", "(I)I"⟩, prog_1_method_2_code, 2, some .int, { frames := 1, cells := 0, slots := 0, locals := 21 })
def mi_R_clearText : er_I := (⟨"EscapeRouter", "clearText", "()I"⟩, prog_1_method_3_code, 2, some .int, { frames := 0, cells := 0, slots := 0, locals := 0 })
def mi_R_loadGrid : er_I := (⟨"EscapeRouter", "loadGrid", "()I"⟩, prog_1_method_4_code, 2, some .int, { frames := 4, cells := 0, slots := 0, locals := 88 })
def mi_R_setKind : er_I := (⟨"EscapeRouter", "setKind", "(III)I"⟩, prog_1_method_5_code, 6, some .int, { frames := 4, cells := 0, slots := 0, locals := 88 })
def mi_R_setChannelCapacity : er_I := (⟨"EscapeRouter", "setChannelCapacity", "(I)I"⟩, prog_1_method_6_code, 3, some .int, { frames := 4, cells := 0, slots := 0, locals := 88 })
def mi_R_setTileCapacity : er_I := (⟨"EscapeRouter", "setTileCapacity", "(I)I"⟩, prog_1_method_7_code, 3, some .int, { frames := 4, cells := 0, slots := 0, locals := 88 })
def mi_R_rows : er_I := (⟨"EscapeRouter", "rows", "()I"⟩, prog_1_method_8_code, 1, some .int, { frames := 0, cells := 0, slots := 0, locals := 0 })
def mi_R_columns : er_I := (⟨"EscapeRouter", "columns", "()I"⟩, prog_1_method_9_code, 1, some .int, { frames := 0, cells := 0, slots := 0, locals := 0 })
def mi_R_kindAt : er_I := (⟨"EscapeRouter", "kindAt", "(II)I"⟩, prog_1_method_10_code, 3, some .int, { frames := 1, cells := 0, slots := 0, locals := 22 })
def mi_R_signalCount : er_I := (⟨"EscapeRouter", "signalCount", "()I"⟩, prog_1_method_11_code, 1, some .int, { frames := 1, cells := 0, slots := 0, locals := 22 })
def mi_R_makePair : er_I := (⟨"EscapeRouter", "makePair", "(IIII)I"⟩, prog_1_method_12_code, 7, some .int, { frames := 4, cells := 0, slots := 0, locals := 88 })
def mi_R_breakPair : er_I := (⟨"EscapeRouter", "breakPair", "(II)I"⟩, prog_1_method_13_code, 4, some .int, { frames := 4, cells := 0, slots := 0, locals := 88 })
def mi_R_partnerOf : er_I := (⟨"EscapeRouter", "partnerOf", "(II)I"⟩, prog_1_method_14_code, 4, some .int, { frames := 1, cells := 0, slots := 0, locals := 22 })
def mi_R_select : er_I := (⟨"EscapeRouter", "select", "(II)I"⟩, prog_1_method_15_code, 4, some .int, { frames := 4, cells := 0, slots := 0, locals := 88 })
def mi_R_deselect : er_I := (⟨"EscapeRouter", "deselect", "(II)I"⟩, prog_1_method_16_code, 4, some .int, { frames := 4, cells := 0, slots := 0, locals := 88 })
def mi_R_clearSelection : er_I := (⟨"EscapeRouter", "clearSelection", "()I"⟩, prog_1_method_17_code, 3, some .int, { frames := 4, cells := 0, slots := 0, locals := 88 })
def mi_R_escapeCount : er_I := (⟨"EscapeRouter", "escapeCount", "()I"⟩, prog_1_method_18_code, 1, some .int, { frames := 5, cells := 0, slots := 0, locals := 121 })
def mi_R_tileSide : er_I := (⟨"EscapeRouter", "tileSide", "(II)I"⟩, prog_1_method_19_code, 3, some .int, { frames := 5, cells := 0, slots := 0, locals := 121 })
def mi_R_cutChannels : er_I := (⟨"EscapeRouter", "cutChannels", "()I"⟩, prog_1_method_20_code, 1, some .int, { frames := 5, cells := 0, slots := 0, locals := 121 })
def mi_R_layerCount : er_I := (⟨"EscapeRouter", "layerCount", "(I)I"⟩, prog_1_method_21_code, 3, some .int, { frames := 6, cells := 0, slots := 0, locals := 152 })
def mi_R_layerOf : er_I := (⟨"EscapeRouter", "layerOf", "(III)I"⟩, prog_1_method_22_code, 5, some .int, { frames := 6, cells := 0, slots := 0, locals := 152 })
def mi_R_layerLoad : er_I := (⟨"EscapeRouter", "layerLoad", "(II)I"⟩, prog_1_method_23_code, 3, some .int, { frames := 6, cells := 0, slots := 0, locals := 152 })
def mi_R_bestStrategy : er_I := (⟨"EscapeRouter", "bestStrategy", "()I"⟩, prog_1_method_24_code, 5, some .int, { frames := 6, cells := 0, slots := 0, locals := 152 })
def mi_R_throughput : er_I := (⟨"EscapeRouter", "throughput", "()I"⟩, prog_1_method_25_code, 2, some .int, { frames := 4, cells := 0, slots := 0, locals := 100 })
def mi_R_lowerBound : er_I := (⟨"EscapeRouter", "lowerBound", "()I"⟩, prog_1_method_26_code, 3, some .int, { frames := 5, cells := 0, slots := 0, locals := 121 })
def mi_R_undo : er_I := (⟨"EscapeRouter", "undo", "()I"⟩, prog_1_method_27_code, 1, some .int, { frames := 3, cells := 0, slots := 0, locals := 68 })
def mi_R_placeOf : er_I := (⟨"EscapeRouter", "placeOf", "(II)I"⟩, prog_1_method_28_code, 2, some .int, { frames := 0, cells := 0, slots := 0, locals := 0 })
def mi_R_tileAt : er_I := (⟨"EscapeRouter", "tileAt", "(II)I"⟩, prog_1_method_29_code, 2, some .int, { frames := 0, cells := 0, slots := 0, locals := 0 })
def mi_R_isStrategy : er_I := (⟨"EscapeRouter", "isStrategy", "(I)Z"⟩, prog_1_method_30_code, 1, some .boolean, { frames := 0, cells := 0, slots := 0, locals := 0 })
def mi_R_beginEdit : er_I := (⟨"EscapeRouter", "beginEdit", "()V"⟩, prog_1_method_31_code, 1, none, { frames := 3, cells := 0, slots := 0, locals := 68 })
def mi_R_forgetResults : er_I := (⟨"EscapeRouter", "forgetResults", "()V"⟩, prog_1_method_32_code, 2, none, { frames := 0, cells := 0, slots := 0, locals := 0 })
def mi_R_solveSelection : er_I := (⟨"EscapeRouter", "solveSelection", "()V"⟩, prog_1_method_33_code, 2, none, { frames := 4, cells := 0, slots := 0, locals := 100 })
def mi_M_init : er_I := (⟨"EscapeRouterModel", "<init>", "()V"⟩, prog_8_method_1_code, 2, none, { frames := 1, cells := 16, slots := 5556, locals := 20 })
def mi_M_in : er_I := (⟨"EscapeRouterModel", "in", "(III)Z"⟩, prog_8_method_3_code, 3, some .boolean, { frames := 0, cells := 0, slots := 0, locals := 0 })
def mi_M_edit : er_I := (⟨"EscapeRouterModel", "edit", "()V"⟩, prog_8_method_4_code, 2, none, { frames := 0, cells := 0, slots := 0, locals := 0 })
def mi_M_undo : er_I := (⟨"EscapeRouterModel", "undo", "()I"⟩, prog_8_method_5_code, 2, some .int, { frames := 0, cells := 0, slots := 0, locals := 0 })
def mi_M_appendCharacter : er_I := (⟨"EscapeRouterModel", "appendCharacter", "(I)I"⟩, prog_8_method_6_code, 2, some .int, { frames := 1, cells := 0, slots := 0, locals := 22 })
def mi_M_clearText : er_I := (⟨"EscapeRouterModel", "clearText", "()I"⟩, prog_8_method_7_code, 2, some .int, { frames := 0, cells := 0, slots := 0, locals := 0 })
def mi_M_readGrid : er_I := (⟨"EscapeRouterModel", "readGrid", "()I"⟩, prog_8_method_8_code, 6, some .int, { frames := 0, cells := 0, slots := 0, locals := 0 })
def mi_M_loadGrid : er_I := (⟨"EscapeRouterModel", "loadGrid", "()I"⟩, prog_8_method_9_code, 3, some .int, { frames := 1, cells := 0, slots := 0, locals := 25 })
def mi_M_isPosition : er_I := (⟨"EscapeRouterModel", "isPosition", "(II)Z"⟩, prog_8_method_10_code, 3, some .boolean, { frames := 1, cells := 0, slots := 0, locals := 22 })
def mi_M_signals : er_I := (⟨"EscapeRouterModel", "signals", "()I"⟩, prog_8_method_11_code, 3, some .int, { frames := 0, cells := 0, slots := 0, locals := 0 })
def mi_M_unpair : er_I := (⟨"EscapeRouterModel", "unpair", "(I)V"⟩, prog_8_method_12_code, 2, none, { frames := 0, cells := 0, slots := 0, locals := 0 })
def mi_M_setKind : er_I := (⟨"EscapeRouterModel", "setKind", "(III)I"⟩, prog_8_method_13_code, 6, some .int, { frames := 2, cells := 0, slots := 0, locals := 44 })
def mi_M_setChannelCapacity : er_I := (⟨"EscapeRouterModel", "setChannelCapacity", "(I)I"⟩, prog_8_method_14_code, 3, some .int, { frames := 1, cells := 0, slots := 0, locals := 22 })
def mi_M_setTileCapacity : er_I := (⟨"EscapeRouterModel", "setTileCapacity", "(I)I"⟩, prog_8_method_15_code, 3, some .int, { frames := 1, cells := 0, slots := 0, locals := 22 })
def mi_M_rows : er_I := (⟨"EscapeRouterModel", "rows", "()I"⟩, prog_8_method_16_code, 1, some .int, { frames := 0, cells := 0, slots := 0, locals := 0 })
def mi_M_columns : er_I := (⟨"EscapeRouterModel", "columns", "()I"⟩, prog_8_method_17_code, 1, some .int, { frames := 0, cells := 0, slots := 0, locals := 0 })
def mi_M_kindAt : er_I := (⟨"EscapeRouterModel", "kindAt", "(II)I"⟩, prog_8_method_18_code, 3, some .int, { frames := 2, cells := 0, slots := 0, locals := 44 })
def mi_M_signalCount : er_I := (⟨"EscapeRouterModel", "signalCount", "()I"⟩, prog_8_method_19_code, 1, some .int, { frames := 1, cells := 0, slots := 0, locals := 22 })
def mi_M_pairs : er_I := (⟨"EscapeRouterModel", "pairs", "()I"⟩, prog_8_method_20_code, 3, some .int, { frames := 0, cells := 0, slots := 0, locals := 0 })
def mi_M_isFree : er_I := (⟨"EscapeRouterModel", "isFree", "(I)Z"⟩, prog_8_method_21_code, 2, some .boolean, { frames := 0, cells := 0, slots := 0, locals := 0 })
def mi_M_makePair : er_I := (⟨"EscapeRouterModel", "makePair", "(IIII)I"⟩, prog_8_method_22_code, 9, some .int, { frames := 2, cells := 0, slots := 0, locals := 44 })
def mi_M_breakPair : er_I := (⟨"EscapeRouterModel", "breakPair", "(II)I"⟩, prog_8_method_23_code, 3, some .int, { frames := 2, cells := 0, slots := 0, locals := 44 })
def mi_M_partnerOf : er_I := (⟨"EscapeRouterModel", "partnerOf", "(II)I"⟩, prog_8_method_24_code, 4, some .int, { frames := 2, cells := 0, slots := 0, locals := 44 })
def mi_M_selected : er_I := (⟨"EscapeRouterModel", "selected", "()I"⟩, prog_8_method_25_code, 3, some .int, { frames := 0, cells := 0, slots := 0, locals := 0 })
def mi_M_select : er_I := (⟨"EscapeRouterModel", "select", "(II)I"⟩, prog_8_method_26_code, 4, some .int, { frames := 2, cells := 0, slots := 0, locals := 44 })
def mi_M_deselect : er_I := (⟨"EscapeRouterModel", "deselect", "(II)I"⟩, prog_8_method_27_code, 4, some .int, { frames := 2, cells := 0, slots := 0, locals := 44 })
def mi_M_clearSelection : er_I := (⟨"EscapeRouterModel", "clearSelection", "()I"⟩, prog_8_method_28_code, 3, some .int, { frames := 1, cells := 0, slots := 0, locals := 22 })
def mi_M_lead : er_I := (⟨"EscapeRouterModel", "lead", "(III)V"⟩, prog_8_method_29_code, 4, none, { frames := 0, cells := 0, slots := 0, locals := 0 })
def mi_M_join : er_I := (⟨"EscapeRouterModel", "join", "(III)V"⟩, prog_8_method_30_code, 4, none, { frames := 1, cells := 0, slots := 0, locals := 23 })
def mi_M_cutBack : er_I := (⟨"EscapeRouterModel", "cutBack", "(I)V"⟩, prog_8_method_31_code, 2, none, { frames := 0, cells := 0, slots := 0, locals := 0 })
def mi_M_tile : er_I := (⟨"EscapeRouterModel", "tile", "(II)I"⟩, prog_8_method_32_code, 2, some .int, { frames := 0, cells := 0, slots := 0, locals := 0 })
def mi_M_joinTiles : er_I := (⟨"EscapeRouterModel", "joinTiles", "(IIII)V"⟩, prog_8_method_33_code, 6, none, { frames := 2, cells := 0, slots := 0, locals := 46 })
def mi_M_isRim : er_I := (⟨"EscapeRouterModel", "isRim", "(II)Z"⟩, prog_8_method_34_code, 3, some .boolean, { frames := 0, cells := 0, slots := 0, locals := 0 })
def mi_M_lay : er_I := (⟨"EscapeRouterModel", "lay", "()V"⟩, prog_8_method_35_code, 4, none, { frames := 3, cells := 0, slots := 0, locals := 71 })
def mi_M_layPin : er_I := (⟨"EscapeRouterModel", "layPin", "(II)V"⟩, prog_8_method_36_code, 4, none, { frames := 2, cells := 0, slots := 0, locals := 46 })
def mi_M_reach : er_I := (⟨"EscapeRouterModel", "reach", "()V"⟩, prog_8_method_37_code, 4, none, { frames := 0, cells := 0, slots := 0, locals := 0 })
def mi_M_augment : er_I := (⟨"EscapeRouterModel", "augment", "()I"⟩, prog_8_method_38_code, 4, some .int, { frames := 1, cells := 0, slots := 0, locals := 23 })
def mi_M_augmentAll : er_I := (⟨"EscapeRouterModel", "augmentAll", "()I"⟩, prog_8_method_39_code, 3, some .int, { frames := 2, cells := 0, slots := 0, locals := 46 })
def mi_M_openNone : er_I := (⟨"EscapeRouterModel", "openNone", "()V"⟩, prog_8_method_40_code, 2, none, { frames := 0, cells := 0, slots := 0, locals := 0 })
def mi_M_escape : er_I := (⟨"EscapeRouterModel", "escape", "()I"⟩, prog_8_method_41_code, 2, some .int, { frames := 4, cells := 0, slots := 0, locals := 94 })
def mi_M_escapeCount : er_I := (⟨"EscapeRouterModel", "escapeCount", "()I"⟩, prog_8_method_42_code, 1, some .int, { frames := 5, cells := 0, slots := 0, locals := 115 })
def mi_M_tileSide : er_I := (⟨"EscapeRouterModel", "tileSide", "(II)I"⟩, prog_8_method_43_code, 4, some .int, { frames := 5, cells := 0, slots := 0, locals := 115 })
def mi_M_isCut : er_I := (⟨"EscapeRouterModel", "isCut", "(II)I"⟩, prog_8_method_44_code, 3, some .int, { frames := 0, cells := 0, slots := 0, locals := 0 })
def mi_M_cutChannels : er_I := (⟨"EscapeRouterModel", "cutChannels", "()I"⟩, prog_8_method_45_code, 4, some .int, { frames := 5, cells := 0, slots := 0, locals := 115 })
def mi_M_ring : er_I := (⟨"EscapeRouterModel", "ring", "(I)I"⟩, prog_8_method_46_code, 5, some .int, { frames := 0, cells := 0, slots := 0, locals := 0 })
def mi_M_rank : er_I := (⟨"EscapeRouterModel", "rank", "(II)I"⟩, prog_8_method_47_code, 3, some .int, { frames := 1, cells := 0, slots := 0, locals := 24 })
def mi_M_sort : er_I := (⟨"EscapeRouterModel", "sort", "(I)V"⟩, prog_8_method_48_code, 4, none, { frames := 2, cells := 0, slots := 0, locals := 46 })
def mi_M_puts : er_I := (⟨"EscapeRouterModel", "puts", "(II)Z"⟩, prog_8_method_49_code, 6, some .boolean, { frames := 3, cells := 0, slots := 0, locals := 69 })
def mi_M_layering : er_I := (⟨"EscapeRouterModel", "layering", "(I)I"⟩, prog_8_method_50_code, 8, some .int, { frames := 4, cells := 0, slots := 0, locals := 94 })
def mi_M_isFirst : er_I := (⟨"EscapeRouterModel", "isFirst", "(II)Z"⟩, prog_8_method_51_code, 5, some .boolean, { frames := 0, cells := 0, slots := 0, locals := 0 })
def mi_M_isStrategy : er_I := (⟨"EscapeRouterModel", "isStrategy", "(I)Z"⟩, prog_8_method_52_code, 1, some .boolean, { frames := 1, cells := 0, slots := 0, locals := 22 })
def mi_M_layerCount : er_I := (⟨"EscapeRouterModel", "layerCount", "(I)I"⟩, prog_8_method_53_code, 2, some .int, { frames := 5, cells := 0, slots := 0, locals := 121 })
def mi_M_layerOf : er_I := (⟨"EscapeRouterModel", "layerOf", "(III)I"⟩, prog_8_method_54_code, 4, some .int, { frames := 5, cells := 0, slots := 0, locals := 121 })
def mi_M_layerLoad : er_I := (⟨"EscapeRouterModel", "layerLoad", "(II)I"⟩, prog_8_method_55_code, 5, some .int, { frames := 5, cells := 0, slots := 0, locals := 121 })
def mi_M_bestStrategy : er_I := (⟨"EscapeRouterModel", "bestStrategy", "()I"⟩, prog_8_method_56_code, 5, some .int, { frames := 5, cells := 0, slots := 0, locals := 121 })
def mi_M_most : er_I := (⟨"EscapeRouterModel", "most", "()I"⟩, prog_8_method_57_code, 2, some .int, { frames := 4, cells := 0, slots := 0, locals := 94 })
def mi_M_throughput : er_I := (⟨"EscapeRouterModel", "throughput", "()I"⟩, prog_8_method_58_code, 1, some .int, { frames := 5, cells := 0, slots := 0, locals := 115 })
def mi_M_lowerBound : er_I := (⟨"EscapeRouterModel", "lowerBound", "()I"⟩, prog_8_method_59_code, 3, some .int, { frames := 5, cells := 0, slots := 0, locals := 115 })
def mi_B_init : er_I := (⟨"EscapeRouter$Board", "<init>", "()V"⟩, prog_2_method_1_code, 3, none, { frames := 1, cells := 3, slots := 108, locals := 21 })
def mi_B_copyFrom : er_I := (⟨"EscapeRouter$Board", "copyFrom", "(LEscapeRouter$Board;)V"⟩, prog_2_method_2_code, 2, none, { frames := 1, cells := 0, slots := 0, locals := 26 })
def mi_B_replaceGrid : er_I := (⟨"EscapeRouter$Board", "replaceGrid", "(LEscapeRouter$GridText;)V"⟩, prog_2_method_3_code, 5, none, { frames := 1, cells := 0, slots := 0, locals := 22 })
def mi_B_has : er_I := (⟨"EscapeRouter$Board", "has", "(II)Z"⟩, prog_2_method_4_code, 3, some .boolean, { frames := 0, cells := 0, slots := 0, locals := 0 })
def mi_B_isFreeForPair : er_I := (⟨"EscapeRouter$Board", "isFreeForPair", "(I)Z"⟩, prog_2_method_5_code, 2, some .boolean, { frames := 0, cells := 0, slots := 0, locals := 0 })
def mi_B_separate : er_I := (⟨"EscapeRouter$Board", "separate", "(I)V"⟩, prog_2_method_6_code, 3, none, { frames := 0, cells := 0, slots := 0, locals := 0 })
def mi_B_countSignals : er_I := (⟨"EscapeRouter$Board", "countSignals", "()I"⟩, prog_2_method_7_code, 3, some .int, { frames := 0, cells := 0, slots := 0, locals := 0 })
def mi_B_countPairs : er_I := (⟨"EscapeRouter$Board", "countPairs", "()I"⟩, prog_2_method_8_code, 3, some .int, { frames := 0, cells := 0, slots := 0, locals := 0 })
def mi_B_countSelected : er_I := (⟨"EscapeRouter$Board", "countSelected", "()I"⟩, prog_2_method_9_code, 3, some .int, { frames := 0, cells := 0, slots := 0, locals := 0 })
def mi_N_init : er_I := (⟨"EscapeRouter$FlowNetwork", "<init>", "()V"⟩, prog_3_method_1_code, 1, none, { frames := 1, cells := 8, slots := 3528, locals := 20 })
def mi_N_build : er_I := (⟨"EscapeRouter$FlowNetwork", "build", "(LEscapeRouter$Board;[ZI)V"⟩, prog_3_method_2_code, 5, none, { frames := 3, cells := 0, slots := 0, locals := 76 })
def mi_N_connectPins : er_I := (⟨"EscapeRouter$FlowNetwork", "connectPins", "(LEscapeRouter$Board;I)V"⟩, prog_3_method_3_code, 7, none, { frames := 1, cells := 0, slots := 0, locals := 25 })
def mi_N_connectTiles : er_I := (⟨"EscapeRouter$FlowNetwork", "connectTiles", "(LEscapeRouter$Board;)V"⟩, prog_3_method_4_code, 5, none, { frames := 1, cells := 0, slots := 0, locals := 25 })
def mi_N_connectChannels : er_I := (⟨"EscapeRouter$FlowNetwork", "connectChannels", "(LEscapeRouter$Board;[Z)V"⟩, prog_3_method_5_code, 9, none, { frames := 2, cells := 0, slots := 0, locals := 48 })
def mi_N_connectBothWays : er_I := (⟨"EscapeRouter$FlowNetwork", "connectBothWays", "(III)V"⟩, prog_3_method_6_code, 4, none, { frames := 1, cells := 0, slots := 0, locals := 25 })
def mi_N_connect : er_I := (⟨"EscapeRouter$FlowNetwork", "connect", "(III)V"⟩, prog_3_method_7_code, 6, none, { frames := 0, cells := 0, slots := 0, locals := 0 })
def mi_N_supply : er_I := (⟨"EscapeRouter$FlowNetwork", "supply", "(II)V"⟩, prog_3_method_8_code, 3, none, { frames := 0, cells := 0, slots := 0, locals := 0 })
def mi_N_keepFlow : er_I := (⟨"EscapeRouter$FlowNetwork", "keepFlow", "()V"⟩, prog_3_method_9_code, 1, none, { frames := 1, cells := 0, slots := 0, locals := 26 })
def mi_N_giveFlowBack : er_I := (⟨"EscapeRouter$FlowNetwork", "giveFlowBack", "()V"⟩, prog_3_method_10_code, 1, none, { frames := 1, cells := 0, slots := 0, locals := 26 })
def mi_N_pushAll : er_I := (⟨"EscapeRouter$FlowNetwork", "pushAll", "()I"⟩, prog_3_method_11_code, 4, some .int, { frames := 2, cells := 0, slots := 0, locals := 49 })
def mi_N_push : er_I := (⟨"EscapeRouter$FlowNetwork", "push", "()I"⟩, prog_3_method_12_code, 5, some .int, { frames := 1, cells := 0, slots := 0, locals := 25 })
def mi_N_findWay : er_I := (⟨"EscapeRouter$FlowNetwork", "findWay", "()Z"⟩, prog_3_method_13_code, 6, some .boolean, { frames := 0, cells := 0, slots := 0, locals := 0 })
def mi_N_isNear : er_I := (⟨"EscapeRouter$FlowNetwork", "isNear", "(I)Z"⟩, prog_3_method_14_code, 2, some .boolean, { frames := 0, cells := 0, slots := 0, locals := 0 })
def mi_N_sideOf : er_I := (⟨"EscapeRouter$FlowNetwork", "sideOf", "(I)I"⟩, prog_3_method_15_code, 2, some .int, { frames := 1, cells := 0, slots := 0, locals := 21 })
def mi_N_countCutChannels : er_I := (⟨"EscapeRouter$FlowNetwork", "countCutChannels", "()I"⟩, prog_3_method_16_code, 3, some .int, { frames := 2, cells := 0, slots := 0, locals := 42 })
def mi_N_leavesNearSide : er_I := (⟨"EscapeRouter$FlowNetwork", "leavesNearSide", "(I)Z"⟩, prog_3_method_17_code, 2, some .boolean, { frames := 1, cells := 0, slots := 0, locals := 21 })
def mi_G_init : er_I := (⟨"EscapeRouter$GridText", "<init>", "()V"⟩, prog_4_method_1_code, 1, none, { frames := 1, cells := 2, slots := 96, locals := 20 })
def mi_G_add : er_I := (⟨"EscapeRouter$GridText", "add", "(I)Z"⟩, prog_4_method_2_code, 2, some .boolean, { frames := 0, cells := 0, slots := 0, locals := 0 })
def mi_G_read : er_I := (⟨"EscapeRouter$GridText", "read", "()I"⟩, prog_4_method_3_code, 4, some .int, { frames := 2, cells := 0, slots := 0, locals := 42 })
def mi_G_isAllowed : er_I := (⟨"EscapeRouter$GridText", "isAllowed", "(II)Z"⟩, prog_4_method_4_code, 3, some .boolean, { frames := 1, cells := 0, slots := 0, locals := 20 })
def mi_G_kindOf : er_I := (⟨"EscapeRouter$GridText", "kindOf", "(I)I"⟩, prog_4_method_5_code, 1, some .int, { frames := 0, cells := 0, slots := 0, locals := 0 })
def mi_H_init : er_I := (⟨"EscapeRouter$History", "<init>", "()V"⟩, prog_5_method_1_code, 2, none, { frames := 2, cells := 33, slots := 928, locals := 43 })
def mi_H_keep : er_I := (⟨"EscapeRouter$History", "keep", "(LEscapeRouter$Board;)V"⟩, prog_5_method_2_code, 2, none, { frames := 2, cells := 0, slots := 0, locals := 47 })
def mi_H_dropOldest : er_I := (⟨"EscapeRouter$History", "dropOldest", "()V"⟩, prog_5_method_3_code, 3, none, { frames := 0, cells := 0, slots := 0, locals := 0 })
def mi_H_giveBack : er_I := (⟨"EscapeRouter$History", "giveBack", "(LEscapeRouter$Board;)V"⟩, prog_5_method_4_code, 2, none, { frames := 2, cells := 0, slots := 0, locals := 47 })
def mi_Y_init : er_I := (⟨"EscapeRouter$Layering", "<init>", "(I)V"⟩, prog_6_method_1_code, 2, none, { frames := 1, cells := 4, slots := 144, locals := 20 })
def mi_Y_countOn : er_I := (⟨"EscapeRouter$Layering", "countOn", "(I)I"⟩, prog_6_method_2_code, 4, some .int, { frames := 0, cells := 0, slots := 0, locals := 0 })
def mi_Y_refresh : er_I := (⟨"EscapeRouter$Layering", "refresh", "(LEscapeRouter$Board;LEscapeRouter$FlowNetwork;)LEscapeRouter$Layering;"⟩, prog_6_method_3_code, 6, some (.object "EscapeRouter$Layering"), { frames := 5, cells := 0, slots := 0, locals := 127 })
def mi_Y_fill : er_I := (⟨"EscapeRouter$Layering", "fill", "(ILEscapeRouter$Board;LEscapeRouter$FlowNetwork;)I"⟩, prog_6_method_4_code, 8, some .int, { frames := 4, cells := 0, slots := 0, locals := 100 })
def mi_Y_consider : er_I := (⟨"EscapeRouter$Layering", "consider", "(IIILEscapeRouter$FlowNetwork;)I"⟩, prog_6_method_5_code, 8, some .int, { frames := 2, cells := 0, slots := 0, locals := 49 })
def mi_Y_putInOrder : er_I := (⟨"EscapeRouter$Layering", "putInOrder", "(LEscapeRouter$Board;)V"⟩, prog_6_method_6_code, 3, none, { frames := 3, cells := 0, slots := 0, locals := 69 })
def mi_Y_addByRows : er_I := (⟨"EscapeRouter$Layering", "addByRows", "(LEscapeRouter$Board;)V"⟩, prog_6_method_7_code, 4, none, { frames := 2, cells := 0, slots := 0, locals := 43 })
def mi_Y_addByColumns : er_I := (⟨"EscapeRouter$Layering", "addByColumns", "(LEscapeRouter$Board;)V"⟩, prog_6_method_8_code, 4, none, { frames := 2, cells := 0, slots := 0, locals := 43 })
def mi_Y_addRing : er_I := (⟨"EscapeRouter$Layering", "addRing", "(LEscapeRouter$Board;I)V"⟩, prog_6_method_9_code, 5, none, { frames := 2, cells := 0, slots := 0, locals := 45 })
def mi_Y_ringOf : er_I := (⟨"EscapeRouter$Layering", "ringOf", "(LEscapeRouter$Board;II)I"⟩, prog_6_method_10_code, 5, some .int, { frames := 1, cells := 0, slots := 0, locals := 21 })
def mi_Y_addPlace : er_I := (⟨"EscapeRouter$Layering", "addPlace", "(II)V"⟩, prog_6_method_11_code, 3, none, { frames := 1, cells := 0, slots := 0, locals := 21 })
end
section
/-! A calculus over the kit: a method's world is a picture (sh, m): sh says of each cell its kind, its length and its references, m holds the numbers, as whole numbers (Int). er_WP: from this instruction the frame comes to its end. er_Spec: a method's contract. -/
abbrev er_V : Type := Int ⊕ Nat
abbrev er_E : Type := Nat × Nat × List (Option Nat)
abbrev er_Sh : Type := List er_E
abbrev er_M : Type := Nat → Int → Int
abbrev er_K : Type := Launch × Nat × va_G × (Nat → ClassId) × Nat × Nat × (Nat → Int32)
abbrev er_in (x : Int) : Prop := -2147483648 ≤ x ∧ x < 2147483648
def er_ad (K : er_K) (r : Nat) : Nat := if r = 0 then K.2.2.2.2.1 else K.2.1 + r
def er_ro (K : er_K) (r : Nat) : Option Nat := if r = 0 then none else some (K.2.1 + r)
def er_cv (K : er_K) : er_V → Value
  | .inl x => .int (Int32.ofInt x)
  | .inr r => .ref (er_ad K r)
def er_fv (K : er_K) (m : er_M) (c k : Nat) : Option Nat → Value
  | none => .int (Int32.ofInt (m c k))
  | some r => va_rf (er_ro K r)
def er_fs (K : er_K) (m : er_M) (c n : Nat) (rs : List (Option Nat)) : List Value := (List.range n).map (fun k => er_fv K m c k (rs.getD k none))
def er_cell (K : er_K) (m : er_M) (c : Nat) (e : er_E) : va_E :=
  if e.1 < 3 then .inl (K.2.2.2.1 e.1, e.2.1, .inl (fun j => Int32.ofInt (m c j)))
  else if e.1 < 5 then .inl (K.2.2.2.1 e.1, e.2.1, .inr (.inr (.inr (.inr (fun j => er_ro K (m c j).toNat)))))
  else .inr (e.1 - 5, er_fs K m c e.2.1 e.2.2)
def er_ws (K : er_K) (sh : er_Sh) (m : er_M) : va_W := (List.range sh.length).map (fun i => (K.2.1 + (i + 1), er_cell K m (i + 1) (sh.getD i (99, 0, []))))
def er_at (sh : er_Sh) (c : Nat) : Option er_E := match c with
  | 0 => none
  | k + 1 => sh[k]?
def er_ty : Nat → FieldType := fun k => match k with
  | 0 => .int
  | 1 => .boolean
  | 2 => .byte
  | 3 => .object "EscapeRouter$Board"
  | _ => .object "EscapeRouter$Layering"
def er_tys (K : er_K) : List (ClassId × FieldType) := [(K.2.2.2.1 0, .int), (K.2.2.2.1 1, .boolean), (K.2.2.2.1 2, .byte), (K.2.2.2.1 3, .object "EscapeRouter$Board"), (K.2.2.2.1 4, .object "EscapeRouter$Layering")]
def er_A (K : er_K) : Nat → Prop := fun q => K.2.1 < q
/-- what else the state says: the nest mates' links, the rows of objects -/
def er_N (U : State) : Prop := (∀ q ∈ er_nw, va_Nw (.methodLinkNest q.1 q.2.1 q.2.2.1 q.2.2.2) U) ∧ va_AO "EscapeRouter$Board" U ∧ va_AO "EscapeRouter$Layering" U
theorem er_N.warm {s U : State} (hW : s.WarmedH U.vm) (h : er_N s) : er_N U := ⟨fun q hq => va_Nw.warmM hW (h.1 q hq), h.2.1.moved hW.alike, h.2.2.moved hW.alike⟩
theorem er_N.same {u U : State} (hv : u.vm = U.vm) (h : er_N u) : er_N U := ⟨fun q hq => va_Nw.same rfl hv (h.1 q hq), h.2.1.moved (hv ▸ Vm.Alike.refl _), h.2.2.moved (hv ▸ Vm.Alike.refl _)⟩
def er_X (K : er_K) (U : State) : Prop := va_X K.2.2.2.2.1 K.2.2.2.2.2.1 K.2.2.2.2.2.2 U U.heap ∧ K.2.2.2.2.1 ≤ K.2.1 ∧ er_N U
def er_W (K : er_K) (sh : er_Sh) (m : er_M) (U : State) (H : Heap) : Prop := va_P K.2.2.1 er_cl (er_ws K sh m) H ∧ va_K K.2.2.1 er_cl (er_tys K) U
def er_wd (i : er_I) : List Cond := Cond.code i.1 i.2.1 i.2.2.1 i.2.2.2.1 :: er_tb
def er_Cx (K : er_K) (i : er_I) (p : Program) (mm : MethodId) (meth : Method) (c : Code) (s : State) (args : Array Value) : Prop :=
  p.tables.exec = Jvm.exec ∧ c.code = i.2.1 ∧ c.maxLocals = i.2.2.1 ∧ meth.sig.returnType = i.2.2.2.1 ∧ meth.locks = false ∧ meth.name = i.1.name ∧ s.vm.findClass i.1.cls = some mm.cls ∧ (∀ w ∈ er_tb, w.before args s = true) ∧ K.2.1 < s.heap.size ∧ er_X K s
def er_lv (K : er_K) : Nat → List (Option er_V) → List (Nat × Value)
  | _, [] => []
  | i, none :: t => er_lv K (i + 1) t
  | i, some v :: t => (i, er_cv K v) :: er_lv K (i + 1) t
/-- from this instruction on, the frame comes to the target Z -/
def er_WP (K : er_K) (i : er_I) (uc us : Nat) (sh : er_Sh) (m : er_M) (pc : Nat) (ls : List (Option er_V)) (st : List er_V) (Z : List Frame → Array Value → State → State → Prop) : Prop :=
  ∀ (p : Program) (e : Env) (s : State) (mm : MethodId) (args : Array Value) (below : List Frame) (meth : Method) (c : Code) (H : Heap) (locs : List Loc) (la : Array Slot),
    er_Cx K i p mm meth c s args → K.2.1 + 1 + sh.length = s.heap.size + uc → er_W K sh m s H → va_S (er_A K) s.heap H locs → lv_has la i.2.2.1 (er_lv K 0 ls) →
    W p K.1 e i.2.2.2.2 s mm args below meth c H locs uc us (Z below args s) (F0 mm pc la (st.map (er_cv K)))
abbrev er_Post : Type := Option er_V → er_Sh → er_M → Prop
def er_Qc (K : er_K) (i : er_I) (Q : er_Post) : Array Value → State → Outcome → State → Prop := fun _ st oc t =>
  (∃ (v : Option er_V) (sh : er_Sh) (m : er_M), oc = .returned (v.map (er_cv K)) ∧ Q v sh m ∧ er_W K sh m t t.heap ∧ K.2.1 + 1 + sh.length = st.heap.size + i.2.2.2.2.cells) ∧ va_F (er_A K) st t
/-- a method's contract: called with these arguments in this picture it returns, and Q holds of its answer and of the picture behind it -/
def er_Spec (K : er_K) (i : er_I) (as : List er_V) (sh : er_Sh) (m : er_M) (Q : er_Post) : Prop :=
  Met K.1 i.1 (er_wd i) i.2.2.2.2 (va_Pc (as.map (er_cv K)) (fun U => er_W K sh m U U.heap ∧ er_X K U ∧ U.heap.size = K.2.1 + 1 + sh.length)) (er_Qc K i Q) i.2.2.2.2.cells i.2.2.2.2.slots (er_A K)
def er_Z (K : er_K) (i : er_I) (Q : er_Post) : List Frame → Array Value → State → State → Prop := fun below args s => MQ below (er_Qc K i Q) args s i.2.2.2.2.cells i.2.2.2.2.slots (er_A K)
/-- a number is written -/
def er_st (m : er_M) (c : Nat) (k v : Int) : er_M := fun c' k' => if c' = c ∧ k' = k then v else m c' k'
/-- a new cell of zeros -/
def er_clr (m : er_M) (c : Nat) : er_M := fun c' k' => if c' = c then 0 else m c' k'
/-- part of a row is copied to another -/
def er_cpy (m : er_M) (a b : Nat) (n : Int) : er_M := fun c' k' => if c' = b ∧ 0 ≤ k' ∧ k' < n then m a k' else m c' k'
/-- a reference is written -/
def er_sr (sh : er_Sh) (c k r : Nat) : er_Sh := match c with
  | 0 => sh
  | j + 1 => sh.set j ((sh.getD j (99, 0, [])).1, (sh.getD j (99, 0, [])).2.1, (sh.getD j (99, 0, [])).2.2.set k (some r))
theorem er_at_ne {sh : er_Sh} {c : Nat} {e : er_E} (h : er_at sh c = some e) : ∃ k, c = k + 1 ∧ sh[k]? = some e ∧ k < sh.length := by
  cases c with
  | zero => cases h
  | succ k => exact ⟨k, rfl, h, (List.getElem?_eq_some_iff.mp h).1⟩
theorem er_ad_at {K : er_K} {sh : er_Sh} {c : Nat} {e : er_E} (h : er_at sh c = some e) : er_ad K c = K.2.1 + c := by
  obtain ⟨k, rfl, -⟩ := er_at_ne h
  rfl
theorem er_ws_at {K : er_K} {sh : er_Sh} {m : er_M} {c : Nat} {e : er_E} (h : er_at sh c = some e) : (er_ws K sh m)[c - 1]? = some (K.2.1 + c, er_cell K m c e) := by
  obtain ⟨k, rfl, h1, h2⟩ := er_at_ne h
  simp only [er_ws, Nat.add_sub_cancel, List.getElem?_map, List.getElem?_range h2, Option.map_some, List.getD_eq_getElem?_getD, h1, Option.getD_some]
theorem er_ws_len (K : er_K) (sh : er_Sh) (m : er_M) : (er_ws K sh m).length = sh.length := by simp [er_ws]
theorem er_ws_D (K : er_K) (sh : er_Sh) (m : er_M) : va_D (er_A K) (er_ws K sh m) := by
  refine ⟨fun i j p q hi hj h => ?_, fun k q hk => ?_⟩
  · obtain ⟨i', hi1, hi2⟩ : ∃ i', i' = i ∧ p.1 = K.2.1 + (i' + 1) := by
      refine ⟨i, rfl, ?_⟩
      simp only [er_ws, List.getElem?_map, Option.map_eq_some_iff] at hi
      obtain ⟨a, h1, h2⟩ := hi
      have h3 := (List.getElem?_eq_some_iff.mp h1)
      obtain ⟨h4, h5⟩ := h3
      simp at h5
      rw [← h2, ← h5]
    obtain ⟨j', hj1, hj2⟩ : ∃ j', j' = j ∧ q.1 = K.2.1 + (j' + 1) := by
      refine ⟨j, rfl, ?_⟩
      simp only [er_ws, List.getElem?_map, Option.map_eq_some_iff] at hj
      obtain ⟨a, h1, h2⟩ := hj
      have h3 := (List.getElem?_eq_some_iff.mp h1)
      obtain ⟨h4, h5⟩ := h3
      simp at h5
      rw [← h2, ← h5]
    omega
  · simp only [er_ws, List.getElem?_map, Option.map_eq_some_iff] at hk
    obtain ⟨a, h1, h2⟩ := hk
    show K.2.1 < q.1
    rw [← h2]
    show K.2.1 < K.2.1 + (a + 1)
    omega
theorem er_ws_up {K : er_K} {sh : er_Sh} {m m' : er_M} {c : Nat} {e : er_E} {x : va_E} (h : er_at sh c = some e) (hx : x = er_cell K m' c e) (ho : ∀ c', c' ≠ c → m' c' = m c') : (er_ws K sh m).set (c - 1) (K.2.1 + c, x) = er_ws K sh m' := by
  obtain ⟨k, rfl, h1, h2⟩ := er_at_ne h
  apply List.ext_getElem?
  intro j
  rw [Nat.add_sub_cancel]
  by_cases hj : j = k
  · subst hj
    rw [List.getElem?_set_self (by rw [er_ws_len]; exact h2)]
    have := er_ws_at (K := K) (m := m') h
    rw [Nat.add_sub_cancel] at this
    rw [this, hx]
  · rw [List.getElem?_set_ne (Ne.symm hj)]
    by_cases hl : j < sh.length
    · simp only [er_ws, List.getElem?_map, List.getElem?_range hl, Option.map_some]
      have : er_cell K m (j + 1) (sh.getD j (99, 0, [])) = er_cell K m' (j + 1) (sh.getD j (99, 0, [])) := by
        have h3 := ho (j + 1) (by omega)
        unfold er_cell er_fs er_fv
        simp only [h3]
      rw [this]
    · have e1 : (er_ws K sh m)[j]? = none := List.getElem?_eq_none (by rw [er_ws_len]; omega)
      have e2 : (er_ws K sh m')[j]? = none := List.getElem?_eq_none (by rw [er_ws_len]; omega)
      rw [e1, e2]
theorem er_lv_get {K : er_K} {v : er_V} : ∀ (ls : List (Option er_V)) (k n : Nat), ls[k]? = some (some v) → (n + k, er_cv K v) ∈ er_lv K n ls := by
  intro ls
  induction ls with
  | nil => intro k n h; simp at h
  | cons a t ih =>
    intro k n h
    cases k with
    | zero =>
      simp at h
      subst h
      exact List.mem_cons_self
    | succ k =>
      have h2 : t[k]? = some (some v) := by simpa using h
      have := ih k (n + 1) h2
      rw [show n + 1 + k = n + (k + 1) by omega] at this
      cases a with
      | none => exact this
      | some w => exact List.mem_cons_of_mem _ this
theorem er_lv_mem {K : er_K} {q : Nat × Value} : ∀ (ls : List (Option er_V)) (n : Nat), q ∈ er_lv K n ls → ∃ k v, ls[k]? = some (some v) ∧ q = (n + k, er_cv K v) := by
  intro ls
  induction ls with
  | nil => intro n h; simp [er_lv] at h
  | cons a t ih =>
    intro n h
    cases a with
    | none =>
      obtain ⟨k, v, h1, h2⟩ := ih (n + 1) h
      exact ⟨k + 1, v, by simpa using h1, by rw [h2, show n + 1 + k = n + (k + 1) by omega]⟩
    | some w =>
      rcases List.mem_cons.mp h with h | h
      · exact ⟨0, w, rfl, h⟩
      · obtain ⟨k, v, h1, h2⟩ := ih (n + 1) h
        exact ⟨k + 1, v, by simpa using h1, by rw [h2, show n + 1 + k = n + (k + 1) by omega]⟩
theorem er_cat (K : er_K) (v : er_V) : (er_cv K v).category = 1 := by cases v <;> rfl
theorem er_catsum (K : er_K) (st : List er_V) : ((st.map (er_cv K)).map fun v => v.category).sum = st.length := by
  induction st with
  | nil => rfl
  | cons a t ih => simp only [List.map_cons, List.sum_cons, ih, er_cat, List.length_cons]; omega
theorem er_has_get {K : er_K} {la : Array Slot} {n : Nat} {ls : List (Option er_V)} (h : lv_has la n (er_lv K 0 ls)) {k : Nat} {v : er_V} (hk : ls[k]? = some (some v)) : la[k]? = some (.val (er_cv K v)) := by
  have := h.2.2 _ (er_lv_get (K := K) ls k 0 hk)
  rw [Nat.zero_add] at this
  exact this
theorem er_has_sub {K : er_K} {la : Array Slot} {n : Nat} {ls ls' : List (Option er_V)} (h : lv_has la n (er_lv K 0 ls)) (hs : ∀ (k : Nat) (v : er_V), ls'[k]? = some (some v) → ls[k]? = some (some v)) : lv_has la n (er_lv K 0 ls') := by
  refine ⟨h.1, h.2.1, fun q hq => ?_⟩
  obtain ⟨k, v, h1, rfl⟩ := er_lv_mem ls' 0 hq
  show la[0 + k]? = some (.val (er_cv K v))
  rw [Nat.zero_add]
  exact er_has_get h (hs k v h1)
theorem er_has_set {K : er_K} {la : Array Slot} {n : Nat} {ls : List (Option er_V)} (h : lv_has la n (er_lv K 0 ls)) {k : Nat} (hk : k < n) (v : er_V) : ∃ la', storeLocals la k (er_cv K v) = some la' ∧ lv_has la' n (er_lv K 0 (ls.set k (some v))) := by
  obtain ⟨la', h1, h2⟩ := lv_store1 h hk (er_cat K v)
  refine ⟨la', h1, h2.1, h2.2.1, fun q hq => ?_⟩
  obtain ⟨j, w, h3, rfl⟩ := er_lv_mem _ 0 hq
  apply h2.2.2
  by_cases hj : j = k
  · subst hj
    by_cases hl : j < ls.length
    · rw [List.getElem?_set_self hl] at h3
      have : w = v := by simpa using h3.symm
      rw [this, Nat.zero_add]
      exact List.mem_cons_self
    · rw [List.getElem?_eq_none (by simp; omega)] at h3
      cases h3
  · rw [List.getElem?_set_ne (Ne.symm hj)] at h3
    apply List.mem_cons_of_mem
    apply List.mem_filter.mpr
    refine ⟨er_lv_get ls j 0 h3, ?_⟩
    simp [er_cat, hj]
/-- locals forgotten: the new list's are among the old's -/
def er_wk : List (Option er_V) → List (Option er_V) → Prop
  | [], _ => True
  | none :: a, _ :: b => er_wk a b
  | some v :: a, w :: b => w = some v ∧ er_wk a b
  | none :: a, [] => er_wk a []
  | some _ :: _, [] => False
theorem er_wk_spec : ∀ (a b : List (Option er_V)), er_wk a b → ∀ (k : Nat) (v : er_V), a[k]? = some (some v) → b[k]? = some (some v) := by
  intro a
  induction a with
  | nil => intro b _ k v h; simp at h
  | cons x t ih =>
    intro b h k v hk
    cases b with
    | nil =>
      cases x with
      | none =>
        cases k with
        | zero => simp at hk
        | succ k => have := ih [] h k v (by simpa using hk); simp at this
      | some w => exact absurd h id
    | cons y b =>
      cases x with
      | none =>
        cases k with
        | zero => simp at hk
        | succ k => simpa using ih b h k v (by simpa using hk)
      | some w =>
        cases k with
        | zero =>
          have h1 := h.1
          simp at hk
          subst hk
          simp [h1]
        | succ k => simpa using ih b h.2 k v (by simpa using hk)
theorem er_ofInt_inj {x y : Int} (hx : er_in x) (hy : er_in y) : Int32.ofInt x = Int32.ofInt y ↔ x = y := by
  rw [← Int32.toInt_inj, Int32.toInt_ofInt_of_le (by have := hx.1; omega) (by have := hx.2; omega), Int32.toInt_ofInt_of_le (by have := hy.1; omega) (by have := hy.2; omega)]
theorem er_toInt {x : Int} (hx : er_in x) : (Int32.ofInt x).toInt = x := Int32.toInt_ofInt_of_le (by have := hx.1; omega) (by have := hx.2; omega)
theorem er_ofInt_le {x y : Int} (hx : er_in x) (hy : er_in y) : Int32.ofInt x ≤ Int32.ofInt y ↔ x ≤ y := by
  rw [Int32.le_iff_toInt_le, er_toInt hx, er_toInt hy]
theorem er_ofInt_lt {x y : Int} (hx : er_in x) (hy : er_in y) : Int32.ofInt x < Int32.ofInt y ↔ x < y := by
  rw [Int32.lt_iff_toInt_lt, er_toInt hx, er_toInt hy]
theorem er_zero : Int32.ofInt 0 = 0 := rfl
theorem er_ix {x : Int} {n : Nat} (h0 : 0 ≤ x) (h1 : x < n) (hn : n ≤ 2147483648) : vp_in (Int32.ofInt x) n ∧ (Int32.ofInt x).toNatClampNeg = x.toNat := by
  have hi : er_in x := ⟨by omega, by omega⟩
  have e : (Int32.ofInt x).toNatClampNeg = x.toNat := by rw [← Int32.toNat_toInt, er_toInt hi]
  refine ⟨fun h => ?_, e⟩
  rcases h with h | h
  · rw [← er_zero, er_ofInt_lt hi ⟨by omega, by omega⟩] at h
    omega
  · rw [e] at h
    omega
end
section
/-! the rows: an instruction each -/
section ER
variable {K : er_K} {i : er_I} {uc us : Nat} {sh : er_Sh} {m : er_M} {pc : Nat} {ls : List (Option er_V)} {st : List er_V} {Z : List Frame → Array Value → State → State → Prop}
theorem er_forget (ls2 : List (Option er_V)) (h : er_wk ls2 ls) (k : er_WP K i uc us sh m pc ls2 st Z) : er_WP K i uc us sh m pc ls st Z := by
  intro p e s mm args below meth c H locs la C hz hW hS hl
  exact k p e s mm args below meth c H locs la C hz hW hS (er_has_sub hl (er_wk_spec _ _ h))
theorem er_iconst {n : Int} (hd : decode i.2.1 pc = .ok (.iconst n, 1)) (k : er_WP K i uc us sh m (pc + 1) ls (.inl n :: st) Z) : er_WP K i uc us sh m pc ls (st) Z := by
  intro p e s mm args below meth c H locs la C hz hW hS hl
  exact lv_iconst C.1 C.2.1 hd rfl (k p e s mm args below meth c H locs la C hz hW hS hl)
theorem er_bipush {n : Int} (hv : (Int8.ofInt n).toInt32 = Int32.ofInt n) (hd : decode i.2.1 pc = .ok (.bipush n, 2)) (k : er_WP K i uc us sh m (pc + 2) ls (.inl n :: st) Z) : er_WP K i uc us sh m pc ls (st) Z := by
  intro p e s mm args below meth c H locs la C hz hW hS hl
  exact lv_bipush C.1 C.2.1 hd hv (k p e s mm args below meth c H locs la C hz hW hS hl)
theorem er_sipush {n : Int} (hv : (Int16.ofInt n).toInt32 = Int32.ofInt n) (hd : decode i.2.1 pc = .ok (.sipush n, 3)) (k : er_WP K i uc us sh m (pc + 3) ls (.inl n :: st) Z) : er_WP K i uc us sh m pc ls (st) Z := by
  intro p e s mm args below meth c H locs la C hz hW hS hl
  exact lv_sipush C.1 C.2.1 hd hv (k p e s mm args below meth c H locs la C hz hW hS hl)
theorem er_ldc {n : Int} {idx : Nat} (hc : Cond.constant i.1.cls idx (Int32.ofInt n) ∈ er_tb) (hd : decode i.2.1 pc = .ok (.ldc idx, 2)) (k : er_WP K i uc us sh m (pc + 2) ls (.inl n :: st) Z) : er_WP K i uc us sh m pc ls st Z := by
  intro p e s mm args below meth c H locs la C hz hW hS hl
  exact lv_ldc C.1 C.2.1 C.2.2.2.2.2.2.1 (C.2.2.2.2.2.2.2.1 _ hc) hd (k p e s mm args below meth c H locs la C hz hW hS hl)
theorem er_iload_n {k : Fin 4} {x : Int} {n : Nat} (hn : (k : Nat) = n) (hl : ls[n]? = some (some (.inl x))) (hd : decode i.2.1 pc = .ok (.iload_n k, 1)) (kk : er_WP K i uc us sh m (pc + 1) ls (.inl x :: st) Z) : er_WP K i uc us sh m pc ls st Z := by
  have hl0 := hl
  intro p e s mm args below meth c H locs la C hz hW hS hl
  exact lv_iload_n C.1 C.2.1 hd hn (er_has_get hl hl0) (kk p e s mm args below meth c H locs la C hz hW hS hl)
theorem er_iload {x : Int} {n : Nat} (hl : ls[n]? = some (some (.inl x))) (hd : decode i.2.1 pc = .ok (.iload n, 2)) (kk : er_WP K i uc us sh m (pc + 2) ls (.inl x :: st) Z) : er_WP K i uc us sh m pc ls st Z := by
  have hl0 := hl
  intro p e s mm args below meth c H locs la C hz hW hS hl
  exact lv_iload C.1 C.2.1 hd (er_has_get hl hl0) (kk p e s mm args below meth c H locs la C hz hW hS hl)
theorem er_aload_n {k : Fin 4} {x : Nat} {n : Nat} (hn : (k : Nat) = n) (hl : ls[n]? = some (some (.inr x))) (hd : decode i.2.1 pc = .ok (.aload_n k, 1)) (kk : er_WP K i uc us sh m (pc + 1) ls (.inr x :: st) Z) : er_WP K i uc us sh m pc ls st Z := by
  have hl0 := hl
  intro p e s mm args below meth c H locs la C hz hW hS hl
  exact lv_aload_n C.1 C.2.1 hd hn (er_has_get hl hl0) (kk p e s mm args below meth c H locs la C hz hW hS hl)
theorem er_aload {x : Nat} {n : Nat} (hl : ls[n]? = some (some (.inr x))) (hd : decode i.2.1 pc = .ok (.aload n, 2)) (kk : er_WP K i uc us sh m (pc + 2) ls (.inr x :: st) Z) : er_WP K i uc us sh m pc ls st Z := by
  have hl0 := hl
  intro p e s mm args below meth c H locs la C hz hW hS hl
  exact lv_aload C.1 C.2.1 hd (er_has_get hl hl0) (kk p e s mm args below meth c H locs la C hz hW hS hl)
/-- the frame goes on with other locals -/
theorem er_locals {n : Nat} {v : er_V} {x : Nat} (hn : n < i.2.2.1) (hstep : ∀ (p : Program) (e : Env) (s : State) (mm : MethodId) (args : Array Value) (below : List Frame) (meth : Method) (c : Code) (H : Heap) (locs : List Loc) (la la' : Array Slot) (Q : State → Prop), er_Cx K i p mm meth c s args → storeLocals la n (er_cv K v) = some la' → W p K.1 e i.2.2.2.2 s mm args below meth c H locs uc us Q (F0 mm (pc + x) la' (st.map (er_cv K))) → W p K.1 e i.2.2.2.2 s mm args below meth c H locs uc us Q (F0 mm pc la ((v :: st).map (er_cv K)))) (kk : er_WP K i uc us sh m (pc + x) (ls.set n (some v)) st Z) : er_WP K i uc us sh m pc ls (v :: st) Z := by
  intro p e s mm args below meth c H locs la C hz hW hS hl
  obtain ⟨la', h1, h2⟩ := er_has_set hl hn v
  exact hstep p e s mm args below meth c H locs la la' _ C h1 (kk p e s mm args below meth c H locs la' C hz hW hS h2)
theorem er_istore_n {k : Fin 4} {n : Nat} (hkn : (k : Nat) = n) {x : Int} (hn : n < i.2.2.1) (hd : decode i.2.1 pc = .ok (.istore_n k, 1)) (kk : er_WP K i uc us sh m (pc + 1) (ls.set n (some (.inl x))) st Z) : er_WP K i uc us sh m pc ls (.inl x :: st) Z := by
  refine er_locals (v := .inl x) hn (fun p e s mm args below meth c H locs la la' Q C h hk => ?_) kk
  subst hkn
  have hx := C.1
  have hb := C.2.1
  intro T hT X
  obtain ⟨t, a, b⟩ := hk T hT X
  refine ⟨t, ?_, b⟩
  jvm_step X.here [X.here.top, ↓top_set X.here.top, hx, hb, hd, h, er_cv]
  exact ⟨_, h, a⟩
theorem er_istore {n : Nat} {x : Int} (hn : n < i.2.2.1) (hd : decode i.2.1 pc = .ok (.istore n, 2)) (kk : er_WP K i uc us sh m (pc + 2) (ls.set n (some (.inl x))) st Z) : er_WP K i uc us sh m pc ls (.inl x :: st) Z := by
  refine er_locals (v := .inl x) hn (fun p e s mm args below meth c H locs la la' Q C h hk => ?_) kk
  have hx := C.1
  have hb := C.2.1
  intro T hT X
  obtain ⟨t, a, b⟩ := hk T hT X
  refine ⟨t, ?_, b⟩
  jvm_step X.here [X.here.top, ↓top_set X.here.top, hx, hb, hd, h, er_cv]
  exact ⟨_, h, a⟩
theorem er_astore_n {k : Fin 4} {n : Nat} (hkn : (k : Nat) = n) {x : Nat} (hn : n < i.2.2.1) (hd : decode i.2.1 pc = .ok (.astore_n k, 1)) (kk : er_WP K i uc us sh m (pc + 1) (ls.set n (some (.inr x))) st Z) : er_WP K i uc us sh m pc ls (.inr x :: st) Z := by
  refine er_locals (v := .inr x) hn (fun p e s mm args below meth c H locs la la' Q C h hk => ?_) kk
  subst hkn
  have hx := C.1
  have hb := C.2.1
  intro T hT X
  obtain ⟨t, a, b⟩ := hk T hT X
  refine ⟨t, ?_, b⟩
  jvm_step X.here [X.here.top, ↓top_set X.here.top, hx, hb, hd, h, er_cv, Value.isRef]
  exact ⟨_, h, a⟩
theorem er_astore {n : Nat} {x : Nat} (hn : n < i.2.2.1) (hd : decode i.2.1 pc = .ok (.astore n, 2)) (kk : er_WP K i uc us sh m (pc + 2) (ls.set n (some (.inr x))) st Z) : er_WP K i uc us sh m pc ls (.inr x :: st) Z := by
  refine er_locals (v := .inr x) hn (fun p e s mm args below meth c H locs la la' Q C h hk => ?_) kk
  have hx := C.1
  have hb := C.2.1
  intro T hT X
  obtain ⟨t, a, b⟩ := hk T hT X
  refine ⟨t, ?_, b⟩
  jvm_step X.here [X.here.top, ↓top_set X.here.top, hx, hb, hd, h, er_cv, Value.isRef]
  exact ⟨_, h, a⟩
theorem er_iinc {n : Nat} {d x : Int} (hl : ls[n]? = some (some (.inl x))) (hn : n < i.2.2.1) (hd : decode i.2.1 pc = .ok (.iinc n d, 3)) (kk : er_WP K i uc us sh m (pc + 3) (ls.set n (some (.inl (x + d)))) st Z) : er_WP K i uc us sh m pc ls st Z := by
  have hl0 := hl
  intro p e s mm args below meth c H locs la C hz hW hS hl
  obtain ⟨la', h1, h2⟩ := er_has_set hl hn (.inl (x + d))
  have hg := er_has_get hl hl0
  have hx := C.1
  have hb := C.2.1
  have hk := kk p e s mm args below meth c H locs la' C hz hW hS h2
  intro T hT X
  obtain ⟨t, a, b⟩ := hk T hT X
  refine ⟨t, ?_, b⟩
  have hg : la[n]? = some (.val (.int (Int32.ofInt x))) := hg
  have h1 : storeLocals la n (.int (Int32.ofInt x + Int32.ofInt d)) = some la' := by rw [← Int32.ofInt_add]; exact h1
  jvm_step X.here [X.here.top, ↓top_set X.here.top, hx, hb, hd, hg, h1]
  exact a
theorem er_iadd {x y : Int}  (hd : decode i.2.1 pc = .ok (.iadd, 1)) (k : er_WP K i uc us sh m (pc + 1) ls (.inl (x + y) :: st) Z) : er_WP K i uc us sh m pc ls (.inl y :: .inl x :: st) Z := by
  intro p e s mm args below meth c H locs la C hz hW hS hl
  have h := k p e s mm args below meth c H locs la C hz hW hS hl
  have e : er_cv K (.inl (x + y)) = .int (Int32.ofInt x + Int32.ofInt y) := congrArg Value.int (Int32.ofInt_add x y)
  rw [List.map_cons, e] at h
  exact lv_iadd C.1 C.2.1 hd h
theorem er_isub {x y : Int}  (hd : decode i.2.1 pc = .ok (.isub, 1)) (k : er_WP K i uc us sh m (pc + 1) ls (.inl (x - y) :: st) Z) : er_WP K i uc us sh m pc ls (.inl y :: .inl x :: st) Z := by
  intro p e s mm args below meth c H locs la C hz hW hS hl
  have h := k p e s mm args below meth c H locs la C hz hW hS hl
  have e : er_cv K (.inl (x - y)) = .int (Int32.ofInt x - Int32.ofInt y) := congrArg Value.int (Int32.ofInt_sub x y)
  rw [List.map_cons, e] at h
  exact lv_isub C.1 C.2.1 hd h
theorem er_imul {x y : Int}  (hd : decode i.2.1 pc = .ok (.imul, 1)) (k : er_WP K i uc us sh m (pc + 1) ls (.inl (x * y) :: st) Z) : er_WP K i uc us sh m pc ls (.inl y :: .inl x :: st) Z := by
  intro p e s mm args below meth c H locs la C hz hW hS hl
  have h := k p e s mm args below meth c H locs la C hz hW hS hl
  have e : er_cv K (.inl (x * y)) = .int (Int32.ofInt x * Int32.ofInt y) := congrArg Value.int (Int32.ofInt_mul x y)
  rw [List.map_cons, e] at h
  exact lv_imul C.1 C.2.1 hd h
theorem er_div_eq {x y : Int} (hx : 0 ≤ x) (hx1 : x < 2147483648) (hy : 0 < y) (hy1 : y < 2147483648) : Int32.ofInt x / Int32.ofInt y = Int32.ofInt (x / y) := by
  have h1 : er_in x := ⟨by omega, hx1⟩
  have h2 : er_in y := ⟨by omega, hy1⟩
  have h3 : er_in (x / y) := ⟨by have := Int.ediv_nonneg hx (Int.le_of_lt hy); omega, by have := Int.ediv_le_self y hx; omega⟩
  rw [← Int32.toInt_inj, Int32.toInt_div_of_ne_right, er_toInt h1, er_toInt h2, er_toInt h3, Int.tdiv_eq_ediv_of_nonneg hx]
  intro h
  have : (Int32.ofInt y).toInt = (-1 : Int32).toInt := by rw [h]
  rw [er_toInt h2] at this
  have e : (-1 : Int32).toInt = -1 := by decide
  rw [e] at this
  omega
theorem er_ne0 {y : Int} (hy : 0 < y) (hy1 : y < 2147483648) : ¬ Int32.ofInt y = 0 := by
  rw [← er_zero, er_ofInt_inj ⟨by omega, hy1⟩ ⟨by omega, by omega⟩]
  omega
theorem er_idiv {x y : Int} (hx : 0 ≤ x) (hx1 : x < 2147483648) (hy : 0 < y) (hy1 : y < 2147483648) (hd : decode i.2.1 pc = .ok (.idiv, 1)) (k : er_WP K i uc us sh m (pc + 1) ls (.inl (x / y) :: st) Z) : er_WP K i uc us sh m pc ls (.inl y :: .inl x :: st) Z := by
  intro p e s mm args below meth c H locs la C hz hW hS hl
  have h := k p e s mm args below meth c H locs la C hz hW hS hl
  have e1 : er_cv K (.inl (x / y)) = .int (Int32.ofInt x / Int32.ofInt y) := congrArg Value.int (er_div_eq hx hx1 hy hy1).symm
  rw [List.map_cons, e1] at h
  exact lv_idiv C.1 C.2.1 hd (er_ne0 hy hy1) h
theorem er_irem {x y : Int} (hx : 0 ≤ x) (hx1 : x < 2147483648) (hy : 0 < y) (hy1 : y < 2147483648) (hd : decode i.2.1 pc = .ok (.irem, 1)) (k : er_WP K i uc us sh m (pc + 1) ls (.inl (x % y) :: st) Z) : er_WP K i uc us sh m pc ls (.inl y :: .inl x :: st) Z := by
  intro p e s mm args below meth c H locs la C hz hW hS hl
  have h := k p e s mm args below meth c H locs la C hz hW hS hl
  have e1 : er_cv K (.inl (x % y)) = .int (Int32.ofInt x - Int32.ofInt x / Int32.ofInt y * Int32.ofInt y) := by
    rw [er_div_eq hx hx1 hy hy1, ← Int32.ofInt_mul, ← Int32.ofInt_sub]
    have : x % y = x - x / y * y := by rw [Int.emod_def, Int.mul_comm]
    rw [← this]
    rfl
  rw [List.map_cons, e1] at h
  exact lv_irem C.1 C.2.1 hd (er_ne0 hy hy1) h
theorem er_xor_eq {x : Int} (hx : 0 ≤ x) (hx1 : x < 2147483647) : Int32.ofInt x ^^^ Int32.ofInt 1 = Int32.ofInt (x + 1 - 2 * (x % 2)) := by
  obtain ⟨n, rfl⟩ : ∃ n : Nat, x = n := ⟨x.toNat, by omega⟩
  have hn : n < 2147483647 := by omega
  have e1 : (n : Int) + 1 - 2 * (n % 2) = ((n ^^^ 1 : Nat) : Int) := by
    have h2 : (n ^^^ 1) % 2 = (n + 1) % 2 := by
      rw [show (2 : Nat) = 2 ^ 1 by rfl, Nat.xor_mod_two_pow]
      rcases (by omega : n % 2 = 0 ∨ n % 2 = 1) with h | h <;> simp [h, Nat.add_mod]
    have h3 : (n ^^^ 1) / 2 = n / 2 := by
      have := Nat.shiftRight_xor_distrib (a := n) (b := 1) (i := 1)
      simpa [Nat.shiftRight_succ] using this
    omega
  rw [e1, Int32.ofInt_eq_ofNat, show Int32.ofInt 1 = Int32.ofNat 1 from rfl, Int32.ofInt_eq_ofNat]
  apply Int32.toBitVec_inj.mp
  rw [Int32.toBitVec_xor]
  exact BitVec.ofNat_xor.symm
theorem er_ixor {x : Int} (hx : 0 ≤ x) (hx1 : x < 2147483647) (hd : decode i.2.1 pc = .ok (.ixor, 1)) (k : er_WP K i uc us sh m (pc + 1) ls (.inl (x + 1 - 2 * (x % 2)) :: st) Z) : er_WP K i uc us sh m pc ls (.inl 1 :: .inl x :: st) Z := by
  intro p e s mm args below meth c H locs la C hz hW hS hl
  have h := k p e s mm args below meth c H locs la C hz hW hS hl
  have e1 : er_cv K (.inl (x + 1 - 2 * (x % 2))) = .int (Int32.ofInt x ^^^ Int32.ofInt 1) := congrArg Value.int (er_xor_eq hx hx1).symm
  rw [List.map_cons, e1] at h
  exact lv_ixor C.1 C.2.1 hd h
theorem er_i2b_eq {x : Int} (hx : 0 ≤ x) (hx1 : x < 256) : (Int32.ofInt x).toInt8.toInt32 = Int32.ofInt ((x + 128) % 256 - 128) := by
  obtain ⟨n, rfl⟩ : ∃ n : Nat, x = n := ⟨x.toNat, by omega⟩
  have hn : n < 256 := by omega
  have h : ∀ n, n < 256 → (Int32.ofInt (n : Nat)).toInt8.toInt32 = Int32.ofInt (((n : Nat) + 128) % 256 - 128) := by decide +kernel
  exact h n hn
theorem er_i2b {x : Int} (hx : 0 ≤ x) (hx1 : x < 256) (hd : decode i.2.1 pc = .ok (.i2b, 1)) (k : er_WP K i uc us sh m (pc + 1) ls (.inl ((x + 128) % 256 - 128) :: st) Z) : er_WP K i uc us sh m pc ls (.inl x :: st) Z := by
  intro p e s mm args below meth c H locs la C hz hW hS hl
  exact lv_i2b C.1 C.2.1 hd (er_i2b_eq hx hx1) (k p e s mm args below meth c H locs la C hz hW hS hl)
theorem er_and_eq {x : Int} (hx : er_in x) : Int32.ofInt x &&& Int32.ofInt 31 = Int32.ofInt (x % 32) := by
  have h := pk_and (Int32.ofInt x) (m := Int32.ofInt 31) 5 (by decide)
  rw [h]
  have h1 : (Int32.ofInt x).toBitVec.toNat = (x % 4294967296).toNat := by
    rw [Int32.toBitVec_ofInt, BitVec.toNat_ofInt]
    rfl
  rw [h1]
  show Int32.ofNat _ = _
  rw [← Int32.ofInt_eq_ofNat]
  congr 1
  omega
theorem er_iand {x : Int} (hx : er_in x) (hd : decode i.2.1 pc = .ok (.iand, 1)) (k : er_WP K i uc us sh m (pc + 1) ls (.inl (x % 32) :: st) Z) : er_WP K i uc us sh m pc ls (.inl 31 :: .inl x :: st) Z := by
  intro p e s mm args below meth c H locs la C hz hW hS hl
  have h := k p e s mm args below meth c H locs la C hz hW hS hl
  have e1 : er_cv K (.inl (x % 32)) = .int (Int32.ofInt x &&& Int32.ofInt 31) := congrArg Value.int (er_and_eq hx).symm
  rw [List.map_cons, e1] at h
  exact lv_iand C.1 C.2.1 hd h
theorem er_pop {v : er_V} (hd : decode i.2.1 pc = .ok (.pop, 1)) (k : er_WP K i uc us sh m (pc + 1) ls (st) Z) : er_WP K i uc us sh m pc ls (v :: st) Z := by
  intro p e s mm args below meth c H locs la C hz hW hS hl
  exact lv_pop C.1 C.2.1 hd (er_cat K v) (k p e s mm args below meth c H locs la C hz hW hS hl)
theorem er_dup {v : er_V} (hd : decode i.2.1 pc = .ok (.dup, 1)) (k : er_WP K i uc us sh m (pc + 1) ls (v :: v :: st) Z) : er_WP K i uc us sh m pc ls (v :: st) Z := by
  intro p e s mm args below meth c H locs la C hz hW hS hl
  exact lv_dup C.1 C.2.1 hd (er_cat K v) (k p e s mm args below meth c H locs la C hz hW hS hl)
theorem er_dup2 {v u : er_V} (hd : decode i.2.1 pc = .ok (.dup2, 1)) (k : er_WP K i uc us sh m (pc + 1) ls (v :: u :: v :: u :: st) Z) : er_WP K i uc us sh m pc ls (v :: u :: st) Z := by
  intro p e s mm args below meth c H locs la C hz hW hS hl
  exact lv_dup2_11 C.1 C.2.1 hd (er_cat K v) (er_cat K u) (k p e s mm args below meth c H locs la C hz hW hS hl)
theorem er_goto {off : Int} {tgt : Nat} (ht : (pc : Int) + off = (tgt : Int)) (hd : decode i.2.1 pc = .ok (.goto off, 3)) (k : er_WP K i uc us sh m tgt ls st Z) : er_WP K i uc us sh m pc ls st Z := by
  intro p e s mm args below meth c H locs la C hz hW hS hl
  exact lv_goto C.1 C.2.1 hd ht (k p e s mm args below meth c H locs la C hz hW hS hl)
theorem er_icmp_eq {x y : Int} {off : Int} {tgt : Nat} (ht : (pc : Int) + off = (tgt : Int)) (hx : er_in x) (hy : er_in y) (hd : decode i.2.1 pc = .ok (.if_icmp .eq off, 3)) (kt : x = y → er_WP K i uc us sh m tgt ls st Z) (kf : x ≠ y → er_WP K i uc us sh m (pc + 3) ls st Z) : er_WP K i uc us sh m pc ls (.inl y :: .inl x :: st) Z := by
  intro p e s mm args below meth c H locs la C hz hW hS hl
  exact lv_icmp_eq C.1 C.2.1 hd ht (fun h => kt ((er_ofInt_inj hx hy).mp h) p e s mm args below meth c H locs la C hz hW hS hl) (fun h => kf (fun z => h ((er_ofInt_inj hx hy).mpr z)) p e s mm args below meth c H locs la C hz hW hS hl)
theorem er_if_eq {x : Int} {off : Int} {tgt : Nat} (ht : (pc : Int) + off = (tgt : Int)) (hx : er_in x) (hd : decode i.2.1 pc = .ok (.ifCond .eq off, 3)) (kt : x = 0 → er_WP K i uc us sh m tgt ls st Z) (kf : x ≠ 0 → er_WP K i uc us sh m (pc + 3) ls st Z) : er_WP K i uc us sh m pc ls (.inl x :: st) Z := by
  have hy : er_in 0 := ⟨by omega, by omega⟩
  intro p e s mm args below meth c H locs la C hz hW hS hl
  exact lv_if_eq C.1 C.2.1 hd ht (fun h => kt (by rw [← er_zero] at h; exact (er_ofInt_inj hx hy).mp h) p e s mm args below meth c H locs la C hz hW hS hl) (fun h => kf (by rw [← er_zero] at h; exact fun z => h ((er_ofInt_inj hx hy).mpr z)) p e s mm args below meth c H locs la C hz hW hS hl)
theorem er_icmp_ne {x y : Int} {off : Int} {tgt : Nat} (ht : (pc : Int) + off = (tgt : Int)) (hx : er_in x) (hy : er_in y) (hd : decode i.2.1 pc = .ok (.if_icmp .ne off, 3)) (kt : x ≠ y → er_WP K i uc us sh m tgt ls st Z) (kf : x = y → er_WP K i uc us sh m (pc + 3) ls st Z) : er_WP K i uc us sh m pc ls (.inl y :: .inl x :: st) Z := by
  intro p e s mm args below meth c H locs la C hz hW hS hl
  exact lv_icmp_ne C.1 C.2.1 hd ht (fun h => kt (fun z => h ((er_ofInt_inj hx hy).mpr z)) p e s mm args below meth c H locs la C hz hW hS hl) (fun h => kf ((er_ofInt_inj hx hy).mp h) p e s mm args below meth c H locs la C hz hW hS hl)
theorem er_if_ne {x : Int} {off : Int} {tgt : Nat} (ht : (pc : Int) + off = (tgt : Int)) (hx : er_in x) (hd : decode i.2.1 pc = .ok (.ifCond .ne off, 3)) (kt : x ≠ 0 → er_WP K i uc us sh m tgt ls st Z) (kf : x = 0 → er_WP K i uc us sh m (pc + 3) ls st Z) : er_WP K i uc us sh m pc ls (.inl x :: st) Z := by
  have hy : er_in 0 := ⟨by omega, by omega⟩
  intro p e s mm args below meth c H locs la C hz hW hS hl
  exact lv_if_ne C.1 C.2.1 hd ht (fun h => kt (by rw [← er_zero] at h; exact fun z => h ((er_ofInt_inj hx hy).mpr z)) p e s mm args below meth c H locs la C hz hW hS hl) (fun h => kf (by rw [← er_zero] at h; exact (er_ofInt_inj hx hy).mp h) p e s mm args below meth c H locs la C hz hW hS hl)
theorem er_icmp_lt {x y : Int} {off : Int} {tgt : Nat} (ht : (pc : Int) + off = (tgt : Int)) (hx : er_in x) (hy : er_in y) (hd : decode i.2.1 pc = .ok (.if_icmp .lt off, 3)) (kt : x < y → er_WP K i uc us sh m tgt ls st Z) (kf : y ≤ x → er_WP K i uc us sh m (pc + 3) ls st Z) : er_WP K i uc us sh m pc ls (.inl y :: .inl x :: st) Z := by
  intro p e s mm args below meth c H locs la C hz hW hS hl
  exact lv_icmp_lt C.1 C.2.1 hd ht (fun h => kt ((er_ofInt_lt hx hy).mp h) p e s mm args below meth c H locs la C hz hW hS hl) (fun h => kf (Int.not_lt.mp (fun z => h ((er_ofInt_lt hx hy).mpr z))) p e s mm args below meth c H locs la C hz hW hS hl)
theorem er_if_lt {x : Int} {off : Int} {tgt : Nat} (ht : (pc : Int) + off = (tgt : Int)) (hx : er_in x) (hd : decode i.2.1 pc = .ok (.ifCond .lt off, 3)) (kt : x < 0 → er_WP K i uc us sh m tgt ls st Z) (kf : 0 ≤ x → er_WP K i uc us sh m (pc + 3) ls st Z) : er_WP K i uc us sh m pc ls (.inl x :: st) Z := by
  have hy : er_in 0 := ⟨by omega, by omega⟩
  intro p e s mm args below meth c H locs la C hz hW hS hl
  exact lv_if_lt C.1 C.2.1 hd ht (fun h => kt (by rw [← er_zero] at h; exact (er_ofInt_lt hx hy).mp h) p e s mm args below meth c H locs la C hz hW hS hl) (fun h => kf (by rw [← er_zero] at h; exact Int.not_lt.mp (fun z => h ((er_ofInt_lt hx hy).mpr z))) p e s mm args below meth c H locs la C hz hW hS hl)
theorem er_icmp_ge {x y : Int} {off : Int} {tgt : Nat} (ht : (pc : Int) + off = (tgt : Int)) (hx : er_in x) (hy : er_in y) (hd : decode i.2.1 pc = .ok (.if_icmp .ge off, 3)) (kt : y ≤ x → er_WP K i uc us sh m tgt ls st Z) (kf : x < y → er_WP K i uc us sh m (pc + 3) ls st Z) : er_WP K i uc us sh m pc ls (.inl y :: .inl x :: st) Z := by
  intro p e s mm args below meth c H locs la C hz hW hS hl
  exact lv_icmp_ge C.1 C.2.1 hd ht (fun h => kt ((er_ofInt_le hy hx).mp h) p e s mm args below meth c H locs la C hz hW hS hl) (fun h => kf (Int.not_le.mp (fun z => h ((er_ofInt_le hy hx).mpr z))) p e s mm args below meth c H locs la C hz hW hS hl)
theorem er_if_ge {x : Int} {off : Int} {tgt : Nat} (ht : (pc : Int) + off = (tgt : Int)) (hx : er_in x) (hd : decode i.2.1 pc = .ok (.ifCond .ge off, 3)) (kt : 0 ≤ x → er_WP K i uc us sh m tgt ls st Z) (kf : x < 0 → er_WP K i uc us sh m (pc + 3) ls st Z) : er_WP K i uc us sh m pc ls (.inl x :: st) Z := by
  have hy : er_in 0 := ⟨by omega, by omega⟩
  intro p e s mm args below meth c H locs la C hz hW hS hl
  exact lv_if_ge C.1 C.2.1 hd ht (fun h => kt (by rw [← er_zero] at h; exact (er_ofInt_le hy hx).mp h) p e s mm args below meth c H locs la C hz hW hS hl) (fun h => kf (by rw [← er_zero] at h; exact Int.not_le.mp (fun z => h ((er_ofInt_le hy hx).mpr z))) p e s mm args below meth c H locs la C hz hW hS hl)
theorem er_icmp_gt {x y : Int} {off : Int} {tgt : Nat} (ht : (pc : Int) + off = (tgt : Int)) (hx : er_in x) (hy : er_in y) (hd : decode i.2.1 pc = .ok (.if_icmp .gt off, 3)) (kt : y < x → er_WP K i uc us sh m tgt ls st Z) (kf : x ≤ y → er_WP K i uc us sh m (pc + 3) ls st Z) : er_WP K i uc us sh m pc ls (.inl y :: .inl x :: st) Z := by
  intro p e s mm args below meth c H locs la C hz hW hS hl
  exact lv_icmp_gt C.1 C.2.1 hd ht (fun h => kt ((er_ofInt_lt hy hx).mp h) p e s mm args below meth c H locs la C hz hW hS hl) (fun h => kf (Int.not_lt.mp (fun z => h ((er_ofInt_lt hy hx).mpr z))) p e s mm args below meth c H locs la C hz hW hS hl)
theorem er_if_gt {x : Int} {off : Int} {tgt : Nat} (ht : (pc : Int) + off = (tgt : Int)) (hx : er_in x) (hd : decode i.2.1 pc = .ok (.ifCond .gt off, 3)) (kt : 0 < x → er_WP K i uc us sh m tgt ls st Z) (kf : x ≤ 0 → er_WP K i uc us sh m (pc + 3) ls st Z) : er_WP K i uc us sh m pc ls (.inl x :: st) Z := by
  have hy : er_in 0 := ⟨by omega, by omega⟩
  intro p e s mm args below meth c H locs la C hz hW hS hl
  exact lv_if_gt C.1 C.2.1 hd ht (fun h => kt (by rw [← er_zero] at h; exact (er_ofInt_lt hy hx).mp h) p e s mm args below meth c H locs la C hz hW hS hl) (fun h => kf (by rw [← er_zero] at h; exact Int.not_lt.mp (fun z => h ((er_ofInt_lt hy hx).mpr z))) p e s mm args below meth c H locs la C hz hW hS hl)
theorem er_icmp_le {x y : Int} {off : Int} {tgt : Nat} (ht : (pc : Int) + off = (tgt : Int)) (hx : er_in x) (hy : er_in y) (hd : decode i.2.1 pc = .ok (.if_icmp .le off, 3)) (kt : x ≤ y → er_WP K i uc us sh m tgt ls st Z) (kf : y < x → er_WP K i uc us sh m (pc + 3) ls st Z) : er_WP K i uc us sh m pc ls (.inl y :: .inl x :: st) Z := by
  intro p e s mm args below meth c H locs la C hz hW hS hl
  exact lv_icmp_le C.1 C.2.1 hd ht (fun h => kt ((er_ofInt_le hx hy).mp h) p e s mm args below meth c H locs la C hz hW hS hl) (fun h => kf (Int.not_le.mp (fun z => h ((er_ofInt_le hx hy).mpr z))) p e s mm args below meth c H locs la C hz hW hS hl)
theorem er_if_le {x : Int} {off : Int} {tgt : Nat} (ht : (pc : Int) + off = (tgt : Int)) (hx : er_in x) (hd : decode i.2.1 pc = .ok (.ifCond .le off, 3)) (kt : x ≤ 0 → er_WP K i uc us sh m tgt ls st Z) (kf : 0 < x → er_WP K i uc us sh m (pc + 3) ls st Z) : er_WP K i uc us sh m pc ls (.inl x :: st) Z := by
  have hy : er_in 0 := ⟨by omega, by omega⟩
  intro p e s mm args below meth c H locs la C hz hW hS hl
  exact lv_if_le C.1 C.2.1 hd ht (fun h => kt (by rw [← er_zero] at h; exact (er_ofInt_le hx hy).mp h) p e s mm args below meth c H locs la C hz hW hS hl) (fun h => kf (by rw [← er_zero] at h; exact Int.not_le.mp (fun z => h ((er_ofInt_le hx hy).mpr z))) p e s mm args below meth c H locs la C hz hW hS hl)
end ER
end
section
/-! the rows of memory, of calls and returns -/
/-- a field's place: own's constant pool entry names field k of class ci -/
def er_FL (own : String) (index ci k : Nat) (fin : Bool) (ty : FieldType) : Prop := ∃ (C : String) (T : u_T) (N : Nat) (t0 : Nat → FieldType), er_cl[ci]? = some (C, T, N) ∧ k < N ∧ (∀ w ∈ u_ws C T N, w ∈ er_tb) ∧ Cond.fieldLink own index (T k).1 (T k).2.1 (T k).2.2.1 ∈ er_tb ∧ (∀ j, j < N → parseFieldDescriptor (T j).2.2.1 = some (t0 j)) ∧ (∀ a, a < N → ∀ b, b < N → a ≠ b → (T a).2.1 ≠ (T b).2.1) ∧ (T k).2.2.2 = fin ∧ t0 k = ty ∧ (T k).1 = C
theorem er_cell_obj (K : er_K) (m : er_M) (c ci n : Nat) (rs : List (Option Nat)) : er_cell K m c (ci + 5, n, rs) = .inr (ci, er_fs K m c n rs) := by
  unfold er_cell
  rw [if_neg (by show ¬ ci + 5 < 3; omega), if_neg (by show ¬ ci + 5 < 5; omega)]
  rfl
theorem er_fs_get {K : er_K} {m : er_M} {c n k : Nat} {rs : List (Option Nat)} (hk : k < n) : (er_fs K m c n rs)[k]? = some (er_fv K m c k (rs.getD k none)) := by
  simp [er_fs, hk]
theorem er_fs_set {K : er_K} {m m' : er_M} {c n k : Nat} {rs rs' : List (Option Nat)} {v : Value} (hv : v = er_fv K m' c k (rs'.getD k none)) (ho : ∀ j, j < n → j ≠ k → er_fv K m c j (rs.getD j none) = er_fv K m' c j (rs'.getD j none)) : (er_fs K m c n rs).set k v = er_fs K m' c n rs' := by
  apply List.ext_getElem?
  intro j
  by_cases hn : j < n
  · rw [er_fs_get hn]
    by_cases hj : j = k
    · subst hj
      rw [List.getElem?_set_self (by simp [er_fs]; exact hn), hv]
    · rw [List.getElem?_set_ne (Ne.symm hj), er_fs_get hn, ho j hn hj]
  · rw [List.getElem?_eq_none (by simp [er_fs]; omega), List.getElem?_eq_none (by simp [er_fs]; omega)]
theorem er_ro_rf {K : er_K} {r : Nat} (hr : r ≠ 0) : va_rf (er_ro K r) = .ref (er_ad K r) := by
  simp [er_ro, er_ad, hr, va_rf]
theorem er_A_of {K : er_K} {s : State} (h : K.2.1 < s.heap.size) : ∀ q, s.heap.size ≤ q → er_A K q := fun q hq => Nat.lt_of_lt_of_le h hq
section ER2
variable {K : er_K} {i : er_I} {uc us : Nat} {sh : er_Sh} {m : er_M} {pc : Nat} {ls : List (Option er_V)} {st : List er_V} {Z : List Frame → Array Value → State → State → Prop}
theorem er_getI {index ci k n c : Nat} {rs : List (Option Nat)} {fin : Bool} {ty : FieldType} (hf : er_FL i.1.cls index ci k fin ty) (hc : er_at sh c = some (ci + 5, n, rs)) (hk : k < n) (hr : rs.getD k none = none) (hd : decode i.2.1 pc = .ok (.getfield index, 3)) (kk : er_WP K i uc us sh m (pc + 3) ls (.inl (m c k) :: st) Z) : er_WP K i uc us sh m pc ls (.inr c :: st) Z := by
  obtain ⟨C0, T, N, t0, h1, h2, h3, h4, -⟩ := hf
  intro p e s mm args below meth c1 H locs la C hz hW hS hl
  have e1 := er_ws_at (K := K) (m := m) hc
  rw [er_cell_obj] at e1
  show W _ _ _ _ _ _ _ _ _ _ _ _ _ _ _ (F0 mm pc la (.ref (er_ad K c) :: st.map (er_cv K)))
  rw [er_ad_at hc]
  exact va_get C.1 C.2.1 C.2.2.2.2.2.2.2.1 h3 C.2.2.2.2.2.2.1 hW.2 hW.1 (c - 1) e1 h1 k h2 (C.2.2.2.2.2.2.2.1 _ h4) (fun _ h => h) (v := .int (Int32.ofInt (m c k))) (by rw [er_fs_get hk, hr]; rfl) hd (kk p e s mm args below meth c1 H locs la C hz hW hS hl)
theorem er_getR {index ci k n c r : Nat} {rs : List (Option Nat)} {fin : Bool} {ty : FieldType} (hf : er_FL i.1.cls index ci k fin ty) (hc : er_at sh c = some (ci + 5, n, rs)) (hk : k < n) (hr : rs.getD k none = some r) (hr0 : r ≠ 0) (hd : decode i.2.1 pc = .ok (.getfield index, 3)) (kk : er_WP K i uc us sh m (pc + 3) ls (.inr r :: st) Z) : er_WP K i uc us sh m pc ls (.inr c :: st) Z := by
  obtain ⟨C0, T, N, t0, h1, h2, h3, h4, -⟩ := hf
  intro p e s mm args below meth c1 H locs la C hz hW hS hl
  have e1 := er_ws_at (K := K) (m := m) hc
  rw [er_cell_obj] at e1
  show W _ _ _ _ _ _ _ _ _ _ _ _ _ _ _ (F0 mm pc la (.ref (er_ad K c) :: st.map (er_cv K)))
  rw [er_ad_at hc]
  exact va_get C.1 C.2.1 C.2.2.2.2.2.2.2.1 h3 C.2.2.2.2.2.2.1 hW.2 hW.1 (c - 1) e1 h1 k h2 (C.2.2.2.2.2.2.2.1 _ h4) (fun _ h => h) (v := .ref (er_ad K r)) (by rw [er_fs_get hk, hr]; exact congrArg some (er_ro_rf hr0)) hd (kk p e s mm args below meth c1 H locs la C hz hW hS hl)
theorem er_putX {index ci k n c : Nat} {rs : List (Option Nat)} {ty : FieldType} {x : Int} (hf : er_FL i.1.cls index ci k false ty) (hc : er_at sh c = some (ci + 5, n, rs)) (hk : k < n) (hr : rs.getD k none = none) (hn : narrow ty (.int (Int32.ofInt x)) = .int (Int32.ofInt x)) (hfit : fits ty (.int (Int32.ofInt x)) = true) (hd : decode i.2.1 pc = .ok (.putfield index, 3)) (kk : er_WP K i uc us sh (er_st m c k x) (pc + 3) ls st Z) : er_WP K i uc us sh m pc ls (.inl x :: .inr c :: st) Z := by
  obtain ⟨C0, T, N, t0, h1, h2, h3, h4, h5, h6, h7, h8, h9⟩ := hf
  intro p e s mm args below meth c1 H locs la C hz hW hS hl
  have e1 := er_ws_at (K := K) (m := m) hc
  rw [er_cell_obj] at e1
  show W _ _ _ _ _ _ _ _ _ _ _ _ _ _ _ (F0 mm pc la (.int (Int32.ofInt x) :: .ref (er_ad K c) :: st.map (er_cv K)))
  rw [er_ad_at hc]
  have eset : (er_ws K sh m).set (c - 1) (K.2.1 + c, .inr (ci, (er_fs K m c n rs).set k (.int (Int32.ofInt x)))) = er_ws K sh (er_st m c k x) := by
    refine er_ws_up hc ?_ (fun c' hc' => by funext j; simp [er_st, hc'])
    rw [er_cell_obj]
    congr 2
    refine er_fs_set (by rw [hr]; simp [er_fv, er_st]) (fun j _ hj => ?_)
    cases rs.getD j none with
    | some r => rfl
    | none =>
      show Value.int (Int32.ofInt (m c j)) = Value.int (Int32.ofInt (er_st m c k x c j))
      rw [show er_st m c k x c j = m c j from by unfold er_st; rw [if_neg (by omega)]]
  refine va_put C.1 C.2.1 C.2.2.2.2.2.2.2.1 h3 t0 h5 h6 C.2.2.2.2.2.2.1 hW.2 hW.1 (er_ws_D K sh m) hS (c - 1) e1 h1 k h2 (C.2.2.2.2.2.2.2.1 _ h4) (fun _ h => h) h7 (ty := ty) (v := .int (Int32.ofInt x)) (by rw [h5 k h2, h8]) hn hfit (by simp [er_fs]; exact hk) hd (fun H1 locs1 hP1 hD1 hS1 => ?_)
  rw [eset] at hP1
  exact kk p e s mm args below meth c1 H1 locs1 la C hz ⟨hP1, hW.2⟩ hS1 hl
theorem er_putI {index ci k n c : Nat} {rs : List (Option Nat)} {x : Int} (hf : er_FL i.1.cls index ci k false .int) (hc : er_at sh c = some (ci + 5, n, rs)) (hk : k < n) (hr : rs.getD k none = none) (hd : decode i.2.1 pc = .ok (.putfield index, 3)) (kk : er_WP K i uc us sh (er_st m c k x) (pc + 3) ls st Z) : er_WP K i uc us sh m pc ls (.inl x :: .inr c :: st) Z :=
  er_putX hf hc hk hr rfl rfl hd kk
theorem er_putZ {index ci k n c : Nat} {rs : List (Option Nat)} {x : Int} (hf : er_FL i.1.cls index ci k false .boolean) (hc : er_at sh c = some (ci + 5, n, rs)) (hk : k < n) (hr : rs.getD k none = none) (hx : x = 0 ∨ x = 1) (hd : decode i.2.1 pc = .ok (.putfield index, 3)) (kk : er_WP K i uc us sh (er_st m c k x) (pc + 3) ls st Z) : er_WP K i uc us sh m pc ls (.inl x :: .inr c :: st) Z := by
  refine er_putX hf hc hk hr ?_ ?_ hd kk
  · rcases hx with rfl | rfl <;> rfl
  · rcases hx with rfl | rfl <;> rfl
theorem er_cell_n (K : er_K) (m : er_M) (c k n : Nat) (rs : List (Option Nat)) (hk : k < 3) : er_cell K m c (k, n, rs) = .inl (K.2.2.2.1 k, n, .inl (fun j => Int32.ofInt (m c j))) := by
  unfold er_cell
  rw [if_pos (show k < 3 from hk)]
theorem er_cell_q (K : er_K) (m : er_M) (c k n : Nat) (rs : List (Option Nat)) (h3 : 3 ≤ k) (h5 : k < 5) : er_cell K m c (k, n, rs) = .inl (K.2.2.2.1 k, n, .inr (.inr (.inr (.inr (fun j => er_ro K (m c j).toNat))))) := by
  unfold er_cell
  rw [if_neg (show ¬ k < 3 by omega), if_pos (show k < 5 from h5)]
theorem er_iald {c n : Nat} {rs : List (Option Nat)} {j : Int} (hc : er_at sh c = some (0, n, rs)) (hn : n ≤ 2147483648) (h0 : 0 ≤ j) (h1 : j < n) (hd : decode i.2.1 pc = .ok (.iaload, 1)) (kk : er_WP K i uc us sh m (pc + 1) ls (.inl (m c j) :: st) Z) : er_WP K i uc us sh m pc ls (.inl j :: .inr c :: st) Z := by
  intro p e s mm args below meth c1 H locs la C hz hW hS hl
  have e1 := er_ws_at (K := K) (m := m) hc
  rw [er_cell_n _ _ _ _ _ _ (by decide)] at e1
  obtain ⟨g1, g2⟩ := er_ix h0 h1 hn
  show W _ _ _ _ _ _ _ _ _ _ _ _ _ _ _ (F0 mm pc la (.int (Int32.ofInt j) :: .ref (er_ad K c) :: st.map (er_cv K)))
  rw [er_ad_at hc]
  have hk := kk p e s mm args below meth c1 H locs la C hz hW hS hl
  refine va_iald C.1 C.2.1 hW.2 hW.1 (c - 1) 0 e1 rfl g1 hd ?_
  rw [g2, Int.toNat_of_nonneg h0]
  exact hk
theorem er_zald {c n : Nat} {rs : List (Option Nat)} {j : Int} (hc : er_at sh c = some (1, n, rs)) (hn : n ≤ 2147483648) (h0 : 0 ≤ j) (h1 : j < n) (hd : decode i.2.1 pc = .ok (.baload, 1)) (kk : er_WP K i uc us sh m (pc + 1) ls (.inl (m c j) :: st) Z) : er_WP K i uc us sh m pc ls (.inl j :: .inr c :: st) Z := by
  intro p e s mm args below meth c1 H locs la C hz hW hS hl
  have e1 := er_ws_at (K := K) (m := m) hc
  rw [er_cell_n _ _ _ _ _ _ (by decide)] at e1
  obtain ⟨g1, g2⟩ := er_ix h0 h1 hn
  show W _ _ _ _ _ _ _ _ _ _ _ _ _ _ _ (F0 mm pc la (.int (Int32.ofInt j) :: .ref (er_ad K c) :: st.map (er_cv K)))
  rw [er_ad_at hc]
  have hk := kk p e s mm args below meth c1 H locs la C hz hW hS hl
  refine va_zald C.1 C.2.1 hW.2 hW.1 (c - 1) 1 e1 rfl g1 hd ?_
  rw [g2, Int.toNat_of_nonneg h0]
  exact hk
theorem er_bald {c n : Nat} {rs : List (Option Nat)} {j : Int} (hc : er_at sh c = some (2, n, rs)) (hn : n ≤ 2147483648) (h0 : 0 ≤ j) (h1 : j < n) (hd : decode i.2.1 pc = .ok (.baload, 1)) (kk : er_WP K i uc us sh m (pc + 1) ls (.inl (m c j) :: st) Z) : er_WP K i uc us sh m pc ls (.inl j :: .inr c :: st) Z := by
  intro p e s mm args below meth c1 H locs la C hz hW hS hl
  have e1 := er_ws_at (K := K) (m := m) hc
  rw [er_cell_n _ _ _ _ _ _ (by decide)] at e1
  obtain ⟨g1, g2⟩ := er_ix h0 h1 hn
  show W _ _ _ _ _ _ _ _ _ _ _ _ _ _ _ (F0 mm pc la (.int (Int32.ofInt j) :: .ref (er_ad K c) :: st.map (er_cv K)))
  rw [er_ad_at hc]
  have hk := kk p e s mm args below meth c1 H locs la C hz hW hS hl
  refine va_bald C.1 C.2.1 hW.2 hW.1 (c - 1) 2 e1 rfl g1 hd ?_
  rw [g2, Int.toNat_of_nonneg h0]
  exact hk
theorem er_aald {c k n : Nat} {rs : List (Option Nat)} {j : Int} {r : Nat} (hc : er_at sh c = some (k, n, rs)) (hk : k = 3 ∨ k = 4) (hn : n ≤ 2147483648) (h0 : 0 ≤ j) (h1 : j < n) (hr : m c j = (r : Nat)) (hr0 : r ≠ 0) (hd : decode i.2.1 pc = .ok (.aaload, 1)) (kk : er_WP K i uc us sh m (pc + 1) ls (.inr r :: st) Z) : er_WP K i uc us sh m pc ls (.inl j :: .inr c :: st) Z := by
  intro p e s mm args below meth c1 H locs la C hz hW hS hl
  have e1 := er_ws_at (K := K) (m := m) hc
  rw [er_cell_q _ _ _ _ _ _ (by omega) (by omega)] at e1
  obtain ⟨g1, g2⟩ := er_ix h0 h1 hn
  show W _ _ _ _ _ _ _ _ _ _ _ _ _ _ _ (F0 mm pc la (.int (Int32.ofInt j) :: .ref (er_ad K c) :: st.map (er_cv K)))
  rw [er_ad_at hc]
  have hk2 := kk p e s mm args below meth c1 H locs la C hz hW hS hl
  have e2 : va_rf (er_ro K (m c ((Int32.ofInt j).toNatClampNeg : Nat)).toNat) = .ref (er_ad K r) := by
    rw [g2, Int.toNat_of_nonneg h0, hr, Int.toNat_natCast]
    exact er_ro_rf hr0
  rcases hk with rfl | rfl
  · refine va_aldq C.1 C.2.1 hW.2 hW.1 (c - 1) 3 e1 rfl g1 hd ?_
    rw [e2]
    exact hk2
  · refine va_aldq C.1 C.2.1 hW.2 hW.1 (c - 1) 4 e1 rfl g1 hd ?_
    rw [e2]
    exact hk2
theorem er_up_eq (m : er_M) (c : Nat) (j x : Int) (h0 : 0 ≤ j) : upd (fun k : Nat => Int32.ofInt (m c k)) j.toNat (Int32.ofInt x) = fun k : Nat => Int32.ofInt (er_st m c j x c k) := by
  funext k
  unfold upd er_st
  by_cases hk : k = j.toNat
  · subst hk
    rw [if_pos rfl, if_pos ⟨rfl, by omega⟩]
  · rw [if_neg hk, if_neg (fun h => hk (by omega))]
theorem er_iast {c n : Nat} {rs : List (Option Nat)} {j x : Int} (hc : er_at sh c = some (0, n, rs)) (hn : n ≤ 2147483648) (h0 : 0 ≤ j) (h1 : j < n) (hd : decode i.2.1 pc = .ok (.iastore, 1)) (kk : er_WP K i uc us sh (er_st m c j x) (pc + 1) ls st Z) : er_WP K i uc us sh m pc ls (.inl x :: .inl j :: .inr c :: st) Z := by
  intro p e s mm args below meth c1 H locs la C hz hW hS hl
  have e1 := er_ws_at (K := K) (m := m) hc
  rw [er_cell_n _ _ _ _ _ _ (by decide)] at e1
  obtain ⟨g1, g2⟩ := er_ix h0 h1 hn
  show W _ _ _ _ _ _ _ _ _ _ _ _ _ _ _ (F0 mm pc la (.int (Int32.ofInt x) :: .int (Int32.ofInt j) :: .ref (er_ad K c) :: st.map (er_cv K)))
  rw [er_ad_at hc]
  refine va_iast C.1 C.2.1 hW.2 hW.1 (er_ws_D K sh m) hS (c - 1) 0 e1 rfl g1 hd (fun H1 locs1 hP1 _ hS1 => ?_)
  rw [g2, er_up_eq m c j x h0, er_ws_up (m' := er_st m c j x) hc (er_cell_n _ _ _ _ _ _ (by decide)).symm (fun c' hc' => by funext k; simp [er_st, hc'])] at hP1
  exact kk p e s mm args below meth c1 H1 locs1 la C hz ⟨hP1, hW.2⟩ hS1 hl
theorem er_zast {c n : Nat} {rs : List (Option Nat)} {j x : Int} (hc : er_at sh c = some (1, n, rs)) (hn : n ≤ 2147483648) (h0 : 0 ≤ j) (h1 : j < n) (hx : x = 0 ∨ x = 1) (hd : decode i.2.1 pc = .ok (.bastore, 1)) (kk : er_WP K i uc us sh (er_st m c j x) (pc + 1) ls st Z) : er_WP K i uc us sh m pc ls (.inl x :: .inl j :: .inr c :: st) Z := by
  intro p e s mm args below meth c1 H locs la C hz hW hS hl
  have e1 := er_ws_at (K := K) (m := m) hc
  rw [er_cell_n _ _ _ _ _ _ (by decide)] at e1
  obtain ⟨g1, g2⟩ := er_ix h0 h1 hn
  show W _ _ _ _ _ _ _ _ _ _ _ _ _ _ _ (F0 mm pc la (.int (Int32.ofInt x) :: .int (Int32.ofInt j) :: .ref (er_ad K c) :: st.map (er_cv K)))
  rw [er_ad_at hc]
  have e3 : vp_nar .boolean (Int32.ofInt x) = Int32.ofInt x := by rcases hx with rfl | rfl <;> rfl
  refine va_zast C.1 C.2.1 hW.2 hW.1 (er_ws_D K sh m) hS (c - 1) 1 e1 rfl g1 hd (fun H1 locs1 hP1 _ hS1 => ?_)
  rw [e3, g2, er_up_eq m c j x h0, er_ws_up (m' := er_st m c j x) hc (er_cell_n _ _ _ _ _ _ (by decide)).symm (fun c' hc' => by funext k; simp [er_st, hc'])] at hP1
  exact kk p e s mm args below meth c1 H1 locs1 la C hz ⟨hP1, hW.2⟩ hS1 hl
theorem er_byte : ∀ n, n < 256 → vp_nar .byte (Int32.ofInt ((n : Nat) - 128)) = Int32.ofInt ((n : Nat) - 128) := by decide +kernel
theorem er_bast {c n : Nat} {rs : List (Option Nat)} {j x : Int} (hc : er_at sh c = some (2, n, rs)) (hn : n ≤ 2147483648) (h0 : 0 ≤ j) (h1 : j < n) (hx : -128 ≤ x) (hx1 : x < 128) (hd : decode i.2.1 pc = .ok (.bastore, 1)) (kk : er_WP K i uc us sh (er_st m c j x) (pc + 1) ls st Z) : er_WP K i uc us sh m pc ls (.inl x :: .inl j :: .inr c :: st) Z := by
  intro p e s mm args below meth c1 H locs la C hz hW hS hl
  have e1 := er_ws_at (K := K) (m := m) hc
  rw [er_cell_n _ _ _ _ _ _ (by decide)] at e1
  obtain ⟨g1, g2⟩ := er_ix h0 h1 hn
  show W _ _ _ _ _ _ _ _ _ _ _ _ _ _ _ (F0 mm pc la (.int (Int32.ofInt x) :: .int (Int32.ofInt j) :: .ref (er_ad K c) :: st.map (er_cv K)))
  rw [er_ad_at hc]
  have e3 : vp_nar .byte (Int32.ofInt x) = Int32.ofInt x := by
    have := er_byte (x + 128).toNat (by omega)
    rwa [show (((x + 128).toNat : Nat) : Int) - 128 = x by omega] at this
  refine va_bast C.1 C.2.1 hW.2 hW.1 (er_ws_D K sh m) hS (c - 1) 2 e1 rfl g1 hd (fun H1 locs1 hP1 _ hS1 => ?_)
  rw [e3, g2, er_up_eq m c j x h0, er_ws_up (m' := er_st m c j x) hc (er_cell_n _ _ _ _ _ _ (by decide)).symm (fun c' hc' => by funext k; simp [er_st, hc'])] at hP1
  exact kk p e s mm args below meth c1 H1 locs1 la C hz ⟨hP1, hW.2⟩ hS1 hl
theorem er_aast {c k n r N ci : Nat} {rs rs2 : List (Option Nat)} {j : Int} (hc : er_at sh c = some (k, n, rs)) (hk : k = 3 ∧ ci = 0 ∨ k = 4 ∧ ci = 4) (hn : n ≤ 2147483648) (h0 : 0 ≤ j) (h1 : j < n) (hr : er_at sh r = some (ci + 5, N, rs2)) (hd : decode i.2.1 pc = .ok (.aastore, 1)) (kk : er_WP K i uc us sh (er_st m c j r) (pc + 1) ls st Z) : er_WP K i uc us sh m pc ls (.inr r :: .inl j :: .inr c :: st) Z := by
  intro p e s mm args below meth c1 H locs la C hz hW hS hl
  have e1 := er_ws_at (K := K) (m := m) hc
  rw [er_cell_q _ _ _ _ _ _ (by omega) (by omega)] at e1
  have e2 := er_ws_at (K := K) (m := m) hr
  rw [er_cell_obj] at e2
  obtain ⟨g1, g2⟩ := er_ix h0 h1 hn
  obtain ⟨r', hr', -⟩ := er_at_ne hr
  show W _ _ _ _ _ _ _ _ _ _ _ _ _ _ _ (F0 mm pc la (.ref (er_ad K r) :: .int (Int32.ofInt j) :: .ref (er_ad K c) :: st.map (er_cv K)))
  rw [er_ad_at hc, er_ad_at hr]
  have e4 : va_up (fun j : Nat => er_ro K (m c j).toNat) j.toNat (some (K.2.1 + r)) = fun q : Nat => er_ro K (er_st m c j r c q).toNat := by
    funext q
    unfold va_up er_st
    by_cases hq : q = j.toNat
    · subst hq
      rw [if_pos rfl, if_pos ⟨rfl, by omega⟩, Int.toNat_natCast]
      simp [er_ro, hr']
    · rw [if_neg hq, if_neg (fun h => hq (by omega))]
  have fin : ∀ (H1 : Heap) (locs1 : List Loc), va_P K.2.2.1 er_cl ((er_ws K sh m).set (c - 1) (K.2.1 + c, .inl (K.2.2.2.1 k, n, .inr (.inr (.inr (.inr (va_up (fun j : Nat => er_ro K (m c j).toNat) (Int32.ofInt j).toNatClampNeg (some (K.2.1 + r))))))))) H1 → va_S (er_A K) s.heap H1 locs1 → W p K.1 e i.2.2.2.2 s mm args below meth c1 H1 locs1 uc us (Z below args s) (F0 mm (pc + 1) la (st.map (er_cv K))) := by
    intro H1 locs1 hP1 hS1
    rw [g2, e4, er_ws_up (m' := er_st m c j r) hc (er_cell_q _ _ _ _ _ _ (by omega) (by omega)).symm (fun c' hc' => by funext k; simp [er_st, hc'])] at hP1
    exact kk p e s mm args below meth c1 H1 locs1 la C hz ⟨hP1, hW.2⟩ hS1 hl
  rcases hk with ⟨rfl, rfl⟩ | ⟨rfl, rfl⟩
  · exact va_astq (r := ("EscapeRouter$Board", er_FB, 7)) C.1 C.2.1 hW.2 hW.1 (er_ws_D K sh m) hS (c - 1) 3 (r - 1) 0 e1 rfl e2 rfl g1 hd (fun H1 locs1 hP1 _ hS1 => fin H1 locs1 hP1 hS1)
  · exact va_astq (r := ("EscapeRouter$Layering", er_FY, 9)) C.1 C.2.1 hW.2 hW.1 (er_ws_D K sh m) hS (c - 1) 4 (r - 1) 4 e1 rfl e2 rfl g1 hd (fun H1 locs1 hP1 _ hS1 => fin H1 locs1 hP1 hS1)
end ER2
end
section
/-! calls, returns, entry, switches, the JDK's three -/
theorem er_gi {ws : List Cond} (h : ∀ w ∈ ws, w ∈ er_tb) : GoodIn er_tb ws := fun w hw => ⟨h w hw, good_of_word (List.mem_filter.mp (h w hw)).2⟩
def er_MD (j : er_I) (n : Nat) : Prop := j.1.cls ≠ "java/lang/invoke/MethodHandle" ∧ j.1.cls ≠ "java/lang/invoke/VarHandle" ∧ (parseMethodDescriptor j.1.desc).map (fun d => d.parameters.length) = some n
def er_MW (j : er_I) : Prop := Cond.code j.1 j.2.1 j.2.2.1 j.2.2.2.1 ∈ er_tb ∧ Cond.initialized j.1.cls ∈ er_tb
theorem er_wd_in {j : er_I} (h : er_MW j) : ∀ w ∈ er_wd j, w ∈ er_tb := fun w hw => (List.mem_cons.mp hw).elim (fun e => e ▸ h.1) id
theorem er_size {p : Program} {l : Launch} {e : Env} {R : Room} {s : State} {mm : MethodId} {args : Array Value} {below : List Frame} {meth : Method} {c : Code} {T : State} {locs : List Loc} {uc us : Nat} {K : er_K} {sh : er_Sh} {m : er_M} {H : Heap}
    (hb : K.2.1 < s.heap.size) (hz : K.2.1 + 1 + sh.length = s.heap.size + uc) (hW : er_W K sh m s H) (hS : va_S (er_A K) s.heap H locs) (hT : T.heap = H) (X : Stand p l e R s mm args below meth c T locs uc us) : H.size = K.2.1 + 1 + sh.length := by
  have h1 : T.heap.size ≤ s.heap.size + uc := X.same.2.2.1
  rw [hT] at h1
  have h2 := hS.1
  cases hn : sh.length with
  | zero => rw [hn] at hz; omega
  | succ n =>
    have h3 : er_at sh (n + 1) = some (sh.getD n (99, 0, [])) := by
      show sh[n]? = _
      rw [List.getD_eq_getElem?_getD, List.getElem?_eq_getElem (by omega)]
      rfl
    have h4 := (hW.1 _ _ (er_ws_at (K := K) (m := m) h3)).lt
    simp only at h4
    rw [hn] at hz
    omega
theorem er_X_at {K : er_K} {s U : State} {H : Heap} {locs : List Loc} (hb : K.2.1 < s.heap.size) (hX : er_X K s) (hS : va_S (er_A K) s.heap H locs) (hU : U.heap = H) (hW : s.WarmedH U.vm) : er_X K U := by
  refine ⟨?_, hX.2.1, hX.2.2.warm hW⟩
  have h1 := va_X.moved hW.alike hX.1
  rw [hU]
  exact va_X.kept h1 (hS.2.1 _ (Nat.lt_of_le_of_lt hX.2.1 hb) (Nat.not_lt.mpr hX.2.1))
theorem er_blind {K : er_K} {sh : er_Sh} {m : er_M} {av : List Value} : FrameBlind (va_Pc av (fun U => er_W K sh m U U.heap ∧ er_X K U ∧ U.heap.size = K.2.1 + 1 + sh.length)) := by
  intro a U g mk q
  obtain ⟨q0, ⟨q1, q2⟩, ⟨q3, q4, q6⟩, q5⟩ := q
  exact ⟨q0, ⟨q1, va_K.moved (u := U) (U := U.calling g mk a) (Vm.Alike.refl U.vm) q2⟩, ⟨va_X.moved (u := U) (U := U.calling g mk a) (Vm.Alike.refl U.vm) q3, q4, er_N.same (u := U) (U := U.calling g mk a) rfl q6⟩, q5⟩
section ER3
variable {K : er_K} {i j : er_I} {uc us : Nat} {sh : er_Sh} {m : er_M} {pc : Nat} {ls : List (Option er_V)} {st : List er_V} {Z : List Frame → Array Value → State → State → Prop}
theorem er_goes {p : Program} {e : Env} {R : Room} {s : State} {mm : MethodId} {args : Array Value} {below : List Frame} {meth : Method} {c : Code} {H : Heap} {locs : List Loc} {la : Array Slot} {st0 rest : List Value} {mc ms : Nat} {Q : er_Post} {a : Array Value} {G : State → Prop}
    (hr : va_Run p K.1 e R s mm args below meth c H locs uc us mc ms (F0 mm pc la st0) rest (er_Qc K j Q a) (er_A K)) (hS : va_S (er_A K) s.heap H locs)
    (kk : ∀ (v : Option er_V) (sh' : er_Sh) (m' : er_M) (H1 : Heap) (locs1 : List Loc), Q v sh' m' → er_W K sh' m' s H1 → K.2.1 + 1 + sh'.length = H.size + j.2.2.2.2.cells → va_S (er_A K) s.heap H1 locs1 → W p K.1 e R s mm args below meth c H1 locs1 (uc + mc) (us + ms) G (F0 mm (pc + 3) la ((v.map (er_cv K)).toList ++ rest))) : W p K.1 e R s mm args below meth c H locs uc us G (F0 mm pc la st0) := by
  intro T hT X
  obtain ⟨v, st₀, t, T', L, h0, X', hL, e1, e2, ⟨⟨v', sh', m', hv, hp, hw, hz⟩, hzz, hk⟩, stp⟩ := hr T hT X
  cases hv
  rw [h0] at hzz hk hz
  have hw2 : er_W K sh' m' s T'.heap := ⟨by rw [e1]; exact hw.1, va_K.moved (by rw [← e2]; exact X'.warmed.alike.symm) hw.2⟩
  obtain ⟨t2, a1, b1⟩ := kk v' sh' m' T'.heap (locs ++ L) hp hw2 hz
    ⟨Nat.le_trans hS.1 (by rw [e1]; exact hzz), fun q h1 h2 => by rw [e1, hk q (Nat.lt_of_lt_of_le h1 hS.1) h2]; exact hS.2.1 q h1 h2, fun q hq => (List.mem_append.mp hq).elim (hS.2.2 q) (hL q)⟩ T' rfl X'
  exact ⟨t2, stp t2 a1, b1⟩
theorem er_rest8 (h : st.length ≤ 8) {mm : MethodId} {la : Array Slot} {stk : List Value} : 2 * (F0 mm pc la stk).monitorRoom + ((st.map (er_cv K)).map fun v => v.category).sum ≤ 8 := lv_room (by rw [er_catsum]; exact h)
theorem er_pre {p : Program} {s : State} {mm : MethodId} {meth : Method} {c : Code} {args : Array Value} {H : Heap} {locs : List Loc} {as : List er_V} (C : er_Cx K i p mm meth c s args) (hsz : H.size = K.2.1 + 1 + sh.length) (hW : er_W K sh m s H) (hS : va_S (er_A K) s.heap H locs) :
    PreS s H (va_Pc (as.map (er_cv K)) (fun U => er_W K sh m U U.heap ∧ er_X K U ∧ U.heap.size = K.2.1 + 1 + sh.length)) (as.map (er_cv K)) :=
  ⟨er_blind, fun U hU hw => ⟨rfl, ⟨by rw [hU]; exact hW.1, va_K.moved hw.alike hW.2⟩, er_X_at C.2.2.2.2.2.2.2.2.1 C.2.2.2.2.2.2.2.2.2 hS hU hw, by rw [hU]; exact hsz⟩⟩
def er_fits (i j : er_I) : Prop := j.2.2.2.2.frames + 1 ≤ i.2.2.2.2.frames ∧ 8 + (j.2.2.1 + 11) + j.2.2.2.2.locals ≤ i.2.2.2.2.locals
theorem er_callV {idx n b ci N : Nat} {As : List er_V} {rs : List (Option Nat)} {stk : List er_V} {Q : er_Post} (hM : Cond.methodLink i.1.cls idx j.1 ∈ er_tb ∧ Cond.instanceMethod j.1 ∈ er_tb ∧ Cond.selects j.1.cls j.1 j.1 ∈ er_tb) (hw : er_MW j) (hm : er_MD j n) (hst : stk = As.reverse ++ .inr b :: st) (hn : As.length = n) (h8 : st.length ≤ 8) (hb : er_at sh b = some (ci + 5, N, rs)) (hcl : (er_cl[ci]?).map (fun q => q.1) = some j.1.cls) (hR : er_fits i j) (hf : uc + j.2.2.2.2.cells ≤ i.2.2.2.2.cells ∧ us + j.2.2.2.2.slots ≤ i.2.2.2.2.slots) (hd : decode i.2.1 pc = .ok (.invokevirtual idx, 3)) (hS : er_Spec K j (.inr b :: As) sh m Q) (kk : ∀ v sh' m', Q v sh' m' → er_WP K i (uc + j.2.2.2.2.cells) (us + j.2.2.2.2.slots) sh' m' (pc + 3) ls (v.toList ++ st) Z) : er_WP K i uc us sh m pc ls stk Z := by
  have hS0 := hS
  subst hst
  intro p e s mm args below meth c1 H locs la C hz hW hS hl T hT X
  have hsz := er_size C.2.2.2.2.2.2.2.2.1 hz hW hS hT X
  have e2 := er_ws_at (K := K) (m := m) hb
  rw [er_cell_obj] at e2
  obtain ⟨q, hq⟩ : ∃ q, er_cl[ci]? = some q := by
    cases h : er_cl[ci]? with
    | none => rw [h] at hcl; cases hcl
    | some q => exact ⟨q, rfl⟩
  rw [hq] at hcl
  have hcl : q.1 = j.1.cls := Option.some.inj hcl
  have cw : CallW i.2.2.2.2 s args i.1.cls j.1.cls idx j.1 j.2.1 j.2.2.1 j.2.2.2.1 (er_wd j) j.2.2.2.2 j.2.2.2.2.cells j.2.2.2.2.slots n :=
    cwV n C.2.2.2.2.2.2.2.1 (er_gi (fun w h => by
      rcases List.mem_append.mp h with h | h
      · simp only [List.mem_cons, List.not_mem_nil, or_false] at h
        rcases h with rfl | rfl | rfl | rfl
        · exact hM.1
        · exact hM.2.1
        · exact hM.2.2
        · exact hw.2
      · exact er_wd_in hw w h)) rfl rfl rfl ⟨rfl, hm⟩ hR
  have hp := er_pre (as := .inr b :: As) C hsz hW hS
  have hrecv := va_recv (s := s) (H := H) hW.2 hW.1 hq e2
  rw [hcl, ← er_ad_at hb] at hrecv
  refine er_goes (j := j) (va_runV (As := As.map (er_cv K)) (rest := st.map (er_cv K)) ⟨C.1, C.2.1, C.2.2.1, C.2.2.2.2.2.2.1, C.2.2.2.2.2.2.2.1⟩ hS0 cw ⟨hp.1, hrecv, hp.2⟩ rfl (by rw [List.length_map]; exact hn) hl.1 (by simp [er_cv]) (er_rest8 h8) hd hf) hS (fun v sh' m' H1 locs1 hQ hW1 hz1 hS1 => ?_) T hT X
  have := kk v sh' m' hQ p e s mm args below meth c1 H1 locs1 la C (by omega) hW1 hS1 hl
  rw [List.map_append] at this
  cases v <;> exact this
theorem er_callS {idx n : Nat} {As : List er_V} {stk : List er_V} {Q : er_Post} (hM : Cond.methodLink i.1.cls idx j.1 ∈ er_tb ∧ Cond.static j.1 ∈ er_tb) (hown : j.1.cls = i.1.cls) (hw : er_MW j) (hm : er_MD j n) (hst : stk = As.reverse ++ st) (hn : As.length = n) (h8 : st.length ≤ 8) (hR : er_fits i j) (hf : uc + j.2.2.2.2.cells ≤ i.2.2.2.2.cells ∧ us + j.2.2.2.2.slots ≤ i.2.2.2.2.slots) (hd : decode i.2.1 pc = .ok (.invokestatic idx, 3)) (hS : er_Spec K j As sh m Q) (kk : ∀ v sh' m', Q v sh' m' → er_WP K i (uc + j.2.2.2.2.cells) (us + j.2.2.2.2.slots) sh' m' (pc + 3) ls (v.toList ++ st) Z) : er_WP K i uc us sh m pc ls stk Z := by
  have hS0 := hS
  subst hst
  intro p e s mm args below meth c1 H locs la C hz hW hS hl T hT X
  have hsz := er_size C.2.2.2.2.2.2.2.2.1 hz hW hS hT X
  have cw := cwS (R := i.2.2.2.2) (own := i.1.cls) (index := idx) (y := j.1) (bytes := j.2.1) (maxL := j.2.2.1) (ret := j.2.2.2.1) (ws := er_wd j) (rm := j.2.2.2.2) n C.2.2.2.2.2.2.2.1 (er_gi (fun w h => by
      rcases List.mem_append.mp h with h | h
      · simp only [List.mem_cons, List.not_mem_nil, or_false] at h
        rcases h with rfl | rfl | rfl
        · exact hM.1
        · exact hM.2
        · rw [← hown]; exact hw.2
      · exact er_wd_in hw w h)) rfl rfl rfl ⟨hown, hm⟩ hR
  refine er_goes (j := j) (va_runS (As := As.map (er_cv K)) (rest := st.map (er_cv K)) ⟨C.1, C.2.1, C.2.2.1, C.2.2.2.2.2.2.1, C.2.2.2.2.2.2.2.1⟩ hS0 cw (er_pre C hsz hW hS) rfl (by rw [List.length_map]; exact hn) hl.1 (by simp) (er_rest8 h8) hd hf) hS (fun v sh' m' H1 locs1 hQ hW1 hz1 hS1 => ?_) T hT X
  have := kk v sh' m' hQ p e s mm args below meth c1 H1 locs1 la C (by omega) hW1 hS1 hl
  rw [List.map_append] at this
  cases v <;> exact this
theorem er_callN {idx n : Nat} {host : String} {As : List er_V} {stk : List er_V} {Q : er_Post} (hM : (i.1.cls, idx, j.1, host) ∈ er_nw ∧ Cond.static j.1 ∈ er_tb) (hw : er_MW j) (hm : er_MD j n) (hst : stk = As.reverse ++ st) (hn : As.length = n) (h8 : st.length ≤ 8) (hR : er_fits i j) (hf : uc + j.2.2.2.2.cells ≤ i.2.2.2.2.cells ∧ us + j.2.2.2.2.slots ≤ i.2.2.2.2.slots) (hd : decode i.2.1 pc = .ok (.invokestatic idx, 3)) (hS : er_Spec K j As sh m Q) (kk : ∀ v sh' m', Q v sh' m' → er_WP K i (uc + j.2.2.2.2.cells) (us + j.2.2.2.2.slots) sh' m' (pc + 3) ls (v.toList ++ st) Z) : er_WP K i uc us sh m pc ls stk Z := by
  have hS0 := hS
  subst hst
  intro p e s mm args below meth c1 H locs la C hz hW hS hl T hT X
  have hsz := er_size C.2.2.2.2.2.2.2.2.1 hz hW hS hT X
  have hts := C.2.2.2.2.2.2.2.1
  have cw := va_cnB (R := i.2.2.2.2) (own := i.1.cls) (index := idx) (y := j.1) (host := host) (bytes := j.2.1) (maxL := j.2.2.1) (ret := j.2.2.2.1) (ws := er_wd j) (rm := j.2.2.2.2) n hts (er_gi (er_wd_in hw)) rfl rfl rfl (C.2.2.2.2.2.2.2.2.2.2.2.1 _ hM.1) (hts _ hw.2) hm hR
  refine er_goes (j := j) (va_runSN (As := As.map (er_cv K)) (rest := st.map (er_cv K)) ⟨C.1, C.2.1, C.2.2.1, C.2.2.2.2.2.2.1, C.2.2.2.2.2.2.2.1⟩ hS0 ⟨cw, hts _ hM.2, trivial⟩ (er_pre C hsz hW hS) rfl (by rw [List.length_map]; exact hn) hl.1 (by simp) (er_rest8 h8) hd hf) hS (fun v sh' m' H1 locs1 hQ hW1 hz1 hS1 => ?_) T hT X
  have := kk v sh' m' hQ p e s mm args below meth c1 H1 locs1 la C (by omega) hW1 hS1 hl
  rw [List.map_append] at this
  cases v <;> exact this
theorem er_callI {idx n b : Nat} {As : List er_V} {stk : List er_V} {Q : er_Post} (hM : Cond.methodLink i.1.cls idx j.1 ∈ er_tb ∧ Cond.instanceMethod j.1 ∈ er_tb) (hin : j.1.name = "<init>") (hret : j.2.2.2.1 = none) (hw : er_MW j) (hm : er_MD j n) (hst : stk = As.reverse ++ .inr b :: st) (hn : As.length = n) (h8 : st.length ≤ 8) (hR : er_fits i j) (hf : uc + j.2.2.2.2.cells ≤ i.2.2.2.2.cells ∧ us + j.2.2.2.2.slots ≤ i.2.2.2.2.slots) (hd : decode i.2.1 pc = .ok (.invokespecial idx, 3)) (hS : er_Spec K j (.inr b :: As) sh m Q) (kk : ∀ v sh' m', Q v sh' m' → er_WP K i (uc + j.2.2.2.2.cells) (us + j.2.2.2.2.slots) sh' m' (pc + 3) ls (v.toList ++ st) Z) : er_WP K i uc us sh m pc ls stk Z := by
  have hS0 := hS
  subst hst
  intro p e s mm args below meth c1 H locs la C hz hW hS hl T hT X
  have hsz := er_size C.2.2.2.2.2.2.2.2.1 hz hW hS hT X
  have hts := C.2.2.2.2.2.2.2.1
  have cw := cwI (R := i.2.2.2.2) (own := i.1.cls) (index := idx) (y := j.1) (bytes := j.2.1) (maxL := j.2.2.1) (ws := er_wd j) (rm := j.2.2.2.2) (ws' := er_tb) n hts (er_gi (er_wd_in hw)) (by unfold er_wd; rw [hret]) rfl rfl (hts _ hw.2) (hts _ hM.1) (hts _ hM.2) hin hm hR
  refine er_goes (j := j) (va_runI (b := er_ad K b) (As := As.map (er_cv K)) (rest := st.map (er_cv K)) ⟨C.1, C.2.1, C.2.2.1, C.2.2.2.2.2.2.1, C.2.2.2.2.2.2.2.1⟩ hS0 cw (er_pre (as := .inr b :: As) C hsz hW hS) rfl (by rw [List.length_map]; exact hn) hl.1 (by simp [er_cv]) (er_rest8 h8) hd hf) hS (fun v sh' m' H1 locs1 hQ hW1 hz1 hS1 => ?_) T hT X
  have := kk v sh' m' hQ p e s mm args below meth c1 H1 locs1 la C (by omega) hW1 hS1 hl
  rw [List.map_append] at this
  cases v <;> exact this
theorem er_obj {idx b : Nat} (hM : Cond.methodLink i.1.cls idx objectInit ∈ er_tb ∧ Cond.instanceMethod objectInit ∈ er_tb ∧ Cond.code objectInit ⟨#[0xb1]⟩ 1 none ∈ er_tb) (h8 : st.length ≤ 8) (hR : 1 ≤ i.2.2.2.2.frames ∧ 20 ≤ i.2.2.2.2.locals) (hd : decode i.2.1 pc = .ok (.invokespecial idx, 3)) (kk : er_WP K i uc us sh m (pc + 3) ls st Z) : er_WP K i uc us sh m pc ls (.inr b :: st) Z := by
  intro p e s mm args below meth c1 H locs la C hz hW hS hl
  have hts := C.2.2.2.2.2.2.2.1
  refine W.objInit (a := er_ad K b) (rest := st.map (er_cv K)) C.1 C.2.1 C.2.2.2.2.2.2.1 (hts _ hM.1) (hts _ hM.2.1) (hts _ hM.2.2) rfl (by rw [C.2.2.1]; exact hl.1) rfl hd hR.1 ?_ (kk p e s mm args below meth c1 H locs la C hz hW hS hl)
  have := er_rest8 (K := K) (pc := pc) (mm := mm) (la := la) (stk := (Sum.inr b :: st).map (er_cv K)) h8
  have h20 := hR.2
  omega
theorem er_ret_fr {s t : State} {H : Heap} {locs : List Loc} (hS : va_S (er_A K) s.heap H locs) (ht : t.heap = H) : va_F (er_A K) s t := hS.F ht
theorem er_qc {p : Program} {s : State} {mm : MethodId} {meth : Method} {c : Code} {args : Array Value} {H : Heap} {locs : List Loc} {Q : er_Post} {v : Option er_V} (C : er_Cx K i p mm meth c s args) (hz : K.2.1 + 1 + sh.length = s.heap.size + uc) (hu : uc = i.2.2.2.2.cells) (hW : er_W K sh m s H) (hS : va_S (er_A K) s.heap H locs) (hq : Q v sh m) : ∀ t : State, t.heap = H → s.WarmedH t.vm → er_Qc K i Q args s (.returned (v.map (er_cv K))) t :=
  fun t ht hw => ⟨⟨v, sh, m, rfl, hq, ⟨by rw [ht]; exact hW.1, va_K.moved hw.alike hW.2⟩, by omega⟩, hS.F ht⟩
theorem er_iret {x : Int} {Q : er_Post} (hret : i.2.2.2.1 = some .int) (hu : uc = i.2.2.2.2.cells) (hu2 : us ≤ i.2.2.2.2.slots) (hd : decode i.2.1 pc = .ok (.ireturn, 1)) (hq : Q (some (.inl x)) sh m) : er_WP K i uc us sh m pc ls [.inl x] (er_Z K i Q) := by
  intro p e s mm args below meth c1 H locs la C hz hW hS hl
  refine W.widen (k := i.2.2.2.2.cells) (n := i.2.2.2.2.slots) (by omega) hu2 ?_
  exact W.iret (v := Int32.ofInt x) C.1 C.2.1 (C.2.2.2.1.trans hret) (er_qc (v := some (.inl x)) C hz hu hW hS hq) hS.2.2 hd C.2.2.2.2.1
theorem er_zret {x : Int} {Q : er_Post} (hret : i.2.2.2.1 = some .boolean) (hx : x = 0 ∨ x = 1) (hu : uc = i.2.2.2.2.cells) (hu2 : us ≤ i.2.2.2.2.slots) (hd : decode i.2.1 pc = .ok (.ireturn, 1)) (hq : Q (some (.inl x)) sh m) : er_WP K i uc us sh m pc ls [.inl x] (er_Z K i Q) := by
  intro p e s mm args below meth c1 H locs la C hz hW hS hl
  refine W.widen (k := i.2.2.2.2.cells) (n := i.2.2.2.2.slots) (by omega) hu2 ?_
  exact W.zret (v := Int32.ofInt x) C.1 C.2.1 (C.2.2.2.1.trans hret) (by rcases hx with rfl | rfl <;> rfl) (er_qc (v := some (.inl x)) C hz hu hW hS hq) hS.2.2 hd C.2.2.2.2.1
theorem er_vret {Q : er_Post} (hret : i.2.2.2.1 = none) (hu : uc = i.2.2.2.2.cells) (hu2 : us ≤ i.2.2.2.2.slots) (hd : decode i.2.1 pc = .ok (.return_, 1)) (hq : Q none sh m) : er_WP K i uc us sh m pc ls [] (er_Z K i Q) := by
  intro p e s mm args below meth c1 H locs la C hz hW hS hl
  refine W.widen (k := i.2.2.2.2.cells) (n := i.2.2.2.2.slots) (by omega) hu2 ?_
  exact W.vret C.1 C.2.1 (C.2.2.2.1.trans hret) (er_qc (v := none) C hz hu hW hS hq) hS.2.2 hd C.2.2.2.2.1
theorem er_aret {r : Nat} {Q : er_Post} {nm : String} (hret : i.2.2.2.1 = some (.object nm)) (hu : uc = i.2.2.2.2.cells) (hu2 : us ≤ i.2.2.2.2.slots) (hd : decode i.2.1 pc = .ok (.areturn, 1)) (hq : Q (some (.inr r)) sh m) : er_WP K i uc us sh m pc ls [.inr r] (er_Z K i Q) := by
  intro p e s mm args below meth c1 H locs la C hz hW hS hl
  refine W.widen (k := i.2.2.2.2.cells) (n := i.2.2.2.2.slots) (by omega) hu2 ?_
  exact W.aret (v := .ref (er_ad K r)) C.1 C.2.1 (C.2.2.2.1.trans hret) (Or.inl ⟨_, rfl⟩) (Or.inr ⟨_, rfl⟩) (er_qc (v := some (.inr r)) C hz hu hW hS hq) hS.2.2 hd C.2.2.2.2.1
theorem er_sl_len (as : List er_V) : (lg_sl (as.map (er_cv K))).length = as.length := by
  induction as with
  | nil => rfl
  | cons a t ih =>
    simp only [lg_sl, List.map_cons, List.flatMap_cons, er_cat] at ih ⊢
    simp [ih]
theorem er_args_mem {q : Nat × Value} : ∀ (as : List er_V) (n k : Nat), q ∈ er_lv K n (as.map some ++ List.replicate k none) → q ∈ lv_args n (as.map (er_cv K)) := by
  intro as
  induction as with
  | nil =>
    intro n k h
    exfalso
    obtain ⟨j, v, h1, -⟩ := er_lv_mem _ _ h
    rw [List.map_nil, List.nil_append, List.getElem?_replicate] at h1
    split at h1 <;> simp at h1
  | cons a t ih =>
    intro n k h
    rcases List.mem_cons.mp h with h | h
    · rw [h]
      exact List.mem_cons_self
    · have := ih (n + 1) k h
      simp only [List.map_cons, lv_args, er_cat]
      exact List.mem_cons_of_mem _ this
theorem er_start {as : List er_V} {Q : er_Post} (hpl : plainName i.1.cls = true) (hn : as.length ≤ i.2.2.1) (k : er_WP K i 0 0 sh m 0 (as.map some ++ List.replicate (i.2.2.1 - as.length) none) [] (er_Z K i Q)) : er_Spec K i as sh m Q := by
  refine Met.ofW (cc := i.2.1) (maxL := i.2.2.1) (ret := i.2.2.2.1) (ws' := er_tb) hpl rfl ?_
  intro p e s mm args below meth c s₁ B hml hv
  obtain ⟨rfl, hW, hX, hsz⟩ := hv
  have hts := atoms_spec (ws := er_wd i) B.pre
  have hl := lv_entry (as.map (er_cv K)) (n := i.2.2.1) (by rw [er_sl_len]; exact hn)
  rw [lg_entry_eq]
  refine k p e s mm _ below meth c s.heap [] _ ⟨B.exec, B.bytes, hml, B.returns, B.notSynchronized, (name_of_methodNamed B.named B.method).1, findClass_of_methodNamed B.named, fun w hw => hts w (List.mem_cons_of_mem _ hw), by omega, hX⟩ (by omega) hW va_S.rf ⟨hl.1, hl.2.1, fun q hq => hl.2.2 q (er_args_mem as 0 _ hq)⟩
theorem er_tabAt {dflt lo hi : Int} {offs : Array Int} {len tgt : Nat} {off x : Int} (n : Int) (hx : x = n) (hi2 : er_in n) (h1 : lo ≤ n) (h2 : n ≤ hi) (ho : offs[(n - lo).toNat]? = some off) (ht : (pc : Int) + off = (tgt : Int)) (hd : decode i.2.1 pc = .ok (.tableswitch dflt lo hi offs, len)) (k : er_WP K i uc us sh m tgt ls st Z) : er_WP K i uc us sh m pc ls (.inl x :: st) Z := by
  subst hx
  intro p e s mm args below meth c1 H locs la C hz hW hS hl
  exact lv_tableIn C.1 C.2.1 hd (by rw [er_toInt hi2]; omega) (by rw [er_toInt hi2]; omega) (by rw [er_toInt hi2]; exact ho) ht (k p e s mm args below meth c1 H locs la C hz hW hS hl)
theorem er_tabOut {dflt lo hi : Int} {offs : Array Int} {len tgt : Nat} {x : Int} (hi2 : er_in x) (h1 : x < lo ∨ hi < x) (ht : (pc : Int) + dflt = (tgt : Int)) (hd : decode i.2.1 pc = .ok (.tableswitch dflt lo hi offs, len)) (k : er_WP K i uc us sh m tgt ls st Z) : er_WP K i uc us sh m pc ls (.inl x :: st) Z := by
  intro p e s mm args below meth c1 H locs la C hz hW hS hl
  exact lv_tableOut C.1 C.2.1 hd (by rw [er_toInt hi2]; exact h1) ht (k p e s mm args below meth c1 H locs la C hz hW hS hl)
theorem er_look {dflt : Int} {ps : Array (Int × Int)} {len tgt : Nat} {off x : Int} (hi2 : er_in x) (hp : (ps.toList.zip (ps.toList.drop 1)).all (fun (a, next) => a.1 < next.1) = true) (ho : Op.lookupswitch.offset ps.toList dflt x = off) (ht : (pc : Int) + off = (tgt : Int)) (hd : decode i.2.1 pc = .ok (.lookupswitch dflt ps, len)) (k : er_WP K i uc us sh m tgt ls st Z) : er_WP K i uc us sh m pc ls (.inl x :: st) Z := by
  intro p e s mm args below meth c1 H locs la C hz hW hS hl
  exact lv_lookup C.1 C.2.1 hd hp (by rw [er_toInt hi2]; exact ho) ht (k p e s mm args below meth c1 H locs la C hz hW hS hl)
theorem er_min {idx : Nat} {x y : Int} (hM : Cond.methodLink i.1.cls idx Lib.Math.min.name ∈ er_tb ∧ Cond.static Lib.Math.min.name ∈ er_tb ∧ Cond.initialized "java/lang/Math" ∈ er_tb ∧ Cond.code Lib.Math.min.name Lib.Math.min.code 2 (some .int) ∈ er_tb) (hx : er_in x) (hy : er_in y) (h8 : st.length ≤ 8) (hR : 1 ≤ i.2.2.2.2.frames ∧ 21 ≤ i.2.2.2.2.locals) (hu : uc ≤ i.2.2.2.2.cells ∧ us ≤ i.2.2.2.2.slots) (hd : decode i.2.1 pc = .ok (.invokestatic idx, 3)) (kk : er_WP K i uc us sh m (pc + 3) ls (.inl (min x y) :: st) Z) : er_WP K i uc us sh m pc ls (.inl y :: .inl x :: st) Z := by
  intro p e s mm args below meth c1 H locs la C hz hW hS hl
  have hts := C.2.2.2.2.2.2.2.1
  have h := kk p e s mm args below meth c1 H locs la C hz hW hS hl
  refine va_mmin C.1 C.2.1 (C.2.2.1.trans hl.1.symm) C.2.2.2.2.2.2.1 (hts _ hM.1) (hts _ hM.2.1) (hts _ hM.2.2.1) (hts _ hM.2.2.2) hR.1 (by rw [er_catsum]; have := hR.2; omega) hu.1 hu.2 hd ?_
  have e1 : (if Int32.ofInt y < Int32.ofInt x then Int32.ofInt y else Int32.ofInt x) = Int32.ofInt (min x y) := by
    by_cases hc : y < x
    · rw [if_pos ((er_ofInt_lt hy hx).mpr hc)]
      congr 1
      omega
    · rw [if_neg (fun z => hc ((er_ofInt_lt hy hx).mp z))]
      congr 1
      omega
  rw [e1]
  exact h
theorem er_abs {idx : Nat} {x : Int} (hM : Cond.methodLink i.1.cls idx Lib.Math.abs.name ∈ er_tb ∧ Cond.static Lib.Math.abs.name ∈ er_tb ∧ Cond.initialized "java/lang/Math" ∈ er_tb ∧ Cond.code Lib.Math.abs.name Lib.Math.abs.code 1 (some .int) ∈ er_tb) (hx : er_in x) (h8 : st.length ≤ 8) (hR : 1 ≤ i.2.2.2.2.frames ∧ 21 ≤ i.2.2.2.2.locals) (hu : uc ≤ i.2.2.2.2.cells ∧ us ≤ i.2.2.2.2.slots) (hd : decode i.2.1 pc = .ok (.invokestatic idx, 3)) (kk : er_WP K i uc us sh m (pc + 3) ls (.inl (max x (-x)) :: st) Z) : er_WP K i uc us sh m pc ls (.inl x :: st) Z := by
  intro p e s mm args below meth c1 H locs la C hz hW hS hl
  have hts := C.2.2.2.2.2.2.2.1
  have h := kk p e s mm args below meth c1 H locs la C hz hW hS hl
  refine va_mabs C.1 C.2.1 (C.2.2.1.trans hl.1.symm) C.2.2.2.2.2.2.1 (hts _ hM.1) (hts _ hM.2.1) (hts _ hM.2.2.1) (hts _ hM.2.2.2) hR.1 (by rw [er_catsum]; have := hR.2; omega) hu.1 hu.2 hd ?_
  have e1 : (if 0 ≤ Int32.ofInt x then Int32.ofInt x else 0 - Int32.ofInt x) = Int32.ofInt (max x (-x)) := by
    by_cases hc : 0 ≤ x
    · rw [if_pos (by rw [← er_zero]; exact (er_ofInt_le ⟨by omega, by omega⟩ hx).mpr hc)]
      congr 1
      omega
    · rw [if_neg (fun z => hc (by rw [← er_zero] at z; exact (er_ofInt_le ⟨by omega, by omega⟩ hx).mp z)), ← er_zero, ← Int32.ofInt_sub]
      congr 1
      omega
  rw [e1]
  exact h
theorem er_copy {idx k na nb a b : Nat} {ra rb : List (Option Nat)} {n : Int} (hM : Cond.methodLink i.1.cls idx arraycopyName ∈ er_tb ∧ Cond.native arraycopyName ∈ er_tb ∧ Cond.static arraycopyName ∈ er_tb ∧ Cond.initialized "java/lang/System" ∈ er_tb) (hk : k < 2) (ha : er_at sh a = some (k, na, ra)) (hb : er_at sh b = some (k, nb, rb)) (h0 : 0 ≤ n) (h1 : n ≤ na) (h2 : n ≤ nb) (h3 : n < 2147483648) (hfit : k = 1 → ∀ j : Int, 0 ≤ j → j < n → m a j = 0 ∨ m a j = 1) (h8 : st.length ≤ 8) (hR : 1 ≤ i.2.2.2.2.frames ∧ 26 ≤ i.2.2.2.2.locals) (hd : decode i.2.1 pc = .ok (.invokestatic idx, 3)) (kk : er_WP K i uc us sh (er_cpy m a b n) (pc + 3) ls st Z) : er_WP K i uc us sh m pc ls (.inl n :: .inl 0 :: .inr b :: .inl 0 :: .inr a :: st) Z := by
  intro p e s mm args below meth c1 H locs la C hz hW hS hl
  have hts := C.2.2.2.2.2.2.2.1
  have e1 := er_ws_at (K := K) (m := m) ha
  rw [er_cell_n _ _ _ _ _ _ (by omega)] at e1
  have e2 := er_ws_at (K := K) (m := m) hb
  rw [er_cell_n _ _ _ _ _ _ (by omega)] at e2
  have hn : er_in n := ⟨by omega, h3⟩
  have g2 : (Int32.ofInt n).toNatClampNeg = n.toNat := by rw [← Int32.toNat_toInt, er_toInt hn]
  have g0 : (Int32.ofInt 0).toNatClampNeg = 0 := by decide
  show W _ _ _ _ _ _ _ _ _ _ _ _ _ _ _ (F0 mm pc la (.int (Int32.ofInt n) :: .int (Int32.ofInt 0) :: .ref (er_ad K b) :: .int (Int32.ofInt 0) :: .ref (er_ad K a) :: st.map (er_cv K)))
  rw [er_ad_at ha, er_ad_at hb]
  have hty : (er_tys K)[k]? = some (K.2.2.2.1 k, er_ty k) := by
    rcases (by omega : k = 0 ∨ k = 1) with rfl | rfl <;> rfl
  refine va_copyi (ty := er_ty k) C.1 C.2.1 (C.2.2.1.trans hl.1.symm) C.2.2.2.2.2.2.1 (hts _ hM.1) (hts _ hM.2.1) (hts _ hM.2.2.1) (hts _ hM.2.2.2) hW.2 hW.1 (er_ws_D K sh m) hS (a - 1) (b - 1) k k e1 e2 hty hty ?_ (by decide) (by decide) ?_ (by rw [g0, g2]; omega) (by rw [g0, g2]; omega) ?_ hR.1 ?_ hd (fun H1 locs1 hP1 _ hS1 => ?_)
  · rcases (by omega : k = 0 ∨ k = 1) with rfl | rfl <;> rfl
  · intro h
    rw [← er_zero, er_ofInt_lt hn ⟨by omega, by omega⟩] at h
    omega
  · intro q hq
    rw [g0, Nat.zero_add]
    rw [g2] at hq
    rcases (by omega : k = 0 ∨ k = 1) with rfl | rfl
    · rfl
    · rcases hfit rfl q (by omega) (by omega) with h | h <;> rw [h] <;> rfl
  · rw [er_catsum]
    have e5 : nativeFrameWords "java/lang/System" "arraycopy" 5 = 7 := by decide
    rw [e5]
    have := hR.2
    omega
  · rw [g0, g2] at hP1
    have e4 : va_cpy (fun j : Nat => Int32.ofInt (m a j)) (fun j : Nat => Int32.ofInt (m b j)) 0 0 n.toNat = fun j : Nat => Int32.ofInt (er_cpy m a b n b j) := by
      funext q
      unfold va_cpy er_cpy
      by_cases hq : q < n.toNat
      · rw [if_pos ⟨Nat.zero_le _, by omega⟩, if_pos ⟨rfl, by omega, by omega⟩]
        simp
      · rw [if_neg (by omega), if_neg (by omega)]
    rw [e4, er_ws_up (m' := er_cpy m a b n) hb (er_cell_n _ _ _ _ _ _ (by omega)).symm (fun c' hc' => by funext q; simp [er_cpy, hc'])] at hP1
    exact kk p e s mm args below meth c1 H1 locs1 la C hz ⟨hP1, hW.2⟩ hS1 hl
end ER3
end
section
/-! what constructors do: new cells, final fields; the law's script -/
theorem er_ws_push (K : er_K) (sh : er_Sh) (m : er_M) (e : er_E) : er_ws K (sh ++ [e]) (er_clr m (sh.length + 1)) = er_ws K sh m ++ [(K.2.1 + (sh.length + 1), er_cell K (er_clr m (sh.length + 1)) (sh.length + 1) e)] := by
  apply List.ext_getElem?
  intro j
  rcases Nat.lt_trichotomy j sh.length with hj | hj | hj
  · rw [List.getElem?_append_left (by rw [er_ws_len]; exact hj)]
    simp only [er_ws, List.getElem?_map, List.getElem?_range hj, List.getElem?_range (show j < (sh ++ [e]).length by simp; omega), Option.map_some]
    have h1 : (sh ++ [e]).getD j (99, 0, []) = sh.getD j (99, 0, []) := by
      rw [List.getD_eq_getElem?_getD, List.getD_eq_getElem?_getD, List.getElem?_append_left hj]
    rw [h1]
    have h2 : er_clr m (sh.length + 1) (j + 1) = m (j + 1) := by
      funext q
      unfold er_clr
      rw [if_neg (by omega)]
    have : er_cell K (er_clr m (sh.length + 1)) (j + 1) (sh.getD j (99, 0, [])) = er_cell K m (j + 1) (sh.getD j (99, 0, [])) := by
      unfold er_cell er_fs er_fv
      simp only [h2]
    rw [this]
  · subst hj
    rw [List.getElem?_append_right (by rw [er_ws_len]; exact Nat.le_refl _), er_ws_len, Nat.sub_self]
    simp only [er_ws, List.getElem?_map, List.getElem?_range (show sh.length < (sh ++ [e]).length by simp), Option.map_some]
    have h1 : (sh ++ [e]).getD sh.length (99, 0, []) = e := by
      rw [List.getD_eq_getElem?_getD, List.getElem?_append_right (Nat.le_refl _), Nat.sub_self]
      rfl
    rw [h1]
    rfl
  · rw [List.getElem?_eq_none (by rw [er_ws_len]; simp; omega), List.getElem?_eq_none (by simp [er_ws_len]; omega)]
theorem er_ws_sr {K : er_K} {sh : er_Sh} {m : er_M} {c ci n k r : Nat} {rs : List (Option Nat)} (hc : er_at sh c = some (ci + 5, n, rs)) (hkl : k < rs.length) (hr : r ≠ 0) : (er_ws K sh m).set (c - 1) (K.2.1 + c, .inr (ci, (er_fs K m c n rs).set k (.ref (er_ad K r)))) = er_ws K (er_sr sh c k r) m := by
  obtain ⟨q, rfl, h1, h2⟩ := er_at_ne hc
  have hd : sh.getD q (99, 0, []) = (ci + 5, n, rs) := by rw [List.getD_eq_getElem?_getD, h1]; rfl
  have hs : er_sr sh (q + 1) k r = sh.set q (ci + 5, n, rs.set k (some r)) := by
    unfold er_sr
    simp only [hd]
  have hlen : (er_sr sh (q + 1) k r).length = sh.length := by rw [hs]; simp
  rw [Nat.add_sub_cancel]
  apply List.ext_getElem?
  intro j
  by_cases hj : j = q
  · subst hj
    rw [List.getElem?_set_self (by rw [er_ws_len]; exact h2)]
    have h5 : er_at (er_sr sh (j + 1) k r) (j + 1) = some (ci + 5, n, rs.set k (some r)) := by
      rw [hs]
      show (sh.set j _)[j]? = _
      rw [List.getElem?_set_self h2]
    have h6 := er_ws_at (K := K) (m := m) h5
    rw [Nat.add_sub_cancel, er_cell_obj] at h6
    rw [h6]
    congr 4
    refine er_fs_set ?_ (fun x _ hx => ?_)
    · rw [List.getD_eq_getElem?_getD, List.getElem?_set_self hkl]
      exact (er_ro_rf hr).symm
    · rw [List.getD_eq_getElem?_getD, List.getD_eq_getElem?_getD, List.getElem?_set_ne (Ne.symm hx)]
  · rw [List.getElem?_set_ne (Ne.symm hj)]
    by_cases hl : j < sh.length
    · simp only [er_ws, List.getElem?_map, hlen, List.getElem?_range hl, Option.map_some]
      have : (er_sr sh (q + 1) k r).getD j (99, 0, []) = sh.getD j (99, 0, []) := by
        rw [hs, List.getD_eq_getElem?_getD, List.getD_eq_getElem?_getD, List.getElem?_set_ne (Ne.symm hj)]
      rw [this]
    · rw [List.getElem?_eq_none (by rw [er_ws_len]; omega), List.getElem?_eq_none (by rw [er_ws_len, hlen]; omega)]
theorem er_W_push {K : er_K} {sh : er_Sh} {m : er_M} {s : State} {H H1 : Heap} {e : er_E} (hW : er_W K sh m s H) (hk : ∀ q, q < H.size → H1[q]? = H[q]?) (hn : va_at K.2.2.1 er_cl (K.2.1 + (sh.length + 1), er_cell K (er_clr m (sh.length + 1)) (sh.length + 1) e) H1) : er_W K (sh ++ [e]) (er_clr m (sh.length + 1)) s H1 := by
  refine ⟨?_, hW.2⟩
  rw [er_ws_push]
  refine va_P.app (hW.1.kept (fun k x hx => hk x.1 ((hW.1 k x hx).lt))) (fun k x hx => ?_)
  have hz : k < 1 := (List.getElem?_eq_some_iff.mp hx).1
  rw [show k = 0 by omega] at hx
  cases hx
  exact hn
theorem er_S_push {K : er_K} {H0 H H1 : Heap} {locs : List Loc} (hS : va_S (er_A K) H0 H locs) (hk : ∀ q, q < H.size → H1[q]? = H[q]?) (hz : H.size ≤ H1.size) : va_S (er_A K) H0 H1 locs :=
  ⟨Nat.le_trans hS.1 hz, fun x h1 h2 => (hk x (Nat.lt_of_lt_of_le h1 hS.1)).trans (hS.2.1 x h1 h2), hS.2.2⟩
section ER4
variable {K : er_K} {i : er_I} {uc us : Nat} {sh : er_Sh} {m : er_M} {pc : Nat} {ls : List (Option er_V)} {st : List er_V} {Z : List Frame → Array Value → State → State → Prop}
theorem er_newa {k : Nat} {n : Int} {atype : ArrayType} (hk : k < 3) (hat : newarray.typeOf atype = er_ty k) (harr : Cond.arrayClass (er_ty k) ∈ er_tb) (h0 : 0 ≤ n) (hn : n ≤ 10000) (hu : uc + 1 ≤ i.2.2.2.2.cells ∧ us + n.toNat ≤ i.2.2.2.2.slots) (hd : decode i.2.1 pc = .ok (.newarray atype, 2)) (kk : er_WP K i (uc + 1) (us + n.toNat) (sh ++ [(k, n.toNat, [])]) (er_clr m (sh.length + 1)) (pc + 2) ls (.inr (sh.length + 1) :: st) Z) : er_WP K i uc us sh m pc ls (.inl n :: st) Z := by
  intro p e s mm args below meth c1 H locs la C hz hW hS hl T hT X
  have hsz := er_size C.2.2.2.2.2.2.2.2.1 hz hW hS hT X
  have hts := C.2.2.2.2.2.2.2.1
  have hin : er_in n := ⟨by omega, by omega⟩
  have g2 : (Int32.ofInt n).toNatClampNeg = n.toNat := by rw [← Int32.toNat_toInt, er_toInt hin]
  refine va_newaK (g := F0 mm pc la ((Sum.inl n :: st).map (er_cv K))) (n := Int32.ofInt n) (rest := st.map (er_cv K)) C.1 C.2.1 (atype := atype) (by rw [hat]; exact hts _ harr) rfl hd rfl (N := n.toNat) ?_ g2 ?_ hu.1 hu.2 hsz (fun H' cA e1 z1 o1 hAr hNm => ?_) T hT X
  · intro h
    rw [← er_zero, er_ofInt_lt hin ⟨by omega, by omega⟩] at h
    omega
  · rw [hat]
    have : componentBytes (er_ty k) ≤ 8 := by rcases (by omega : k = 0 ∨ k = 1 ∨ k = 2) with rfl | rfl | rfl <;> decide
    have h2 : n.toNat * componentBytes (er_ty k) ≤ 10000 * 8 := Nat.mul_le_mul (by omega) this
    omega
  · rw [hat] at e1 hNm
    have hcA : cA = K.2.2.2.1 k := by
      rcases (by omega : k = 0 ∨ k = 1 ∨ k = 2) with rfl | rfl | rfl
      · exact Option.some.inj (hNm.symm.trans (hW.2.2 0 (_, .int) rfl).2)
      · exact Option.some.inj (hNm.symm.trans (hW.2.2 1 (_, .boolean) rfl).2)
      · exact Option.some.inj (hNm.symm.trans (hW.2.2 2 (_, .byte) rfl).2)
    subst hcA
    have hd0 : defaultValue (er_ty k) = .int 0 := by rcases (by omega : k = 0 ∨ k = 1 ∨ k = 2) with rfl | rfl | rfl <;> rfl
    rw [hd0, show K.2.1 + 1 + sh.length = K.2.1 + (sh.length + 1) by omega] at e1
    have o2 : ∀ q, q < H.size → H'[q]? = H[q]? := fun q hq => o1 q (by omega)
    have hW1 : er_W K (sh ++ [(k, n.toNat, [])]) (er_clr m (sh.length + 1)) s H' := by
      refine er_W_push hW o2 ?_
      rw [er_cell_n _ _ _ _ _ _ hk]
      show H'[K.2.1 + (sh.length + 1)]? = some (vp_cell _ _)
      rw [vp_cell_i, e1]
      congr 2
      funext j
      unfold er_clr
      rw [if_pos rfl, er_zero]
    have := kk p e s mm args below meth c1 H' locs la C (by simp; omega) hW1 (er_S_push hS o2 (by omega)) hl
    rw [show K.2.1 + 1 + sh.length = er_ad K (sh.length + 1) by unfold er_ad; rw [if_neg (by omega)]; omega]
    exact this
theorem er_new {idx ci N : Nat} {C0 : String} {T0 : u_T} {t0 : Nat → FieldType} {rs0 : List (Option Nat)} (hcl : er_cl[ci]? = some (C0, T0, N)) (hin : ∀ w ∈ u_ws C0 T0 N, w ∈ er_tb) (hty : ∀ k, k < N → parseFieldDescriptor (T0 k).2.2.1 = some (t0 k)) (hM : Cond.classLink i.1.cls idx C0 ∈ er_tb ∧ Cond.instantiable C0 N ∈ er_tb ∧ Cond.initialized C0 ∈ er_tb) (hrs : ∀ j, j < N → (rs0.getD j none = none ∧ defaultValue (t0 j) = .int 0) ∨ (rs0.getD j none = some 0 ∧ defaultValue (t0 j) = .null)) (hu : uc + 1 ≤ i.2.2.2.2.cells ∧ us + N ≤ i.2.2.2.2.slots) (hd : decode i.2.1 pc = .ok (.new idx, 3)) (kk : er_WP K i (uc + 1) (us + N) (sh ++ [(ci + 5, N, rs0)]) (er_clr m (sh.length + 1)) (pc + 3) ls (.inr (sh.length + 1) :: st) Z) : er_WP K i uc us sh m pc ls st Z := by
  intro p e s mm args below meth c1 H locs la C hz hW hS hl T hT X
  have hsz := er_size C.2.2.2.2.2.2.2.2.1 hz hW hS hT X
  have hts := C.2.2.2.2.2.2.2.1
  have hKn := hW.2.1 ci _ hcl
  refine W.newcK (g := F0 mm pc la (st.map (er_cv K))) C.1 C.2.1 C.2.2.2.2.2.2.1 (hts _ hM.1) (hts _ hM.2.1) (hts _ hM.2.2) rfl hd hu.1 hu.2 hKn.2.1 hsz (fun H' kC hkC e1 z1 o1 => ?_) T hT X
  have o2 : ∀ q, q < H.size → H'[q]? = H[q]? := fun q hq => o1 q (by omega)
  rw [show K.2.1 + 1 + sh.length = K.2.1 + (sh.length + 1) by omega] at e1
  have hW1 : er_W K (sh ++ [(ci + 5, N, rs0)]) (er_clr m (sh.length + 1)) s H' := by
    refine er_W_push hW o2 ?_
    rw [er_cell_obj]
    refine ⟨_, hcl, (u_born t0 hts hin hKn hkC e1 hty).to (fun j hj => ?_)⟩
    show defaultValue (t0 j) = (er_fs K _ _ N rs0).getD j .null
    rw [List.getD_eq_getElem?_getD, er_fs_get hj]
    show _ = er_fv K _ _ j (rs0.getD j none)
    rcases hrs j hj with ⟨h1, h2⟩ | ⟨h1, h2⟩
    · rw [h1, h2]
      show Value.int 0 = Value.int (Int32.ofInt (er_clr m (sh.length + 1) (sh.length + 1) j))
      unfold er_clr
      rw [if_pos rfl, er_zero]
    · rw [h1, h2]
      rfl
  have := kk p e s mm args below meth c1 H' locs la C (by simp; omega) hW1 (er_S_push hS o2 (by omega)) hl
  rw [show K.2.1 + 1 + sh.length = er_ad K (sh.length + 1) by unfold er_ad; rw [if_neg (by omega)]; omega]
  exact this
theorem er_newq {idx k : Nat} {n : Int} {C0 : String} (hk : k = 3 ∧ C0 = "EscapeRouter$Board" ∨ k = 4 ∧ C0 = "EscapeRouter$Layering") (hM : Cond.classLink i.1.cls idx C0 ∈ er_tb) (h0 : 0 ≤ n) (hn : n ≤ 10000) (hu : uc + 1 ≤ i.2.2.2.2.cells ∧ us + n.toNat ≤ i.2.2.2.2.slots) (hd : decode i.2.1 pc = .ok (.anewarray idx, 3)) (kk : er_WP K i (uc + 1) (us + n.toNat) (sh ++ [(k, n.toNat, [])]) (er_clr m (sh.length + 1)) (pc + 3) ls (.inr (sh.length + 1) :: st) Z) : er_WP K i uc us sh m pc ls (.inl n :: st) Z := by
  intro p e s mm args below meth c1 H locs la C hz hW hS hl T hT X
  have hsz := er_size C.2.2.2.2.2.2.2.2.1 hz hW hS hT X
  have hts := C.2.2.2.2.2.2.2.1
  have hin : er_in n := ⟨by omega, by omega⟩
  have g2 : (Int32.ofInt n).toNatClampNeg = n.toNat := by rw [← Int32.toNat_toInt, er_toInt hin]
  have hover : va_AO C0 s := by
    rcases hk with ⟨-, rfl⟩ | ⟨-, rfl⟩
    · exact C.2.2.2.2.2.2.2.2.2.2.2.2.1
    · exact C.2.2.2.2.2.2.2.2.2.2.2.2.2
  refine W.anew (g := F0 mm pc la ((Sum.inl n :: st).map (er_cv K))) (n := Int32.ofInt n) (rest := st.map (er_cv K)) C.1 C.2.1 C.2.2.2.2.2.2.1 (hts _ hM) (va_AO.use hover) rfl hd rfl ?_ ?_ hu.1 (by rw [g2]; exact hu.2) (fun cA kA comp f1 f2 f3 f4 => ?_) T hT X
  · intro h
    rw [← er_zero, er_ofInt_lt hin ⟨by omega, by omega⟩] at h
    omega
  · rw [g2]
    omega
  · rw [g2]
    generalize hH1 : H.push ({ cls := cA, slots := Array.replicate n.toNat .null, vm := .none } : Cell) = H1
    have z1 : H1.size = H.size + 1 := by rw [← hH1, Array.size_push]
    have e1 : H1[H.size]? = some (arrV cA n.toNat (fun _ => .null)) := by rw [← hH1, Array.getElem?_push_size, ← arrV_new]
    have o2 : ∀ q : Nat, q < H.size → H1[q]? = H[q]? := fun q hq => by rw [← hH1, Array.getElem?_push, if_neg (Nat.ne_of_lt hq)]
    rw [hsz, show K.2.1 + 1 + sh.length = K.2.1 + (sh.length + 1) by omega] at e1
    have hcA : cA = K.2.2.2.1 k := by
      rcases hk with ⟨rfl, rfl⟩ | ⟨rfl, rfl⟩
      · obtain ⟨_, _, _, _, _, h4⟩ := (hW.2.2 3 (_, .object "EscapeRouter$Board") rfl).2
        exact Option.some.inj (f1.symm.trans h4)
      · obtain ⟨_, _, _, _, _, h4⟩ := (hW.2.2 4 (_, .object "EscapeRouter$Layering") rfl).2
        exact Option.some.inj (f1.symm.trans h4)
    subst hcA
    have hW1 : er_W K (sh ++ [(k, n.toNat, [])]) (er_clr m (sh.length + 1)) s H1 := by
      refine er_W_push hW o2 ?_
      rw [er_cell_q _ _ _ _ _ _ (by omega) (by omega)]
      show H1[K.2.1 + (sh.length + 1)]? = some (vp_cell _ _)
      rw [vp_cell_q, e1]
      congr 2
      funext j
      unfold er_clr
      rw [if_pos rfl]
      rfl
    have := kk p e s mm args below meth c1 H1 locs la C (by simp; omega) hW1 (er_S_push hS o2 (by omega)) hl
    rw [hsz, show K.2.1 + 1 + sh.length = er_ad K (sh.length + 1) by unfold er_ad; rw [if_neg (by omega)]; omega]
    exact this
theorem er_putFR {index ci k n c r : Nat} {rs : List (Option Nat)} {ty : FieldType} (hf : er_FL i.1.cls index ci k true ty) (hin : i.1.name = "<init>") (hown : (er_cl[ci]?).map (fun q => q.1) = some i.1.cls) (hc : er_at sh c = some (ci + 5, n, rs)) (hk : k < n) (hkl : k < rs.length) (hr0 : r ≠ 0) (hn : ∀ a, narrow ty (.ref a) = .ref a ∧ fits ty (.ref a) = true) (hd : decode i.2.1 pc = .ok (.putfield index, 3)) (kk : er_WP K i uc us (er_sr sh c k r) m (pc + 3) ls st Z) : er_WP K i uc us sh m pc ls (.inr r :: .inr c :: st) Z := by
  obtain ⟨C0, T, N, t0, h1, h2, h3, h4, h5, h6, h7, h8, h9⟩ := hf
  intro p e s mm args below meth c1 H locs la C hz hW hS hl
  have e1 := er_ws_at (K := K) (m := m) hc
  rw [er_cell_obj] at e1
  show W _ _ _ _ _ _ _ _ _ _ _ _ _ _ _ (F0 mm pc la (.ref (er_ad K r) :: .ref (er_ad K c) :: st.map (er_cv K)))
  rw [er_ad_at hc]
  have hdecl : (T k).1 = i.1.cls := by
    rw [h1] at hown
    rw [h9]
    exact Option.some.inj hown
  refine va_putF C.1 C.2.1 C.2.2.2.2.2.2.2.1 h3 t0 h5 h6 C.2.2.2.2.2.2.1 hW.2 hW.1 (er_ws_D K sh m) hS (c - 1) e1 h1 k h2 (C.2.2.2.2.2.2.2.1 _ h4) (fun _ h => h) h7 (C.2.2.2.2.2.1.trans hin) hdecl (ty := ty) (v := .ref (er_ad K r)) (by rw [h5 k h2, h8]) (hn _).1 (hn _).2 (by simp [er_fs]; exact hk) hd (fun H1 locs1 hP1 hD1 hS1 => ?_)
  rw [er_ws_sr hc hkl hr0] at hP1
  have hlen : (er_sr sh c k r).length = sh.length := by
    obtain ⟨q, rfl, -⟩ := er_at_ne hc
    unfold er_sr
    simp
  exact kk p e s mm args below meth c1 H1 locs1 la C (by rw [hlen]; exact hz) ⟨hP1, hW.2⟩ hS1 hl
theorem er_putFI {index ci k n c : Nat} {rs : List (Option Nat)} {x : Int} (hf : er_FL i.1.cls index ci k true .int) (hin : i.1.name = "<init>") (hown : (er_cl[ci]?).map (fun q => q.1) = some i.1.cls) (hc : er_at sh c = some (ci + 5, n, rs)) (hk : k < n) (hr : rs.getD k none = none) (hd : decode i.2.1 pc = .ok (.putfield index, 3)) (kk : er_WP K i uc us sh (er_st m c k x) (pc + 3) ls st Z) : er_WP K i uc us sh m pc ls (.inl x :: .inr c :: st) Z := by
  obtain ⟨C0, T, N, t0, h1, h2, h3, h4, h5, h6, h7, h8, h9⟩ := hf
  intro p e s mm args below meth c1 H locs la C hz hW hS hl
  have e1 := er_ws_at (K := K) (m := m) hc
  rw [er_cell_obj] at e1
  show W _ _ _ _ _ _ _ _ _ _ _ _ _ _ _ (F0 mm pc la (.int (Int32.ofInt x) :: .ref (er_ad K c) :: st.map (er_cv K)))
  rw [er_ad_at hc]
  have hdecl : (T k).1 = i.1.cls := by
    rw [h1] at hown
    rw [h9]
    exact Option.some.inj hown
  have eset : (er_ws K sh m).set (c - 1) (K.2.1 + c, .inr (ci, (er_fs K m c n rs).set k (.int (Int32.ofInt x)))) = er_ws K sh (er_st m c k x) := by
    refine er_ws_up hc ?_ (fun c' hc' => by funext j; simp [er_st, hc'])
    rw [er_cell_obj]
    congr 2
    refine er_fs_set (by rw [hr]; simp [er_fv, er_st]) (fun j _ hj => ?_)
    cases rs.getD j none with
    | some r => rfl
    | none =>
      show Value.int (Int32.ofInt (m c j)) = Value.int (Int32.ofInt (er_st m c k x c j))
      rw [show er_st m c k x c j = m c j from by unfold er_st; rw [if_neg (by omega)]]
  refine va_putF C.1 C.2.1 C.2.2.2.2.2.2.2.1 h3 t0 h5 h6 C.2.2.2.2.2.2.1 hW.2 hW.1 (er_ws_D K sh m) hS (c - 1) e1 h1 k h2 (C.2.2.2.2.2.2.2.1 _ h4) (fun _ h => h) h7 (C.2.2.2.2.2.1.trans hin) hdecl (ty := .int) (v := .int (Int32.ofInt x)) (by rw [h5 k h2, h8]) rfl rfl (by simp [er_fs]; exact hk) hd (fun H1 locs1 hP1 hD1 hS1 => ?_)
  rw [eset] at hP1
  exact kk p e s mm args below meth c1 H1 locs1 la C hz ⟨hP1, hW.2⟩ hS1 hl
theorem er_slen (hd : decode i.2.1 pc = .ok (.arraylength, 1)) (kk : er_WP K i uc us sh m (pc + 1) ls (.inl (K.2.2.2.2.2.1 : Nat) :: st) Z) : er_WP K i uc us sh m pc ls (.inr 0 :: st) Z := by
  intro p e s mm args below meth c1 H locs la C hz hW hS hl
  have hX := C.2.2.2.2.2.2.2.2.2
  have h := kk p e s mm args below meth c1 H locs la C hz hW hS hl
  have e1 : er_cv K (.inl ((K.2.2.2.2.2.1 : Nat) : Int)) = .int (Int32.ofNat K.2.2.2.2.2.1) := congrArg Value.int Int32.ofInt_eq_ofNat
  rw [List.map_cons, e1] at h
  exact va_slen C.1 C.2.1 hX.1 (Nat.lt_of_le_of_lt hX.2.1 C.2.2.2.2.2.2.2.2.1) (Nat.not_lt.mpr hX.2.1) hS hd h
theorem er_sld {j : Int} (h0 : 0 ≤ j) (h1 : j < (K.2.2.2.2.2.1 : Nat)) (hn : K.2.2.2.2.2.1 ≤ 2147483648) (hd : decode i.2.1 pc = .ok (.iaload, 1)) (kk : er_WP K i uc us sh m (pc + 1) ls (.inl (K.2.2.2.2.2.2 j.toNat).toInt :: st) Z) : er_WP K i uc us sh m pc ls (.inl j :: .inr 0 :: st) Z := by
  intro p e s mm args below meth c1 H locs la C hz hW hS hl
  have hX := C.2.2.2.2.2.2.2.2.2
  have h := kk p e s mm args below meth c1 H locs la C hz hW hS hl
  obtain ⟨g1, g2⟩ := er_ix h0 h1 hn
  have e1 : er_cv K (.inl (K.2.2.2.2.2.2 j.toNat).toInt) = .int (K.2.2.2.2.2.2 (Int32.ofInt j).toNatClampNeg) := by
    rw [g2]
    exact congrArg Value.int (Int32.ofInt_toInt _)
  rw [List.map_cons, e1] at h
  exact va_sld C.1 C.2.1 hX.1 (Nat.lt_of_le_of_lt hX.2.1 C.2.2.2.2.2.2.2.2.1) (Nat.not_lt.mpr hX.2.1) hS g1 hd h
end ER4
end
