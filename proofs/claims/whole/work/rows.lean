section
/-! PART A of the skeleton (the tables' words), then this claim's classes, methods and rooms: printed by wip/whole/gen01.py -/
-- ===== PART A: goes FIRST, ahead of the names: the tables' words, and 'selects' of the private methods out of them =====
/-- a private method of a class that the tables say can be made, by its rows of tables_1 -/
def lw_okq (q : MethodName × Nat) : Prop := (q.1.cls ≠ "java/lang/invoke/MethodHandle" ∧ q.1.cls ≠ "java/lang/invoke/VarHandle") ∧ Cond.instantiable q.1.cls q.2 ∈ tables_1 ∧ Cond.privateMethod q.1 ∈ tables_1 ∧ Cond.instanceMethod q.1 ∈ tables_1
theorem lw_p0 : lw_okq (⟨"EscapeRouter$GridText", "isAllowed", "(II)Z"⟩, 5) := ⟨⟨by decide +kernel, by decide +kernel⟩, List.mem_of_getElem? (i := 85) (by decide +kernel), List.mem_of_getElem? (i := 241) (by decide +kernel), List.mem_of_getElem? (i := 242) (by decide +kernel)⟩
theorem lw_p1 : lw_okq (⟨"EscapeRouter", "beginEdit", "()V"⟩, 10) := ⟨⟨by decide +kernel, by decide +kernel⟩, List.mem_of_getElem? (i := 11) (by decide +kernel), List.mem_of_getElem? (i := 249) (by decide +kernel), List.mem_of_getElem? (i := 250) (by decide +kernel)⟩
theorem lw_p2 : lw_okq (⟨"EscapeRouter$History", "dropOldest", "()V"⟩, 2) := ⟨⟨by decide +kernel, by decide +kernel⟩, List.mem_of_getElem? (i := 68) (by decide +kernel), List.mem_of_getElem? (i := 257) (by decide +kernel), List.mem_of_getElem? (i := 258) (by decide +kernel)⟩
theorem lw_p3 : lw_okq (⟨"EscapeRouter", "forgetResults", "()V"⟩, 10) := ⟨⟨by decide +kernel, by decide +kernel⟩, List.mem_of_getElem? (i := 11) (by decide +kernel), List.mem_of_getElem? (i := 268) (by decide +kernel), List.mem_of_getElem? (i := 269) (by decide +kernel)⟩
theorem lw_p4 : lw_okq (⟨"EscapeRouter", "solveSelection", "()V"⟩, 10) := ⟨⟨by decide +kernel, by decide +kernel⟩, List.mem_of_getElem? (i := 11) (by decide +kernel), List.mem_of_getElem? (i := 361) (by decide +kernel), List.mem_of_getElem? (i := 362) (by decide +kernel)⟩
theorem lw_p5 : lw_okq (⟨"EscapeRouter$FlowNetwork", "connect", "(III)V"⟩, 11) := ⟨⟨by decide +kernel, by decide +kernel⟩, List.mem_of_getElem? (i := 111) (by decide +kernel), List.mem_of_getElem? (i := 369) (by decide +kernel), List.mem_of_getElem? (i := 370) (by decide +kernel)⟩
theorem lw_p6 : lw_okq (⟨"EscapeRouter$FlowNetwork", "connectPins", "(LEscapeRouter$Board;I)V"⟩, 11) := ⟨⟨by decide +kernel, by decide +kernel⟩, List.mem_of_getElem? (i := 111) (by decide +kernel), List.mem_of_getElem? (i := 373) (by decide +kernel), List.mem_of_getElem? (i := 374) (by decide +kernel)⟩
theorem lw_p7 : lw_okq (⟨"EscapeRouter$FlowNetwork", "connectTiles", "(LEscapeRouter$Board;)V"⟩, 11) := ⟨⟨by decide +kernel, by decide +kernel⟩, List.mem_of_getElem? (i := 111) (by decide +kernel), List.mem_of_getElem? (i := 381) (by decide +kernel), List.mem_of_getElem? (i := 382) (by decide +kernel)⟩
theorem lw_p8 : lw_okq (⟨"EscapeRouter$FlowNetwork", "connectChannels", "(LEscapeRouter$Board;[Z)V"⟩, 11) := ⟨⟨by decide +kernel, by decide +kernel⟩, List.mem_of_getElem? (i := 111) (by decide +kernel), List.mem_of_getElem? (i := 386) (by decide +kernel), List.mem_of_getElem? (i := 387) (by decide +kernel)⟩
theorem lw_p9 : lw_okq (⟨"EscapeRouter$FlowNetwork", "connectBothWays", "(III)V"⟩, 11) := ⟨⟨by decide +kernel, by decide +kernel⟩, List.mem_of_getElem? (i := 111) (by decide +kernel), List.mem_of_getElem? (i := 390) (by decide +kernel), List.mem_of_getElem? (i := 391) (by decide +kernel)⟩
theorem lw_p10 : lw_okq (⟨"EscapeRouter$FlowNetwork", "findWay", "()Z"⟩, 11) := ⟨⟨by decide +kernel, by decide +kernel⟩, List.mem_of_getElem? (i := 111) (by decide +kernel), List.mem_of_getElem? (i := 406) (by decide +kernel), List.mem_of_getElem? (i := 407) (by decide +kernel)⟩
theorem lw_p11 : lw_okq (⟨"EscapeRouter$FlowNetwork", "isNear", "(I)Z"⟩, 11) := ⟨⟨by decide +kernel, by decide +kernel⟩, List.mem_of_getElem? (i := 111) (by decide +kernel), List.mem_of_getElem? (i := 422) (by decide +kernel), List.mem_of_getElem? (i := 423) (by decide +kernel)⟩
theorem lw_p12 : lw_okq (⟨"EscapeRouter$FlowNetwork", "leavesNearSide", "(I)Z"⟩, 11) := ⟨⟨by decide +kernel, by decide +kernel⟩, List.mem_of_getElem? (i := 111) (by decide +kernel), List.mem_of_getElem? (i := 434) (by decide +kernel), List.mem_of_getElem? (i := 435) (by decide +kernel)⟩
theorem lw_p13 : lw_okq (⟨"EscapeRouter$Layering", "putInOrder", "(LEscapeRouter$Board;)V"⟩, 9) := ⟨⟨by decide +kernel, by decide +kernel⟩, List.mem_of_getElem? (i := 152) (by decide +kernel), List.mem_of_getElem? (i := 449) (by decide +kernel), List.mem_of_getElem? (i := 450) (by decide +kernel)⟩
theorem lw_p14 : lw_okq (⟨"EscapeRouter$Layering", "addByRows", "(LEscapeRouter$Board;)V"⟩, 9) := ⟨⟨by decide +kernel, by decide +kernel⟩, List.mem_of_getElem? (i := 152) (by decide +kernel), List.mem_of_getElem? (i := 453) (by decide +kernel), List.mem_of_getElem? (i := 454) (by decide +kernel)⟩
theorem lw_p15 : lw_okq (⟨"EscapeRouter$Layering", "addPlace", "(II)V"⟩, 9) := ⟨⟨by decide +kernel, by decide +kernel⟩, List.mem_of_getElem? (i := 152) (by decide +kernel), List.mem_of_getElem? (i := 457) (by decide +kernel), List.mem_of_getElem? (i := 458) (by decide +kernel)⟩
def lw_privs_1 : List (MethodName × Nat) := [(⟨"EscapeRouter$GridText", "isAllowed", "(II)Z"⟩, 5), (⟨"EscapeRouter", "beginEdit", "()V"⟩, 10), (⟨"EscapeRouter$History", "dropOldest", "()V"⟩, 2), (⟨"EscapeRouter", "forgetResults", "()V"⟩, 10), (⟨"EscapeRouter", "solveSelection", "()V"⟩, 10), (⟨"EscapeRouter$FlowNetwork", "connect", "(III)V"⟩, 11), (⟨"EscapeRouter$FlowNetwork", "connectPins", "(LEscapeRouter$Board;I)V"⟩, 11), (⟨"EscapeRouter$FlowNetwork", "connectTiles", "(LEscapeRouter$Board;)V"⟩, 11), (⟨"EscapeRouter$FlowNetwork", "connectChannels", "(LEscapeRouter$Board;[Z)V"⟩, 11), (⟨"EscapeRouter$FlowNetwork", "connectBothWays", "(III)V"⟩, 11), (⟨"EscapeRouter$FlowNetwork", "findWay", "()Z"⟩, 11), (⟨"EscapeRouter$FlowNetwork", "isNear", "(I)Z"⟩, 11), (⟨"EscapeRouter$FlowNetwork", "leavesNearSide", "(I)Z"⟩, 11), (⟨"EscapeRouter$Layering", "putInOrder", "(LEscapeRouter$Board;)V"⟩, 9), (⟨"EscapeRouter$Layering", "addByRows", "(LEscapeRouter$Board;)V"⟩, 9), (⟨"EscapeRouter$Layering", "addPlace", "(II)V"⟩, 9)]
theorem lw_r1 : ∀ q ∈ lw_privs_1, lw_okq q := List.forall_mem_cons.mpr ⟨lw_p0, List.forall_mem_cons.mpr ⟨lw_p1, List.forall_mem_cons.mpr ⟨lw_p2, List.forall_mem_cons.mpr ⟨lw_p3, List.forall_mem_cons.mpr ⟨lw_p4, List.forall_mem_cons.mpr ⟨lw_p5, List.forall_mem_cons.mpr ⟨lw_p6, List.forall_mem_cons.mpr ⟨lw_p7, List.forall_mem_cons.mpr ⟨lw_p8, List.forall_mem_cons.mpr ⟨lw_p9, List.forall_mem_cons.mpr ⟨lw_p10, List.forall_mem_cons.mpr ⟨lw_p11, List.forall_mem_cons.mpr ⟨lw_p12, List.forall_mem_cons.mpr ⟨lw_p13, List.forall_mem_cons.mpr ⟨lw_p14, List.forall_mem_cons.mpr ⟨lw_p15, fun _ h => absurd h List.not_mem_nil⟩⟩⟩⟩⟩⟩⟩⟩⟩⟩⟩⟩⟩⟩⟩⟩
theorem lw_p16 : lw_okq (⟨"EscapeRouter$Layering", "addByColumns", "(LEscapeRouter$Board;)V"⟩, 9) := ⟨⟨by decide +kernel, by decide +kernel⟩, List.mem_of_getElem? (i := 152) (by decide +kernel), List.mem_of_getElem? (i := 462) (by decide +kernel), List.mem_of_getElem? (i := 463) (by decide +kernel)⟩
theorem lw_p17 : lw_okq (⟨"EscapeRouter$Layering", "addRing", "(LEscapeRouter$Board;I)V"⟩, 9) := ⟨⟨by decide +kernel, by decide +kernel⟩, List.mem_of_getElem? (i := 152) (by decide +kernel), List.mem_of_getElem? (i := 466) (by decide +kernel), List.mem_of_getElem? (i := 467) (by decide +kernel)⟩
theorem lw_p18 : lw_okq (⟨"EscapeRouter$Layering", "fill", "(ILEscapeRouter$Board;LEscapeRouter$FlowNetwork;)I"⟩, 9) := ⟨⟨by decide +kernel, by decide +kernel⟩, List.mem_of_getElem? (i := 152) (by decide +kernel), List.mem_of_getElem? (i := 475) (by decide +kernel), List.mem_of_getElem? (i := 476) (by decide +kernel)⟩
theorem lw_p19 : lw_okq (⟨"EscapeRouter$Layering", "consider", "(IIILEscapeRouter$FlowNetwork;)I"⟩, 9) := ⟨⟨by decide +kernel, by decide +kernel⟩, List.mem_of_getElem? (i := 152) (by decide +kernel), List.mem_of_getElem? (i := 480) (by decide +kernel), List.mem_of_getElem? (i := 481) (by decide +kernel)⟩
theorem lw_p20 : lw_okq (⟨"EscapeRouterModel", "readGrid", "()I"⟩, 22) := ⟨⟨by decide +kernel, by decide +kernel⟩, List.mem_of_getElem? (i := 529) (by decide +kernel), List.mem_of_getElem? (i := 622) (by decide +kernel), List.mem_of_getElem? (i := 623) (by decide +kernel)⟩
theorem lw_p21 : lw_okq (⟨"EscapeRouterModel", "edit", "()V"⟩, 22) := ⟨⟨by decide +kernel, by decide +kernel⟩, List.mem_of_getElem? (i := 529) (by decide +kernel), List.mem_of_getElem? (i := 626) (by decide +kernel), List.mem_of_getElem? (i := 627) (by decide +kernel)⟩
theorem lw_p22 : lw_okq (⟨"EscapeRouterModel", "signals", "()I"⟩, 22) := ⟨⟨by decide +kernel, by decide +kernel⟩, List.mem_of_getElem? (i := 529) (by decide +kernel), List.mem_of_getElem? (i := 630) (by decide +kernel), List.mem_of_getElem? (i := 631) (by decide +kernel)⟩
theorem lw_p23 : lw_okq (⟨"EscapeRouterModel", "isPosition", "(II)Z"⟩, 22) := ⟨⟨by decide +kernel, by decide +kernel⟩, List.mem_of_getElem? (i := 529) (by decide +kernel), List.mem_of_getElem? (i := 638) (by decide +kernel), List.mem_of_getElem? (i := 639) (by decide +kernel)⟩
theorem lw_p24 : lw_okq (⟨"EscapeRouterModel", "unpair", "(I)V"⟩, 22) := ⟨⟨by decide +kernel, by decide +kernel⟩, List.mem_of_getElem? (i := 529) (by decide +kernel), List.mem_of_getElem? (i := 642) (by decide +kernel), List.mem_of_getElem? (i := 643) (by decide +kernel)⟩
theorem lw_p25 : lw_okq (⟨"EscapeRouterModel", "isFree", "(I)Z"⟩, 22) := ⟨⟨by decide +kernel, by decide +kernel⟩, List.mem_of_getElem? (i := 529) (by decide +kernel), List.mem_of_getElem? (i := 674) (by decide +kernel), List.mem_of_getElem? (i := 675) (by decide +kernel)⟩
theorem lw_p26 : lw_okq (⟨"EscapeRouterModel", "pairs", "()I"⟩, 22) := ⟨⟨by decide +kernel, by decide +kernel⟩, List.mem_of_getElem? (i := 529) (by decide +kernel), List.mem_of_getElem? (i := 678) (by decide +kernel), List.mem_of_getElem? (i := 679) (by decide +kernel)⟩
theorem lw_p27 : lw_okq (⟨"EscapeRouterModel", "selected", "()I"⟩, 22) := ⟨⟨by decide +kernel, by decide +kernel⟩, List.mem_of_getElem? (i := 529) (by decide +kernel), List.mem_of_getElem? (i := 694) (by decide +kernel), List.mem_of_getElem? (i := 695) (by decide +kernel)⟩
theorem lw_p28 : lw_okq (⟨"EscapeRouterModel", "escape", "()I"⟩, 22) := ⟨⟨by decide +kernel, by decide +kernel⟩, List.mem_of_getElem? (i := 529) (by decide +kernel), List.mem_of_getElem? (i := 710) (by decide +kernel), List.mem_of_getElem? (i := 711) (by decide +kernel)⟩
theorem lw_p29 : lw_okq (⟨"EscapeRouterModel", "openNone", "()V"⟩, 22) := ⟨⟨by decide +kernel, by decide +kernel⟩, List.mem_of_getElem? (i := 529) (by decide +kernel), List.mem_of_getElem? (i := 714) (by decide +kernel), List.mem_of_getElem? (i := 715) (by decide +kernel)⟩
theorem lw_p30 : lw_okq (⟨"EscapeRouterModel", "lay", "()V"⟩, 22) := ⟨⟨by decide +kernel, by decide +kernel⟩, List.mem_of_getElem? (i := 529) (by decide +kernel), List.mem_of_getElem? (i := 718) (by decide +kernel), List.mem_of_getElem? (i := 719) (by decide +kernel)⟩
theorem lw_p31 : lw_okq (⟨"EscapeRouterModel", "join", "(III)V"⟩, 22) := ⟨⟨by decide +kernel, by decide +kernel⟩, List.mem_of_getElem? (i := 529) (by decide +kernel), List.mem_of_getElem? (i := 725) (by decide +kernel), List.mem_of_getElem? (i := 726) (by decide +kernel)⟩
def lw_privs_2 : List (MethodName × Nat) := [(⟨"EscapeRouter$Layering", "addByColumns", "(LEscapeRouter$Board;)V"⟩, 9), (⟨"EscapeRouter$Layering", "addRing", "(LEscapeRouter$Board;I)V"⟩, 9), (⟨"EscapeRouter$Layering", "fill", "(ILEscapeRouter$Board;LEscapeRouter$FlowNetwork;)I"⟩, 9), (⟨"EscapeRouter$Layering", "consider", "(IIILEscapeRouter$FlowNetwork;)I"⟩, 9), (⟨"EscapeRouterModel", "readGrid", "()I"⟩, 22), (⟨"EscapeRouterModel", "edit", "()V"⟩, 22), (⟨"EscapeRouterModel", "signals", "()I"⟩, 22), (⟨"EscapeRouterModel", "isPosition", "(II)Z"⟩, 22), (⟨"EscapeRouterModel", "unpair", "(I)V"⟩, 22), (⟨"EscapeRouterModel", "isFree", "(I)Z"⟩, 22), (⟨"EscapeRouterModel", "pairs", "()I"⟩, 22), (⟨"EscapeRouterModel", "selected", "()I"⟩, 22), (⟨"EscapeRouterModel", "escape", "()I"⟩, 22), (⟨"EscapeRouterModel", "openNone", "()V"⟩, 22), (⟨"EscapeRouterModel", "lay", "()V"⟩, 22), (⟨"EscapeRouterModel", "join", "(III)V"⟩, 22)]
theorem lw_r2 : ∀ q ∈ lw_privs_2, lw_okq q := List.forall_mem_cons.mpr ⟨lw_p16, List.forall_mem_cons.mpr ⟨lw_p17, List.forall_mem_cons.mpr ⟨lw_p18, List.forall_mem_cons.mpr ⟨lw_p19, List.forall_mem_cons.mpr ⟨lw_p20, List.forall_mem_cons.mpr ⟨lw_p21, List.forall_mem_cons.mpr ⟨lw_p22, List.forall_mem_cons.mpr ⟨lw_p23, List.forall_mem_cons.mpr ⟨lw_p24, List.forall_mem_cons.mpr ⟨lw_p25, List.forall_mem_cons.mpr ⟨lw_p26, List.forall_mem_cons.mpr ⟨lw_p27, List.forall_mem_cons.mpr ⟨lw_p28, List.forall_mem_cons.mpr ⟨lw_p29, List.forall_mem_cons.mpr ⟨lw_p30, List.forall_mem_cons.mpr ⟨lw_p31, fun _ h => absurd h List.not_mem_nil⟩⟩⟩⟩⟩⟩⟩⟩⟩⟩⟩⟩⟩⟩⟩⟩
theorem lw_p32 : lw_okq (⟨"EscapeRouterModel", "lead", "(III)V"⟩, 22) := ⟨⟨by decide +kernel, by decide +kernel⟩, List.mem_of_getElem? (i := 529) (by decide +kernel), List.mem_of_getElem? (i := 729) (by decide +kernel), List.mem_of_getElem? (i := 730) (by decide +kernel)⟩
theorem lw_p33 : lw_okq (⟨"EscapeRouterModel", "isRim", "(II)Z"⟩, 22) := ⟨⟨by decide +kernel, by decide +kernel⟩, List.mem_of_getElem? (i := 529) (by decide +kernel), List.mem_of_getElem? (i := 733) (by decide +kernel), List.mem_of_getElem? (i := 734) (by decide +kernel)⟩
theorem lw_p34 : lw_okq (⟨"EscapeRouterModel", "joinTiles", "(IIII)V"⟩, 22) := ⟨⟨by decide +kernel, by decide +kernel⟩, List.mem_of_getElem? (i := 529) (by decide +kernel), List.mem_of_getElem? (i := 738) (by decide +kernel), List.mem_of_getElem? (i := 739) (by decide +kernel)⟩
theorem lw_p35 : lw_okq (⟨"EscapeRouterModel", "layPin", "(II)V"⟩, 22) := ⟨⟨by decide +kernel, by decide +kernel⟩, List.mem_of_getElem? (i := 529) (by decide +kernel), List.mem_of_getElem? (i := 742) (by decide +kernel), List.mem_of_getElem? (i := 743) (by decide +kernel)⟩
theorem lw_p36 : lw_okq (⟨"EscapeRouterModel", "augmentAll", "()I"⟩, 22) := ⟨⟨by decide +kernel, by decide +kernel⟩, List.mem_of_getElem? (i := 529) (by decide +kernel), List.mem_of_getElem? (i := 746) (by decide +kernel), List.mem_of_getElem? (i := 747) (by decide +kernel)⟩
theorem lw_p37 : lw_okq (⟨"EscapeRouterModel", "augment", "()I"⟩, 22) := ⟨⟨by decide +kernel, by decide +kernel⟩, List.mem_of_getElem? (i := 529) (by decide +kernel), List.mem_of_getElem? (i := 750) (by decide +kernel), List.mem_of_getElem? (i := 751) (by decide +kernel)⟩
theorem lw_p38 : lw_okq (⟨"EscapeRouterModel", "reach", "()V"⟩, 22) := ⟨⟨by decide +kernel, by decide +kernel⟩, List.mem_of_getElem? (i := 529) (by decide +kernel), List.mem_of_getElem? (i := 754) (by decide +kernel), List.mem_of_getElem? (i := 755) (by decide +kernel)⟩
theorem lw_p39 : lw_okq (⟨"EscapeRouterModel", "isCut", "(II)I"⟩, 22) := ⟨⟨by decide +kernel, by decide +kernel⟩, List.mem_of_getElem? (i := 529) (by decide +kernel), List.mem_of_getElem? (i := 766) (by decide +kernel), List.mem_of_getElem? (i := 767) (by decide +kernel)⟩
theorem lw_p40 : lw_okq (⟨"EscapeRouterModel", "layering", "(I)I"⟩, 22) := ⟨⟨by decide +kernel, by decide +kernel⟩, List.mem_of_getElem? (i := 529) (by decide +kernel), List.mem_of_getElem? (i := 777) (by decide +kernel), List.mem_of_getElem? (i := 778) (by decide +kernel)⟩
theorem lw_p41 : lw_okq (⟨"EscapeRouterModel", "sort", "(I)V"⟩, 22) := ⟨⟨by decide +kernel, by decide +kernel⟩, List.mem_of_getElem? (i := 529) (by decide +kernel), List.mem_of_getElem? (i := 781) (by decide +kernel), List.mem_of_getElem? (i := 782) (by decide +kernel)⟩
theorem lw_p42 : lw_okq (⟨"EscapeRouterModel", "rank", "(II)I"⟩, 22) := ⟨⟨by decide +kernel, by decide +kernel⟩, List.mem_of_getElem? (i := 529) (by decide +kernel), List.mem_of_getElem? (i := 785) (by decide +kernel), List.mem_of_getElem? (i := 786) (by decide +kernel)⟩
theorem lw_p43 : lw_okq (⟨"EscapeRouterModel", "ring", "(I)I"⟩, 22) := ⟨⟨by decide +kernel, by decide +kernel⟩, List.mem_of_getElem? (i := 529) (by decide +kernel), List.mem_of_getElem? (i := 789) (by decide +kernel), List.mem_of_getElem? (i := 790) (by decide +kernel)⟩
theorem lw_p44 : lw_okq (⟨"EscapeRouterModel", "isFirst", "(II)Z"⟩, 22) := ⟨⟨by decide +kernel, by decide +kernel⟩, List.mem_of_getElem? (i := 529) (by decide +kernel), List.mem_of_getElem? (i := 793) (by decide +kernel), List.mem_of_getElem? (i := 794) (by decide +kernel)⟩
theorem lw_p45 : lw_okq (⟨"EscapeRouterModel", "puts", "(II)Z"⟩, 22) := ⟨⟨by decide +kernel, by decide +kernel⟩, List.mem_of_getElem? (i := 529) (by decide +kernel), List.mem_of_getElem? (i := 797) (by decide +kernel), List.mem_of_getElem? (i := 798) (by decide +kernel)⟩
theorem lw_p46 : lw_okq (⟨"EscapeRouterModel", "cutBack", "(I)V"⟩, 22) := ⟨⟨by decide +kernel, by decide +kernel⟩, List.mem_of_getElem? (i := 529) (by decide +kernel), List.mem_of_getElem? (i := 801) (by decide +kernel), List.mem_of_getElem? (i := 802) (by decide +kernel)⟩
theorem lw_p47 : lw_okq (⟨"EscapeRouterModel", "most", "()I"⟩, 22) := ⟨⟨by decide +kernel, by decide +kernel⟩, List.mem_of_getElem? (i := 529) (by decide +kernel), List.mem_of_getElem? (i := 821) (by decide +kernel), List.mem_of_getElem? (i := 822) (by decide +kernel)⟩
def lw_privs_3 : List (MethodName × Nat) := [(⟨"EscapeRouterModel", "lead", "(III)V"⟩, 22), (⟨"EscapeRouterModel", "isRim", "(II)Z"⟩, 22), (⟨"EscapeRouterModel", "joinTiles", "(IIII)V"⟩, 22), (⟨"EscapeRouterModel", "layPin", "(II)V"⟩, 22), (⟨"EscapeRouterModel", "augmentAll", "()I"⟩, 22), (⟨"EscapeRouterModel", "augment", "()I"⟩, 22), (⟨"EscapeRouterModel", "reach", "()V"⟩, 22), (⟨"EscapeRouterModel", "isCut", "(II)I"⟩, 22), (⟨"EscapeRouterModel", "layering", "(I)I"⟩, 22), (⟨"EscapeRouterModel", "sort", "(I)V"⟩, 22), (⟨"EscapeRouterModel", "rank", "(II)I"⟩, 22), (⟨"EscapeRouterModel", "ring", "(I)I"⟩, 22), (⟨"EscapeRouterModel", "isFirst", "(II)Z"⟩, 22), (⟨"EscapeRouterModel", "puts", "(II)Z"⟩, 22), (⟨"EscapeRouterModel", "cutBack", "(I)V"⟩, 22), (⟨"EscapeRouterModel", "most", "()I"⟩, 22)]
theorem lw_r3 : ∀ q ∈ lw_privs_3, lw_okq q := List.forall_mem_cons.mpr ⟨lw_p32, List.forall_mem_cons.mpr ⟨lw_p33, List.forall_mem_cons.mpr ⟨lw_p34, List.forall_mem_cons.mpr ⟨lw_p35, List.forall_mem_cons.mpr ⟨lw_p36, List.forall_mem_cons.mpr ⟨lw_p37, List.forall_mem_cons.mpr ⟨lw_p38, List.forall_mem_cons.mpr ⟨lw_p39, List.forall_mem_cons.mpr ⟨lw_p40, List.forall_mem_cons.mpr ⟨lw_p41, List.forall_mem_cons.mpr ⟨lw_p42, List.forall_mem_cons.mpr ⟨lw_p43, List.forall_mem_cons.mpr ⟨lw_p44, List.forall_mem_cons.mpr ⟨lw_p45, List.forall_mem_cons.mpr ⟨lw_p46, List.forall_mem_cons.mpr ⟨lw_p47, fun _ h => absurd h List.not_mem_nil⟩⟩⟩⟩⟩⟩⟩⟩⟩⟩⟩⟩⟩⟩⟩⟩
def lw_privs : List (MethodName × Nat) := lw_privs_1 ++ (lw_privs_2 ++ (lw_privs_3))
def lw_tbl : List Cond := k2_sels lw_privs ++ tables_1
theorem lw_privs_ok : ∀ q ∈ lw_privs, lw_okq q := by
  show ∀ q ∈ lw_privs_1 ++ (lw_privs_2 ++ (lw_privs_3)), lw_okq q
  exact List.forall_mem_append.mpr ⟨lw_r1, List.forall_mem_append.mpr ⟨lw_r2, lw_r3⟩⟩
/-- the words that ride through calls by themselves -/
def er_tb : List Cond := lw_tbl.filter goodWord
theorem er_tb_of {w : Cond} (h : w ∈ lw_tbl) (g : goodWord w = true) : w ∈ er_tb := List.mem_filter.mpr ⟨h, g⟩
theorem er_tb_in {w : Cond} (h : w ∈ er_tb) : w ∈ lw_tbl := (List.mem_filter.mp h).1
/-- the words of nest mates (they do not): own, entry, method, host -/
def er_nw : List (String × Nat × MethodName × String) := [("EscapeRouter$Board", 35, ⟨"EscapeRouter", "placeOf", "(II)I"⟩, "EscapeRouter"), ("EscapeRouter$GridText", 32, ⟨"EscapeRouter", "placeOf", "(II)I"⟩, "EscapeRouter"), ("EscapeRouter$FlowNetwork", 70, ⟨"EscapeRouter", "placeOf", "(II)I"⟩, "EscapeRouter"), ("EscapeRouter$FlowNetwork", 77, ⟨"EscapeRouter", "tileAt", "(II)I"⟩, "EscapeRouter"), ("EscapeRouter$Layering", 114, ⟨"EscapeRouter", "placeOf", "(II)I"⟩, "EscapeRouter")]
def er_FB : u_T := fun k => match k with
  | 0 => ("EscapeRouter$Board", "rowCount", "I", false)
  | 1 => ("EscapeRouter$Board", "columnCount", "I", false)
  | 2 => ("EscapeRouter$Board", "channelCapacity", "I", false)
  | 3 => ("EscapeRouter$Board", "tileCapacity", "I", false)
  | 4 => ("EscapeRouter$Board", "kinds", "[I", true)
  | 5 => ("EscapeRouter$Board", "partners", "[I", true)
  | _ => ("EscapeRouter$Board", "selected", "[Z", true)
def er_tB : Nat → FieldType := fun k => match k with
  | 0 => .int
  | 1 => .int
  | 2 => .int
  | 3 => .int
  | 4 => .array .int
  | 5 => .array .int
  | _ => .array .boolean
theorem er_nB : ∀ a, a < 7 → ∀ b, b < 7 → a ≠ b → (er_FB a).2.1 ≠ (er_FB b).2.1 := by decide +kernel
theorem er_tB_ok : ∀ k, k < 7 → parseFieldDescriptor (er_FB k).2.2.1 = some (er_tB k) := by decide +kernel
set_option maxRecDepth 20000 in
theorem er_iB : ∀ w ∈ u_ws "EscapeRouter$Board" er_FB 7, w ∈ er_tb := by decide +kernel
def er_FN : u_T := fun k => match k with
  | 0 => ("EscapeRouter$FlowNetwork", "firstEdge", "[I", true)
  | 1 => ("EscapeRouter$FlowNetwork", "nextEdge", "[I", true)
  | 2 => ("EscapeRouter$FlowNetwork", "target", "[I", true)
  | 3 => ("EscapeRouter$FlowNetwork", "residual", "[I", true)
  | 4 => ("EscapeRouter$FlowNetwork", "keptResidual", "[I", true)
  | 5 => ("EscapeRouter$FlowNetwork", "reachedIn", "[I", true)
  | 6 => ("EscapeRouter$FlowNetwork", "reachedBy", "[I", true)
  | 7 => ("EscapeRouter$FlowNetwork", "queue", "[I", true)
  | 8 => ("EscapeRouter$FlowNetwork", "edgeCount", "I", false)
  | 9 => ("EscapeRouter$FlowNetwork", "firstChannelEdge", "I", false)
  | _ => ("EscapeRouter$FlowNetwork", "search", "I", false)
def er_tN : Nat → FieldType := fun k => match k with
  | 0 => .array .int
  | 1 => .array .int
  | 2 => .array .int
  | 3 => .array .int
  | 4 => .array .int
  | 5 => .array .int
  | 6 => .array .int
  | 7 => .array .int
  | 8 => .int
  | 9 => .int
  | _ => .int
theorem er_nN : ∀ a, a < 11 → ∀ b, b < 11 → a ≠ b → (er_FN a).2.1 ≠ (er_FN b).2.1 := by decide +kernel
theorem er_tN_ok : ∀ k, k < 11 → parseFieldDescriptor (er_FN k).2.2.1 = some (er_tN k) := by decide +kernel
set_option maxRecDepth 20000 in
theorem er_iN : ∀ w ∈ u_ws "EscapeRouter$FlowNetwork" er_FN 11, w ∈ er_tb := by decide +kernel
def er_FG : u_T := fun k => match k with
  | 0 => ("EscapeRouter$GridText", "characters", "[I", true)
  | 1 => ("EscapeRouter$GridText", "length", "I", false)
  | 2 => ("EscapeRouter$GridText", "rowCount", "I", false)
  | 3 => ("EscapeRouter$GridText", "columnCount", "I", false)
  | _ => ("EscapeRouter$GridText", "kinds", "[I", true)
def er_tG : Nat → FieldType := fun k => match k with
  | 0 => .array .int
  | 1 => .int
  | 2 => .int
  | 3 => .int
  | _ => .array .int
theorem er_nG : ∀ a, a < 5 → ∀ b, b < 5 → a ≠ b → (er_FG a).2.1 ≠ (er_FG b).2.1 := by decide +kernel
theorem er_tG_ok : ∀ k, k < 5 → parseFieldDescriptor (er_FG k).2.2.1 = some (er_tG k) := by decide +kernel
set_option maxRecDepth 20000 in
theorem er_iG : ∀ w ∈ u_ws "EscapeRouter$GridText" er_FG 5, w ∈ er_tb := by decide +kernel
def er_FH : u_T := fun k => match k with
  | 0 => ("EscapeRouter$History", "boards", "[LEscapeRouter$Board;", true)
  | _ => ("EscapeRouter$History", "count", "I", false)
def er_tH : Nat → FieldType := fun k => match k with
  | 0 => .array (.object "EscapeRouter$Board")
  | _ => .int
theorem er_nH : ∀ a, a < 2 → ∀ b, b < 2 → a ≠ b → (er_FH a).2.1 ≠ (er_FH b).2.1 := by decide +kernel
theorem er_tH_ok : ∀ k, k < 2 → parseFieldDescriptor (er_FH k).2.2.1 = some (er_tH k) := by decide +kernel
set_option maxRecDepth 20000 in
theorem er_iH : ∀ w ∈ u_ws "EscapeRouter$History" er_FH 2, w ∈ er_tb := by decide +kernel
def er_FY : u_T := fun k => match k with
  | 0 => ("EscapeRouter$Layering", "strategy", "I", true)
  | 1 => ("EscapeRouter$Layering", "order", "[I", true)
  | 2 => ("EscapeRouter$Layering", "ordered", "I", false)
  | 3 => ("EscapeRouter$Layering", "consideredFor", "[I", true)
  | 4 => ("EscapeRouter$Layering", "open", "[Z", true)
  | 5 => ("EscapeRouter$Layering", "layerAt", "[I", true)
  | 6 => ("EscapeRouter$Layering", "layers", "I", false)
  | 7 => ("EscapeRouter$Layering", "complete", "Z", false)
  | _ => ("EscapeRouter$Layering", "fresh", "Z", false)
def er_tY : Nat → FieldType := fun k => match k with
  | 0 => .int
  | 1 => .array .int
  | 2 => .int
  | 3 => .array .int
  | 4 => .array .boolean
  | 5 => .array .int
  | 6 => .int
  | 7 => .boolean
  | _ => .boolean
theorem er_nY : ∀ a, a < 9 → ∀ b, b < 9 → a ≠ b → (er_FY a).2.1 ≠ (er_FY b).2.1 := by decide +kernel
theorem er_tY_ok : ∀ k, k < 9 → parseFieldDescriptor (er_FY k).2.2.1 = some (er_tY k) := by decide +kernel
set_option maxRecDepth 20000 in
theorem er_iY : ∀ w ∈ u_ws "EscapeRouter$Layering" er_FY 9, w ∈ er_tb := by decide +kernel
def er_FR : u_T := fun k => match k with
  | 0 => ("EscapeRouter", "board", "LEscapeRouter$Board;", true)
  | 1 => ("EscapeRouter", "history", "LEscapeRouter$History;", true)
  | 2 => ("EscapeRouter", "text", "LEscapeRouter$GridText;", true)
  | 3 => ("EscapeRouter", "selectionNetwork", "LEscapeRouter$FlowNetwork;", true)
  | 4 => ("EscapeRouter", "layerNetwork", "LEscapeRouter$FlowNetwork;", true)
  | 5 => ("EscapeRouter", "layerings", "[LEscapeRouter$Layering;", true)
  | 6 => ("EscapeRouter", "open", "[Z", true)
  | 7 => ("EscapeRouter", "selectionSolved", "Z", false)
  | 8 => ("EscapeRouter", "escaping", "I", false)
  | _ => ("EscapeRouter", "knownThroughput", "I", false)
def er_tR : Nat → FieldType := fun k => match k with
  | 0 => .object "EscapeRouter$Board"
  | 1 => .object "EscapeRouter$History"
  | 2 => .object "EscapeRouter$GridText"
  | 3 => .object "EscapeRouter$FlowNetwork"
  | 4 => .object "EscapeRouter$FlowNetwork"
  | 5 => .array (.object "EscapeRouter$Layering")
  | 6 => .array .boolean
  | 7 => .boolean
  | 8 => .int
  | _ => .int
theorem er_nR : ∀ a, a < 10 → ∀ b, b < 10 → a ≠ b → (er_FR a).2.1 ≠ (er_FR b).2.1 := by decide +kernel
theorem er_tR_ok : ∀ k, k < 10 → parseFieldDescriptor (er_FR k).2.2.1 = some (er_tR k) := by decide +kernel
set_option maxRecDepth 20000 in
theorem er_iR : ∀ w ∈ u_ws "EscapeRouter" er_FR 10, w ∈ er_tb := by decide +kernel
def er_FM : u_T := fun k => match k with
  | 0 => ("EscapeRouterModel", "s", "[I", true)
  | 1 => ("EscapeRouterModel", "past", "[I", true)
  | 2 => ("EscapeRouterModel", "pasts", "I", false)
  | 3 => ("EscapeRouterModel", "text", "[B", true)
  | 4 => ("EscapeRouterModel", "typed", "I", false)
  | 5 => ("EscapeRouterModel", "draft", "[I", true)
  | 6 => ("EscapeRouterModel", "draftRows", "I", false)
  | 7 => ("EscapeRouterModel", "draftColumns", "I", false)
  | 8 => ("EscapeRouterModel", "from", "[I", true)
  | 9 => ("EscapeRouterModel", "to", "[I", true)
  | 10 => ("EscapeRouterModel", "room", "[I", true)
  | 11 => ("EscapeRouterModel", "latest", "[I", true)
  | 12 => ("EscapeRouterModel", "former", "[I", true)
  | 13 => ("EscapeRouterModel", "edges", "I", false)
  | 14 => ("EscapeRouterModel", "isOpen", "[Z", true)
  | 15 => ("EscapeRouterModel", "line", "[I", true)
  | 16 => ("EscapeRouterModel", "by", "[I", true)
  | 17 => ("EscapeRouterModel", "isNear", "[Z", true)
  | 18 => ("EscapeRouterModel", "layer", "[I", true)
  | 19 => ("EscapeRouterModel", "order", "[I", true)
  | 20 => ("EscapeRouterModel", "ordered", "I", false)
  | _ => ("EscapeRouterModel", "before", "[I", true)
def er_tM : Nat → FieldType := fun k => match k with
  | 0 => .array .int
  | 1 => .array .int
  | 2 => .int
  | 3 => .array .byte
  | 4 => .int
  | 5 => .array .int
  | 6 => .int
  | 7 => .int
  | 8 => .array .int
  | 9 => .array .int
  | 10 => .array .int
  | 11 => .array .int
  | 12 => .array .int
  | 13 => .int
  | 14 => .array .boolean
  | 15 => .array .int
  | 16 => .array .int
  | 17 => .array .boolean
  | 18 => .array .int
  | 19 => .array .int
  | 20 => .int
  | _ => .array .int
theorem er_nM : ∀ a, a < 22 → ∀ b, b < 22 → a ≠ b → (er_FM a).2.1 ≠ (er_FM b).2.1 := by decide +kernel
theorem er_tM_ok : ∀ k, k < 22 → parseFieldDescriptor (er_FM k).2.2.1 = some (er_tM k) := by decide +kernel
set_option maxRecDepth 20000 in
theorem er_iM : ∀ w ∈ u_ws "EscapeRouterModel" er_FM 22, w ∈ er_tb := by decide +kernel
abbrev er_cl : List vw_C := [("EscapeRouter$Board", er_FB, 7), ("EscapeRouter$FlowNetwork", er_FN, 11), ("EscapeRouter$GridText", er_FG, 5), ("EscapeRouter$History", er_FH, 2), ("EscapeRouter$Layering", er_FY, 9), ("EscapeRouter", er_FR, 10), ("EscapeRouterModel", er_FM, 22)]
-- the law itself: frames, locals needed: (7, 176)
abbrev er_I : Type := MethodName × ByteArray × Nat × Option FieldType × Room
def mi_R_init : er_I := (⟨"EscapeRouter", "<init>", "()V"⟩, prog_1_method_1_code, 2, none, { frames := 3, cells := 81, slots := 8876, locals := 64 })
def mi_R_appendCharacter : er_I := (⟨"EscapeRouter", "appendCharacter", "(I)I"⟩, prog_1_method_2_code, 2, some .int, { frames := 1, cells := 0, slots := 0, locals := 21 })
def mi_R_clearText : er_I := (⟨"EscapeRouter", "clearText", "()I"⟩, prog_1_method_3_code, 2, some .int, { frames := 0, cells := 0, slots := 0, locals := 0 })
def mi_R_loadGrid : er_I := (⟨"EscapeRouter", "loadGrid", "()I"⟩, prog_1_method_4_code, 2, some .int, { frames := 4, cells := 0, slots := 0, locals := 88 })
def mi_R_setKind : er_I := (⟨"EscapeRouter", "setKind", "(III)I"⟩, prog_1_method_5_code, 6, some .int, { frames := 4, cells := 0, slots := 0, locals := 88 })
def mi_R_setChannelCapacity : er_I := (⟨"EscapeRouter", "setChannelCapacity", "(I)I"⟩, prog_1_method_6_code, 3, some .int, { frames := 4, cells := 0, slots := 0, locals := 88 })
def mi_R_setTileCapacity : er_I := (⟨"EscapeRouter", "setTileCapacity", "(I)I"⟩, prog_1_method_7_code, 3, some .int, { frames := 4, cells := 0, slots := 0, locals := 88 })
def mi_R_rows : er_I := (⟨"EscapeRouter", "rows", "()I"⟩, prog_1_method_8_code, 1, some .int, { frames := 0, cells := 0, slots := 0, locals := 0 })
def mi_R_columns : er_I := (⟨"EscapeRouter", "columns", "()I"⟩, prog_1_method_9_code, 1, some .int, { frames := 0, cells := 0, slots := 0, locals := 0 })
def mi_R_kindAt : er_I := (⟨"EscapeRouter", "kindAt", "(II)I"⟩, prog_1_method_10_code, 3, some .int, { frames := 1, cells := 0, slots := 0, locals := 22 })
def mi_R_signalCount : er_I := (⟨"EscapeRouter", "signalCount", "()I"⟩, prog_1_method_11_code, 1, some .int, { frames := 1, cells := 0, slots := 0, locals := 22 })
def mi_R_makePair : er_I := (⟨"EscapeRouter", "makePair", "(IIII)I"⟩, prog_1_method_12_code, 7, some .int, { frames := 4, cells := 0, slots := 0, locals := 88 })
def mi_R_breakPair : er_I := (⟨"EscapeRouter", "breakPair", "(II)I"⟩, prog_1_method_13_code, 4, some .int, { frames := 4, cells := 0, slots := 0, locals := 88 })
def mi_R_partnerOf : er_I := (⟨"EscapeRouter", "partnerOf", "(II)I"⟩, prog_1_method_14_code, 4, some .int, { frames := 1, cells := 0, slots := 0, locals := 22 })
def mi_R_select : er_I := (⟨"EscapeRouter", "select", "(II)I"⟩, prog_1_method_15_code, 4, some .int, { frames := 4, cells := 0, slots := 0, locals := 88 })
def mi_R_deselect : er_I := (⟨"EscapeRouter", "deselect", "(II)I"⟩, prog_1_method_16_code, 4, some .int, { frames := 4, cells := 0, slots := 0, locals := 88 })
def mi_R_clearSelection : er_I := (⟨"EscapeRouter", "clearSelection", "()I"⟩, prog_1_method_17_code, 3, some .int, { frames := 4, cells := 0, slots := 0, locals := 88 })
def mi_R_escapeCount : er_I := (⟨"EscapeRouter", "escapeCount", "()I"⟩, prog_1_method_18_code, 1, some .int, { frames := 5, cells := 0, slots := 0, locals := 121 })
def mi_R_tileSide : er_I := (⟨"EscapeRouter", "tileSide", "(II)I"⟩, prog_1_method_19_code, 3, some .int, { frames := 5, cells := 0, slots := 0, locals := 121 })
def mi_R_cutChannels : er_I := (⟨"EscapeRouter", "cutChannels", "()I"⟩, prog_1_method_20_code, 1, some .int, { frames := 5, cells := 0, slots := 0, locals := 121 })
def mi_R_layerCount : er_I := (⟨"EscapeRouter", "layerCount", "(I)I"⟩, prog_1_method_21_code, 3, some .int, { frames := 6, cells := 0, slots := 0, locals := 152 })
def mi_R_layerOf : er_I := (⟨"EscapeRouter", "layerOf", "(III)I"⟩, prog_1_method_22_code, 5, some .int, { frames := 6, cells := 0, slots := 0, locals := 152 })
def mi_R_layerLoad : er_I := (⟨"EscapeRouter", "layerLoad", "(II)I"⟩, prog_1_method_23_code, 3, some .int, { frames := 6, cells := 0, slots := 0, locals := 152 })
def mi_R_bestStrategy : er_I := (⟨"EscapeRouter", "bestStrategy", "()I"⟩, prog_1_method_24_code, 5, some .int, { frames := 6, cells := 0, slots := 0, locals := 152 })
def mi_R_throughput : er_I := (⟨"EscapeRouter", "throughput", "()I"⟩, prog_1_method_25_code, 2, some .int, { frames := 4, cells := 0, slots := 0, locals := 100 })
def mi_R_lowerBound : er_I := (⟨"EscapeRouter", "lowerBound", "()I"⟩, prog_1_method_26_code, 3, some .int, { frames := 5, cells := 0, slots := 0, locals := 121 })
def mi_R_undo : er_I := (⟨"EscapeRouter", "undo", "()I"⟩, prog_1_method_27_code, 1, some .int, { frames := 3, cells := 0, slots := 0, locals := 68 })
def mi_R_placeOf : er_I := (⟨"EscapeRouter", "placeOf", "(II)I"⟩, prog_1_method_28_code, 2, some .int, { frames := 0, cells := 0, slots := 0, locals := 0 })
def mi_R_tileAt : er_I := (⟨"EscapeRouter", "tileAt", "(II)I"⟩, prog_1_method_29_code, 2, some .int, { frames := 0, cells := 0, slots := 0, locals := 0 })
def mi_R_isStrategy : er_I := (⟨"EscapeRouter", "isStrategy", "(I)Z"⟩, prog_1_method_30_code, 1, some .boolean, { frames := 0, cells := 0, slots := 0, locals := 0 })
def mi_R_beginEdit : er_I := (⟨"EscapeRouter", "beginEdit", "()V"⟩, prog_1_method_31_code, 1, none, { frames := 3, cells := 0, slots := 0, locals := 68 })
def mi_R_forgetResults : er_I := (⟨"EscapeRouter", "forgetResults", "()V"⟩, prog_1_method_32_code, 2, none, { frames := 0, cells := 0, slots := 0, locals := 0 })
def mi_R_solveSelection : er_I := (⟨"EscapeRouter", "solveSelection", "()V"⟩, prog_1_method_33_code, 2, none, { frames := 4, cells := 0, slots := 0, locals := 100 })
def mi_M_init : er_I := (⟨"EscapeRouterModel", "<init>", "()V"⟩, prog_8_method_1_code, 2, none, { frames := 1, cells := 16, slots := 5556, locals := 20 })
def mi_M_in : er_I := (⟨"EscapeRouterModel", "in", "(III)Z"⟩, prog_8_method_3_code, 3, some .boolean, { frames := 0, cells := 0, slots := 0, locals := 0 })
def mi_M_edit : er_I := (⟨"EscapeRouterModel", "edit", "()V"⟩, prog_8_method_4_code, 2, none, { frames := 0, cells := 0, slots := 0, locals := 0 })
def mi_M_undo : er_I := (⟨"EscapeRouterModel", "undo", "()I"⟩, prog_8_method_5_code, 2, some .int, { frames := 0, cells := 0, slots := 0, locals := 0 })
def mi_M_appendCharacter : er_I := (⟨"EscapeRouterModel", "appendCharacter", "(I)I"⟩, prog_8_method_6_code, 2, some .int, { frames := 1, cells := 0, slots := 0, locals := 22 })
def mi_M_clearText : er_I := (⟨"EscapeRouterModel", "clearText", "()I"⟩, prog_8_method_7_code, 2, some .int, { frames := 0, cells := 0, slots := 0, locals := 0 })
def mi_M_readGrid : er_I := (⟨"EscapeRouterModel", "readGrid", "()I"⟩, prog_8_method_8_code, 6, some .int, { frames := 0, cells := 0, slots := 0, locals := 0 })
def mi_M_loadGrid : er_I := (⟨"EscapeRouterModel", "loadGrid", "()I"⟩, prog_8_method_9_code, 3, some .int, { frames := 1, cells := 0, slots := 0, locals := 25 })
def mi_M_isPosition : er_I := (⟨"EscapeRouterModel", "isPosition", "(II)Z"⟩, prog_8_method_10_code, 3, some .boolean, { frames := 1, cells := 0, slots := 0, locals := 22 })
def mi_M_signals : er_I := (⟨"EscapeRouterModel", "signals", "()I"⟩, prog_8_method_11_code, 3, some .int, { frames := 0, cells := 0, slots := 0, locals := 0 })
def mi_M_unpair : er_I := (⟨"EscapeRouterModel", "unpair", "(I)V"⟩, prog_8_method_12_code, 2, none, { frames := 0, cells := 0, slots := 0, locals := 0 })
def mi_M_setKind : er_I := (⟨"EscapeRouterModel", "setKind", "(III)I"⟩, prog_8_method_13_code, 6, some .int, { frames := 2, cells := 0, slots := 0, locals := 44 })
def mi_M_setChannelCapacity : er_I := (⟨"EscapeRouterModel", "setChannelCapacity", "(I)I"⟩, prog_8_method_14_code, 3, some .int, { frames := 1, cells := 0, slots := 0, locals := 22 })
def mi_M_setTileCapacity : er_I := (⟨"EscapeRouterModel", "setTileCapacity", "(I)I"⟩, prog_8_method_15_code, 3, some .int, { frames := 1, cells := 0, slots := 0, locals := 22 })
def mi_M_rows : er_I := (⟨"EscapeRouterModel", "rows", "()I"⟩, prog_8_method_16_code, 1, some .int, { frames := 0, cells := 0, slots := 0, locals := 0 })
def mi_M_columns : er_I := (⟨"EscapeRouterModel", "columns", "()I"⟩, prog_8_method_17_code, 1, some .int, { frames := 0, cells := 0, slots := 0, locals := 0 })
def mi_M_kindAt : er_I := (⟨"EscapeRouterModel", "kindAt", "(II)I"⟩, prog_8_method_18_code, 3, some .int, { frames := 2, cells := 0, slots := 0, locals := 44 })
def mi_M_signalCount : er_I := (⟨"EscapeRouterModel", "signalCount", "()I"⟩, prog_8_method_19_code, 1, some .int, { frames := 1, cells := 0, slots := 0, locals := 22 })
def mi_M_pairs : er_I := (⟨"EscapeRouterModel", "pairs", "()I"⟩, prog_8_method_20_code, 3, some .int, { frames := 0, cells := 0, slots := 0, locals := 0 })
def mi_M_isFree : er_I := (⟨"EscapeRouterModel", "isFree", "(I)Z"⟩, prog_8_method_21_code, 2, some .boolean, { frames := 0, cells := 0, slots := 0, locals := 0 })
def mi_M_makePair : er_I := (⟨"EscapeRouterModel", "makePair", "(IIII)I"⟩, prog_8_method_22_code, 9, some .int, { frames := 2, cells := 0, slots := 0, locals := 44 })
def mi_M_breakPair : er_I := (⟨"EscapeRouterModel", "breakPair", "(II)I"⟩, prog_8_method_23_code, 3, some .int, { frames := 2, cells := 0, slots := 0, locals := 44 })
def mi_M_partnerOf : er_I := (⟨"EscapeRouterModel", "partnerOf", "(II)I"⟩, prog_8_method_24_code, 4, some .int, { frames := 2, cells := 0, slots := 0, locals := 44 })
def mi_M_selected : er_I := (⟨"EscapeRouterModel", "selected", "()I"⟩, prog_8_method_25_code, 3, some .int, { frames := 0, cells := 0, slots := 0, locals := 0 })
def mi_M_select : er_I := (⟨"EscapeRouterModel", "select", "(II)I"⟩, prog_8_method_26_code, 4, some .int, { frames := 2, cells := 0, slots := 0, locals := 44 })
def mi_M_deselect : er_I := (⟨"EscapeRouterModel", "deselect", "(II)I"⟩, prog_8_method_27_code, 4, some .int, { frames := 2, cells := 0, slots := 0, locals := 44 })
def mi_M_clearSelection : er_I := (⟨"EscapeRouterModel", "clearSelection", "()I"⟩, prog_8_method_28_code, 3, some .int, { frames := 1, cells := 0, slots := 0, locals := 22 })
def mi_M_lead : er_I := (⟨"EscapeRouterModel", "lead", "(III)V"⟩, prog_8_method_29_code, 4, none, { frames := 0, cells := 0, slots := 0, locals := 0 })
def mi_M_join : er_I := (⟨"EscapeRouterModel", "join", "(III)V"⟩, prog_8_method_30_code, 4, none, { frames := 1, cells := 0, slots := 0, locals := 23 })
def mi_M_cutBack : er_I := (⟨"EscapeRouterModel", "cutBack", "(I)V"⟩, prog_8_method_31_code, 2, none, { frames := 0, cells := 0, slots := 0, locals := 0 })
def mi_M_tile : er_I := (⟨"EscapeRouterModel", "tile", "(II)I"⟩, prog_8_method_32_code, 2, some .int, { frames := 0, cells := 0, slots := 0, locals := 0 })
def mi_M_joinTiles : er_I := (⟨"EscapeRouterModel", "joinTiles", "(IIII)V"⟩, prog_8_method_33_code, 6, none, { frames := 2, cells := 0, slots := 0, locals := 46 })
def mi_M_isRim : er_I := (⟨"EscapeRouterModel", "isRim", "(II)Z"⟩, prog_8_method_34_code, 3, some .boolean, { frames := 0, cells := 0, slots := 0, locals := 0 })
def mi_M_lay : er_I := (⟨"EscapeRouterModel", "lay", "()V"⟩, prog_8_method_35_code, 4, none, { frames := 3, cells := 0, slots := 0, locals := 71 })
def mi_M_layPin : er_I := (⟨"EscapeRouterModel", "layPin", "(II)V"⟩, prog_8_method_36_code, 4, none, { frames := 2, cells := 0, slots := 0, locals := 46 })
def mi_M_reach : er_I := (⟨"EscapeRouterModel", "reach", "()V"⟩, prog_8_method_37_code, 4, none, { frames := 0, cells := 0, slots := 0, locals := 0 })
def mi_M_augment : er_I := (⟨"EscapeRouterModel", "augment", "()I"⟩, prog_8_method_38_code, 4, some .int, { frames := 1, cells := 0, slots := 0, locals := 23 })
def mi_M_augmentAll : er_I := (⟨"EscapeRouterModel", "augmentAll", "()I"⟩, prog_8_method_39_code, 3, some .int, { frames := 2, cells := 0, slots := 0, locals := 46 })
def mi_M_openNone : er_I := (⟨"EscapeRouterModel", "openNone", "()V"⟩, prog_8_method_40_code, 2, none, { frames := 0, cells := 0, slots := 0, locals := 0 })
def mi_M_escape : er_I := (⟨"EscapeRouterModel", "escape", "()I"⟩, prog_8_method_41_code, 2, some .int, { frames := 4, cells := 0, slots := 0, locals := 94 })
def mi_M_escapeCount : er_I := (⟨"EscapeRouterModel", "escapeCount", "()I"⟩, prog_8_method_42_code, 1, some .int, { frames := 5, cells := 0, slots := 0, locals := 115 })
def mi_M_tileSide : er_I := (⟨"EscapeRouterModel", "tileSide", "(II)I"⟩, prog_8_method_43_code, 4, some .int, { frames := 5, cells := 0, slots := 0, locals := 115 })
def mi_M_isCut : er_I := (⟨"EscapeRouterModel", "isCut", "(II)I"⟩, prog_8_method_44_code, 3, some .int, { frames := 0, cells := 0, slots := 0, locals := 0 })
def mi_M_cutChannels : er_I := (⟨"EscapeRouterModel", "cutChannels", "()I"⟩, prog_8_method_45_code, 4, some .int, { frames := 5, cells := 0, slots := 0, locals := 115 })
def mi_M_ring : er_I := (⟨"EscapeRouterModel", "ring", "(I)I"⟩, prog_8_method_46_code, 5, some .int, { frames := 0, cells := 0, slots := 0, locals := 0 })
def mi_M_rank : er_I := (⟨"EscapeRouterModel", "rank", "(II)I"⟩, prog_8_method_47_code, 3, some .int, { frames := 1, cells := 0, slots := 0, locals := 24 })
def mi_M_sort : er_I := (⟨"EscapeRouterModel", "sort", "(I)V"⟩, prog_8_method_48_code, 4, none, { frames := 2, cells := 0, slots := 0, locals := 46 })
def mi_M_puts : er_I := (⟨"EscapeRouterModel", "puts", "(II)Z"⟩, prog_8_method_49_code, 6, some .boolean, { frames := 3, cells := 0, slots := 0, locals := 69 })
def mi_M_layering : er_I := (⟨"EscapeRouterModel", "layering", "(I)I"⟩, prog_8_method_50_code, 8, some .int, { frames := 4, cells := 0, slots := 0, locals := 94 })
def mi_M_isFirst : er_I := (⟨"EscapeRouterModel", "isFirst", "(II)Z"⟩, prog_8_method_51_code, 5, some .boolean, { frames := 0, cells := 0, slots := 0, locals := 0 })
def mi_M_isStrategy : er_I := (⟨"EscapeRouterModel", "isStrategy", "(I)Z"⟩, prog_8_method_52_code, 1, some .boolean, { frames := 1, cells := 0, slots := 0, locals := 22 })
def mi_M_layerCount : er_I := (⟨"EscapeRouterModel", "layerCount", "(I)I"⟩, prog_8_method_53_code, 2, some .int, { frames := 5, cells := 0, slots := 0, locals := 121 })
def mi_M_layerOf : er_I := (⟨"EscapeRouterModel", "layerOf", "(III)I"⟩, prog_8_method_54_code, 4, some .int, { frames := 5, cells := 0, slots := 0, locals := 121 })
def mi_M_layerLoad : er_I := (⟨"EscapeRouterModel", "layerLoad", "(II)I"⟩, prog_8_method_55_code, 5, some .int, { frames := 5, cells := 0, slots := 0, locals := 121 })
def mi_M_bestStrategy : er_I := (⟨"EscapeRouterModel", "bestStrategy", "()I"⟩, prog_8_method_56_code, 5, some .int, { frames := 5, cells := 0, slots := 0, locals := 121 })
def mi_M_most : er_I := (⟨"EscapeRouterModel", "most", "()I"⟩, prog_8_method_57_code, 2, some .int, { frames := 4, cells := 0, slots := 0, locals := 94 })
def mi_M_throughput : er_I := (⟨"EscapeRouterModel", "throughput", "()I"⟩, prog_8_method_58_code, 1, some .int, { frames := 5, cells := 0, slots := 0, locals := 115 })
def mi_M_lowerBound : er_I := (⟨"EscapeRouterModel", "lowerBound", "()I"⟩, prog_8_method_59_code, 3, some .int, { frames := 5, cells := 0, slots := 0, locals := 115 })
def mi_B_init : er_I := (⟨"EscapeRouter$Board", "<init>", "()V"⟩, prog_2_method_1_code, 3, none, { frames := 1, cells := 3, slots := 108, locals := 21 })
def mi_B_copyFrom : er_I := (⟨"EscapeRouter$Board", "copyFrom", "(LEscapeRouter$Board;)V"⟩, prog_2_method_2_code, 2, none, { frames := 1, cells := 0, slots := 0, locals := 26 })
def mi_B_replaceGrid : er_I := (⟨"EscapeRouter$Board", "replaceGrid", "(LEscapeRouter$GridText;)V"⟩, prog_2_method_3_code, 5, none, { frames := 1, cells := 0, slots := 0, locals := 22 })
def mi_B_has : er_I := (⟨"EscapeRouter$Board", "has", "(II)Z"⟩, prog_2_method_4_code, 3, some .boolean, { frames := 0, cells := 0, slots := 0, locals := 0 })
def mi_B_isFreeForPair : er_I := (⟨"EscapeRouter$Board", "isFreeForPair", "(I)Z"⟩, prog_2_method_5_code, 2, some .boolean, { frames := 0, cells := 0, slots := 0, locals := 0 })
def mi_B_separate : er_I := (⟨"EscapeRouter$Board", "separate", "(I)V"⟩, prog_2_method_6_code, 3, none, { frames := 0, cells := 0, slots := 0, locals := 0 })
def mi_B_countSignals : er_I := (⟨"EscapeRouter$Board", "countSignals", "()I"⟩, prog_2_method_7_code, 3, some .int, { frames := 0, cells := 0, slots := 0, locals := 0 })
def mi_B_countPairs : er_I := (⟨"EscapeRouter$Board", "countPairs", "()I"⟩, prog_2_method_8_code, 3, some .int, { frames := 0, cells := 0, slots := 0, locals := 0 })
def mi_B_countSelected : er_I := (⟨"EscapeRouter$Board", "countSelected", "()I"⟩, prog_2_method_9_code, 3, some .int, { frames := 0, cells := 0, slots := 0, locals := 0 })
def mi_N_init : er_I := (⟨"EscapeRouter$FlowNetwork", "<init>", "()V"⟩, prog_3_method_1_code, 1, none, { frames := 1, cells := 8, slots := 3528, locals := 20 })
def mi_N_build : er_I := (⟨"EscapeRouter$FlowNetwork", "build", "(LEscapeRouter$Board;[ZI)V"⟩, prog_3_method_2_code, 5, none, { frames := 3, cells := 0, slots := 0, locals := 76 })
def mi_N_connectPins : er_I := (⟨"EscapeRouter$FlowNetwork", "connectPins", "(LEscapeRouter$Board;I)V"⟩, prog_3_method_3_code, 7, none, { frames := 1, cells := 0, slots := 0, locals := 25 })
def mi_N_connectTiles : er_I := (⟨"EscapeRouter$FlowNetwork", "connectTiles", "(LEscapeRouter$Board;)V"⟩, prog_3_method_4_code, 5, none, { frames := 1, cells := 0, slots := 0, locals := 25 })
def mi_N_connectChannels : er_I := (⟨"EscapeRouter$FlowNetwork", "connectChannels", "(LEscapeRouter$Board;[Z)V"⟩, prog_3_method_5_code, 9, none, { frames := 2, cells := 0, slots := 0, locals := 48 })
def mi_N_connectBothWays : er_I := (⟨"EscapeRouter$FlowNetwork", "connectBothWays", "(III)V"⟩, prog_3_method_6_code, 4, none, { frames := 1, cells := 0, slots := 0, locals := 25 })
def mi_N_connect : er_I := (⟨"EscapeRouter$FlowNetwork", "connect", "(III)V"⟩, prog_3_method_7_code, 6, none, { frames := 0, cells := 0, slots := 0, locals := 0 })
def mi_N_supply : er_I := (⟨"EscapeRouter$FlowNetwork", "supply", "(II)V"⟩, prog_3_method_8_code, 3, none, { frames := 0, cells := 0, slots := 0, locals := 0 })
def mi_N_keepFlow : er_I := (⟨"EscapeRouter$FlowNetwork", "keepFlow", "()V"⟩, prog_3_method_9_code, 1, none, { frames := 1, cells := 0, slots := 0, locals := 26 })
def mi_N_giveFlowBack : er_I := (⟨"EscapeRouter$FlowNetwork", "giveFlowBack", "()V"⟩, prog_3_method_10_code, 1, none, { frames := 1, cells := 0, slots := 0, locals := 26 })
def mi_N_pushAll : er_I := (⟨"EscapeRouter$FlowNetwork", "pushAll", "()I"⟩, prog_3_method_11_code, 4, some .int, { frames := 2, cells := 0, slots := 0, locals := 49 })
def mi_N_push : er_I := (⟨"EscapeRouter$FlowNetwork", "push", "()I"⟩, prog_3_method_12_code, 5, some .int, { frames := 1, cells := 0, slots := 0, locals := 25 })
def mi_N_findWay : er_I := (⟨"EscapeRouter$FlowNetwork", "findWay", "()Z"⟩, prog_3_method_13_code, 6, some .boolean, { frames := 0, cells := 0, slots := 0, locals := 0 })
def mi_N_isNear : er_I := (⟨"EscapeRouter$FlowNetwork", "isNear", "(I)Z"⟩, prog_3_method_14_code, 2, some .boolean, { frames := 0, cells := 0, slots := 0, locals := 0 })
def mi_N_sideOf : er_I := (⟨"EscapeRouter$FlowNetwork", "sideOf", "(I)I"⟩, prog_3_method_15_code, 2, some .int, { frames := 1, cells := 0, slots := 0, locals := 21 })
def mi_N_countCutChannels : er_I := (⟨"EscapeRouter$FlowNetwork", "countCutChannels", "()I"⟩, prog_3_method_16_code, 3, some .int, { frames := 2, cells := 0, slots := 0, locals := 42 })
def mi_N_leavesNearSide : er_I := (⟨"EscapeRouter$FlowNetwork", "leavesNearSide", "(I)Z"⟩, prog_3_method_17_code, 2, some .boolean, { frames := 1, cells := 0, slots := 0, locals := 21 })
def mi_G_init : er_I := (⟨"EscapeRouter$GridText", "<init>", "()V"⟩, prog_4_method_1_code, 1, none, { frames := 1, cells := 2, slots := 96, locals := 20 })
def mi_G_add : er_I := (⟨"EscapeRouter$GridText", "add", "(I)Z"⟩, prog_4_method_2_code, 2, some .boolean, { frames := 0, cells := 0, slots := 0, locals := 0 })
def mi_G_read : er_I := (⟨"EscapeRouter$GridText", "read", "()I"⟩, prog_4_method_3_code, 4, some .int, { frames := 2, cells := 0, slots := 0, locals := 42 })
def mi_G_isAllowed : er_I := (⟨"EscapeRouter$GridText", "isAllowed", "(II)Z"⟩, prog_4_method_4_code, 3, some .boolean, { frames := 1, cells := 0, slots := 0, locals := 20 })
def mi_G_kindOf : er_I := (⟨"EscapeRouter$GridText", "kindOf", "(I)I"⟩, prog_4_method_5_code, 1, some .int, { frames := 0, cells := 0, slots := 0, locals := 0 })
def mi_H_init : er_I := (⟨"EscapeRouter$History", "<init>", "()V"⟩, prog_5_method_1_code, 2, none, { frames := 2, cells := 33, slots := 928, locals := 43 })
def mi_H_keep : er_I := (⟨"EscapeRouter$History", "keep", "(LEscapeRouter$Board;)V"⟩, prog_5_method_2_code, 2, none, { frames := 2, cells := 0, slots := 0, locals := 47 })
def mi_H_dropOldest : er_I := (⟨"EscapeRouter$History", "dropOldest", "()V"⟩, prog_5_method_3_code, 3, none, { frames := 0, cells := 0, slots := 0, locals := 0 })
def mi_H_giveBack : er_I := (⟨"EscapeRouter$History", "giveBack", "(LEscapeRouter$Board;)V"⟩, prog_5_method_4_code, 2, none, { frames := 2, cells := 0, slots := 0, locals := 47 })
def mi_Y_init : er_I := (⟨"EscapeRouter$Layering", "<init>", "(I)V"⟩, prog_6_method_1_code, 2, none, { frames := 1, cells := 4, slots := 144, locals := 20 })
def mi_Y_countOn : er_I := (⟨"EscapeRouter$Layering", "countOn", "(I)I"⟩, prog_6_method_2_code, 4, some .int, { frames := 0, cells := 0, slots := 0, locals := 0 })
def mi_Y_refresh : er_I := (⟨"EscapeRouter$Layering", "refresh", "(LEscapeRouter$Board;LEscapeRouter$FlowNetwork;)LEscapeRouter$Layering;"⟩, prog_6_method_3_code, 6, some (.object "EscapeRouter$Layering"), { frames := 5, cells := 0, slots := 0, locals := 127 })
def mi_Y_fill : er_I := (⟨"EscapeRouter$Layering", "fill", "(ILEscapeRouter$Board;LEscapeRouter$FlowNetwork;)I"⟩, prog_6_method_4_code, 8, some .int, { frames := 4, cells := 0, slots := 0, locals := 100 })
def mi_Y_consider : er_I := (⟨"EscapeRouter$Layering", "consider", "(IIILEscapeRouter$FlowNetwork;)I"⟩, prog_6_method_5_code, 8, some .int, { frames := 2, cells := 0, slots := 0, locals := 49 })
def mi_Y_putInOrder : er_I := (⟨"EscapeRouter$Layering", "putInOrder", "(LEscapeRouter$Board;)V"⟩, prog_6_method_6_code, 3, none, { frames := 3, cells := 0, slots := 0, locals := 69 })
def mi_Y_addByRows : er_I := (⟨"EscapeRouter$Layering", "addByRows", "(LEscapeRouter$Board;)V"⟩, prog_6_method_7_code, 4, none, { frames := 2, cells := 0, slots := 0, locals := 43 })
def mi_Y_addByColumns : er_I := (⟨"EscapeRouter$Layering", "addByColumns", "(LEscapeRouter$Board;)V"⟩, prog_6_method_8_code, 4, none, { frames := 2, cells := 0, slots := 0, locals := 43 })
def mi_Y_addRing : er_I := (⟨"EscapeRouter$Layering", "addRing", "(LEscapeRouter$Board;I)V"⟩, prog_6_method_9_code, 5, none, { frames := 2, cells := 0, slots := 0, locals := 45 })
def mi_Y_ringOf : er_I := (⟨"EscapeRouter$Layering", "ringOf", "(LEscapeRouter$Board;II)I"⟩, prog_6_method_10_code, 5, some .int, { frames := 1, cells := 0, slots := 0, locals := 21 })
def mi_Y_addPlace : er_I := (⟨"EscapeRouter$Layering", "addPlace", "(II)V"⟩, prog_6_method_11_code, 3, none, { frames := 1, cells := 0, slots := 0, locals := 21 })
end
section
/-! A calculus over the kit: a method's world is a picture (sh, m): sh says of each cell its kind, its length and its references, m holds the numbers, as whole numbers (Int). er_WP: from this instruction the frame comes to its end. er_Spec: a method's contract. -/
abbrev er_V : Type := Int ⊕ Nat
abbrev er_E : Type := Nat × Nat × List (Option Nat)
abbrev er_Sh : Type := List er_E
abbrev er_M : Type := Nat → Int → Int
abbrev er_K : Type := Launch × Nat × va_G × (Nat → ClassId) × Nat × Nat × (Nat → Int32)
abbrev er_in (x : Int) : Prop := -2147483648 ≤ x ∧ x < 2147483648
def er_ad (K : er_K) (r : Nat) : Nat := if r = 0 then K.2.2.2.2.1 else K.2.1 + r
def er_ro (K : er_K) (r : Nat) : Option Nat := if r = 0 then none else some (K.2.1 + r)
def er_cv (K : er_K) : er_V → Value
  | .inl x => .int (Int32.ofInt x)
  | .inr r => .ref (er_ad K r)
def er_fv (K : er_K) (m : er_M) (c k : Nat) : Option Nat → Value
  | none => .int (Int32.ofInt (m c k))
  | some r => va_rf (er_ro K r)
def er_fs (K : er_K) (m : er_M) (c n : Nat) (rs : List (Option Nat)) : List Value := (List.range n).map (fun k => er_fv K m c k (rs.getD k none))
def er_cell (K : er_K) (m : er_M) (c : Nat) (e : er_E) : va_E :=
  if e.1 < 3 then .inl (K.2.2.2.1 e.1, e.2.1, .inl (fun j => Int32.ofInt (m c j)))
  else if e.1 < 5 then .inl (K.2.2.2.1 e.1, e.2.1, .inr (.inr (.inr (.inr (fun j => er_ro K (m c j).toNat)))))
  else .inr (e.1 - 5, er_fs K m c e.2.1 e.2.2)
def er_ws (K : er_K) (sh : er_Sh) (m : er_M) : va_W := (List.range sh.length).map (fun i => (K.2.1 + (i + 1), er_cell K m (i + 1) (sh.getD i (99, 0, []))))
def er_at (sh : er_Sh) (c : Nat) : Option er_E := match c with
  | 0 => none
  | k + 1 => sh[k]?
def er_ty : Nat → FieldType := fun k => match k with
  | 0 => .int
  | 1 => .boolean
  | 2 => .byte
  | 3 => .object "EscapeRouter$Board"
  | _ => .object "EscapeRouter$Layering"
def er_tys (K : er_K) : List (ClassId × FieldType) := [(K.2.2.2.1 0, .int), (K.2.2.2.1 1, .boolean), (K.2.2.2.1 2, .byte), (K.2.2.2.1 3, .object "EscapeRouter$Board"), (K.2.2.2.1 4, .object "EscapeRouter$Layering")]
def er_A (K : er_K) : Nat → Prop := fun q => K.2.1 < q
/-- what else the state says: the nest mates' links, the rows of objects -/
def er_N (U : State) : Prop := (∀ q ∈ er_nw, va_Nw (.methodLinkNest q.1 q.2.1 q.2.2.1 q.2.2.2) U) ∧ va_AO "EscapeRouter$Board" U ∧ va_AO "EscapeRouter$Layering" U
theorem er_N.warm {s U : State} (hW : s.WarmedH U.vm) (h : er_N s) : er_N U := ⟨fun q hq => va_Nw.warmM hW (h.1 q hq), h.2.1.moved hW.alike, h.2.2.moved hW.alike⟩
theorem er_N.same {u U : State} (hv : u.vm = U.vm) (h : er_N u) : er_N U := ⟨fun q hq => va_Nw.same rfl hv (h.1 q hq), h.2.1.moved (hv ▸ Vm.Alike.refl _), h.2.2.moved (hv ▸ Vm.Alike.refl _)⟩
def er_X (K : er_K) (U : State) : Prop := va_X K.2.2.2.2.1 K.2.2.2.2.2.1 K.2.2.2.2.2.2 U U.heap ∧ K.2.2.2.2.1 ≤ K.2.1 ∧ er_N U
def er_W (K : er_K) (sh : er_Sh) (m : er_M) (U : State) (H : Heap) : Prop := va_P K.2.2.1 er_cl (er_ws K sh m) H ∧ va_K K.2.2.1 er_cl (er_tys K) U
def er_wd (i : er_I) : List Cond := Cond.code i.1 i.2.1 i.2.2.1 i.2.2.2.1 :: er_tb
def er_Cx (K : er_K) (i : er_I) (p : Program) (mm : MethodId) (meth : Method) (c : Code) (s : State) (args : Array Value) : Prop :=
  p.tables.exec = Jvm.exec ∧ c.code = i.2.1 ∧ c.maxLocals = i.2.2.1 ∧ meth.sig.returnType = i.2.2.2.1 ∧ meth.locks = false ∧ meth.name = i.1.name ∧ s.vm.findClass i.1.cls = some mm.cls ∧ (∀ w ∈ er_tb, w.before args s = true) ∧ K.2.1 < s.heap.size ∧ er_X K s
def er_lv (K : er_K) : Nat → List (Option er_V) → List (Nat × Value)
  | _, [] => []
  | i, none :: t => er_lv K (i + 1) t
  | i, some v :: t => (i, er_cv K v) :: er_lv K (i + 1) t
/-- from this instruction on, the frame comes to the target Z -/
def er_WP (K : er_K) (i : er_I) (uc us : Nat) (sh : er_Sh) (m : er_M) (pc : Nat) (ls : List (Option er_V)) (st : List er_V) (Z : List Frame → Array Value → State → State → Prop) : Prop :=
  ∀ (p : Program) (e : Env) (s : State) (mm : MethodId) (args : Array Value) (below : List Frame) (meth : Method) (c : Code) (H : Heap) (locs : List Loc) (la : Array Slot),
    er_Cx K i p mm meth c s args → K.2.1 + 1 + sh.length = s.heap.size + uc → er_W K sh m s H → va_S (er_A K) s.heap H locs → lv_has la i.2.2.1 (er_lv K 0 ls) →
    W p K.1 e i.2.2.2.2 s mm args below meth c H locs uc us (Z below args s) (F0 mm pc la (st.map (er_cv K)))
abbrev er_Post : Type := Option er_V → er_Sh → er_M → Prop
def er_Qc (K : er_K) (i : er_I) (Q : er_Post) : Array Value → State → Outcome → State → Prop := fun _ st oc t =>
  (∃ (v : Option er_V) (sh : er_Sh) (m : er_M), oc = .returned (v.map (er_cv K)) ∧ Q v sh m ∧ er_W K sh m t t.heap ∧ K.2.1 + 1 + sh.length = st.heap.size + i.2.2.2.2.cells) ∧ va_F (er_A K) st t
/-- a method's contract: called with these arguments in this picture it returns, and Q holds of its answer and of the picture behind it -/
def er_Spec (K : er_K) (i : er_I) (as : List er_V) (sh : er_Sh) (m : er_M) (Q : er_Post) : Prop :=
  Met K.1 i.1 (er_wd i) i.2.2.2.2 (va_Pc (as.map (er_cv K)) (fun U => er_W K sh m U U.heap ∧ er_X K U ∧ U.heap.size = K.2.1 + 1 + sh.length)) (er_Qc K i Q) i.2.2.2.2.cells i.2.2.2.2.slots (er_A K)
def er_Z (K : er_K) (i : er_I) (Q : er_Post) : List Frame → Array Value → State → State → Prop := fun below args s => MQ below (er_Qc K i Q) args s i.2.2.2.2.cells i.2.2.2.2.slots (er_A K)
/-- a number is written -/
def er_st (m : er_M) (c : Nat) (k v : Int) : er_M := fun c' k' => if c' = c ∧ k' = k then v else m c' k'
/-- a new cell of zeros -/
def er_clr (m : er_M) (c : Nat) : er_M := fun c' k' => if c' = c then 0 else m c' k'
/-- part of a row is copied to another -/
def er_cpy (m : er_M) (a b : Nat) (n : Int) : er_M := fun c' k' => if c' = b ∧ 0 ≤ k' ∧ k' < n then m a k' else m c' k'
/-- a reference is written -/
def er_sr (sh : er_Sh) (c k r : Nat) : er_Sh := match c with
  | 0 => sh
  | j + 1 => sh.set j ((sh.getD j (99, 0, [])).1, (sh.getD j (99, 0, [])).2.1, (sh.getD j (99, 0, [])).2.2.set k (some r))
theorem er_at_ne {sh : er_Sh} {c : Nat} {e : er_E} (h : er_at sh c = some e) : ∃ k, c = k + 1 ∧ sh[k]? = some e ∧ k < sh.length := by
  cases c with
  | zero => cases h
  | succ k => exact ⟨k, rfl, h, (List.getElem?_eq_some_iff.mp h).1⟩
theorem er_ad_at {K : er_K} {sh : er_Sh} {c : Nat} {e : er_E} (h : er_at sh c = some e) : er_ad K c = K.2.1 + c := by
  obtain ⟨k, rfl, -⟩ := er_at_ne h
  rfl
theorem er_ws_at {K : er_K} {sh : er_Sh} {m : er_M} {c : Nat} {e : er_E} (h : er_at sh c = some e) : (er_ws K sh m)[c - 1]? = some (K.2.1 + c, er_cell K m c e) := by
  obtain ⟨k, rfl, h1, h2⟩ := er_at_ne h
  simp only [er_ws, Nat.add_sub_cancel, List.getElem?_map, List.getElem?_range h2, Option.map_some, List.getD_eq_getElem?_getD, h1, Option.getD_some]
theorem er_ws_len (K : er_K) (sh : er_Sh) (m : er_M) : (er_ws K sh m).length = sh.length := by simp [er_ws]
theorem er_ws_D (K : er_K) (sh : er_Sh) (m : er_M) : va_D (er_A K) (er_ws K sh m) := by
  refine ⟨fun i j p q hi hj h => ?_, fun k q hk => ?_⟩
  · obtain ⟨i', hi1, hi2⟩ : ∃ i', i' = i ∧ p.1 = K.2.1 + (i' + 1) := by
      refine ⟨i, rfl, ?_⟩
      simp only [er_ws, List.getElem?_map, Option.map_eq_some_iff] at hi
      obtain ⟨a, h1, h2⟩ := hi
      have h3 := (List.getElem?_eq_some_iff.mp h1)
      obtain ⟨h4, h5⟩ := h3
      simp at h5
      rw [← h2, ← h5]
    obtain ⟨j', hj1, hj2⟩ : ∃ j', j' = j ∧ q.1 = K.2.1 + (j' + 1) := by
      refine ⟨j, rfl, ?_⟩
      simp only [er_ws, List.getElem?_map, Option.map_eq_some_iff] at hj
      obtain ⟨a, h1, h2⟩ := hj
      have h3 := (List.getElem?_eq_some_iff.mp h1)
      obtain ⟨h4, h5⟩ := h3
      simp at h5
      rw [← h2, ← h5]
    omega
  · simp only [er_ws, List.getElem?_map, Option.map_eq_some_iff] at hk
    obtain ⟨a, h1, h2⟩ := hk
    show K.2.1 < q.1
    rw [← h2]
    show K.2.1 < K.2.1 + (a + 1)
    omega
theorem er_ws_up {K : er_K} {sh : er_Sh} {m m' : er_M} {c : Nat} {e : er_E} {x : va_E} (h : er_at sh c = some e) (hx : x = er_cell K m' c e) (ho : ∀ c', c' ≠ c → m' c' = m c') : (er_ws K sh m).set (c - 1) (K.2.1 + c, x) = er_ws K sh m' := by
  obtain ⟨k, rfl, h1, h2⟩ := er_at_ne h
  apply List.ext_getElem?
  intro j
  rw [Nat.add_sub_cancel]
  by_cases hj : j = k
  · subst hj
    rw [List.getElem?_set_self (by rw [er_ws_len]; exact h2)]
    have := er_ws_at (K := K) (m := m') h
    rw [Nat.add_sub_cancel] at this
    rw [this, hx]
  · rw [List.getElem?_set_ne (Ne.symm hj)]
    by_cases hl : j < sh.length
    · simp only [er_ws, List.getElem?_map, List.getElem?_range hl, Option.map_some]
      have : er_cell K m (j + 1) (sh.getD j (99, 0, [])) = er_cell K m' (j + 1) (sh.getD j (99, 0, [])) := by
        have h3 := ho (j + 1) (by omega)
        unfold er_cell er_fs er_fv
        simp only [h3]
      rw [this]
    · have e1 : (er_ws K sh m)[j]? = none := List.getElem?_eq_none (by rw [er_ws_len]; omega)
      have e2 : (er_ws K sh m')[j]? = none := List.getElem?_eq_none (by rw [er_ws_len]; omega)
      rw [e1, e2]
theorem er_lv_get {K : er_K} {v : er_V} : ∀ (ls : List (Option er_V)) (k n : Nat), ls[k]? = some (some v) → (n + k, er_cv K v) ∈ er_lv K n ls := by
  intro ls
  induction ls with
  | nil => intro k n h; simp at h
  | cons a t ih =>
    intro k n h
    cases k with
    | zero =>
      simp at h
      subst h
      exact List.mem_cons_self
    | succ k =>
      have h2 : t[k]? = some (some v) := by simpa using h
      have := ih k (n + 1) h2
      rw [show n + 1 + k = n + (k + 1) by omega] at this
      cases a with
      | none => exact this
      | some w => exact List.mem_cons_of_mem _ this
theorem er_lv_mem {K : er_K} {q : Nat × Value} : ∀ (ls : List (Option er_V)) (n : Nat), q ∈ er_lv K n ls → ∃ k v, ls[k]? = some (some v) ∧ q = (n + k, er_cv K v) := by
  intro ls
  induction ls with
  | nil => intro n h; simp [er_lv] at h
  | cons a t ih =>
    intro n h
    cases a with
    | none =>
      obtain ⟨k, v, h1, h2⟩ := ih (n + 1) h
      exact ⟨k + 1, v, by simpa using h1, by rw [h2, show n + 1 + k = n + (k + 1) by omega]⟩
    | some w =>
      rcases List.mem_cons.mp h with h | h
      · exact ⟨0, w, rfl, h⟩
      · obtain ⟨k, v, h1, h2⟩ := ih (n + 1) h
        exact ⟨k + 1, v, by simpa using h1, by rw [h2, show n + 1 + k = n + (k + 1) by omega]⟩
theorem er_cat (K : er_K) (v : er_V) : (er_cv K v).category = 1 := by cases v <;> rfl
theorem er_catsum (K : er_K) (st : List er_V) : ((st.map (er_cv K)).map fun v => v.category).sum = st.length := by
  induction st with
  | nil => rfl
  | cons a t ih => simp only [List.map_cons, List.sum_cons, ih, er_cat, List.length_cons]; omega
theorem er_has_get {K : er_K} {la : Array Slot} {n : Nat} {ls : List (Option er_V)} (h : lv_has la n (er_lv K 0 ls)) {k : Nat} {v : er_V} (hk : ls[k]? = some (some v)) : la[k]? = some (.val (er_cv K v)) := by
  have := h.2.2 _ (er_lv_get (K := K) ls k 0 hk)
  rw [Nat.zero_add] at this
  exact this
theorem er_has_sub {K : er_K} {la : Array Slot} {n : Nat} {ls ls' : List (Option er_V)} (h : lv_has la n (er_lv K 0 ls)) (hs : ∀ (k : Nat) (v : er_V), ls'[k]? = some (some v) → ls[k]? = some (some v)) : lv_has la n (er_lv K 0 ls') := by
  refine ⟨h.1, h.2.1, fun q hq => ?_⟩
  obtain ⟨k, v, h1, rfl⟩ := er_lv_mem ls' 0 hq
  show la[0 + k]? = some (.val (er_cv K v))
  rw [Nat.zero_add]
  exact er_has_get h (hs k v h1)
theorem er_has_set {K : er_K} {la : Array Slot} {n : Nat} {ls : List (Option er_V)} (h : lv_has la n (er_lv K 0 ls)) {k : Nat} (hk : k < n) (v : er_V) : ∃ la', storeLocals la k (er_cv K v) = some la' ∧ lv_has la' n (er_lv K 0 (ls.set k (some v))) := by
  obtain ⟨la', h1, h2⟩ := lv_store1 h hk (er_cat K v)
  refine ⟨la', h1, h2.1, h2.2.1, fun q hq => ?_⟩
  obtain ⟨j, w, h3, rfl⟩ := er_lv_mem _ 0 hq
  apply h2.2.2
  by_cases hj : j = k
  · subst hj
    by_cases hl : j < ls.length
    · rw [List.getElem?_set_self hl] at h3
      have : w = v := by simpa using h3.symm
      rw [this, Nat.zero_add]
      exact List.mem_cons_self
    · rw [List.getElem?_eq_none (by simp; omega)] at h3
      cases h3
  · rw [List.getElem?_set_ne (Ne.symm hj)] at h3
    apply List.mem_cons_of_mem
    apply List.mem_filter.mpr
    refine ⟨er_lv_get ls j 0 h3, ?_⟩
    simp [er_cat, hj]
/-- locals forgotten: the new list's are among the old's -/
def er_wk : List (Option er_V) → List (Option er_V) → Prop
  | [], _ => True
  | none :: a, _ :: b => er_wk a b
  | some v :: a, w :: b => w = some v ∧ er_wk a b
  | none :: a, [] => er_wk a []
  | some _ :: _, [] => False
theorem er_wk_spec : ∀ (a b : List (Option er_V)), er_wk a b → ∀ (k : Nat) (v : er_V), a[k]? = some (some v) → b[k]? = some (some v) := by
  intro a
  induction a with
  | nil => intro b _ k v h; simp at h
  | cons x t ih =>
    intro b h k v hk
    cases b with
    | nil =>
      cases x with
      | none =>
        cases k with
        | zero => simp at hk
        | succ k => have := ih [] h k v (by simpa using hk); simp at this
      | some w => exact absurd h id
    | cons y b =>
      cases x with
      | none =>
        cases k with
        | zero => simp at hk
        | succ k => simpa using ih b h k v (by simpa using hk)
      | some w =>
        cases k with
        | zero =>
          have h1 := h.1
          simp at hk
          subst hk
          simp [h1]
        | succ k => simpa using ih b h.2 k v (by simpa using hk)
theorem er_ofInt_inj {x y : Int} (hx : er_in x) (hy : er_in y) : Int32.ofInt x = Int32.ofInt y ↔ x = y := by
  rw [← Int32.toInt_inj, Int32.toInt_ofInt_of_le (by have := hx.1; omega) (by have := hx.2; omega), Int32.toInt_ofInt_of_le (by have := hy.1; omega) (by have := hy.2; omega)]
theorem er_toInt {x : Int} (hx : er_in x) : (Int32.ofInt x).toInt = x := Int32.toInt_ofInt_of_le (by have := hx.1; omega) (by have := hx.2; omega)
theorem er_ofInt_le {x y : Int} (hx : er_in x) (hy : er_in y) : Int32.ofInt x ≤ Int32.ofInt y ↔ x ≤ y := by
  rw [Int32.le_iff_toInt_le, er_toInt hx, er_toInt hy]
theorem er_ofInt_lt {x y : Int} (hx : er_in x) (hy : er_in y) : Int32.ofInt x < Int32.ofInt y ↔ x < y := by
  rw [Int32.lt_iff_toInt_lt, er_toInt hx, er_toInt hy]
theorem er_zero : Int32.ofInt 0 = 0 := rfl
theorem er_ix {x : Int} {n : Nat} (h0 : 0 ≤ x) (h1 : x < n) (hn : n ≤ 2147483648) : vp_in (Int32.ofInt x) n ∧ (Int32.ofInt x).toNatClampNeg = x.toNat := by
  have hi : er_in x := ⟨by omega, by omega⟩
  have e : (Int32.ofInt x).toNatClampNeg = x.toNat := by rw [← Int32.toNat_toInt, er_toInt hi]
  refine ⟨fun h => ?_, e⟩
  rcases h with h | h
  · rw [← er_zero, er_ofInt_lt hi ⟨by omega, by omega⟩] at h
    omega
  · rw [e] at h
    omega
end
section
/-! the rows: an instruction each -/
section ER
variable {K : er_K} {i : er_I} {uc us : Nat} {sh : er_Sh} {m : er_M} {pc : Nat} {ls : List (Option er_V)} {st : List er_V} {Z : List Frame → Array Value → State → State → Prop}
theorem er_forget (ls2 : List (Option er_V)) (h : er_wk ls2 ls) (k : er_WP K i uc us sh m pc ls2 st Z) : er_WP K i uc us sh m pc ls st Z := by
  intro p e s mm args below meth c H locs la C hz hW hS hl
  exact k p e s mm args below meth c H locs la C hz hW hS (er_has_sub hl (er_wk_spec _ _ h))
theorem er_iconst {n : Int} (hd : decode i.2.1 pc = .ok (.iconst n, 1)) (k : er_WP K i uc us sh m (pc + 1) ls (.inl n :: st) Z) : er_WP K i uc us sh m pc ls (st) Z := by
  intro p e s mm args below meth c H locs la C hz hW hS hl
  exact lv_iconst C.1 C.2.1 hd rfl (k p e s mm args below meth c H locs la C hz hW hS hl)
theorem er_bipush {n : Int} (hv : (Int8.ofInt n).toInt32 = Int32.ofInt n) (hd : decode i.2.1 pc = .ok (.bipush n, 2)) (k : er_WP K i uc us sh m (pc + 2) ls (.inl n :: st) Z) : er_WP K i uc us sh m pc ls (st) Z := by
  intro p e s mm args below meth c H locs la C hz hW hS hl
  exact lv_bipush C.1 C.2.1 hd hv (k p e s mm args below meth c H locs la C hz hW hS hl)
theorem er_sipush {n : Int} (hv : (Int16.ofInt n).toInt32 = Int32.ofInt n) (hd : decode i.2.1 pc = .ok (.sipush n, 3)) (k : er_WP K i uc us sh m (pc + 3) ls (.inl n :: st) Z) : er_WP K i uc us sh m pc ls (st) Z := by
  intro p e s mm args below meth c H locs la C hz hW hS hl
  exact lv_sipush C.1 C.2.1 hd hv (k p e s mm args below meth c H locs la C hz hW hS hl)
theorem er_ldc {n : Int} {idx : Nat} (hc : Cond.constant i.1.cls idx (Int32.ofInt n) ∈ er_tb) (hd : decode i.2.1 pc = .ok (.ldc idx, 2)) (k : er_WP K i uc us sh m (pc + 2) ls (.inl n :: st) Z) : er_WP K i uc us sh m pc ls st Z := by
  intro p e s mm args below meth c H locs la C hz hW hS hl
  exact lv_ldc C.1 C.2.1 C.2.2.2.2.2.2.1 (C.2.2.2.2.2.2.2.1 _ hc) hd (k p e s mm args below meth c H locs la C hz hW hS hl)
theorem er_iload_n {k : Fin 4} {x : Int} {n : Nat} (hn : (k : Nat) = n) (hl : ls[n]? = some (some (.inl x))) (hd : decode i.2.1 pc = .ok (.iload_n k, 1)) (kk : er_WP K i uc us sh m (pc + 1) ls (.inl x :: st) Z) : er_WP K i uc us sh m pc ls st Z := by
  have hl0 := hl
  intro p e s mm args below meth c H locs la C hz hW hS hl
  exact lv_iload_n C.1 C.2.1 hd hn (er_has_get hl hl0) (kk p e s mm args below meth c H locs la C hz hW hS hl)
theorem er_iload {x : Int} {n : Nat} (hl : ls[n]? = some (some (.inl x))) (hd : decode i.2.1 pc = .ok (.iload n, 2)) (kk : er_WP K i uc us sh m (pc + 2) ls (.inl x :: st) Z) : er_WP K i uc us sh m pc ls st Z := by
  have hl0 := hl
  intro p e s mm args below meth c H locs la C hz hW hS hl
  exact lv_iload C.1 C.2.1 hd (er_has_get hl hl0) (kk p e s mm args below meth c H locs la C hz hW hS hl)
theorem er_aload_n {k : Fin 4} {x : Nat} {n : Nat} (hn : (k : Nat) = n) (hl : ls[n]? = some (some (.inr x))) (hd : decode i.2.1 pc = .ok (.aload_n k, 1)) (kk : er_WP K i uc us sh m (pc + 1) ls (.inr x :: st) Z) : er_WP K i uc us sh m pc ls st Z := by
  have hl0 := hl
  intro p e s mm args below meth c H locs la C hz hW hS hl
  exact lv_aload_n C.1 C.2.1 hd hn (er_has_get hl hl0) (kk p e s mm args below meth c H locs la C hz hW hS hl)
theorem er_aload {x : Nat} {n : Nat} (hl : ls[n]? = some (some (.inr x))) (hd : decode i.2.1 pc = .ok (.aload n, 2)) (kk : er_WP K i uc us sh m (pc + 2) ls (.inr x :: st) Z) : er_WP K i uc us sh m pc ls st Z := by
  have hl0 := hl
  intro p e s mm args below meth c H locs la C hz hW hS hl
  exact lv_aload C.1 C.2.1 hd (er_has_get hl hl0) (kk p e s mm args below meth c H locs la C hz hW hS hl)
/-- the frame goes on with other locals -/
theorem er_locals {n : Nat} {v : er_V} {x : Nat} (hn : n < i.2.2.1) (hstep : ∀ (p : Program) (e : Env) (s : State) (mm : MethodId) (args : Array Value) (below : List Frame) (meth : Method) (c : Code) (H : Heap) (locs : List Loc) (la la' : Array Slot) (Q : State → Prop), er_Cx K i p mm meth c s args → storeLocals la n (er_cv K v) = some la' → W p K.1 e i.2.2.2.2 s mm args below meth c H locs uc us Q (F0 mm (pc + x) la' (st.map (er_cv K))) → W p K.1 e i.2.2.2.2 s mm args below meth c H locs uc us Q (F0 mm pc la ((v :: st).map (er_cv K)))) (kk : er_WP K i uc us sh m (pc + x) (ls.set n (some v)) st Z) : er_WP K i uc us sh m pc ls (v :: st) Z := by
  intro p e s mm args below meth c H locs la C hz hW hS hl
  obtain ⟨la', h1, h2⟩ := er_has_set hl hn v
  exact hstep p e s mm args below meth c H locs la la' _ C h1 (kk p e s mm args below meth c H locs la' C hz hW hS h2)
theorem er_istore_n {k : Fin 4} {n : Nat} (hkn : (k : Nat) = n) {x : Int} (hn : n < i.2.2.1) (hd : decode i.2.1 pc = .ok (.istore_n k, 1)) (kk : er_WP K i uc us sh m (pc + 1) (ls.set n (some (.inl x))) st Z) : er_WP K i uc us sh m pc ls (.inl x :: st) Z := by
  refine er_locals (v := .inl x) hn (fun p e s mm args below meth c H locs la la' Q C h hk => ?_) kk
  subst hkn
  have hx := C.1
  have hb := C.2.1
  intro T hT X
  obtain ⟨t, a, b⟩ := hk T hT X
  refine ⟨t, ?_, b⟩
  jvm_step X.here [X.here.top, ↓top_set X.here.top, hx, hb, hd, h, er_cv]
  exact ⟨_, h, a⟩
theorem er_istore {n : Nat} {x : Int} (hn : n < i.2.2.1) (hd : decode i.2.1 pc = .ok (.istore n, 2)) (kk : er_WP K i uc us sh m (pc + 2) (ls.set n (some (.inl x))) st Z) : er_WP K i uc us sh m pc ls (.inl x :: st) Z := by
  refine er_locals (v := .inl x) hn (fun p e s mm args below meth c H locs la la' Q C h hk => ?_) kk
  have hx := C.1
  have hb := C.2.1
  intro T hT X
  obtain ⟨t, a, b⟩ := hk T hT X
  refine ⟨t, ?_, b⟩
  jvm_step X.here [X.here.top, ↓top_set X.here.top, hx, hb, hd, h, er_cv]
  exact ⟨_, h, a⟩
theorem er_astore_n {k : Fin 4} {n : Nat} (hkn : (k : Nat) = n) {x : Nat} (hn : n < i.2.2.1) (hd : decode i.2.1 pc = .ok (.astore_n k, 1)) (kk : er_WP K i uc us sh m (pc + 1) (ls.set n (some (.inr x))) st Z) : er_WP K i uc us sh m pc ls (.inr x :: st) Z := by
  refine er_locals (v := .inr x) hn (fun p e s mm args below meth c H locs la la' Q C h hk => ?_) kk
  subst hkn
  have hx := C.1
  have hb := C.2.1
  intro T hT X
  obtain ⟨t, a, b⟩ := hk T hT X
  refine ⟨t, ?_, b⟩
  jvm_step X.here [X.here.top, ↓top_set X.here.top, hx, hb, hd, h, er_cv, Value.isRef]
  exact ⟨_, h, a⟩
theorem er_astore {n : Nat} {x : Nat} (hn : n < i.2.2.1) (hd : decode i.2.1 pc = .ok (.astore n, 2)) (kk : er_WP K i uc us sh m (pc + 2) (ls.set n (some (.inr x))) st Z) : er_WP K i uc us sh m pc ls (.inr x :: st) Z := by
  refine er_locals (v := .inr x) hn (fun p e s mm args below meth c H locs la la' Q C h hk => ?_) kk
  have hx := C.1
  have hb := C.2.1
  intro T hT X
  obtain ⟨t, a, b⟩ := hk T hT X
  refine ⟨t, ?_, b⟩
  jvm_step X.here [X.here.top, ↓top_set X.here.top, hx, hb, hd, h, er_cv, Value.isRef]
  exact ⟨_, h, a⟩
theorem er_iinc {n : Nat} {d x : Int} (hl : ls[n]? = some (some (.inl x))) (hn : n < i.2.2.1) (hd : decode i.2.1 pc = .ok (.iinc n d, 3)) (kk : er_WP K i uc us sh m (pc + 3) (ls.set n (some (.inl (x + d)))) st Z) : er_WP K i uc us sh m pc ls st Z := by
  have hl0 := hl
  intro p e s mm args below meth c H locs la C hz hW hS hl
  obtain ⟨la', h1, h2⟩ := er_has_set hl hn (.inl (x + d))
  have hg := er_has_get hl hl0
  have hx := C.1
  have hb := C.2.1
  have hk := kk p e s mm args below meth c H locs la' C hz hW hS h2
  intro T hT X
  obtain ⟨t, a, b⟩ := hk T hT X
  refine ⟨t, ?_, b⟩
  have hg : la[n]? = some (.val (.int (Int32.ofInt x))) := hg
  have h1 : storeLocals la n (.int (Int32.ofInt x + Int32.ofInt d)) = some la' := by rw [← Int32.ofInt_add]; exact h1
  jvm_step X.here [X.here.top, ↓top_set X.here.top, hx, hb, hd, hg, h1]
  exact a
theorem er_iadd {x y : Int}  (hd : decode i.2.1 pc = .ok (.iadd, 1)) (k : er_WP K i uc us sh m (pc + 1) ls (.inl (x + y) :: st) Z) : er_WP K i uc us sh m pc ls (.inl y :: .inl x :: st) Z := by
  intro p e s mm args below meth c H locs la C hz hW hS hl
  have h := k p e s mm args below meth c H locs la C hz hW hS hl
  have e : er_cv K (.inl (x + y)) = .int (Int32.ofInt x + Int32.ofInt y) := congrArg Value.int (Int32.ofInt_add x y)
  rw [List.map_cons, e] at h
  exact lv_iadd C.1 C.2.1 hd h
theorem er_isub {x y : Int}  (hd : decode i.2.1 pc = .ok (.isub, 1)) (k : er_WP K i uc us sh m (pc + 1) ls (.inl (x - y) :: st) Z) : er_WP K i uc us sh m pc ls (.inl y :: .inl x :: st) Z := by
  intro p e s mm args below meth c H locs la C hz hW hS hl
  have h := k p e s mm args below meth c H locs la C hz hW hS hl
  have e : er_cv K (.inl (x - y)) = .int (Int32.ofInt x - Int32.ofInt y) := congrArg Value.int (Int32.ofInt_sub x y)
  rw [List.map_cons, e] at h
  exact lv_isub C.1 C.2.1 hd h
theorem er_imul {x y : Int}  (hd : decode i.2.1 pc = .ok (.imul, 1)) (k : er_WP K i uc us sh m (pc + 1) ls (.inl (x * y) :: st) Z) : er_WP K i uc us sh m pc ls (.inl y :: .inl x :: st) Z := by
  intro p e s mm args below meth c H locs la C hz hW hS hl
  have h := k p e s mm args below meth c H locs la C hz hW hS hl
  have e : er_cv K (.inl (x * y)) = .int (Int32.ofInt x * Int32.ofInt y) := congrArg Value.int (Int32.ofInt_mul x y)
  rw [List.map_cons, e] at h
  exact lv_imul C.1 C.2.1 hd h
theorem er_div_eq {x y : Int} (hx : 0 ≤ x) (hx1 : x < 2147483648) (hy : 0 < y) (hy1 : y < 2147483648) : Int32.ofInt x / Int32.ofInt y = Int32.ofInt (x / y) := by
  have h1 : er_in x := ⟨by omega, hx1⟩
  have h2 : er_in y := ⟨by omega, hy1⟩
  have h3 : er_in (x / y) := ⟨by have := Int.ediv_nonneg hx (Int.le_of_lt hy); omega, by have := Int.ediv_le_self y hx; omega⟩
  rw [← Int32.toInt_inj, Int32.toInt_div_of_ne_right, er_toInt h1, er_toInt h2, er_toInt h3, Int.tdiv_eq_ediv_of_nonneg hx]
  intro h
  have : (Int32.ofInt y).toInt = (-1 : Int32).toInt := by rw [h]
  rw [er_toInt h2] at this
  have e : (-1 : Int32).toInt = -1 := by decide
  rw [e] at this
  omega
theorem er_ne0 {y : Int} (hy : 0 < y) (hy1 : y < 2147483648) : ¬ Int32.ofInt y = 0 := by
  rw [← er_zero, er_ofInt_inj ⟨by omega, hy1⟩ ⟨by omega, by omega⟩]
  omega
theorem er_idiv {x y : Int} (hx : 0 ≤ x) (hx1 : x < 2147483648) (hy : 0 < y) (hy1 : y < 2147483648) (hd : decode i.2.1 pc = .ok (.idiv, 1)) (k : er_WP K i uc us sh m (pc + 1) ls (.inl (x / y) :: st) Z) : er_WP K i uc us sh m pc ls (.inl y :: .inl x :: st) Z := by
  intro p e s mm args below meth c H locs la C hz hW hS hl
  have h := k p e s mm args below meth c H locs la C hz hW hS hl
  have e1 : er_cv K (.inl (x / y)) = .int (Int32.ofInt x / Int32.ofInt y) := congrArg Value.int (er_div_eq hx hx1 hy hy1).symm
  rw [List.map_cons, e1] at h
  exact lv_idiv C.1 C.2.1 hd (er_ne0 hy hy1) h
theorem er_irem {x y : Int} (hx : 0 ≤ x) (hx1 : x < 2147483648) (hy : 0 < y) (hy1 : y < 2147483648) (hd : decode i.2.1 pc = .ok (.irem, 1)) (k : er_WP K i uc us sh m (pc + 1) ls (.inl (x % y) :: st) Z) : er_WP K i uc us sh m pc ls (.inl y :: .inl x :: st) Z := by
  intro p e s mm args below meth c H locs la C hz hW hS hl
  have h := k p e s mm args below meth c H locs la C hz hW hS hl
  have e1 : er_cv K (.inl (x % y)) = .int (Int32.ofInt x - Int32.ofInt x / Int32.ofInt y * Int32.ofInt y) := by
    rw [er_div_eq hx hx1 hy hy1, ← Int32.ofInt_mul, ← Int32.ofInt_sub]
    have : x % y = x - x / y * y := by rw [Int.emod_def, Int.mul_comm]
    rw [← this]
    rfl
  rw [List.map_cons, e1] at h
  exact lv_irem C.1 C.2.1 hd (er_ne0 hy hy1) h
theorem er_xor_eq {x : Int} (hx : 0 ≤ x) (hx1 : x < 2147483647) : Int32.ofInt x ^^^ Int32.ofInt 1 = Int32.ofInt (x + 1 - 2 * (x % 2)) := by
  obtain ⟨n, rfl⟩ : ∃ n : Nat, x = n := ⟨x.toNat, by omega⟩
  have hn : n < 2147483647 := by omega
  have e1 : (n : Int) + 1 - 2 * (n % 2) = ((n ^^^ 1 : Nat) : Int) := by
    have h2 : (n ^^^ 1) % 2 = (n + 1) % 2 := by
      rw [show (2 : Nat) = 2 ^ 1 by rfl, Nat.xor_mod_two_pow]
      rcases (by omega : n % 2 = 0 ∨ n % 2 = 1) with h | h <;> simp [h, Nat.add_mod]
    have h3 : (n ^^^ 1) / 2 = n / 2 := by
      have := Nat.shiftRight_xor_distrib (a := n) (b := 1) (i := 1)
      simpa [Nat.shiftRight_succ] using this
    omega
  rw [e1, Int32.ofInt_eq_ofNat, show Int32.ofInt 1 = Int32.ofNat 1 from rfl, Int32.ofInt_eq_ofNat]
  apply Int32.toBitVec_inj.mp
  rw [Int32.toBitVec_xor]
  exact BitVec.ofNat_xor.symm
theorem er_ixor {x : Int} (hx : 0 ≤ x) (hx1 : x < 2147483647) (hd : decode i.2.1 pc = .ok (.ixor, 1)) (k : er_WP K i uc us sh m (pc + 1) ls (.inl (x + 1 - 2 * (x % 2)) :: st) Z) : er_WP K i uc us sh m pc ls (.inl 1 :: .inl x :: st) Z := by
  intro p e s mm args below meth c H locs la C hz hW hS hl
  have h := k p e s mm args below meth c H locs la C hz hW hS hl
  have e1 : er_cv K (.inl (x + 1 - 2 * (x % 2))) = .int (Int32.ofInt x ^^^ Int32.ofInt 1) := congrArg Value.int (er_xor_eq hx hx1).symm
  rw [List.map_cons, e1] at h
  exact lv_ixor C.1 C.2.1 hd h
theorem er_i2b_eq {x : Int} (hx : 0 ≤ x) (hx1 : x < 256) : (Int32.ofInt x).toInt8.toInt32 = Int32.ofInt ((x + 128) % 256 - 128) := by
  obtain ⟨n, rfl⟩ : ∃ n : Nat, x = n := ⟨x.toNat, by omega⟩
  have hn : n < 256 := by omega
  have h : ∀ n, n < 256 → (Int32.ofInt (n : Nat)).toInt8.toInt32 = Int32.ofInt (((n : Nat) + 128) % 256 - 128) := by decide +kernel
  exact h n hn
theorem er_i2b {x : Int} (hx : 0 ≤ x) (hx1 : x < 256) (hd : decode i.2.1 pc = .ok (.i2b, 1)) (k : er_WP K i uc us sh m (pc + 1) ls (.inl ((x + 128) % 256 - 128) :: st) Z) : er_WP K i uc us sh m pc ls (.inl x :: st) Z := by
  intro p e s mm args below meth c H locs la C hz hW hS hl
  exact lv_i2b C.1 C.2.1 hd (er_i2b_eq hx hx1) (k p e s mm args below meth c H locs la C hz hW hS hl)
theorem er_and_eq {x : Int} (hx : er_in x) : Int32.ofInt x &&& Int32.ofInt 31 = Int32.ofInt (x % 32) := by
  have h := pk_and (Int32.ofInt x) (m := Int32.ofInt 31) 5 (by decide)
  rw [h]
  have h1 : (Int32.ofInt x).toBitVec.toNat = (x % 4294967296).toNat := by
    rw [Int32.toBitVec_ofInt, BitVec.toNat_ofInt]
    rfl
  rw [h1]
  show Int32.ofNat _ = _
  rw [← Int32.ofInt_eq_ofNat]
  congr 1
  omega
theorem er_iand {x : Int} (hx : er_in x) (hd : decode i.2.1 pc = .ok (.iand, 1)) (k : er_WP K i uc us sh m (pc + 1) ls (.inl (x % 32) :: st) Z) : er_WP K i uc us sh m pc ls (.inl 31 :: .inl x :: st) Z := by
  intro p e s mm args below meth c H locs la C hz hW hS hl
  have h := k p e s mm args below meth c H locs la C hz hW hS hl
  have e1 : er_cv K (.inl (x % 32)) = .int (Int32.ofInt x &&& Int32.ofInt 31) := congrArg Value.int (er_and_eq hx).symm
  rw [List.map_cons, e1] at h
  exact lv_iand C.1 C.2.1 hd h
theorem er_pop {v : er_V} (hd : decode i.2.1 pc = .ok (.pop, 1)) (k : er_WP K i uc us sh m (pc + 1) ls (st) Z) : er_WP K i uc us sh m pc ls (v :: st) Z := by
  intro p e s mm args below meth c H locs la C hz hW hS hl
  exact lv_pop C.1 C.2.1 hd (er_cat K v) (k p e s mm args below meth c H locs la C hz hW hS hl)
theorem er_dup {v : er_V} (hd : decode i.2.1 pc = .ok (.dup, 1)) (k : er_WP K i uc us sh m (pc + 1) ls (v :: v :: st) Z) : er_WP K i uc us sh m pc ls (v :: st) Z := by
  intro p e s mm args below meth c H locs la C hz hW hS hl
  exact lv_dup C.1 C.2.1 hd (er_cat K v) (k p e s mm args below meth c H locs la C hz hW hS hl)
theorem er_dup2 {v u : er_V} (hd : decode i.2.1 pc = .ok (.dup2, 1)) (k : er_WP K i uc us sh m (pc + 1) ls (v :: u :: v :: u :: st) Z) : er_WP K i uc us sh m pc ls (v :: u :: st) Z := by
  intro p e s mm args below meth c H locs la C hz hW hS hl
  exact lv_dup2_11 C.1 C.2.1 hd (er_cat K v) (er_cat K u) (k p e s mm args below meth c H locs la C hz hW hS hl)
theorem er_goto {off : Int} {tgt : Nat} (ht : (pc : Int) + off = (tgt : Int)) (hd : decode i.2.1 pc = .ok (.goto off, 3)) (k : er_WP K i uc us sh m tgt ls st Z) : er_WP K i uc us sh m pc ls st Z := by
  intro p e s mm args below meth c H locs la C hz hW hS hl
  exact lv_goto C.1 C.2.1 hd ht (k p e s mm args below meth c H locs la C hz hW hS hl)
theorem er_icmp_eq {x y : Int} {off : Int} {tgt : Nat} (ht : (pc : Int) + off = (tgt : Int)) (hx : er_in x) (hy : er_in y) (hd : decode i.2.1 pc = .ok (.if_icmp .eq off, 3)) (kt : x = y → er_WP K i uc us sh m tgt ls st Z) (kf : x ≠ y → er_WP K i uc us sh m (pc + 3) ls st Z) : er_WP K i uc us sh m pc ls (.inl y :: .inl x :: st) Z := by
  intro p e s mm args below meth c H locs la C hz hW hS hl
  exact lv_icmp_eq C.1 C.2.1 hd ht (fun h => kt ((er_ofInt_inj hx hy).mp h) p e s mm args below meth c H locs la C hz hW hS hl) (fun h => kf (fun z => h ((er_ofInt_inj hx hy).mpr z)) p e s mm args below meth c H locs la C hz hW hS hl)
theorem er_if_eq {x : Int} {off : Int} {tgt : Nat} (ht : (pc : Int) + off = (tgt : Int)) (hx : er_in x) (hd : decode i.2.1 pc = .ok (.ifCond .eq off, 3)) (kt : x = 0 → er_WP K i uc us sh m tgt ls st Z) (kf : x ≠ 0 → er_WP K i uc us sh m (pc + 3) ls st Z) : er_WP K i uc us sh m pc ls (.inl x :: st) Z := by
  have hy : er_in 0 := ⟨by omega, by omega⟩
  intro p e s mm args below meth c H locs la C hz hW hS hl
  exact lv_if_eq C.1 C.2.1 hd ht (fun h => kt (by rw [← er_zero] at h; exact (er_ofInt_inj hx hy).mp h) p e s mm args below meth c H locs la C hz hW hS hl) (fun h => kf (by rw [← er_zero] at h; exact fun z => h ((er_ofInt_inj hx hy).mpr z)) p e s mm args below meth c H locs la C hz hW hS hl)
theorem er_icmp_ne {x y : Int} {off : Int} {tgt : Nat} (ht : (pc : Int) + off = (tgt : Int)) (hx : er_in x) (hy : er_in y) (hd : decode i.2.1 pc = .ok (.if_icmp .ne off, 3)) (kt : x ≠ y → er_WP K i uc us sh m tgt ls st Z) (kf : x = y → er_WP K i uc us sh m (pc + 3) ls st Z) : er_WP K i uc us sh m pc ls (.inl y :: .inl x :: st) Z := by
  intro p e s mm args below meth c H locs la C hz hW hS hl
  exact lv_icmp_ne C.1 C.2.1 hd ht (fun h => kt (fun z => h ((er_ofInt_inj hx hy).mpr z)) p e s mm args below meth c H locs la C hz hW hS hl) (fun h => kf ((er_ofInt_inj hx hy).mp h) p e s mm args below meth c H locs la C hz hW hS hl)
theorem er_if_ne {x : Int} {off : Int} {tgt : Nat} (ht : (pc : Int) + off = (tgt : Int)) (hx : er_in x) (hd : decode i.2.1 pc = .ok (.ifCond .ne off, 3)) (kt : x ≠ 0 → er_WP K i uc us sh m tgt ls st Z) (kf : x = 0 → er_WP K i uc us sh m (pc + 3) ls st Z) : er_WP K i uc us sh m pc ls (.inl x :: st) Z := by
  have hy : er_in 0 := ⟨by omega, by omega⟩
  intro p e s mm args below meth c H locs la C hz hW hS hl
  exact lv_if_ne C.1 C.2.1 hd ht (fun h => kt (by rw [← er_zero] at h; exact fun z => h ((er_ofInt_inj hx hy).mpr z)) p e s mm args below meth c H locs la C hz hW hS hl) (fun h => kf (by rw [← er_zero] at h; exact (er_ofInt_inj hx hy).mp h) p e s mm args below meth c H locs la C hz hW hS hl)
theorem er_icmp_lt {x y : Int} {off : Int} {tgt : Nat} (ht : (pc : Int) + off = (tgt : Int)) (hx : er_in x) (hy : er_in y) (hd : decode i.2.1 pc = .ok (.if_icmp .lt off, 3)) (kt : x < y → er_WP K i uc us sh m tgt ls st Z) (kf : y ≤ x → er_WP K i uc us sh m (pc + 3) ls st Z) : er_WP K i uc us sh m pc ls (.inl y :: .inl x :: st) Z := by
  intro p e s mm args below meth c H locs la C hz hW hS hl
  exact lv_icmp_lt C.1 C.2.1 hd ht (fun h => kt ((er_ofInt_lt hx hy).mp h) p e s mm args below meth c H locs la C hz hW hS hl) (fun h => kf (Int.not_lt.mp (fun z => h ((er_ofInt_lt hx hy).mpr z))) p e s mm args below meth c H locs la C hz hW hS hl)
theorem er_if_lt {x : Int} {off : Int} {tgt : Nat} (ht : (pc : Int) + off = (tgt : Int)) (hx : er_in x) (hd : decode i.2.1 pc = .ok (.ifCond .lt off, 3)) (kt : x < 0 → er_WP K i uc us sh m tgt ls st Z) (kf : 0 ≤ x → er_WP K i uc us sh m (pc + 3) ls st Z) : er_WP K i uc us sh m pc ls (.inl x :: st) Z := by
  have hy : er_in 0 := ⟨by omega, by omega⟩
  intro p e s mm args below meth c H locs la C hz hW hS hl
  exact lv_if_lt C.1 C.2.1 hd ht (fun h => kt (by rw [← er_zero] at h; exact (er_ofInt_lt hx hy).mp h) p e s mm args below meth c H locs la C hz hW hS hl) (fun h => kf (by rw [← er_zero] at h; exact Int.not_lt.mp (fun z => h ((er_ofInt_lt hx hy).mpr z))) p e s mm args below meth c H locs la C hz hW hS hl)
theorem er_icmp_ge {x y : Int} {off : Int} {tgt : Nat} (ht : (pc : Int) + off = (tgt : Int)) (hx : er_in x) (hy : er_in y) (hd : decode i.2.1 pc = .ok (.if_icmp .ge off, 3)) (kt : y ≤ x → er_WP K i uc us sh m tgt ls st Z) (kf : x < y → er_WP K i uc us sh m (pc + 3) ls st Z) : er_WP K i uc us sh m pc ls (.inl y :: .inl x :: st) Z := by
  intro p e s mm args below meth c H locs la C hz hW hS hl
  exact lv_icmp_ge C.1 C.2.1 hd ht (fun h => kt ((er_ofInt_le hy hx).mp h) p e s mm args below meth c H locs la C hz hW hS hl) (fun h => kf (Int.not_le.mp (fun z => h ((er_ofInt_le hy hx).mpr z))) p e s mm args below meth c H locs la C hz hW hS hl)
theorem er_if_ge {x : Int} {off : Int} {tgt : Nat} (ht : (pc : Int) + off = (tgt : Int)) (hx : er_in x) (hd : decode i.2.1 pc = .ok (.ifCond .ge off, 3)) (kt : 0 ≤ x → er_WP K i uc us sh m tgt ls st Z) (kf : x < 0 → er_WP K i uc us sh m (pc + 3) ls st Z) : er_WP K i uc us sh m pc ls (.inl x :: st) Z := by
  have hy : er_in 0 := ⟨by omega, by omega⟩
  intro p e s mm args below meth c H locs la C hz hW hS hl
  exact lv_if_ge C.1 C.2.1 hd ht (fun h => kt (by rw [← er_zero] at h; exact (er_ofInt_le hy hx).mp h) p e s mm args below meth c H locs la C hz hW hS hl) (fun h => kf (by rw [← er_zero] at h; exact Int.not_le.mp (fun z => h ((er_ofInt_le hy hx).mpr z))) p e s mm args below meth c H locs la C hz hW hS hl)
theorem er_icmp_gt {x y : Int} {off : Int} {tgt : Nat} (ht : (pc : Int) + off = (tgt : Int)) (hx : er_in x) (hy : er_in y) (hd : decode i.2.1 pc = .ok (.if_icmp .gt off, 3)) (kt : y < x → er_WP K i uc us sh m tgt ls st Z) (kf : x ≤ y → er_WP K i uc us sh m (pc + 3) ls st Z) : er_WP K i uc us sh m pc ls (.inl y :: .inl x :: st) Z := by
  intro p e s mm args below meth c H locs la C hz hW hS hl
  exact lv_icmp_gt C.1 C.2.1 hd ht (fun h => kt ((er_ofInt_lt hy hx).mp h) p e s mm args below meth c H locs la C hz hW hS hl) (fun h => kf (Int.not_lt.mp (fun z => h ((er_ofInt_lt hy hx).mpr z))) p e s mm args below meth c H locs la C hz hW hS hl)
theorem er_if_gt {x : Int} {off : Int} {tgt : Nat} (ht : (pc : Int) + off = (tgt : Int)) (hx : er_in x) (hd : decode i.2.1 pc = .ok (.ifCond .gt off, 3)) (kt : 0 < x → er_WP K i uc us sh m tgt ls st Z) (kf : x ≤ 0 → er_WP K i uc us sh m (pc + 3) ls st Z) : er_WP K i uc us sh m pc ls (.inl x :: st) Z := by
  have hy : er_in 0 := ⟨by omega, by omega⟩
  intro p e s mm args below meth c H locs la C hz hW hS hl
  exact lv_if_gt C.1 C.2.1 hd ht (fun h => kt (by rw [← er_zero] at h; exact (er_ofInt_lt hy hx).mp h) p e s mm args below meth c H locs la C hz hW hS hl) (fun h => kf (by rw [← er_zero] at h; exact Int.not_lt.mp (fun z => h ((er_ofInt_lt hy hx).mpr z))) p e s mm args below meth c H locs la C hz hW hS hl)
theorem er_icmp_le {x y : Int} {off : Int} {tgt : Nat} (ht : (pc : Int) + off = (tgt : Int)) (hx : er_in x) (hy : er_in y) (hd : decode i.2.1 pc = .ok (.if_icmp .le off, 3)) (kt : x ≤ y → er_WP K i uc us sh m tgt ls st Z) (kf : y < x → er_WP K i uc us sh m (pc + 3) ls st Z) : er_WP K i uc us sh m pc ls (.inl y :: .inl x :: st) Z := by
  intro p e s mm args below meth c H locs la C hz hW hS hl
  exact lv_icmp_le C.1 C.2.1 hd ht (fun h => kt ((er_ofInt_le hx hy).mp h) p e s mm args below meth c H locs la C hz hW hS hl) (fun h => kf (Int.not_le.mp (fun z => h ((er_ofInt_le hx hy).mpr z))) p e s mm args below meth c H locs la C hz hW hS hl)
theorem er_if_le {x : Int} {off : Int} {tgt : Nat} (ht : (pc : Int) + off = (tgt : Int)) (hx : er_in x) (hd : decode i.2.1 pc = .ok (.ifCond .le off, 3)) (kt : x ≤ 0 → er_WP K i uc us sh m tgt ls st Z) (kf : 0 < x → er_WP K i uc us sh m (pc + 3) ls st Z) : er_WP K i uc us sh m pc ls (.inl x :: st) Z := by
  have hy : er_in 0 := ⟨by omega, by omega⟩
  intro p e s mm args below meth c H locs la C hz hW hS hl
  exact lv_if_le C.1 C.2.1 hd ht (fun h => kt (by rw [← er_zero] at h; exact (er_ofInt_le hx hy).mp h) p e s mm args below meth c H locs la C hz hW hS hl) (fun h => kf (by rw [← er_zero] at h; exact Int.not_le.mp (fun z => h ((er_ofInt_le hx hy).mpr z))) p e s mm args below meth c H locs la C hz hW hS hl)
end ER
end
section
/-! the rows of memory, of calls and returns -/
/-- a field's place: own's constant pool entry names field k of class ci -/
def er_FL (own : String) (index ci k : Nat) (fin : Bool) (ty : FieldType) : Prop := ∃ (C : String) (T : u_T) (N : Nat) (t0 : Nat → FieldType), er_cl[ci]? = some (C, T, N) ∧ k < N ∧ (∀ w ∈ u_ws C T N, w ∈ er_tb) ∧ Cond.fieldLink own index (T k).1 (T k).2.1 (T k).2.2.1 ∈ er_tb ∧ (∀ j, j < N → parseFieldDescriptor (T j).2.2.1 = some (t0 j)) ∧ (∀ a, a < N → ∀ b, b < N → a ≠ b → (T a).2.1 ≠ (T b).2.1) ∧ (T k).2.2.2 = fin ∧ t0 k = ty ∧ (T k).1 = C
theorem er_cell_obj (K : er_K) (m : er_M) (c ci n : Nat) (rs : List (Option Nat)) : er_cell K m c (ci + 5, n, rs) = .inr (ci, er_fs K m c n rs) := by
  unfold er_cell
  rw [if_neg (by show ¬ ci + 5 < 3; omega), if_neg (by show ¬ ci + 5 < 5; omega)]
  rfl
theorem er_fs_get {K : er_K} {m : er_M} {c n k : Nat} {rs : List (Option Nat)} (hk : k < n) : (er_fs K m c n rs)[k]? = some (er_fv K m c k (rs.getD k none)) := by
  simp [er_fs, hk]
theorem er_fs_set {K : er_K} {m m' : er_M} {c n k : Nat} {rs rs' : List (Option Nat)} {v : Value} (hv : v = er_fv K m' c k (rs'.getD k none)) (ho : ∀ j, j < n → j ≠ k → er_fv K m c j (rs.getD j none) = er_fv K m' c j (rs'.getD j none)) : (er_fs K m c n rs).set k v = er_fs K m' c n rs' := by
  apply List.ext_getElem?
  intro j
  by_cases hn : j < n
  · rw [er_fs_get hn]
    by_cases hj : j = k
    · subst hj
      rw [List.getElem?_set_self (by simp [er_fs]; exact hn), hv]
    · rw [List.getElem?_set_ne (Ne.symm hj), er_fs_get hn, ho j hn hj]
  · rw [List.getElem?_eq_none (by simp [er_fs]; omega), List.getElem?_eq_none (by simp [er_fs]; omega)]
theorem er_ro_rf {K : er_K} {r : Nat} (hr : r ≠ 0) : va_rf (er_ro K r) = .ref (er_ad K r) := by
  simp [er_ro, er_ad, hr, va_rf]
theorem er_A_of {K : er_K} {s : State} (h : K.2.1 < s.heap.size) : ∀ q, s.heap.size ≤ q → er_A K q := fun q hq => Nat.lt_of_lt_of_le h hq
section ER2
variable {K : er_K} {i : er_I} {uc us : Nat} {sh : er_Sh} {m : er_M} {pc : Nat} {ls : List (Option er_V)} {st : List er_V} {Z : List Frame → Array Value → State → State → Prop}
theorem er_getI {index ci k n c : Nat} {rs : List (Option Nat)} {fin : Bool} {ty : FieldType} (hf : er_FL i.1.cls index ci k fin ty) (hc : er_at sh c = some (ci + 5, n, rs)) (hk : k < n) (hr : rs.getD k none = none) (hd : decode i.2.1 pc = .ok (.getfield index, 3)) (kk : er_WP K i uc us sh m (pc + 3) ls (.inl (m c k) :: st) Z) : er_WP K i uc us sh m pc ls (.inr c :: st) Z := by
  obtain ⟨C0, T, N, t0, h1, h2, h3, h4, -⟩ := hf
  intro p e s mm args below meth c1 H locs la C hz hW hS hl
  have e1 := er_ws_at (K := K) (m := m) hc
  rw [er_cell_obj] at e1
  show W _ _ _ _ _ _ _ _ _ _ _ _ _ _ _ (F0 mm pc la (.ref (er_ad K c) :: st.map (er_cv K)))
  rw [er_ad_at hc]
  exact va_get C.1 C.2.1 C.2.2.2.2.2.2.2.1 h3 C.2.2.2.2.2.2.1 hW.2 hW.1 (c - 1) e1 h1 k h2 (C.2.2.2.2.2.2.2.1 _ h4) (fun _ h => h) (v := .int (Int32.ofInt (m c k))) (by rw [er_fs_get hk, hr]; rfl) hd (kk p e s mm args below meth c1 H locs la C hz hW hS hl)
theorem er_getR {index ci k n c r : Nat} {rs : List (Option Nat)} {fin : Bool} {ty : FieldType} (hf : er_FL i.1.cls index ci k fin ty) (hc : er_at sh c = some (ci + 5, n, rs)) (hk : k < n) (hr : rs.getD k none = some r) (hr0 : r ≠ 0) (hd : decode i.2.1 pc = .ok (.getfield index, 3)) (kk : er_WP K i uc us sh m (pc + 3) ls (.inr r :: st) Z) : er_WP K i uc us sh m pc ls (.inr c :: st) Z := by
  obtain ⟨C0, T, N, t0, h1, h2, h3, h4, -⟩ := hf
  intro p e s mm args below meth c1 H locs la C hz hW hS hl
  have e1 := er_ws_at (K := K) (m := m) hc
  rw [er_cell_obj] at e1
  show W _ _ _ _ _ _ _ _ _ _ _ _ _ _ _ (F0 mm pc la (.ref (er_ad K c) :: st.map (er_cv K)))
  rw [er_ad_at hc]
  exact va_get C.1 C.2.1 C.2.2.2.2.2.2.2.1 h3 C.2.2.2.2.2.2.1 hW.2 hW.1 (c - 1) e1 h1 k h2 (C.2.2.2.2.2.2.2.1 _ h4) (fun _ h => h) (v := .ref (er_ad K r)) (by rw [er_fs_get hk, hr]; exact congrArg some (er_ro_rf hr0)) hd (kk p e s mm args below meth c1 H locs la C hz hW hS hl)
theorem er_putX {index ci k n c : Nat} {rs : List (Option Nat)} {ty : FieldType} {x : Int} (hf : er_FL i.1.cls index ci k false ty) (hc : er_at sh c = some (ci + 5, n, rs)) (hk : k < n) (hr : rs.getD k none = none) (hn : narrow ty (.int (Int32.ofInt x)) = .int (Int32.ofInt x)) (hfit : fits ty (.int (Int32.ofInt x)) = true) (hd : decode i.2.1 pc = .ok (.putfield index, 3)) (kk : er_WP K i uc us sh (er_st m c k x) (pc + 3) ls st Z) : er_WP K i uc us sh m pc ls (.inl x :: .inr c :: st) Z := by
  obtain ⟨C0, T, N, t0, h1, h2, h3, h4, h5, h6, h7, h8, h9⟩ := hf
  intro p e s mm args below meth c1 H locs la C hz hW hS hl
  have e1 := er_ws_at (K := K) (m := m) hc
  rw [er_cell_obj] at e1
  show W _ _ _ _ _ _ _ _ _ _ _ _ _ _ _ (F0 mm pc la (.int (Int32.ofInt x) :: .ref (er_ad K c) :: st.map (er_cv K)))
  rw [er_ad_at hc]
  have eset : (er_ws K sh m).set (c - 1) (K.2.1 + c, .inr (ci, (er_fs K m c n rs).set k (.int (Int32.ofInt x)))) = er_ws K sh (er_st m c k x) := by
    refine er_ws_up hc ?_ (fun c' hc' => by funext j; simp [er_st, hc'])
    rw [er_cell_obj]
    congr 2
    refine er_fs_set (by rw [hr]; simp [er_fv, er_st]) (fun j _ hj => ?_)
    cases rs.getD j none with
    | some r => rfl
    | none =>
      show Value.int (Int32.ofInt (m c j)) = Value.int (Int32.ofInt (er_st m c k x c j))
      rw [show er_st m c k x c j = m c j from by unfold er_st; rw [if_neg (by omega)]]
  refine va_put C.1 C.2.1 C.2.2.2.2.2.2.2.1 h3 t0 h5 h6 C.2.2.2.2.2.2.1 hW.2 hW.1 (er_ws_D K sh m) hS (c - 1) e1 h1 k h2 (C.2.2.2.2.2.2.2.1 _ h4) (fun _ h => h) h7 (ty := ty) (v := .int (Int32.ofInt x)) (by rw [h5 k h2, h8]) hn hfit (by simp [er_fs]; exact hk) hd (fun H1 locs1 hP1 hD1 hS1 => ?_)
  rw [eset] at hP1
  exact kk p e s mm args below meth c1 H1 locs1 la C hz ⟨hP1, hW.2⟩ hS1 hl
theorem er_putI {index ci k n c : Nat} {rs : List (Option Nat)} {x : Int} (hf : er_FL i.1.cls index ci k false .int) (hc : er_at sh c = some (ci + 5, n, rs)) (hk : k < n) (hr : rs.getD k none = none) (hd : decode i.2.1 pc = .ok (.putfield index, 3)) (kk : er_WP K i uc us sh (er_st m c k x) (pc + 3) ls st Z) : er_WP K i uc us sh m pc ls (.inl x :: .inr c :: st) Z :=
  er_putX hf hc hk hr rfl rfl hd kk
theorem er_putZ {index ci k n c : Nat} {rs : List (Option Nat)} {x : Int} (hf : er_FL i.1.cls index ci k false .boolean) (hc : er_at sh c = some (ci + 5, n, rs)) (hk : k < n) (hr : rs.getD k none = none) (hx : x = 0 ∨ x = 1) (hd : decode i.2.1 pc = .ok (.putfield index, 3)) (kk : er_WP K i uc us sh (er_st m c k x) (pc + 3) ls st Z) : er_WP K i uc us sh m pc ls (.inl x :: .inr c :: st) Z := by
  refine er_putX hf hc hk hr ?_ ?_ hd kk
  · rcases hx with rfl | rfl <;> rfl
  · rcases hx with rfl | rfl <;> rfl
theorem er_cell_n (K : er_K) (m : er_M) (c k n : Nat) (rs : List (Option Nat)) (hk : k < 3) : er_cell K m c (k, n, rs) = .inl (K.2.2.2.1 k, n, .inl (fun j => Int32.ofInt (m c j))) := by
  unfold er_cell
  rw [if_pos (show k < 3 from hk)]
theorem er_cell_q (K : er_K) (m : er_M) (c k n : Nat) (rs : List (Option Nat)) (h3 : 3 ≤ k) (h5 : k < 5) : er_cell K m c (k, n, rs) = .inl (K.2.2.2.1 k, n, .inr (.inr (.inr (.inr (fun j => er_ro K (m c j).toNat))))) := by
  unfold er_cell
  rw [if_neg (show ¬ k < 3 by omega), if_pos (show k < 5 from h5)]
theorem er_iald {c n : Nat} {rs : List (Option Nat)} {j : Int} (hc : er_at sh c = some (0, n, rs)) (hn : n ≤ 2147483648) (h0 : 0 ≤ j) (h1 : j < n) (hd : decode i.2.1 pc = .ok (.iaload, 1)) (kk : er_WP K i uc us sh m (pc + 1) ls (.inl (m c j) :: st) Z) : er_WP K i uc us sh m pc ls (.inl j :: .inr c :: st) Z := by
  intro p e s mm args below meth c1 H locs la C hz hW hS hl
  have e1 := er_ws_at (K := K) (m := m) hc
  rw [er_cell_n _ _ _ _ _ _ (by decide)] at e1
  obtain ⟨g1, g2⟩ := er_ix h0 h1 hn
  show W _ _ _ _ _ _ _ _ _ _ _ _ _ _ _ (F0 mm pc la (.int (Int32.ofInt j) :: .ref (er_ad K c) :: st.map (er_cv K)))
  rw [er_ad_at hc]
  have hk := kk p e s mm args below meth c1 H locs la C hz hW hS hl
  refine va_iald C.1 C.2.1 hW.2 hW.1 (c - 1) 0 e1 rfl g1 hd ?_
  rw [g2, Int.toNat_of_nonneg h0]
  exact hk
theorem er_zald {c n : Nat} {rs : List (Option Nat)} {j : Int} (hc : er_at sh c = some (1, n, rs)) (hn : n ≤ 2147483648) (h0 : 0 ≤ j) (h1 : j < n) (hd : decode i.2.1 pc = .ok (.baload, 1)) (kk : er_WP K i uc us sh m (pc + 1) ls (.inl (m c j) :: st) Z) : er_WP K i uc us sh m pc ls (.inl j :: .inr c :: st) Z := by
  intro p e s mm args below meth c1 H locs la C hz hW hS hl
  have e1 := er_ws_at (K := K) (m := m) hc
  rw [er_cell_n _ _ _ _ _ _ (by decide)] at e1
  obtain ⟨g1, g2⟩ := er_ix h0 h1 hn
  show W _ _ _ _ _ _ _ _ _ _ _ _ _ _ _ (F0 mm pc la (.int (Int32.ofInt j) :: .ref (er_ad K c) :: st.map (er_cv K)))
  rw [er_ad_at hc]
  have hk := kk p e s mm args below meth c1 H locs la C hz hW hS hl
  refine va_zald C.1 C.2.1 hW.2 hW.1 (c - 1) 1 e1 rfl g1 hd ?_
  rw [g2, Int.toNat_of_nonneg h0]
  exact hk
theorem er_bald {c n : Nat} {rs : List (Option Nat)} {j : Int} (hc : er_at sh c = some (2, n, rs)) (hn : n ≤ 2147483648) (h0 : 0 ≤ j) (h1 : j < n) (hd : decode i.2.1 pc = .ok (.baload, 1)) (kk : er_WP K i uc us sh m (pc + 1) ls (.inl (m c j) :: st) Z) : er_WP K i uc us sh m pc ls (.inl j :: .inr c :: st) Z := by
  intro p e s mm args below meth c1 H locs la C hz hW hS hl
  have e1 := er_ws_at (K := K) (m := m) hc
  rw [er_cell_n _ _ _ _ _ _ (by decide)] at e1
  obtain ⟨g1, g2⟩ := er_ix h0 h1 hn
  show W _ _ _ _ _ _ _ _ _ _ _ _ _ _ _ (F0 mm pc la (.int (Int32.ofInt j) :: .ref (er_ad K c) :: st.map (er_cv K)))
  rw [er_ad_at hc]
  have hk := kk p e s mm args below meth c1 H locs la C hz hW hS hl
  refine va_bald C.1 C.2.1 hW.2 hW.1 (c - 1) 2 e1 rfl g1 hd ?_
  rw [g2, Int.toNat_of_nonneg h0]
  exact hk
theorem er_aald {c k n : Nat} {rs : List (Option Nat)} {j : Int} {r : Nat} (hc : er_at sh c = some (k, n, rs)) (hk : k = 3 ∨ k = 4) (hn : n ≤ 2147483648) (h0 : 0 ≤ j) (h1 : j < n) (hr : m c j = (r : Nat)) (hr0 : r ≠ 0) (hd : decode i.2.1 pc = .ok (.aaload, 1)) (kk : er_WP K i uc us sh m (pc + 1) ls (.inr r :: st) Z) : er_WP K i uc us sh m pc ls (.inl j :: .inr c :: st) Z := by
  intro p e s mm args below meth c1 H locs la C hz hW hS hl
  have e1 := er_ws_at (K := K) (m := m) hc
  rw [er_cell_q _ _ _ _ _ _ (by omega) (by omega)] at e1
  obtain ⟨g1, g2⟩ := er_ix h0 h1 hn
  show W _ _ _ _ _ _ _ _ _ _ _ _ _ _ _ (F0 mm pc la (.int (Int32.ofInt j) :: .ref (er_ad K c) :: st.map (er_cv K)))
  rw [er_ad_at hc]
  have hk2 := kk p e s mm args below meth c1 H locs la C hz hW hS hl
  have e2 : va_rf (er_ro K (m c ((Int32.ofInt j).toNatClampNeg : Nat)).toNat) = .ref (er_ad K r) := by
    rw [g2, Int.toNat_of_nonneg h0, hr, Int.toNat_natCast]
    exact er_ro_rf hr0
  rcases hk with rfl | rfl
  · refine va_aldq C.1 C.2.1 hW.2 hW.1 (c - 1) 3 e1 rfl g1 hd ?_
    rw [e2]
    exact hk2
  · refine va_aldq C.1 C.2.1 hW.2 hW.1 (c - 1) 4 e1 rfl g1 hd ?_
    rw [e2]
    exact hk2
theorem er_up_eq (m : er_M) (c : Nat) (j x : Int) (h0 : 0 ≤ j) : upd (fun k : Nat => Int32.ofInt (m c k)) j.toNat (Int32.ofInt x) = fun k : Nat => Int32.ofInt (er_st m c j x c k) := by
  funext k
  unfold upd er_st
  by_cases hk : k = j.toNat
  · subst hk
    rw [if_pos rfl, if_pos ⟨rfl, by omega⟩]
  · rw [if_neg hk, if_neg (fun h => hk (by omega))]
theorem er_iast {c n : Nat} {rs : List (Option Nat)} {j x : Int} (hc : er_at sh c = some (0, n, rs)) (hn : n ≤ 2147483648) (h0 : 0 ≤ j) (h1 : j < n) (hd : decode i.2.1 pc = .ok (.iastore, 1)) (kk : er_WP K i uc us sh (er_st m c j x) (pc + 1) ls st Z) : er_WP K i uc us sh m pc ls (.inl x :: .inl j :: .inr c :: st) Z := by
  intro p e s mm args below meth c1 H locs la C hz hW hS hl
  have e1 := er_ws_at (K := K) (m := m) hc
  rw [er_cell_n _ _ _ _ _ _ (by decide)] at e1
  obtain ⟨g1, g2⟩ := er_ix h0 h1 hn
  show W _ _ _ _ _ _ _ _ _ _ _ _ _ _ _ (F0 mm pc la (.int (Int32.ofInt x) :: .int (Int32.ofInt j) :: .ref (er_ad K c) :: st.map (er_cv K)))
  rw [er_ad_at hc]
  refine va_iast C.1 C.2.1 hW.2 hW.1 (er_ws_D K sh m) hS (c - 1) 0 e1 rfl g1 hd (fun H1 locs1 hP1 _ hS1 => ?_)
  rw [g2, er_up_eq m c j x h0, er_ws_up (m' := er_st m c j x) hc (er_cell_n _ _ _ _ _ _ (by decide)).symm (fun c' hc' => by funext k; simp [er_st, hc'])] at hP1
  exact kk p e s mm args below meth c1 H1 locs1 la C hz ⟨hP1, hW.2⟩ hS1 hl
theorem er_zast {c n : Nat} {rs : List (Option Nat)} {j x : Int} (hc : er_at sh c = some (1, n, rs)) (hn : n ≤ 2147483648) (h0 : 0 ≤ j) (h1 : j < n) (hx : x = 0 ∨ x = 1) (hd : decode i.2.1 pc = .ok (.bastore, 1)) (kk : er_WP K i uc us sh (er_st m c j x) (pc + 1) ls st Z) : er_WP K i uc us sh m pc ls (.inl x :: .inl j :: .inr c :: st) Z := by
  intro p e s mm args below meth c1 H locs la C hz hW hS hl
  have e1 := er_ws_at (K := K) (m := m) hc
  rw [er_cell_n _ _ _ _ _ _ (by decide)] at e1
  obtain ⟨g1, g2⟩ := er_ix h0 h1 hn
  show W _ _ _ _ _ _ _ _ _ _ _ _ _ _ _ (F0 mm pc la (.int (Int32.ofInt x) :: .int (Int32.ofInt j) :: .ref (er_ad K c) :: st.map (er_cv K)))
  rw [er_ad_at hc]
  have e3 : vp_nar .boolean (Int32.ofInt x) = Int32.ofInt x := by rcases hx with rfl | rfl <;> rfl
  refine va_zast C.1 C.2.1 hW.2 hW.1 (er_ws_D K sh m) hS (c - 1) 1 e1 rfl g1 hd (fun H1 locs1 hP1 _ hS1 => ?_)
  rw [e3, g2, er_up_eq m c j x h0, er_ws_up (m' := er_st m c j x) hc (er_cell_n _ _ _ _ _ _ (by decide)).symm (fun c' hc' => by funext k; simp [er_st, hc'])] at hP1
  exact kk p e s mm args below meth c1 H1 locs1 la C hz ⟨hP1, hW.2⟩ hS1 hl
theorem er_byte : ∀ n, n < 256 → vp_nar .byte (Int32.ofInt ((n : Nat) - 128)) = Int32.ofInt ((n : Nat) - 128) := by decide +kernel
theorem er_bast {c n : Nat} {rs : List (Option Nat)} {j x : Int} (hc : er_at sh c = some (2, n, rs)) (hn : n ≤ 2147483648) (h0 : 0 ≤ j) (h1 : j < n) (hx : -128 ≤ x) (hx1 : x < 128) (hd : decode i.2.1 pc = .ok (.bastore, 1)) (kk : er_WP K i uc us sh (er_st m c j x) (pc + 1) ls st Z) : er_WP K i uc us sh m pc ls (.inl x :: .inl j :: .inr c :: st) Z := by
  intro p e s mm args below meth c1 H locs la C hz hW hS hl
  have e1 := er_ws_at (K := K) (m := m) hc
  rw [er_cell_n _ _ _ _ _ _ (by decide)] at e1
  obtain ⟨g1, g2⟩ := er_ix h0 h1 hn
  show W _ _ _ _ _ _ _ _ _ _ _ _ _ _ _ (F0 mm pc la (.int (Int32.ofInt x) :: .int (Int32.ofInt j) :: .ref (er_ad K c) :: st.map (er_cv K)))
  rw [er_ad_at hc]
  have e3 : vp_nar .byte (Int32.ofInt x) = Int32.ofInt x := by
    have := er_byte (x + 128).toNat (by omega)
    rwa [show (((x + 128).toNat : Nat) : Int) - 128 = x by omega] at this
  refine va_bast C.1 C.2.1 hW.2 hW.1 (er_ws_D K sh m) hS (c - 1) 2 e1 rfl g1 hd (fun H1 locs1 hP1 _ hS1 => ?_)
  rw [e3, g2, er_up_eq m c j x h0, er_ws_up (m' := er_st m c j x) hc (er_cell_n _ _ _ _ _ _ (by decide)).symm (fun c' hc' => by funext k; simp [er_st, hc'])] at hP1
  exact kk p e s mm args below meth c1 H1 locs1 la C hz ⟨hP1, hW.2⟩ hS1 hl
theorem er_aast {c k n r N ci : Nat} {rs rs2 : List (Option Nat)} {j : Int} (hc : er_at sh c = some (k, n, rs)) (hk : k = 3 ∧ ci = 0 ∨ k = 4 ∧ ci = 4) (hn : n ≤ 2147483648) (h0 : 0 ≤ j) (h1 : j < n) (hr : er_at sh r = some (ci + 5, N, rs2)) (hd : decode i.2.1 pc = .ok (.aastore, 1)) (kk : er_WP K i uc us sh (er_st m c j r) (pc + 1) ls st Z) : er_WP K i uc us sh m pc ls (.inr r :: .inl j :: .inr c :: st) Z := by
  intro p e s mm args below meth c1 H locs la C hz hW hS hl
  have e1 := er_ws_at (K := K) (m := m) hc
  rw [er_cell_q _ _ _ _ _ _ (by omega) (by omega)] at e1
  have e2 := er_ws_at (K := K) (m := m) hr
  rw [er_cell_obj] at e2
  obtain ⟨g1, g2⟩ := er_ix h0 h1 hn
  obtain ⟨r', hr', -⟩ := er_at_ne hr
  show W _ _ _ _ _ _ _ _ _ _ _ _ _ _ _ (F0 mm pc la (.ref (er_ad K r) :: .int (Int32.ofInt j) :: .ref (er_ad K c) :: st.map (er_cv K)))
  rw [er_ad_at hc, er_ad_at hr]
  have e4 : va_up (fun j : Nat => er_ro K (m c j).toNat) j.toNat (some (K.2.1 + r)) = fun q : Nat => er_ro K (er_st m c j r c q).toNat := by
    funext q
    unfold va_up er_st
    by_cases hq : q = j.toNat
    · subst hq
      rw [if_pos rfl, if_pos ⟨rfl, by omega⟩, Int.toNat_natCast]
      simp [er_ro, hr']
    · rw [if_neg hq, if_neg (fun h => hq (by omega))]
  have fin : ∀ (H1 : Heap) (locs1 : List Loc), va_P K.2.2.1 er_cl ((er_ws K sh m).set (c - 1) (K.2.1 + c, .inl (K.2.2.2.1 k, n, .inr (.inr (.inr (.inr (va_up (fun j : Nat => er_ro K (m c j).toNat) (Int32.ofInt j).toNatClampNeg (some (K.2.1 + r))))))))) H1 → va_S (er_A K) s.heap H1 locs1 → W p K.1 e i.2.2.2.2 s mm args below meth c1 H1 locs1 uc us (Z below args s) (F0 mm (pc + 1) la (st.map (er_cv K))) := by
    intro H1 locs1 hP1 hS1
    rw [g2, e4, er_ws_up (m' := er_st m c j r) hc (er_cell_q _ _ _ _ _ _ (by omega) (by omega)).symm (fun c' hc' => by funext k; simp [er_st, hc'])] at hP1
    exact kk p e s mm args below meth c1 H1 locs1 la C hz ⟨hP1, hW.2⟩ hS1 hl
  rcases hk with ⟨rfl, rfl⟩ | ⟨rfl, rfl⟩
  · exact va_astq (r := ("EscapeRouter$Board", er_FB, 7)) C.1 C.2.1 hW.2 hW.1 (er_ws_D K sh m) hS (c - 1) 3 (r - 1) 0 e1 rfl e2 rfl g1 hd (fun H1 locs1 hP1 _ hS1 => fin H1 locs1 hP1 hS1)
  · exact va_astq (r := ("EscapeRouter$Layering", er_FY, 9)) C.1 C.2.1 hW.2 hW.1 (er_ws_D K sh m) hS (c - 1) 4 (r - 1) 4 e1 rfl e2 rfl g1 hd (fun H1 locs1 hP1 _ hS1 => fin H1 locs1 hP1 hS1)
end ER2
end
section
/-! calls, returns, entry, switches, the JDK's three -/
theorem er_gi {ws : List Cond} (h : ∀ w ∈ ws, w ∈ er_tb) : GoodIn er_tb ws := fun w hw => ⟨h w hw, good_of_word (List.mem_filter.mp (h w hw)).2⟩
def er_MD (j : er_I) (n : Nat) : Prop := j.1.cls ≠ "java/lang/invoke/MethodHandle" ∧ j.1.cls ≠ "java/lang/invoke/VarHandle" ∧ (parseMethodDescriptor j.1.desc).map (fun d => d.parameters.length) = some n
def er_MW (j : er_I) : Prop := Cond.code j.1 j.2.1 j.2.2.1 j.2.2.2.1 ∈ er_tb ∧ Cond.initialized j.1.cls ∈ er_tb
theorem er_wd_in {j : er_I} (h : er_MW j) : ∀ w ∈ er_wd j, w ∈ er_tb := fun w hw => (List.mem_cons.mp hw).elim (fun e => e ▸ h.1) id
theorem er_size {p : Program} {l : Launch} {e : Env} {R : Room} {s : State} {mm : MethodId} {args : Array Value} {below : List Frame} {meth : Method} {c : Code} {T : State} {locs : List Loc} {uc us : Nat} {K : er_K} {sh : er_Sh} {m : er_M} {H : Heap}
    (hb : K.2.1 < s.heap.size) (hz : K.2.1 + 1 + sh.length = s.heap.size + uc) (hW : er_W K sh m s H) (hS : va_S (er_A K) s.heap H locs) (hT : T.heap = H) (X : Stand p l e R s mm args below meth c T locs uc us) : H.size = K.2.1 + 1 + sh.length := by
  have h1 : T.heap.size ≤ s.heap.size + uc := X.same.2.2.1
  rw [hT] at h1
  have h2 := hS.1
  cases hn : sh.length with
  | zero => rw [hn] at hz; omega
  | succ n =>
    have h3 : er_at sh (n + 1) = some (sh.getD n (99, 0, [])) := by
      show sh[n]? = _
      rw [List.getD_eq_getElem?_getD, List.getElem?_eq_getElem (by omega)]
      rfl
    have h4 := (hW.1 _ _ (er_ws_at (K := K) (m := m) h3)).lt
    simp only at h4
    rw [hn] at hz
    omega
theorem er_X_at {K : er_K} {s U : State} {H : Heap} {locs : List Loc} (hb : K.2.1 < s.heap.size) (hX : er_X K s) (hS : va_S (er_A K) s.heap H locs) (hU : U.heap = H) (hW : s.WarmedH U.vm) : er_X K U := by
  refine ⟨?_, hX.2.1, hX.2.2.warm hW⟩
  have h1 := va_X.moved hW.alike hX.1
  rw [hU]
  exact va_X.kept h1 (hS.2.1 _ (Nat.lt_of_le_of_lt hX.2.1 hb) (Nat.not_lt.mpr hX.2.1))
theorem er_blind {K : er_K} {sh : er_Sh} {m : er_M} {av : List Value} : FrameBlind (va_Pc av (fun U => er_W K sh m U U.heap ∧ er_X K U ∧ U.heap.size = K.2.1 + 1 + sh.length)) := by
  intro a U g mk q
  obtain ⟨q0, ⟨q1, q2⟩, ⟨q3, q4, q6⟩, q5⟩ := q
  exact ⟨q0, ⟨q1, va_K.moved (u := U) (U := U.calling g mk a) (Vm.Alike.refl U.vm) q2⟩, ⟨va_X.moved (u := U) (U := U.calling g mk a) (Vm.Alike.refl U.vm) q3, q4, er_N.same (u := U) (U := U.calling g mk a) rfl q6⟩, q5⟩
section ER3
variable {K : er_K} {i j : er_I} {uc us : Nat} {sh : er_Sh} {m : er_M} {pc : Nat} {ls : List (Option er_V)} {st : List er_V} {Z : List Frame → Array Value → State → State → Prop}
theorem er_goes {p : Program} {e : Env} {R : Room} {s : State} {mm : MethodId} {args : Array Value} {below : List Frame} {meth : Method} {c : Code} {H : Heap} {locs : List Loc} {la : Array Slot} {st0 rest : List Value} {mc ms : Nat} {Q : er_Post} {a : Array Value} {G : State → Prop}
    (hr : va_Run p K.1 e R s mm args below meth c H locs uc us mc ms (F0 mm pc la st0) rest (er_Qc K j Q a) (er_A K)) (hS : va_S (er_A K) s.heap H locs)
    (kk : ∀ (v : Option er_V) (sh' : er_Sh) (m' : er_M) (H1 : Heap) (locs1 : List Loc), Q v sh' m' → er_W K sh' m' s H1 → K.2.1 + 1 + sh'.length = H.size + j.2.2.2.2.cells → va_S (er_A K) s.heap H1 locs1 → W p K.1 e R s mm args below meth c H1 locs1 (uc + mc) (us + ms) G (F0 mm (pc + 3) la ((v.map (er_cv K)).toList ++ rest))) : W p K.1 e R s mm args below meth c H locs uc us G (F0 mm pc la st0) := by
  intro T hT X
  obtain ⟨v, st₀, t, T', L, h0, X', hL, e1, e2, ⟨⟨v', sh', m', hv, hp, hw, hz⟩, hzz, hk⟩, stp⟩ := hr T hT X
  cases hv
  rw [h0] at hzz hk hz
  have hw2 : er_W K sh' m' s T'.heap := ⟨by rw [e1]; exact hw.1, va_K.moved (by rw [← e2]; exact X'.warmed.alike.symm) hw.2⟩
  obtain ⟨t2, a1, b1⟩ := kk v' sh' m' T'.heap (locs ++ L) hp hw2 hz
    ⟨Nat.le_trans hS.1 (by rw [e1]; exact hzz), fun q h1 h2 => by rw [e1, hk q (Nat.lt_of_lt_of_le h1 hS.1) h2]; exact hS.2.1 q h1 h2, fun q hq => (List.mem_append.mp hq).elim (hS.2.2 q) (hL q)⟩ T' rfl X'
  exact ⟨t2, stp t2 a1, b1⟩
theorem er_rest8 (h : st.length ≤ 8) {mm : MethodId} {la : Array Slot} {stk : List Value} : 2 * (F0 mm pc la stk).monitorRoom + ((st.map (er_cv K)).map fun v => v.category).sum ≤ 8 := lv_room (by rw [er_catsum]; exact h)
theorem er_pre {p : Program} {s : State} {mm : MethodId} {meth : Method} {c : Code} {args : Array Value} {H : Heap} {locs : List Loc} {as : List er_V} (C : er_Cx K i p mm meth c s args) (hsz : H.size = K.2.1 + 1 + sh.length) (hW : er_W K sh m s H) (hS : va_S (er_A K) s.heap H locs) :
    PreS s H (va_Pc (as.map (er_cv K)) (fun U => er_W K sh m U U.heap ∧ er_X K U ∧ U.heap.size = K.2.1 + 1 + sh.length)) (as.map (er_cv K)) :=
  ⟨er_blind, fun U hU hw => ⟨rfl, ⟨by rw [hU]; exact hW.1, va_K.moved hw.alike hW.2⟩, er_X_at C.2.2.2.2.2.2.2.2.1 C.2.2.2.2.2.2.2.2.2 hS hU hw, by rw [hU]; exact hsz⟩⟩
def er_fits (i j : er_I) : Prop := j.2.2.2.2.frames + 1 ≤ i.2.2.2.2.frames ∧ 8 + (j.2.2.1 + 11) + j.2.2.2.2.locals ≤ i.2.2.2.2.locals
theorem er_callV {idx n b ci N : Nat} {As : List er_V} {rs : List (Option Nat)} {stk : List er_V} {Q : er_Post} (hM : Cond.methodLink i.1.cls idx j.1 ∈ er_tb ∧ Cond.instanceMethod j.1 ∈ er_tb ∧ Cond.selects j.1.cls j.1 j.1 ∈ er_tb) (hw : er_MW j) (hm : er_MD j n) (hst : stk = As.reverse ++ .inr b :: st) (hn : As.length = n) (h8 : st.length ≤ 8) (hb : er_at sh b = some (ci + 5, N, rs)) (hcl : (er_cl[ci]?).map (fun q => q.1) = some j.1.cls) (hR : er_fits i j) (hf : uc + j.2.2.2.2.cells ≤ i.2.2.2.2.cells ∧ us + j.2.2.2.2.slots ≤ i.2.2.2.2.slots) (hd : decode i.2.1 pc = .ok (.invokevirtual idx, 3)) (hS : er_Spec K j (.inr b :: As) sh m Q) (kk : ∀ v sh' m', Q v sh' m' → er_WP K i (uc + j.2.2.2.2.cells) (us + j.2.2.2.2.slots) sh' m' (pc + 3) ls (v.toList ++ st) Z) : er_WP K i uc us sh m pc ls stk Z := by
  have hS0 := hS
  subst hst
  intro p e s mm args below meth c1 H locs la C hz hW hS hl T hT X
  have hsz := er_size C.2.2.2.2.2.2.2.2.1 hz hW hS hT X
  have e2 := er_ws_at (K := K) (m := m) hb
  rw [er_cell_obj] at e2
  obtain ⟨q, hq⟩ : ∃ q, er_cl[ci]? = some q := by
    cases h : er_cl[ci]? with
    | none => rw [h] at hcl; cases hcl
    | some q => exact ⟨q, rfl⟩
  rw [hq] at hcl
  have hcl : q.1 = j.1.cls := Option.some.inj hcl
  have cw : CallW i.2.2.2.2 s args i.1.cls j.1.cls idx j.1 j.2.1 j.2.2.1 j.2.2.2.1 (er_wd j) j.2.2.2.2 j.2.2.2.2.cells j.2.2.2.2.slots n :=
    cwV n C.2.2.2.2.2.2.2.1 (er_gi (fun w h => by
      rcases List.mem_append.mp h with h | h
      · simp only [List.mem_cons, List.not_mem_nil, or_false] at h
        rcases h with rfl | rfl | rfl | rfl
        · exact hM.1
        · exact hM.2.1
        · exact hM.2.2
        · exact hw.2
      · exact er_wd_in hw w h)) rfl rfl rfl ⟨rfl, hm⟩ hR
  have hp := er_pre (as := .inr b :: As) C hsz hW hS
  have hrecv := va_recv (s := s) (H := H) hW.2 hW.1 hq e2
  rw [hcl, ← er_ad_at hb] at hrecv
  refine er_goes (j := j) (va_runV (As := As.map (er_cv K)) (rest := st.map (er_cv K)) ⟨C.1, C.2.1, C.2.2.1, C.2.2.2.2.2.2.1, C.2.2.2.2.2.2.2.1⟩ hS0 cw ⟨hp.1, hrecv, hp.2⟩ rfl (by rw [List.length_map]; exact hn) hl.1 (by simp [er_cv]) (er_rest8 h8) hd hf) hS (fun v sh' m' H1 locs1 hQ hW1 hz1 hS1 => ?_) T hT X
  have := kk v sh' m' hQ p e s mm args below meth c1 H1 locs1 la C (by omega) hW1 hS1 hl
  rw [List.map_append] at this
  cases v <;> exact this
theorem er_callS {idx n : Nat} {As : List er_V} {stk : List er_V} {Q : er_Post} (hM : Cond.methodLink i.1.cls idx j.1 ∈ er_tb ∧ Cond.static j.1 ∈ er_tb) (hown : j.1.cls = i.1.cls) (hw : er_MW j) (hm : er_MD j n) (hst : stk = As.reverse ++ st) (hn : As.length = n) (h8 : st.length ≤ 8) (hR : er_fits i j) (hf : uc + j.2.2.2.2.cells ≤ i.2.2.2.2.cells ∧ us + j.2.2.2.2.slots ≤ i.2.2.2.2.slots) (hd : decode i.2.1 pc = .ok (.invokestatic idx, 3)) (hS : er_Spec K j As sh m Q) (kk : ∀ v sh' m', Q v sh' m' → er_WP K i (uc + j.2.2.2.2.cells) (us + j.2.2.2.2.slots) sh' m' (pc + 3) ls (v.toList ++ st) Z) : er_WP K i uc us sh m pc ls stk Z := by
  have hS0 := hS
  subst hst
  intro p e s mm args below meth c1 H locs la C hz hW hS hl T hT X
  have hsz := er_size C.2.2.2.2.2.2.2.2.1 hz hW hS hT X
  have cw := cwS (R := i.2.2.2.2) (own := i.1.cls) (index := idx) (y := j.1) (bytes := j.2.1) (maxL := j.2.2.1) (ret := j.2.2.2.1) (ws := er_wd j) (rm := j.2.2.2.2) n C.2.2.2.2.2.2.2.1 (er_gi (fun w h => by
      rcases List.mem_append.mp h with h | h
      · simp only [List.mem_cons, List.not_mem_nil, or_false] at h
        rcases h with rfl | rfl | rfl
        · exact hM.1
        · exact hM.2
        · rw [← hown]; exact hw.2
      · exact er_wd_in hw w h)) rfl rfl rfl ⟨hown, hm⟩ hR
  refine er_goes (j := j) (va_runS (As := As.map (er_cv K)) (rest := st.map (er_cv K)) ⟨C.1, C.2.1, C.2.2.1, C.2.2.2.2.2.2.1, C.2.2.2.2.2.2.2.1⟩ hS0 cw (er_pre C hsz hW hS) rfl (by rw [List.length_map]; exact hn) hl.1 (by simp) (er_rest8 h8) hd hf) hS (fun v sh' m' H1 locs1 hQ hW1 hz1 hS1 => ?_) T hT X
  have := kk v sh' m' hQ p e s mm args below meth c1 H1 locs1 la C (by omega) hW1 hS1 hl
  rw [List.map_append] at this
  cases v <;> exact this
theorem er_callN {idx n : Nat} {host : String} {As : List er_V} {stk : List er_V} {Q : er_Post} (hM : (i.1.cls, idx, j.1, host) ∈ er_nw ∧ Cond.static j.1 ∈ er_tb) (hw : er_MW j) (hm : er_MD j n) (hst : stk = As.reverse ++ st) (hn : As.length = n) (h8 : st.length ≤ 8) (hR : er_fits i j) (hf : uc + j.2.2.2.2.cells ≤ i.2.2.2.2.cells ∧ us + j.2.2.2.2.slots ≤ i.2.2.2.2.slots) (hd : decode i.2.1 pc = .ok (.invokestatic idx, 3)) (hS : er_Spec K j As sh m Q) (kk : ∀ v sh' m', Q v sh' m' → er_WP K i (uc + j.2.2.2.2.cells) (us + j.2.2.2.2.slots) sh' m' (pc + 3) ls (v.toList ++ st) Z) : er_WP K i uc us sh m pc ls stk Z := by
  have hS0 := hS
  subst hst
  intro p e s mm args below meth c1 H locs la C hz hW hS hl T hT X
  have hsz := er_size C.2.2.2.2.2.2.2.2.1 hz hW hS hT X
  have hts := C.2.2.2.2.2.2.2.1
  have cw := va_cnB (R := i.2.2.2.2) (own := i.1.cls) (index := idx) (y := j.1) (host := host) (bytes := j.2.1) (maxL := j.2.2.1) (ret := j.2.2.2.1) (ws := er_wd j) (rm := j.2.2.2.2) n hts (er_gi (er_wd_in hw)) rfl rfl rfl (C.2.2.2.2.2.2.2.2.2.2.2.1 _ hM.1) (hts _ hw.2) hm hR
  refine er_goes (j := j) (va_runSN (As := As.map (er_cv K)) (rest := st.map (er_cv K)) ⟨C.1, C.2.1, C.2.2.1, C.2.2.2.2.2.2.1, C.2.2.2.2.2.2.2.1⟩ hS0 ⟨cw, hts _ hM.2, trivial⟩ (er_pre C hsz hW hS) rfl (by rw [List.length_map]; exact hn) hl.1 (by simp) (er_rest8 h8) hd hf) hS (fun v sh' m' H1 locs1 hQ hW1 hz1 hS1 => ?_) T hT X
  have := kk v sh' m' hQ p e s mm args below meth c1 H1 locs1 la C (by omega) hW1 hS1 hl
  rw [List.map_append] at this
  cases v <;> exact this
theorem er_callI {idx n b : Nat} {As : List er_V} {stk : List er_V} {Q : er_Post} (hM : Cond.methodLink i.1.cls idx j.1 ∈ er_tb ∧ Cond.instanceMethod j.1 ∈ er_tb) (hin : j.1.name = "<init>") (hret : j.2.2.2.1 = none) (hw : er_MW j) (hm : er_MD j n) (hst : stk = As.reverse ++ .inr b :: st) (hn : As.length = n) (h8 : st.length ≤ 8) (hR : er_fits i j) (hf : uc + j.2.2.2.2.cells ≤ i.2.2.2.2.cells ∧ us + j.2.2.2.2.slots ≤ i.2.2.2.2.slots) (hd : decode i.2.1 pc = .ok (.invokespecial idx, 3)) (hS : er_Spec K j (.inr b :: As) sh m Q) (kk : ∀ v sh' m', Q v sh' m' → er_WP K i (uc + j.2.2.2.2.cells) (us + j.2.2.2.2.slots) sh' m' (pc + 3) ls (v.toList ++ st) Z) : er_WP K i uc us sh m pc ls stk Z := by
  have hS0 := hS
  subst hst
  intro p e s mm args below meth c1 H locs la C hz hW hS hl T hT X
  have hsz := er_size C.2.2.2.2.2.2.2.2.1 hz hW hS hT X
  have hts := C.2.2.2.2.2.2.2.1
  have cw := cwI (R := i.2.2.2.2) (own := i.1.cls) (index := idx) (y := j.1) (bytes := j.2.1) (maxL := j.2.2.1) (ws := er_wd j) (rm := j.2.2.2.2) (ws' := er_tb) n hts (er_gi (er_wd_in hw)) (by unfold er_wd; rw [hret]) rfl rfl (hts _ hw.2) (hts _ hM.1) (hts _ hM.2) hin hm hR
  refine er_goes (j := j) (va_runI (b := er_ad K b) (As := As.map (er_cv K)) (rest := st.map (er_cv K)) ⟨C.1, C.2.1, C.2.2.1, C.2.2.2.2.2.2.1, C.2.2.2.2.2.2.2.1⟩ hS0 cw (er_pre (as := .inr b :: As) C hsz hW hS) rfl (by rw [List.length_map]; exact hn) hl.1 (by simp [er_cv]) (er_rest8 h8) hd hf) hS (fun v sh' m' H1 locs1 hQ hW1 hz1 hS1 => ?_) T hT X
  have := kk v sh' m' hQ p e s mm args below meth c1 H1 locs1 la C (by omega) hW1 hS1 hl
  rw [List.map_append] at this
  cases v <;> exact this
theorem er_obj {idx b : Nat} (hM : Cond.methodLink i.1.cls idx objectInit ∈ er_tb ∧ Cond.instanceMethod objectInit ∈ er_tb ∧ Cond.code objectInit ⟨#[0xb1]⟩ 1 none ∈ er_tb) (h8 : st.length ≤ 8) (hR : 1 ≤ i.2.2.2.2.frames ∧ 20 ≤ i.2.2.2.2.locals) (hd : decode i.2.1 pc = .ok (.invokespecial idx, 3)) (kk : er_WP K i uc us sh m (pc + 3) ls st Z) : er_WP K i uc us sh m pc ls (.inr b :: st) Z := by
  intro p e s mm args below meth c1 H locs la C hz hW hS hl
  have hts := C.2.2.2.2.2.2.2.1
  refine W.objInit (a := er_ad K b) (rest := st.map (er_cv K)) C.1 C.2.1 C.2.2.2.2.2.2.1 (hts _ hM.1) (hts _ hM.2.1) (hts _ hM.2.2) rfl (by rw [C.2.2.1]; exact hl.1) rfl hd hR.1 ?_ (kk p e s mm args below meth c1 H locs la C hz hW hS hl)
  have := er_rest8 (K := K) (pc := pc) (mm := mm) (la := la) (stk := (Sum.inr b :: st).map (er_cv K)) h8
  have h20 := hR.2
  omega
theorem er_ret_fr {s t : State} {H : Heap} {locs : List Loc} (hS : va_S (er_A K) s.heap H locs) (ht : t.heap = H) : va_F (er_A K) s t := hS.F ht
theorem er_qc {p : Program} {s : State} {mm : MethodId} {meth : Method} {c : Code} {args : Array Value} {H : Heap} {locs : List Loc} {Q : er_Post} {v : Option er_V} (C : er_Cx K i p mm meth c s args) (hz : K.2.1 + 1 + sh.length = s.heap.size + uc) (hu : uc = i.2.2.2.2.cells) (hW : er_W K sh m s H) (hS : va_S (er_A K) s.heap H locs) (hq : Q v sh m) : ∀ t : State, t.heap = H → s.WarmedH t.vm → er_Qc K i Q args s (.returned (v.map (er_cv K))) t :=
  fun t ht hw => ⟨⟨v, sh, m, rfl, hq, ⟨by rw [ht]; exact hW.1, va_K.moved hw.alike hW.2⟩, by omega⟩, hS.F ht⟩
theorem er_iret {x : Int} {Q : er_Post} (hret : i.2.2.2.1 = some .int) (hu : uc = i.2.2.2.2.cells) (hu2 : us ≤ i.2.2.2.2.slots) (hd : decode i.2.1 pc = .ok (.ireturn, 1)) (hq : Q (some (.inl x)) sh m) : er_WP K i uc us sh m pc ls [.inl x] (er_Z K i Q) := by
  intro p e s mm args below meth c1 H locs la C hz hW hS hl
  refine W.widen (k := i.2.2.2.2.cells) (n := i.2.2.2.2.slots) (by omega) hu2 ?_
  exact W.iret (v := Int32.ofInt x) C.1 C.2.1 (C.2.2.2.1.trans hret) (er_qc (v := some (.inl x)) C hz hu hW hS hq) hS.2.2 hd C.2.2.2.2.1
theorem er_zret {x : Int} {Q : er_Post} (hret : i.2.2.2.1 = some .boolean) (hx : x = 0 ∨ x = 1) (hu : uc = i.2.2.2.2.cells) (hu2 : us ≤ i.2.2.2.2.slots) (hd : decode i.2.1 pc = .ok (.ireturn, 1)) (hq : Q (some (.inl x)) sh m) : er_WP K i uc us sh m pc ls [.inl x] (er_Z K i Q) := by
  intro p e s mm args below meth c1 H locs la C hz hW hS hl
  refine W.widen (k := i.2.2.2.2.cells) (n := i.2.2.2.2.slots) (by omega) hu2 ?_
  exact W.zret (v := Int32.ofInt x) C.1 C.2.1 (C.2.2.2.1.trans hret) (by rcases hx with rfl | rfl <;> rfl) (er_qc (v := some (.inl x)) C hz hu hW hS hq) hS.2.2 hd C.2.2.2.2.1
theorem er_vret {Q : er_Post} (hret : i.2.2.2.1 = none) (hu : uc = i.2.2.2.2.cells) (hu2 : us ≤ i.2.2.2.2.slots) (hd : decode i.2.1 pc = .ok (.return_, 1)) (hq : Q none sh m) : er_WP K i uc us sh m pc ls [] (er_Z K i Q) := by
  intro p e s mm args below meth c1 H locs la C hz hW hS hl
  refine W.widen (k := i.2.2.2.2.cells) (n := i.2.2.2.2.slots) (by omega) hu2 ?_
  exact W.vret C.1 C.2.1 (C.2.2.2.1.trans hret) (er_qc (v := none) C hz hu hW hS hq) hS.2.2 hd C.2.2.2.2.1
theorem er_aret {r : Nat} {Q : er_Post} {nm : String} (hret : i.2.2.2.1 = some (.object nm)) (hu : uc = i.2.2.2.2.cells) (hu2 : us ≤ i.2.2.2.2.slots) (hd : decode i.2.1 pc = .ok (.areturn, 1)) (hq : Q (some (.inr r)) sh m) : er_WP K i uc us sh m pc ls [.inr r] (er_Z K i Q) := by
  intro p e s mm args below meth c1 H locs la C hz hW hS hl
  refine W.widen (k := i.2.2.2.2.cells) (n := i.2.2.2.2.slots) (by omega) hu2 ?_
  exact W.aret (v := .ref (er_ad K r)) C.1 C.2.1 (C.2.2.2.1.trans hret) (Or.inl ⟨_, rfl⟩) (Or.inr ⟨_, rfl⟩) (er_qc (v := some (.inr r)) C hz hu hW hS hq) hS.2.2 hd C.2.2.2.2.1
theorem er_sl_len (as : List er_V) : (lg_sl (as.map (er_cv K))).length = as.length := by
  induction as with
  | nil => rfl
  | cons a t ih =>
    simp only [lg_sl, List.map_cons, List.flatMap_cons, er_cat] at ih ⊢
    simp [ih]
theorem er_args_mem {q : Nat × Value} : ∀ (as : List er_V) (n k : Nat), q ∈ er_lv K n (as.map some ++ List.replicate k none) → q ∈ lv_args n (as.map (er_cv K)) := by
  intro as
  induction as with
  | nil =>
    intro n k h
    exfalso
    obtain ⟨j, v, h1, -⟩ := er_lv_mem _ _ h
    rw [List.map_nil, List.nil_append, List.getElem?_replicate] at h1
    split at h1 <;> simp at h1
  | cons a t ih =>
    intro n k h
    rcases List.mem_cons.mp h with h | h
    · rw [h]
      exact List.mem_cons_self
    · have := ih (n + 1) k h
      simp only [List.map_cons, lv_args, er_cat]
      exact List.mem_cons_of_mem _ this
theorem er_start {as : List er_V} {Q : er_Post} (hpl : plainName i.1.cls = true) (hn : as.length ≤ i.2.2.1) (k : er_WP K i 0 0 sh m 0 (as.map some ++ List.replicate (i.2.2.1 - as.length) none) [] (er_Z K i Q)) : er_Spec K i as sh m Q := by
  refine Met.ofW (cc := i.2.1) (maxL := i.2.2.1) (ret := i.2.2.2.1) (ws' := er_tb) hpl rfl ?_
  intro p e s mm args below meth c s₁ B hml hv
  obtain ⟨rfl, hW, hX, hsz⟩ := hv
  have hts := atoms_spec (ws := er_wd i) B.pre
  have hl := lv_entry (as.map (er_cv K)) (n := i.2.2.1) (by rw [er_sl_len]; exact hn)
  rw [lg_entry_eq]
  refine k p e s mm _ below meth c s.heap [] _ ⟨B.exec, B.bytes, hml, B.returns, B.notSynchronized, (name_of_methodNamed B.named B.method).1, findClass_of_methodNamed B.named, fun w hw => hts w (List.mem_cons_of_mem _ hw), by omega, hX⟩ (by omega) hW va_S.rf ⟨hl.1, hl.2.1, fun q hq => hl.2.2 q (er_args_mem as 0 _ hq)⟩
theorem er_tabAt {dflt lo hi : Int} {offs : Array Int} {len tgt : Nat} {off x : Int} (n : Int) (hx : x = n) (hi2 : er_in n) (h1 : lo ≤ n) (h2 : n ≤ hi) (ho : offs[(n - lo).toNat]? = some off) (ht : (pc : Int) + off = (tgt : Int)) (hd : decode i.2.1 pc = .ok (.tableswitch dflt lo hi offs, len)) (k : er_WP K i uc us sh m tgt ls st Z) : er_WP K i uc us sh m pc ls (.inl x :: st) Z := by
  subst hx
  intro p e s mm args below meth c1 H locs la C hz hW hS hl
  exact lv_tableIn C.1 C.2.1 hd (by rw [er_toInt hi2]; omega) (by rw [er_toInt hi2]; omega) (by rw [er_toInt hi2]; exact ho) ht (k p e s mm args below meth c1 H locs la C hz hW hS hl)
theorem er_tabOut {dflt lo hi : Int} {offs : Array Int} {len tgt : Nat} {x : Int} (hi2 : er_in x) (h1 : x < lo ∨ hi < x) (ht : (pc : Int) + dflt = (tgt : Int)) (hd : decode i.2.1 pc = .ok (.tableswitch dflt lo hi offs, len)) (k : er_WP K i uc us sh m tgt ls st Z) : er_WP K i uc us sh m pc ls (.inl x :: st) Z := by
  intro p e s mm args below meth c1 H locs la C hz hW hS hl
  exact lv_tableOut C.1 C.2.1 hd (by rw [er_toInt hi2]; exact h1) ht (k p e s mm args below meth c1 H locs la C hz hW hS hl)
theorem er_look {dflt : Int} {ps : Array (Int × Int)} {len tgt : Nat} {off x : Int} (hi2 : er_in x) (hp : (ps.toList.zip (ps.toList.drop 1)).all (fun (a, next) => a.1 < next.1) = true) (ho : Op.lookupswitch.offset ps.toList dflt x = off) (ht : (pc : Int) + off = (tgt : Int)) (hd : decode i.2.1 pc = .ok (.lookupswitch dflt ps, len)) (k : er_WP K i uc us sh m tgt ls st Z) : er_WP K i uc us sh m pc ls (.inl x :: st) Z := by
  intro p e s mm args below meth c1 H locs la C hz hW hS hl
  exact lv_lookup C.1 C.2.1 hd hp (by rw [er_toInt hi2]; exact ho) ht (k p e s mm args below meth c1 H locs la C hz hW hS hl)
theorem er_min {idx : Nat} {x y : Int} (hM : Cond.methodLink i.1.cls idx Lib.Math.min.name ∈ er_tb ∧ Cond.static Lib.Math.min.name ∈ er_tb ∧ Cond.initialized "java/lang/Math" ∈ er_tb ∧ Cond.code Lib.Math.min.name Lib.Math.min.code 2 (some .int) ∈ er_tb) (hx : er_in x) (hy : er_in y) (h8 : st.length ≤ 8) (hR : 1 ≤ i.2.2.2.2.frames ∧ 21 ≤ i.2.2.2.2.locals) (hu : uc ≤ i.2.2.2.2.cells ∧ us ≤ i.2.2.2.2.slots) (hd : decode i.2.1 pc = .ok (.invokestatic idx, 3)) (kk : er_WP K i uc us sh m (pc + 3) ls (.inl (min x y) :: st) Z) : er_WP K i uc us sh m pc ls (.inl y :: .inl x :: st) Z := by
  intro p e s mm args below meth c1 H locs la C hz hW hS hl
  have hts := C.2.2.2.2.2.2.2.1
  have h := kk p e s mm args below meth c1 H locs la C hz hW hS hl
  refine va_mmin C.1 C.2.1 (C.2.2.1.trans hl.1.symm) C.2.2.2.2.2.2.1 (hts _ hM.1) (hts _ hM.2.1) (hts _ hM.2.2.1) (hts _ hM.2.2.2) hR.1 (by rw [er_catsum]; have := hR.2; omega) hu.1 hu.2 hd ?_
  have e1 : (if Int32.ofInt y < Int32.ofInt x then Int32.ofInt y else Int32.ofInt x) = Int32.ofInt (min x y) := by
    by_cases hc : y < x
    · rw [if_pos ((er_ofInt_lt hy hx).mpr hc)]
      congr 1
      omega
    · rw [if_neg (fun z => hc ((er_ofInt_lt hy hx).mp z))]
      congr 1
      omega
  rw [e1]
  exact h
theorem er_abs {idx : Nat} {x : Int} (hM : Cond.methodLink i.1.cls idx Lib.Math.abs.name ∈ er_tb ∧ Cond.static Lib.Math.abs.name ∈ er_tb ∧ Cond.initialized "java/lang/Math" ∈ er_tb ∧ Cond.code Lib.Math.abs.name Lib.Math.abs.code 1 (some .int) ∈ er_tb) (hx : er_in x) (h8 : st.length ≤ 8) (hR : 1 ≤ i.2.2.2.2.frames ∧ 21 ≤ i.2.2.2.2.locals) (hu : uc ≤ i.2.2.2.2.cells ∧ us ≤ i.2.2.2.2.slots) (hd : decode i.2.1 pc = .ok (.invokestatic idx, 3)) (kk : er_WP K i uc us sh m (pc + 3) ls (.inl (max x (-x)) :: st) Z) : er_WP K i uc us sh m pc ls (.inl x :: st) Z := by
  intro p e s mm args below meth c1 H locs la C hz hW hS hl
  have hts := C.2.2.2.2.2.2.2.1
  have h := kk p e s mm args below meth c1 H locs la C hz hW hS hl
  refine va_mabs C.1 C.2.1 (C.2.2.1.trans hl.1.symm) C.2.2.2.2.2.2.1 (hts _ hM.1) (hts _ hM.2.1) (hts _ hM.2.2.1) (hts _ hM.2.2.2) hR.1 (by rw [er_catsum]; have := hR.2; omega) hu.1 hu.2 hd ?_
  have e1 : (if 0 ≤ Int32.ofInt x then Int32.ofInt x else 0 - Int32.ofInt x) = Int32.ofInt (max x (-x)) := by
    by_cases hc : 0 ≤ x
    · rw [if_pos (by rw [← er_zero]; exact (er_ofInt_le ⟨by omega, by omega⟩ hx).mpr hc)]
      congr 1
      omega
    · rw [if_neg (fun z => hc (by rw [← er_zero] at z; exact (er_ofInt_le ⟨by omega, by omega⟩ hx).mp z)), ← er_zero, ← Int32.ofInt_sub]
      congr 1
      omega
  rw [e1]
  exact h
theorem er_copy {idx k na nb a b : Nat} {ra rb : List (Option Nat)} {n : Int} (hM : Cond.methodLink i.1.cls idx arraycopyName ∈ er_tb ∧ Cond.native arraycopyName ∈ er_tb ∧ Cond.static arraycopyName ∈ er_tb ∧ Cond.initialized "java/lang/System" ∈ er_tb) (hk : k < 2) (ha : er_at sh a = some (k, na, ra)) (hb : er_at sh b = some (k, nb, rb)) (h0 : 0 ≤ n) (h1 : n ≤ na) (h2 : n ≤ nb) (h3 : n < 2147483648) (hfit : k = 1 → ∀ j : Int, 0 ≤ j → j < n → m a j = 0 ∨ m a j = 1) (h8 : st.length ≤ 8) (hR : 1 ≤ i.2.2.2.2.frames ∧ 26 ≤ i.2.2.2.2.locals) (hd : decode i.2.1 pc = .ok (.invokestatic idx, 3)) (kk : er_WP K i uc us sh (er_cpy m a b n) (pc + 3) ls st Z) : er_WP K i uc us sh m pc ls (.inl n :: .inl 0 :: .inr b :: .inl 0 :: .inr a :: st) Z := by
  intro p e s mm args below meth c1 H locs la C hz hW hS hl
  have hts := C.2.2.2.2.2.2.2.1
  have e1 := er_ws_at (K := K) (m := m) ha
  rw [er_cell_n _ _ _ _ _ _ (by omega)] at e1
  have e2 := er_ws_at (K := K) (m := m) hb
  rw [er_cell_n _ _ _ _ _ _ (by omega)] at e2
  have hn : er_in n := ⟨by omega, h3⟩
  have g2 : (Int32.ofInt n).toNatClampNeg = n.toNat := by rw [← Int32.toNat_toInt, er_toInt hn]
  have g0 : (Int32.ofInt 0).toNatClampNeg = 0 := by decide
  show W _ _ _ _ _ _ _ _ _ _ _ _ _ _ _ (F0 mm pc la (.int (Int32.ofInt n) :: .int (Int32.ofInt 0) :: .ref (er_ad K b) :: .int (Int32.ofInt 0) :: .ref (er_ad K a) :: st.map (er_cv K)))
  rw [er_ad_at ha, er_ad_at hb]
  have hty : (er_tys K)[k]? = some (K.2.2.2.1 k, er_ty k) := by
    rcases (by omega : k = 0 ∨ k = 1) with rfl | rfl <;> rfl
  refine va_copyi (ty := er_ty k) C.1 C.2.1 (C.2.2.1.trans hl.1.symm) C.2.2.2.2.2.2.1 (hts _ hM.1) (hts _ hM.2.1) (hts _ hM.2.2.1) (hts _ hM.2.2.2) hW.2 hW.1 (er_ws_D K sh m) hS (a - 1) (b - 1) k k e1 e2 hty hty ?_ (by decide) (by decide) ?_ (by rw [g0, g2]; omega) (by rw [g0, g2]; omega) ?_ hR.1 ?_ hd (fun H1 locs1 hP1 _ hS1 => ?_)
  · rcases (by omega : k = 0 ∨ k = 1) with rfl | rfl <;> rfl
  · intro h
    rw [← er_zero, er_ofInt_lt hn ⟨by omega, by omega⟩] at h
    omega
  · intro q hq
    rw [g0, Nat.zero_add]
    rw [g2] at hq
    rcases (by omega : k = 0 ∨ k = 1) with rfl | rfl
    · rfl
    · rcases hfit rfl q (by omega) (by omega) with h | h <;> rw [h] <;> rfl
  · rw [er_catsum]
    have e5 : nativeFrameWords "java/lang/System" "arraycopy" 5 = 7 := by decide
    rw [e5]
    have := hR.2
    omega
  · rw [g0, g2] at hP1
    have e4 : va_cpy (fun j : Nat => Int32.ofInt (m a j)) (fun j : Nat => Int32.ofInt (m b j)) 0 0 n.toNat = fun j : Nat => Int32.ofInt (er_cpy m a b n b j) := by
      funext q
      unfold va_cpy er_cpy
      by_cases hq : q < n.toNat
      · rw [if_pos ⟨Nat.zero_le _, by omega⟩, if_pos ⟨rfl, by omega, by omega⟩]
        simp
      · rw [if_neg (by omega), if_neg (by omega)]
    rw [e4, er_ws_up (m' := er_cpy m a b n) hb (er_cell_n _ _ _ _ _ _ (by omega)).symm (fun c' hc' => by funext q; simp [er_cpy, hc'])] at hP1
    exact kk p e s mm args below meth c1 H1 locs1 la C hz ⟨hP1, hW.2⟩ hS1 hl
end ER3
end
section
/-! what constructors do: new cells, final fields; the law's script -/
theorem er_ws_push (K : er_K) (sh : er_Sh) (m : er_M) (e : er_E) : er_ws K (sh ++ [e]) (er_clr m (sh.length + 1)) = er_ws K sh m ++ [(K.2.1 + (sh.length + 1), er_cell K (er_clr m (sh.length + 1)) (sh.length + 1) e)] := by
  apply List.ext_getElem?
  intro j
  rcases Nat.lt_trichotomy j sh.length with hj | hj | hj
  · rw [List.getElem?_append_left (by rw [er_ws_len]; exact hj)]
    simp only [er_ws, List.getElem?_map, List.getElem?_range hj, List.getElem?_range (show j < (sh ++ [e]).length by simp; omega), Option.map_some]
    have h1 : (sh ++ [e]).getD j (99, 0, []) = sh.getD j (99, 0, []) := by
      rw [List.getD_eq_getElem?_getD, List.getD_eq_getElem?_getD, List.getElem?_append_left hj]
    rw [h1]
    have h2 : er_clr m (sh.length + 1) (j + 1) = m (j + 1) := by
      funext q
      unfold er_clr
      rw [if_neg (by omega)]
    have : er_cell K (er_clr m (sh.length + 1)) (j + 1) (sh.getD j (99, 0, [])) = er_cell K m (j + 1) (sh.getD j (99, 0, [])) := by
      unfold er_cell er_fs er_fv
      simp only [h2]
    rw [this]
  · subst hj
    rw [List.getElem?_append_right (by rw [er_ws_len]; exact Nat.le_refl _), er_ws_len, Nat.sub_self]
    simp only [er_ws, List.getElem?_map, List.getElem?_range (show sh.length < (sh ++ [e]).length by simp), Option.map_some]
    have h1 : (sh ++ [e]).getD sh.length (99, 0, []) = e := by
      rw [List.getD_eq_getElem?_getD, List.getElem?_append_right (Nat.le_refl _), Nat.sub_self]
      rfl
    rw [h1]
    rfl
  · rw [List.getElem?_eq_none (by rw [er_ws_len]; simp; omega), List.getElem?_eq_none (by simp [er_ws_len]; omega)]
theorem er_ws_sr {K : er_K} {sh : er_Sh} {m : er_M} {c ci n k r : Nat} {rs : List (Option Nat)} (hc : er_at sh c = some (ci + 5, n, rs)) (hkl : k < rs.length) (hr : r ≠ 0) : (er_ws K sh m).set (c - 1) (K.2.1 + c, .inr (ci, (er_fs K m c n rs).set k (.ref (er_ad K r)))) = er_ws K (er_sr sh c k r) m := by
  obtain ⟨q, rfl, h1, h2⟩ := er_at_ne hc
  have hd : sh.getD q (99, 0, []) = (ci + 5, n, rs) := by rw [List.getD_eq_getElem?_getD, h1]; rfl
  have hs : er_sr sh (q + 1) k r = sh.set q (ci + 5, n, rs.set k (some r)) := by
    unfold er_sr
    simp only [hd]
  have hlen : (er_sr sh (q + 1) k r).length = sh.length := by rw [hs]; simp
  rw [Nat.add_sub_cancel]
  apply List.ext_getElem?
  intro j
  by_cases hj : j = q
  · subst hj
    rw [List.getElem?_set_self (by rw [er_ws_len]; exact h2)]
    have h5 : er_at (er_sr sh (j + 1) k r) (j + 1) = some (ci + 5, n, rs.set k (some r)) := by
      rw [hs]
      show (sh.set j _)[j]? = _
      rw [List.getElem?_set_self h2]
    have h6 := er_ws_at (K := K) (m := m) h5
    rw [Nat.add_sub_cancel, er_cell_obj] at h6
    rw [h6]
    congr 4
    refine er_fs_set ?_ (fun x _ hx => ?_)
    · rw [List.getD_eq_getElem?_getD, List.getElem?_set_self hkl]
      exact (er_ro_rf hr).symm
    · rw [List.getD_eq_getElem?_getD, List.getD_eq_getElem?_getD, List.getElem?_set_ne (Ne.symm hx)]
  · rw [List.getElem?_set_ne (Ne.symm hj)]
    by_cases hl : j < sh.length
    · simp only [er_ws, List.getElem?_map, hlen, List.getElem?_range hl, Option.map_some]
      have : (er_sr sh (q + 1) k r).getD j (99, 0, []) = sh.getD j (99, 0, []) := by
        rw [hs, List.getD_eq_getElem?_getD, List.getD_eq_getElem?_getD, List.getElem?_set_ne (Ne.symm hj)]
      rw [this]
    · rw [List.getElem?_eq_none (by rw [er_ws_len]; omega), List.getElem?_eq_none (by rw [er_ws_len, hlen]; omega)]
theorem er_W_push {K : er_K} {sh : er_Sh} {m : er_M} {s : State} {H H1 : Heap} {e : er_E} (hW : er_W K sh m s H) (hk : ∀ q, q < H.size → H1[q]? = H[q]?) (hn : va_at K.2.2.1 er_cl (K.2.1 + (sh.length + 1), er_cell K (er_clr m (sh.length + 1)) (sh.length + 1) e) H1) : er_W K (sh ++ [e]) (er_clr m (sh.length + 1)) s H1 := by
  refine ⟨?_, hW.2⟩
  rw [er_ws_push]
  refine va_P.app (hW.1.kept (fun k x hx => hk x.1 ((hW.1 k x hx).lt))) (fun k x hx => ?_)
  have hz : k < 1 := (List.getElem?_eq_some_iff.mp hx).1
  rw [show k = 0 by omega] at hx
  cases hx
  exact hn
theorem er_S_push {K : er_K} {H0 H H1 : Heap} {locs : List Loc} (hS : va_S (er_A K) H0 H locs) (hk : ∀ q, q < H.size → H1[q]? = H[q]?) (hz : H.size ≤ H1.size) : va_S (er_A K) H0 H1 locs :=
  ⟨Nat.le_trans hS.1 hz, fun x h1 h2 => (hk x (Nat.lt_of_lt_of_le h1 hS.1)).trans (hS.2.1 x h1 h2), hS.2.2⟩
section ER4
variable {K : er_K} {i : er_I} {uc us : Nat} {sh : er_Sh} {m : er_M} {pc : Nat} {ls : List (Option er_V)} {st : List er_V} {Z : List Frame → Array Value → State → State → Prop}
theorem er_newa {k : Nat} {n : Int} {atype : ArrayType} (hk : k < 3) (hat : newarray.typeOf atype = er_ty k) (harr : Cond.arrayClass (er_ty k) ∈ er_tb) (h0 : 0 ≤ n) (hn : n ≤ 10000) (hu : uc + 1 ≤ i.2.2.2.2.cells ∧ us + n.toNat ≤ i.2.2.2.2.slots) (hd : decode i.2.1 pc = .ok (.newarray atype, 2)) (kk : er_WP K i (uc + 1) (us + n.toNat) (sh ++ [(k, n.toNat, [])]) (er_clr m (sh.length + 1)) (pc + 2) ls (.inr (sh.length + 1) :: st) Z) : er_WP K i uc us sh m pc ls (.inl n :: st) Z := by
  intro p e s mm args below meth c1 H locs la C hz hW hS hl T hT X
  have hsz := er_size C.2.2.2.2.2.2.2.2.1 hz hW hS hT X
  have hts := C.2.2.2.2.2.2.2.1
  have hin : er_in n := ⟨by omega, by omega⟩
  have g2 : (Int32.ofInt n).toNatClampNeg = n.toNat := by rw [← Int32.toNat_toInt, er_toInt hin]
  refine va_newaK (g := F0 mm pc la ((Sum.inl n :: st).map (er_cv K))) (n := Int32.ofInt n) (rest := st.map (er_cv K)) C.1 C.2.1 (atype := atype) (by rw [hat]; exact hts _ harr) rfl hd rfl (N := n.toNat) ?_ g2 ?_ hu.1 hu.2 hsz (fun H' cA e1 z1 o1 hAr hNm => ?_) T hT X
  · intro h
    rw [← er_zero, er_ofInt_lt hin ⟨by omega, by omega⟩] at h
    omega
  · rw [hat]
    have : componentBytes (er_ty k) ≤ 8 := by rcases (by omega : k = 0 ∨ k = 1 ∨ k = 2) with rfl | rfl | rfl <;> decide
    have h2 : n.toNat * componentBytes (er_ty k) ≤ 10000 * 8 := Nat.mul_le_mul (by omega) this
    omega
  · rw [hat] at e1 hNm
    have hcA : cA = K.2.2.2.1 k := by
      rcases (by omega : k = 0 ∨ k = 1 ∨ k = 2) with rfl | rfl | rfl
      · exact Option.some.inj (hNm.symm.trans (hW.2.2 0 (_, .int) rfl).2)
      · exact Option.some.inj (hNm.symm.trans (hW.2.2 1 (_, .boolean) rfl).2)
      · exact Option.some.inj (hNm.symm.trans (hW.2.2 2 (_, .byte) rfl).2)
    subst hcA
    have hd0 : defaultValue (er_ty k) = .int 0 := by rcases (by omega : k = 0 ∨ k = 1 ∨ k = 2) with rfl | rfl | rfl <;> rfl
    rw [hd0, show K.2.1 + 1 + sh.length = K.2.1 + (sh.length + 1) by omega] at e1
    have o2 : ∀ q, q < H.size → H'[q]? = H[q]? := fun q hq => o1 q (by omega)
    have hW1 : er_W K (sh ++ [(k, n.toNat, [])]) (er_clr m (sh.length + 1)) s H' := by
      refine er_W_push hW o2 ?_
      rw [er_cell_n _ _ _ _ _ _ hk]
      show H'[K.2.1 + (sh.length + 1)]? = some (vp_cell _ _)
      rw [vp_cell_i, e1]
      congr 2
      funext j
      unfold er_clr
      rw [if_pos rfl, er_zero]
    have := kk p e s mm args below meth c1 H' locs la C (by simp; omega) hW1 (er_S_push hS o2 (by omega)) hl
    rw [show K.2.1 + 1 + sh.length = er_ad K (sh.length + 1) by unfold er_ad; rw [if_neg (by omega)]; omega]
    exact this
theorem er_new {idx ci N : Nat} {C0 : String} {T0 : u_T} {t0 : Nat → FieldType} {rs0 : List (Option Nat)} (hcl : er_cl[ci]? = some (C0, T0, N)) (hin : ∀ w ∈ u_ws C0 T0 N, w ∈ er_tb) (hty : ∀ k, k < N → parseFieldDescriptor (T0 k).2.2.1 = some (t0 k)) (hM : Cond.classLink i.1.cls idx C0 ∈ er_tb ∧ Cond.instantiable C0 N ∈ er_tb ∧ Cond.initialized C0 ∈ er_tb) (hrs : ∀ j, j < N → (rs0.getD j none = none ∧ defaultValue (t0 j) = .int 0) ∨ (rs0.getD j none = some 0 ∧ defaultValue (t0 j) = .null)) (hu : uc + 1 ≤ i.2.2.2.2.cells ∧ us + N ≤ i.2.2.2.2.slots) (hd : decode i.2.1 pc = .ok (.new idx, 3)) (kk : er_WP K i (uc + 1) (us + N) (sh ++ [(ci + 5, N, rs0)]) (er_clr m (sh.length + 1)) (pc + 3) ls (.inr (sh.length + 1) :: st) Z) : er_WP K i uc us sh m pc ls st Z := by
  intro p e s mm args below meth c1 H locs la C hz hW hS hl T hT X
  have hsz := er_size C.2.2.2.2.2.2.2.2.1 hz hW hS hT X
  have hts := C.2.2.2.2.2.2.2.1
  have hKn := hW.2.1 ci _ hcl
  refine W.newcK (g := F0 mm pc la (st.map (er_cv K))) C.1 C.2.1 C.2.2.2.2.2.2.1 (hts _ hM.1) (hts _ hM.2.1) (hts _ hM.2.2) rfl hd hu.1 hu.2 hKn.2.1 hsz (fun H' kC hkC e1 z1 o1 => ?_) T hT X
  have o2 : ∀ q, q < H.size → H'[q]? = H[q]? := fun q hq => o1 q (by omega)
  rw [show K.2.1 + 1 + sh.length = K.2.1 + (sh.length + 1) by omega] at e1
  have hW1 : er_W K (sh ++ [(ci + 5, N, rs0)]) (er_clr m (sh.length + 1)) s H' := by
    refine er_W_push hW o2 ?_
    rw [er_cell_obj]
    refine ⟨_, hcl, (u_born t0 hts hin hKn hkC e1 hty).to (fun j hj => ?_)⟩
    show defaultValue (t0 j) = (er_fs K _ _ N rs0).getD j .null
    rw [List.getD_eq_getElem?_getD, er_fs_get hj]
    show _ = er_fv K _ _ j (rs0.getD j none)
    rcases hrs j hj with ⟨h1, h2⟩ | ⟨h1, h2⟩
    · rw [h1, h2]
      show Value.int 0 = Value.int (Int32.ofInt (er_clr m (sh.length + 1) (sh.length + 1) j))
      unfold er_clr
      rw [if_pos rfl, er_zero]
    · rw [h1, h2]
      rfl
  have := kk p e s mm args below meth c1 H' locs la C (by simp; omega) hW1 (er_S_push hS o2 (by omega)) hl
  rw [show K.2.1 + 1 + sh.length = er_ad K (sh.length + 1) by unfold er_ad; rw [if_neg (by omega)]; omega]
  exact this
theorem er_newq {idx k : Nat} {n : Int} {C0 : String} (hk : k = 3 ∧ C0 = "EscapeRouter$Board" ∨ k = 4 ∧ C0 = "EscapeRouter$Layering") (hM : Cond.classLink i.1.cls idx C0 ∈ er_tb) (h0 : 0 ≤ n) (hn : n ≤ 10000) (hu : uc + 1 ≤ i.2.2.2.2.cells ∧ us + n.toNat ≤ i.2.2.2.2.slots) (hd : decode i.2.1 pc = .ok (.anewarray idx, 3)) (kk : er_WP K i (uc + 1) (us + n.toNat) (sh ++ [(k, n.toNat, [])]) (er_clr m (sh.length + 1)) (pc + 3) ls (.inr (sh.length + 1) :: st) Z) : er_WP K i uc us sh m pc ls (.inl n :: st) Z := by
  intro p e s mm args below meth c1 H locs la C hz hW hS hl T hT X
  have hsz := er_size C.2.2.2.2.2.2.2.2.1 hz hW hS hT X
  have hts := C.2.2.2.2.2.2.2.1
  have hin : er_in n := ⟨by omega, by omega⟩
  have g2 : (Int32.ofInt n).toNatClampNeg = n.toNat := by rw [← Int32.toNat_toInt, er_toInt hin]
  have hover : va_AO C0 s := by
    rcases hk with ⟨-, rfl⟩ | ⟨-, rfl⟩
    · exact C.2.2.2.2.2.2.2.2.2.2.2.2.1
    · exact C.2.2.2.2.2.2.2.2.2.2.2.2.2
  refine W.anew (g := F0 mm pc la ((Sum.inl n :: st).map (er_cv K))) (n := Int32.ofInt n) (rest := st.map (er_cv K)) C.1 C.2.1 C.2.2.2.2.2.2.1 (hts _ hM) (va_AO.use hover) rfl hd rfl ?_ ?_ hu.1 (by rw [g2]; exact hu.2) (fun cA kA comp f1 f2 f3 f4 => ?_) T hT X
  · intro h
    rw [← er_zero, er_ofInt_lt hin ⟨by omega, by omega⟩] at h
    omega
  · rw [g2]
    omega
  · rw [g2]
    generalize hH1 : H.push ({ cls := cA, slots := Array.replicate n.toNat .null, vm := .none } : Cell) = H1
    have z1 : H1.size = H.size + 1 := by rw [← hH1, Array.size_push]
    have e1 : H1[H.size]? = some (arrV cA n.toNat (fun _ => .null)) := by rw [← hH1, Array.getElem?_push_size, ← arrV_new]
    have o2 : ∀ q : Nat, q < H.size → H1[q]? = H[q]? := fun q hq => by rw [← hH1, Array.getElem?_push, if_neg (Nat.ne_of_lt hq)]
    rw [hsz, show K.2.1 + 1 + sh.length = K.2.1 + (sh.length + 1) by omega] at e1
    have hcA : cA = K.2.2.2.1 k := by
      rcases hk with ⟨rfl, rfl⟩ | ⟨rfl, rfl⟩
      · obtain ⟨_, _, _, _, _, h4⟩ := (hW.2.2 3 (_, .object "EscapeRouter$Board") rfl).2
        exact Option.some.inj (f1.symm.trans h4)
      · obtain ⟨_, _, _, _, _, h4⟩ := (hW.2.2 4 (_, .object "EscapeRouter$Layering") rfl).2
        exact Option.some.inj (f1.symm.trans h4)
    subst hcA
    have hW1 : er_W K (sh ++ [(k, n.toNat, [])]) (er_clr m (sh.length + 1)) s H1 := by
      refine er_W_push hW o2 ?_
      rw [er_cell_q _ _ _ _ _ _ (by omega) (by omega)]
      show H1[K.2.1 + (sh.length + 1)]? = some (vp_cell _ _)
      rw [vp_cell_q, e1]
      congr 2
      funext j
      unfold er_clr
      rw [if_pos rfl]
      rfl
    have := kk p e s mm args below meth c1 H1 locs la C (by simp; omega) hW1 (er_S_push hS o2 (by omega)) hl
    rw [hsz, show K.2.1 + 1 + sh.length = er_ad K (sh.length + 1) by unfold er_ad; rw [if_neg (by omega)]; omega]
    exact this
theorem er_putFR {index ci k n c r : Nat} {rs : List (Option Nat)} {ty : FieldType} (hf : er_FL i.1.cls index ci k true ty) (hin : i.1.name = "<init>") (hown : (er_cl[ci]?).map (fun q => q.1) = some i.1.cls) (hc : er_at sh c = some (ci + 5, n, rs)) (hk : k < n) (hkl : k < rs.length) (hr0 : r ≠ 0) (hn : ∀ a, narrow ty (.ref a) = .ref a ∧ fits ty (.ref a) = true) (hd : decode i.2.1 pc = .ok (.putfield index, 3)) (kk : er_WP K i uc us (er_sr sh c k r) m (pc + 3) ls st Z) : er_WP K i uc us sh m pc ls (.inr r :: .inr c :: st) Z := by
  obtain ⟨C0, T, N, t0, h1, h2, h3, h4, h5, h6, h7, h8, h9⟩ := hf
  intro p e s mm args below meth c1 H locs la C hz hW hS hl
  have e1 := er_ws_at (K := K) (m := m) hc
  rw [er_cell_obj] at e1
  show W _ _ _ _ _ _ _ _ _ _ _ _ _ _ _ (F0 mm pc la (.ref (er_ad K r) :: .ref (er_ad K c) :: st.map (er_cv K)))
  rw [er_ad_at hc]
  have hdecl : (T k).1 = i.1.cls := by
    rw [h1] at hown
    rw [h9]
    exact Option.some.inj hown
  refine va_putF C.1 C.2.1 C.2.2.2.2.2.2.2.1 h3 t0 h5 h6 C.2.2.2.2.2.2.1 hW.2 hW.1 (er_ws_D K sh m) hS (c - 1) e1 h1 k h2 (C.2.2.2.2.2.2.2.1 _ h4) (fun _ h => h) h7 (C.2.2.2.2.2.1.trans hin) hdecl (ty := ty) (v := .ref (er_ad K r)) (by rw [h5 k h2, h8]) (hn _).1 (hn _).2 (by simp [er_fs]; exact hk) hd (fun H1 locs1 hP1 hD1 hS1 => ?_)
  rw [er_ws_sr hc hkl hr0] at hP1
  have hlen : (er_sr sh c k r).length = sh.length := by
    obtain ⟨q, rfl, -⟩ := er_at_ne hc
    unfold er_sr
    simp
  exact kk p e s mm args below meth c1 H1 locs1 la C (by rw [hlen]; exact hz) ⟨hP1, hW.2⟩ hS1 hl
theorem er_putFI {index ci k n c : Nat} {rs : List (Option Nat)} {x : Int} (hf : er_FL i.1.cls index ci k true .int) (hin : i.1.name = "<init>") (hown : (er_cl[ci]?).map (fun q => q.1) = some i.1.cls) (hc : er_at sh c = some (ci + 5, n, rs)) (hk : k < n) (hr : rs.getD k none = none) (hd : decode i.2.1 pc = .ok (.putfield index, 3)) (kk : er_WP K i uc us sh (er_st m c k x) (pc + 3) ls st Z) : er_WP K i uc us sh m pc ls (.inl x :: .inr c :: st) Z := by
  obtain ⟨C0, T, N, t0, h1, h2, h3, h4, h5, h6, h7, h8, h9⟩ := hf
  intro p e s mm args below meth c1 H locs la C hz hW hS hl
  have e1 := er_ws_at (K := K) (m := m) hc
  rw [er_cell_obj] at e1
  show W _ _ _ _ _ _ _ _ _ _ _ _ _ _ _ (F0 mm pc la (.int (Int32.ofInt x) :: .ref (er_ad K c) :: st.map (er_cv K)))
  rw [er_ad_at hc]
  have hdecl : (T k).1 = i.1.cls := by
    rw [h1] at hown
    rw [h9]
    exact Option.some.inj hown
  have eset : (er_ws K sh m).set (c - 1) (K.2.1 + c, .inr (ci, (er_fs K m c n rs).set k (.int (Int32.ofInt x)))) = er_ws K sh (er_st m c k x) := by
    refine er_ws_up hc ?_ (fun c' hc' => by funext j; simp [er_st, hc'])
    rw [er_cell_obj]
    congr 2
    refine er_fs_set (by rw [hr]; simp [er_fv, er_st]) (fun j _ hj => ?_)
    cases rs.getD j none with
    | some r => rfl
    | none =>
      show Value.int (Int32.ofInt (m c j)) = Value.int (Int32.ofInt (er_st m c k x c j))
      rw [show er_st m c k x c j = m c j from by unfold er_st; rw [if_neg (by omega)]]
  refine va_putF C.1 C.2.1 C.2.2.2.2.2.2.2.1 h3 t0 h5 h6 C.2.2.2.2.2.2.1 hW.2 hW.1 (er_ws_D K sh m) hS (c - 1) e1 h1 k h2 (C.2.2.2.2.2.2.2.1 _ h4) (fun _ h => h) h7 (C.2.2.2.2.2.1.trans hin) hdecl (ty := .int) (v := .int (Int32.ofInt x)) (by rw [h5 k h2, h8]) rfl rfl (by simp [er_fs]; exact hk) hd (fun H1 locs1 hP1 hD1 hS1 => ?_)
  rw [eset] at hP1
  exact kk p e s mm args below meth c1 H1 locs1 la C hz ⟨hP1, hW.2⟩ hS1 hl
theorem er_slen (hd : decode i.2.1 pc = .ok (.arraylength, 1)) (kk : er_WP K i uc us sh m (pc + 1) ls (.inl (K.2.2.2.2.2.1 : Nat) :: st) Z) : er_WP K i uc us sh m pc ls (.inr 0 :: st) Z := by
  intro p e s mm args below meth c1 H locs la C hz hW hS hl
  have hX := C.2.2.2.2.2.2.2.2.2
  have h := kk p e s mm args below meth c1 H locs la C hz hW hS hl
  have e1 : er_cv K (.inl ((K.2.2.2.2.2.1 : Nat) : Int)) = .int (Int32.ofNat K.2.2.2.2.2.1) := congrArg Value.int Int32.ofInt_eq_ofNat
  rw [List.map_cons, e1] at h
  exact va_slen C.1 C.2.1 hX.1 (Nat.lt_of_le_of_lt hX.2.1 C.2.2.2.2.2.2.2.2.1) (Nat.not_lt.mpr hX.2.1) hS hd h
theorem er_sld {j : Int} (h0 : 0 ≤ j) (h1 : j < (K.2.2.2.2.2.1 : Nat)) (hn : K.2.2.2.2.2.1 ≤ 2147483648) (hd : decode i.2.1 pc = .ok (.iaload, 1)) (kk : er_WP K i uc us sh m (pc + 1) ls (.inl (K.2.2.2.2.2.2 j.toNat).toInt :: st) Z) : er_WP K i uc us sh m pc ls (.inl j :: .inr 0 :: st) Z := by
  intro p e s mm args below meth c1 H locs la C hz hW hS hl
  have hX := C.2.2.2.2.2.2.2.2.2
  have h := kk p e s mm args below meth c1 H locs la C hz hW hS hl
  obtain ⟨g1, g2⟩ := er_ix h0 h1 hn
  have e1 : er_cv K (.inl (K.2.2.2.2.2.2 j.toNat).toInt) = .int (K.2.2.2.2.2.2 (Int32.ofInt j).toNatClampNeg) := by
    rw [g2]
    exact congrArg Value.int (Int32.ofInt_toInt _)
  rw [List.map_cons, e1] at h
  exact va_sld C.1 C.2.1 hX.1 (Nat.lt_of_le_of_lt hX.2.1 C.2.2.2.2.2.2.2.2.1) (Nat.not_lt.mpr hX.2.1) hS g1 hd h
end ER4
end
section
/-! links and code words, by their places: printed by wip/whole/gen07.py -/
theorem er_t {w : Cond} (k : Nat) (h : tables_1[k]? = some w) (g : goodWord w = true) : w ∈ er_tb := er_tb_of (List.mem_append_right _ (List.mem_of_getElem? h)) g
theorem er_p {q : MethodName × Nat} (k : Nat) (h : lw_privs[k]? = some q) : Cond.selects q.1.cls q.1 q.1 ∈ er_tb := er_tb_of (List.mem_append_left _ (List.mem_map.mpr ⟨q, List.mem_of_getElem? h, rfl⟩)) rfl
theorem fl_B_9 : er_FL "EscapeRouter$Board" 9 0 0 false .int := ⟨_, er_FB, 7, er_tB, rfl, by decide, er_iB, (er_t 27 (by decide +kernel) rfl), er_tB_ok, er_nB, rfl, rfl, rfl⟩
theorem fl_N_62 : er_FL "EscapeRouter$FlowNetwork" 62 0 0 false .int := ⟨_, er_FB, 7, er_tB, rfl, by decide, er_iB, (er_t 28 (by decide +kernel) rfl), er_tB_ok, er_nB, rfl, rfl, rfl⟩
theorem fl_Y_95 : er_FL "EscapeRouter$Layering" 95 0 0 false .int := ⟨_, er_FB, 7, er_tB, rfl, by decide, er_iB, (er_t 29 (by decide +kernel) rfl), er_tB_ok, er_nB, rfl, rfl, rfl⟩
theorem fl_R_109 : er_FL "EscapeRouter" 109 0 0 false .int := ⟨_, er_FB, 7, er_tB, rfl, by decide, er_iB, (er_t 30 (by decide +kernel) rfl), er_tB_ok, er_nB, rfl, rfl, rfl⟩
theorem fl_B_15 : er_FL "EscapeRouter$Board" 15 0 1 false .int := ⟨_, er_FB, 7, er_tB, rfl, by decide, er_iB, (er_t 31 (by decide +kernel) rfl), er_tB_ok, er_nB, rfl, rfl, rfl⟩
theorem fl_N_67 : er_FL "EscapeRouter$FlowNetwork" 67 0 1 false .int := ⟨_, er_FB, 7, er_tB, rfl, by decide, er_iB, (er_t 32 (by decide +kernel) rfl), er_tB_ok, er_nB, rfl, rfl, rfl⟩
theorem fl_Y_98 : er_FL "EscapeRouter$Layering" 98 0 1 false .int := ⟨_, er_FB, 7, er_tB, rfl, by decide, er_iB, (er_t 33 (by decide +kernel) rfl), er_tB_ok, er_nB, rfl, rfl, rfl⟩
theorem fl_R_112 : er_FL "EscapeRouter" 112 0 1 false .int := ⟨_, er_FB, 7, er_tB, rfl, by decide, er_iB, (er_t 34 (by decide +kernel) rfl), er_tB_ok, er_nB, rfl, rfl, rfl⟩
theorem fl_B_18 : er_FL "EscapeRouter$Board" 18 0 2 false .int := ⟨_, er_FB, 7, er_tB, rfl, by decide, er_iB, (er_t 35 (by decide +kernel) rfl), er_tB_ok, er_nB, rfl, rfl, rfl⟩
theorem fl_N_84 : er_FL "EscapeRouter$FlowNetwork" 84 0 2 false .int := ⟨_, er_FB, 7, er_tB, rfl, by decide, er_iB, (er_t 36 (by decide +kernel) rfl), er_tB_ok, er_nB, rfl, rfl, rfl⟩
theorem fl_R_103 : er_FL "EscapeRouter" 103 0 2 false .int := ⟨_, er_FB, 7, er_tB, rfl, by decide, er_iB, (er_t 37 (by decide +kernel) rfl), er_tB_ok, er_nB, rfl, rfl, rfl⟩
theorem fl_B_21 : er_FL "EscapeRouter$Board" 21 0 3 false .int := ⟨_, er_FB, 7, er_tB, rfl, by decide, er_iB, (er_t 38 (by decide +kernel) rfl), er_tB_ok, er_nB, rfl, rfl, rfl⟩
theorem fl_N_80 : er_FL "EscapeRouter$FlowNetwork" 80 0 3 false .int := ⟨_, er_FB, 7, er_tB, rfl, by decide, er_iB, (er_t 39 (by decide +kernel) rfl), er_tB_ok, er_nB, rfl, rfl, rfl⟩
theorem fl_R_106 : er_FL "EscapeRouter" 106 0 3 false .int := ⟨_, er_FB, 7, er_tB, rfl, by decide, er_iB, (er_t 40 (by decide +kernel) rfl), er_tB_ok, er_nB, rfl, rfl, rfl⟩
theorem fl_B_24 : er_FL "EscapeRouter$Board" 24 0 4 true (.array .int) := ⟨_, er_FB, 7, er_tB, rfl, by decide, er_iB, (er_t 41 (by decide +kernel) rfl), er_tB_ok, er_nB, rfl, rfl, rfl⟩
theorem fl_N_74 : er_FL "EscapeRouter$FlowNetwork" 74 0 4 true (.array .int) := ⟨_, er_FB, 7, er_tB, rfl, by decide, er_iB, (er_t 42 (by decide +kernel) rfl), er_tB_ok, er_nB, rfl, rfl, rfl⟩
theorem fl_Y_56 : er_FL "EscapeRouter$Layering" 56 0 4 true (.array .int) := ⟨_, er_FB, 7, er_tB, rfl, by decide, er_iB, (er_t 43 (by decide +kernel) rfl), er_tB_ok, er_nB, rfl, rfl, rfl⟩
theorem fl_R_93 : er_FL "EscapeRouter" 93 0 4 true (.array .int) := ⟨_, er_FB, 7, er_tB, rfl, by decide, er_iB, (er_t 44 (by decide +kernel) rfl), er_tB_ok, er_nB, rfl, rfl, rfl⟩
theorem fl_B_28 : er_FL "EscapeRouter$Board" 28 0 5 true (.array .int) := ⟨_, er_FB, 7, er_tB, rfl, by decide, er_iB, (er_t 45 (by decide +kernel) rfl), er_tB_ok, er_nB, rfl, rfl, rfl⟩
theorem fl_Y_65 : er_FL "EscapeRouter$Layering" 65 0 5 true (.array .int) := ⟨_, er_FB, 7, er_tB, rfl, by decide, er_iB, (er_t 46 (by decide +kernel) rfl), er_tB_ok, er_nB, rfl, rfl, rfl⟩
theorem fl_R_124 : er_FL "EscapeRouter" 124 0 5 true (.array .int) := ⟨_, er_FB, 7, er_tB, rfl, by decide, er_iB, (er_t 47 (by decide +kernel) rfl), er_tB_ok, er_nB, rfl, rfl, rfl⟩
theorem fl_B_31 : er_FL "EscapeRouter$Board" 31 0 6 true (.array .boolean) := ⟨_, er_FB, 7, er_tB, rfl, by decide, er_iB, (er_t 48 (by decide +kernel) rfl), er_tB_ok, er_nB, rfl, rfl, rfl⟩
theorem fl_R_100 : er_FL "EscapeRouter" 100 0 6 true (.array .boolean) := ⟨_, er_FB, 7, er_tB, rfl, by decide, er_iB, (er_t 49 (by decide +kernel) rfl), er_tB_ok, er_nB, rfl, rfl, rfl⟩
theorem fl_H_11 : er_FL "EscapeRouter$History" 11 3 0 true (.array (.object "EscapeRouter$Board")) := ⟨_, er_FH, 2, er_tH, rfl, by decide, er_iH, (er_t 76 (by decide +kernel) rfl), er_tH_ok, er_nH, rfl, rfl, rfl⟩
theorem fl_H_16 : er_FL "EscapeRouter$History" 16 3 1 false .int := ⟨_, er_FH, 2, er_tH, rfl, by decide, er_iH, (er_t 77 (by decide +kernel) rfl), er_tH_ok, er_nH, rfl, rfl, rfl⟩
theorem fl_R_179 : er_FL "EscapeRouter" 179 3 1 false .int := ⟨_, er_FH, 2, er_tH, rfl, by decide, er_iH, (er_t 78 (by decide +kernel) rfl), er_tH_ok, er_nH, rfl, rfl, rfl⟩
theorem fl_G_11 : er_FL "EscapeRouter$GridText" 11 2 0 true (.array .int) := ⟨_, er_FG, 5, er_tG, rfl, by decide, er_iG, (er_t 90 (by decide +kernel) rfl), er_tG_ok, er_nG, rfl, rfl, rfl⟩
theorem fl_G_15 : er_FL "EscapeRouter$GridText" 15 2 1 false .int := ⟨_, er_FG, 5, er_tG, rfl, by decide, er_iG, (er_t 91 (by decide +kernel) rfl), er_tG_ok, er_nG, rfl, rfl, rfl⟩
theorem fl_R_68 : er_FL "EscapeRouter" 68 2 1 false .int := ⟨_, er_FG, 5, er_tG, rfl, by decide, er_iG, (er_t 92 (by decide +kernel) rfl), er_tG_ok, er_nG, rfl, rfl, rfl⟩
theorem fl_G_19 : er_FL "EscapeRouter$GridText" 19 2 2 false .int := ⟨_, er_FG, 5, er_tG, rfl, by decide, er_iG, (er_t 93 (by decide +kernel) rfl), er_tG_ok, er_nG, rfl, rfl, rfl⟩
theorem fl_B_45 : er_FL "EscapeRouter$Board" 45 2 2 false .int := ⟨_, er_FG, 5, er_tG, rfl, by decide, er_iG, (er_t 94 (by decide +kernel) rfl), er_tG_ok, er_nG, rfl, rfl, rfl⟩
theorem fl_G_22 : er_FL "EscapeRouter$GridText" 22 2 3 false .int := ⟨_, er_FG, 5, er_tG, rfl, by decide, er_iG, (er_t 95 (by decide +kernel) rfl), er_tG_ok, er_nG, rfl, rfl, rfl⟩
theorem fl_B_48 : er_FL "EscapeRouter$Board" 48 2 3 false .int := ⟨_, er_FG, 5, er_tG, rfl, by decide, er_iG, (er_t 96 (by decide +kernel) rfl), er_tG_ok, er_nG, rfl, rfl, rfl⟩
theorem fl_G_25 : er_FL "EscapeRouter$GridText" 25 2 4 true (.array .int) := ⟨_, er_FG, 5, er_tG, rfl, by decide, er_iG, (er_t 97 (by decide +kernel) rfl), er_tG_ok, er_nG, rfl, rfl, rfl⟩
theorem fl_B_53 : er_FL "EscapeRouter$Board" 53 2 4 true (.array .int) := ⟨_, er_FG, 5, er_tG, rfl, by decide, er_iG, (er_t 98 (by decide +kernel) rfl), er_tG_ok, er_nG, rfl, rfl, rfl⟩
theorem fl_N_11 : er_FL "EscapeRouter$FlowNetwork" 11 1 0 true (.array .int) := ⟨_, er_FN, 11, er_tN, rfl, by decide, er_iN, (er_t 116 (by decide +kernel) rfl), er_tN_ok, er_nN, rfl, rfl, rfl⟩
theorem fl_N_15 : er_FL "EscapeRouter$FlowNetwork" 15 1 1 true (.array .int) := ⟨_, er_FN, 11, er_tN, rfl, by decide, er_iN, (er_t 117 (by decide +kernel) rfl), er_tN_ok, er_nN, rfl, rfl, rfl⟩
theorem fl_N_18 : er_FL "EscapeRouter$FlowNetwork" 18 1 2 true (.array .int) := ⟨_, er_FN, 11, er_tN, rfl, by decide, er_iN, (er_t 118 (by decide +kernel) rfl), er_tN_ok, er_nN, rfl, rfl, rfl⟩
theorem fl_N_21 : er_FL "EscapeRouter$FlowNetwork" 21 1 3 true (.array .int) := ⟨_, er_FN, 11, er_tN, rfl, by decide, er_iN, (er_t 119 (by decide +kernel) rfl), er_tN_ok, er_nN, rfl, rfl, rfl⟩
theorem fl_N_24 : er_FL "EscapeRouter$FlowNetwork" 24 1 4 true (.array .int) := ⟨_, er_FN, 11, er_tN, rfl, by decide, er_iN, (er_t 120 (by decide +kernel) rfl), er_tN_ok, er_nN, rfl, rfl, rfl⟩
theorem fl_N_27 : er_FL "EscapeRouter$FlowNetwork" 27 1 5 true (.array .int) := ⟨_, er_FN, 11, er_tN, rfl, by decide, er_iN, (er_t 121 (by decide +kernel) rfl), er_tN_ok, er_nN, rfl, rfl, rfl⟩
theorem fl_N_30 : er_FL "EscapeRouter$FlowNetwork" 30 1 6 true (.array .int) := ⟨_, er_FN, 11, er_tN, rfl, by decide, er_iN, (er_t 122 (by decide +kernel) rfl), er_tN_ok, er_nN, rfl, rfl, rfl⟩
theorem fl_N_33 : er_FL "EscapeRouter$FlowNetwork" 33 1 7 true (.array .int) := ⟨_, er_FN, 11, er_tN, rfl, by decide, er_iN, (er_t 123 (by decide +kernel) rfl), er_tN_ok, er_nN, rfl, rfl, rfl⟩
theorem fl_N_36 : er_FL "EscapeRouter$FlowNetwork" 36 1 8 false .int := ⟨_, er_FN, 11, er_tN, rfl, by decide, er_iN, (er_t 124 (by decide +kernel) rfl), er_tN_ok, er_nN, rfl, rfl, rfl⟩
theorem fl_N_40 : er_FL "EscapeRouter$FlowNetwork" 40 1 9 false .int := ⟨_, er_FN, 11, er_tN, rfl, by decide, er_iN, (er_t 125 (by decide +kernel) rfl), er_tN_ok, er_nN, rfl, rfl, rfl⟩
theorem fl_N_43 : er_FL "EscapeRouter$FlowNetwork" 43 1 10 false .int := ⟨_, er_FN, 11, er_tN, rfl, by decide, er_iN, (er_t 126 (by decide +kernel) rfl), er_tN_ok, er_nN, rfl, rfl, rfl⟩
theorem fl_Y_9 : er_FL "EscapeRouter$Layering" 9 4 0 true .int := ⟨_, er_FY, 9, er_tY, rfl, by decide, er_iY, (er_t 157 (by decide +kernel) rfl), er_tY_ok, er_nY, rfl, rfl, rfl⟩
theorem fl_Y_15 : er_FL "EscapeRouter$Layering" 15 4 1 true (.array .int) := ⟨_, er_FY, 9, er_tY, rfl, by decide, er_iY, (er_t 158 (by decide +kernel) rfl), er_tY_ok, er_nY, rfl, rfl, rfl⟩
theorem fl_Y_19 : er_FL "EscapeRouter$Layering" 19 4 2 false .int := ⟨_, er_FY, 9, er_tY, rfl, by decide, er_iY, (er_t 159 (by decide +kernel) rfl), er_tY_ok, er_nY, rfl, rfl, rfl⟩
theorem fl_Y_22 : er_FL "EscapeRouter$Layering" 22 4 3 true (.array .int) := ⟨_, er_FY, 9, er_tY, rfl, by decide, er_iY, (er_t 160 (by decide +kernel) rfl), er_tY_ok, er_nY, rfl, rfl, rfl⟩
theorem fl_Y_25 : er_FL "EscapeRouter$Layering" 25 4 4 true (.array .boolean) := ⟨_, er_FY, 9, er_tY, rfl, by decide, er_iY, (er_t 161 (by decide +kernel) rfl), er_tY_ok, er_nY, rfl, rfl, rfl⟩
theorem fl_Y_29 : er_FL "EscapeRouter$Layering" 29 4 5 true (.array .int) := ⟨_, er_FY, 9, er_tY, rfl, by decide, er_iY, (er_t 162 (by decide +kernel) rfl), er_tY_ok, er_nY, rfl, rfl, rfl⟩
theorem fl_R_158 : er_FL "EscapeRouter" 158 4 5 true (.array .int) := ⟨_, er_FY, 9, er_tY, rfl, by decide, er_iY, (er_t 163 (by decide +kernel) rfl), er_tY_ok, er_nY, rfl, rfl, rfl⟩
theorem fl_Y_32 : er_FL "EscapeRouter$Layering" 32 4 6 false .int := ⟨_, er_FY, 9, er_tY, rfl, by decide, er_iY, (er_t 164 (by decide +kernel) rfl), er_tY_ok, er_nY, rfl, rfl, rfl⟩
theorem fl_R_155 : er_FL "EscapeRouter" 155 4 6 false .int := ⟨_, er_FY, 9, er_tY, rfl, by decide, er_iY, (er_t 165 (by decide +kernel) rfl), er_tY_ok, er_nY, rfl, rfl, rfl⟩
theorem fl_Y_35 : er_FL "EscapeRouter$Layering" 35 4 7 false .boolean := ⟨_, er_FY, 9, er_tY, rfl, by decide, er_iY, (er_t 166 (by decide +kernel) rfl), er_tY_ok, er_nY, rfl, rfl, rfl⟩
theorem fl_R_152 : er_FL "EscapeRouter" 152 4 7 false .boolean := ⟨_, er_FY, 9, er_tY, rfl, by decide, er_iY, (er_t 167 (by decide +kernel) rfl), er_tY_ok, er_nY, rfl, rfl, rfl⟩
theorem fl_Y_39 : er_FL "EscapeRouter$Layering" 39 4 8 false .boolean := ⟨_, er_FY, 9, er_tY, rfl, by decide, er_iY, (er_t 168 (by decide +kernel) rfl), er_tY_ok, er_nY, rfl, rfl, rfl⟩
theorem fl_R_192 : er_FL "EscapeRouter" 192 4 8 false .boolean := ⟨_, er_FY, 9, er_tY, rfl, by decide, er_iY, (er_t 169 (by decide +kernel) rfl), er_tY_ok, er_nY, rfl, rfl, rfl⟩
theorem fl_R_12 : er_FL "EscapeRouter" 12 5 0 true (.object "EscapeRouter$Board") := ⟨_, er_FR, 10, er_tR, rfl, by decide, er_iR, (er_t 189 (by decide +kernel) rfl), er_tR_ok, er_nR, rfl, rfl, rfl⟩
theorem fl_R_19 : er_FL "EscapeRouter" 19 5 1 true (.object "EscapeRouter$History") := ⟨_, er_FR, 10, er_tR, rfl, by decide, er_iR, (er_t 190 (by decide +kernel) rfl), er_tR_ok, er_nR, rfl, rfl, rfl⟩
theorem fl_R_26 : er_FL "EscapeRouter" 26 5 2 true (.object "EscapeRouter$GridText") := ⟨_, er_FR, 10, er_tR, rfl, by decide, er_iR, (er_t 191 (by decide +kernel) rfl), er_tR_ok, er_nR, rfl, rfl, rfl⟩
theorem fl_R_33 : er_FL "EscapeRouter" 33 5 3 true (.object "EscapeRouter$FlowNetwork") := ⟨_, er_FR, 10, er_tR, rfl, by decide, er_iR, (er_t 192 (by decide +kernel) rfl), er_tR_ok, er_nR, rfl, rfl, rfl⟩
theorem fl_R_37 : er_FL "EscapeRouter" 37 5 4 true (.object "EscapeRouter$FlowNetwork") := ⟨_, er_FR, 10, er_tR, rfl, by decide, er_iR, (er_t 193 (by decide +kernel) rfl), er_tR_ok, er_nR, rfl, rfl, rfl⟩
theorem fl_R_42 : er_FL "EscapeRouter" 42 5 5 true (.array (.object "EscapeRouter$Layering")) := ⟨_, er_FR, 10, er_tR, rfl, by decide, er_iR, (er_t 194 (by decide +kernel) rfl), er_tR_ok, er_nR, rfl, rfl, rfl⟩
theorem fl_R_49 : er_FL "EscapeRouter" 49 5 6 true (.array .boolean) := ⟨_, er_FR, 10, er_tR, rfl, by decide, er_iR, (er_t 195 (by decide +kernel) rfl), er_tR_ok, er_nR, rfl, rfl, rfl⟩
theorem fl_R_53 : er_FL "EscapeRouter" 53 5 7 false .boolean := ⟨_, er_FR, 10, er_tR, rfl, by decide, er_iR, (er_t 196 (by decide +kernel) rfl), er_tR_ok, er_nR, rfl, rfl, rfl⟩
theorem fl_R_57 : er_FL "EscapeRouter" 57 5 8 false .int := ⟨_, er_FR, 10, er_tR, rfl, by decide, er_iR, (er_t 197 (by decide +kernel) rfl), er_tR_ok, er_nR, rfl, rfl, rfl⟩
theorem fl_R_61 : er_FL "EscapeRouter" 61 5 9 false .int := ⟨_, er_FR, 10, er_tR, rfl, by decide, er_iR, (er_t 198 (by decide +kernel) rfl), er_tR_ok, er_nR, rfl, rfl, rfl⟩
theorem fl_M_7 : er_FL "EscapeRouterModel" 7 6 0 true (.array .int) := ⟨_, er_FM, 22, er_tM, rfl, by decide, er_iM, (er_t 534 (by decide +kernel) rfl), er_tM_ok, er_nM, rfl, rfl, rfl⟩
theorem fl_M_13 : er_FL "EscapeRouterModel" 13 6 1 true (.array .int) := ⟨_, er_FM, 22, er_tM, rfl, by decide, er_iM, (er_t 535 (by decide +kernel) rfl), er_tM_ok, er_nM, rfl, rfl, rfl⟩
theorem fl_M_60 : er_FL "EscapeRouterModel" 60 6 2 false .int := ⟨_, er_FM, 22, er_tM, rfl, by decide, er_iM, (er_t 536 (by decide +kernel) rfl), er_tM_ok, er_nM, rfl, rfl, rfl⟩
theorem fl_M_16 : er_FL "EscapeRouterModel" 16 6 3 true (.array .byte) := ⟨_, er_FM, 22, er_tM, rfl, by decide, er_iM, (er_t 537 (by decide +kernel) rfl), er_tM_ok, er_nM, rfl, rfl, rfl⟩
theorem fl_M_68 : er_FL "EscapeRouterModel" 68 6 4 false .int := ⟨_, er_FM, 22, er_tM, rfl, by decide, er_iM, (er_t 538 (by decide +kernel) rfl), er_tM_ok, er_nM, rfl, rfl, rfl⟩
theorem fl_M_20 : er_FL "EscapeRouterModel" 20 6 5 true (.array .int) := ⟨_, er_FM, 22, er_tM, rfl, by decide, er_iM, (er_t 539 (by decide +kernel) rfl), er_tM_ok, er_nM, rfl, rfl, rfl⟩
theorem fl_M_71 : er_FL "EscapeRouterModel" 71 6 6 false .int := ⟨_, er_FM, 22, er_tM, rfl, by decide, er_iM, (er_t 540 (by decide +kernel) rfl), er_tM_ok, er_nM, rfl, rfl, rfl⟩
theorem fl_M_74 : er_FL "EscapeRouterModel" 74 6 7 false .int := ⟨_, er_FM, 22, er_tM, rfl, by decide, er_iM, (er_t 541 (by decide +kernel) rfl), er_tM_ok, er_nM, rfl, rfl, rfl⟩
theorem fl_M_23 : er_FL "EscapeRouterModel" 23 6 8 true (.array .int) := ⟨_, er_FM, 22, er_tM, rfl, by decide, er_iM, (er_t 542 (by decide +kernel) rfl), er_tM_ok, er_nM, rfl, rfl, rfl⟩
theorem fl_M_26 : er_FL "EscapeRouterModel" 26 6 9 true (.array .int) := ⟨_, er_FM, 22, er_tM, rfl, by decide, er_iM, (er_t 543 (by decide +kernel) rfl), er_tM_ok, er_nM, rfl, rfl, rfl⟩
theorem fl_M_29 : er_FL "EscapeRouterModel" 29 6 10 true (.array .int) := ⟨_, er_FM, 22, er_tM, rfl, by decide, er_iM, (er_t 544 (by decide +kernel) rfl), er_tM_ok, er_nM, rfl, rfl, rfl⟩
theorem fl_M_32 : er_FL "EscapeRouterModel" 32 6 11 true (.array .int) := ⟨_, er_FM, 22, er_tM, rfl, by decide, er_iM, (er_t 545 (by decide +kernel) rfl), er_tM_ok, er_nM, rfl, rfl, rfl⟩
theorem fl_M_35 : er_FL "EscapeRouterModel" 35 6 12 true (.array .int) := ⟨_, er_FM, 22, er_tM, rfl, by decide, er_iM, (er_t 546 (by decide +kernel) rfl), er_tM_ok, er_nM, rfl, rfl, rfl⟩
theorem fl_M_105 : er_FL "EscapeRouterModel" 105 6 13 false .int := ⟨_, er_FM, 22, er_tM, rfl, by decide, er_iM, (er_t 547 (by decide +kernel) rfl), er_tM_ok, er_nM, rfl, rfl, rfl⟩
theorem fl_M_38 : er_FL "EscapeRouterModel" 38 6 14 true (.array .boolean) := ⟨_, er_FM, 22, er_tM, rfl, by decide, er_iM, (er_t 548 (by decide +kernel) rfl), er_tM_ok, er_nM, rfl, rfl, rfl⟩
theorem fl_M_42 : er_FL "EscapeRouterModel" 42 6 15 true (.array .int) := ⟨_, er_FM, 22, er_tM, rfl, by decide, er_iM, (er_t 549 (by decide +kernel) rfl), er_tM_ok, er_nM, rfl, rfl, rfl⟩
theorem fl_M_45 : er_FL "EscapeRouterModel" 45 6 16 true (.array .int) := ⟨_, er_FM, 22, er_tM, rfl, by decide, er_iM, (er_t 550 (by decide +kernel) rfl), er_tM_ok, er_nM, rfl, rfl, rfl⟩
theorem fl_M_48 : er_FL "EscapeRouterModel" 48 6 17 true (.array .boolean) := ⟨_, er_FM, 22, er_tM, rfl, by decide, er_iM, (er_t 551 (by decide +kernel) rfl), er_tM_ok, er_nM, rfl, rfl, rfl⟩
theorem fl_M_51 : er_FL "EscapeRouterModel" 51 6 18 true (.array .int) := ⟨_, er_FM, 22, er_tM, rfl, by decide, er_iM, (er_t 552 (by decide +kernel) rfl), er_tM_ok, er_nM, rfl, rfl, rfl⟩
theorem fl_M_54 : er_FL "EscapeRouterModel" 54 6 19 true (.array .int) := ⟨_, er_FM, 22, er_tM, rfl, by decide, er_iM, (er_t 553 (by decide +kernel) rfl), er_tM_ok, er_nM, rfl, rfl, rfl⟩
theorem fl_M_156 : er_FL "EscapeRouterModel" 156 6 20 false .int := ⟨_, er_FM, 22, er_tM, rfl, by decide, er_iM, (er_t 554 (by decide +kernel) rfl), er_tM_ok, er_nM, rfl, rfl, rfl⟩
theorem fl_M_57 : er_FL "EscapeRouterModel" 57 6 21 true (.array .int) := ⟨_, er_FM, 22, er_tM, rfl, by decide, er_iM, (er_t 555 (by decide +kernel) rfl), er_tM_ok, er_nM, rfl, rfl, rfl⟩
theorem mw_R_init : er_MW mi_R_init := ⟨(er_t 14 (by decide +kernel) rfl), (er_t 1 (by decide +kernel) rfl)⟩
theorem md_R_init : er_MD mi_R_init 0 := by unfold er_MD; decide +kernel
theorem mw_R_appendCharacter : er_MW mi_R_appendCharacter := ⟨(er_t 223 (by decide +kernel) rfl), (er_t 1 (by decide +kernel) rfl)⟩
theorem md_R_appendCharacter : er_MD mi_R_appendCharacter 1 := by unfold er_MD; decide +kernel
theorem mw_R_clearText : er_MW mi_R_clearText := ⟨(er_t 231 (by decide +kernel) rfl), (er_t 1 (by decide +kernel) rfl)⟩
theorem md_R_clearText : er_MD mi_R_clearText 0 := by unfold er_MD; decide +kernel
theorem mw_R_loadGrid : er_MW mi_R_loadGrid := ⟨(er_t 235 (by decide +kernel) rfl), (er_t 1 (by decide +kernel) rfl)⟩
theorem md_R_loadGrid : er_MD mi_R_loadGrid 0 := by unfold er_MD; decide +kernel
theorem mw_R_setKind : er_MW mi_R_setKind := ⟨(er_t 286 (by decide +kernel) rfl), (er_t 1 (by decide +kernel) rfl)⟩
theorem md_R_setKind : er_MD mi_R_setKind 3 := by unfold er_MD; decide +kernel
theorem mw_R_setChannelCapacity : er_MW mi_R_setChannelCapacity := ⟨(er_t 296 (by decide +kernel) rfl), (er_t 1 (by decide +kernel) rfl)⟩
theorem md_R_setChannelCapacity : er_MD mi_R_setChannelCapacity 1 := by unfold er_MD; decide +kernel
theorem mw_R_setTileCapacity : er_MW mi_R_setTileCapacity := ⟨(er_t 300 (by decide +kernel) rfl), (er_t 1 (by decide +kernel) rfl)⟩
theorem md_R_setTileCapacity : er_MD mi_R_setTileCapacity 1 := by unfold er_MD; decide +kernel
theorem mw_R_rows : er_MW mi_R_rows := ⟨(er_t 304 (by decide +kernel) rfl), (er_t 1 (by decide +kernel) rfl)⟩
theorem md_R_rows : er_MD mi_R_rows 0 := by unfold er_MD; decide +kernel
theorem mw_R_columns : er_MW mi_R_columns := ⟨(er_t 308 (by decide +kernel) rfl), (er_t 1 (by decide +kernel) rfl)⟩
theorem md_R_columns : er_MD mi_R_columns 0 := by unfold er_MD; decide +kernel
theorem mw_R_kindAt : er_MW mi_R_kindAt := ⟨(er_t 312 (by decide +kernel) rfl), (er_t 1 (by decide +kernel) rfl)⟩
theorem md_R_kindAt : er_MD mi_R_kindAt 2 := by unfold er_MD; decide +kernel
theorem mw_R_signalCount : er_MW mi_R_signalCount := ⟨(er_t 316 (by decide +kernel) rfl), (er_t 1 (by decide +kernel) rfl)⟩
theorem md_R_signalCount : er_MD mi_R_signalCount 0 := by unfold er_MD; decide +kernel
theorem mw_R_makePair : er_MW mi_R_makePair := ⟨(er_t 320 (by decide +kernel) rfl), (er_t 1 (by decide +kernel) rfl)⟩
theorem md_R_makePair : er_MD mi_R_makePair 4 := by unfold er_MD; decide +kernel
theorem mw_R_breakPair : er_MW mi_R_breakPair := ⟨(er_t 335 (by decide +kernel) rfl), (er_t 1 (by decide +kernel) rfl)⟩
theorem md_R_breakPair : er_MD mi_R_breakPair 2 := by unfold er_MD; decide +kernel
theorem mw_R_partnerOf : er_MW mi_R_partnerOf := ⟨(er_t 339 (by decide +kernel) rfl), (er_t 1 (by decide +kernel) rfl)⟩
theorem md_R_partnerOf : er_MD mi_R_partnerOf 2 := by unfold er_MD; decide +kernel
theorem mw_R_select : er_MW mi_R_select := ⟨(er_t 343 (by decide +kernel) rfl), (er_t 1 (by decide +kernel) rfl)⟩
theorem md_R_select : er_MD mi_R_select 2 := by unfold er_MD; decide +kernel
theorem mw_R_deselect : er_MW mi_R_deselect := ⟨(er_t 351 (by decide +kernel) rfl), (er_t 1 (by decide +kernel) rfl)⟩
theorem md_R_deselect : er_MD mi_R_deselect 2 := by unfold er_MD; decide +kernel
theorem mw_R_clearSelection : er_MW mi_R_clearSelection := ⟨(er_t 355 (by decide +kernel) rfl), (er_t 1 (by decide +kernel) rfl)⟩
theorem md_R_clearSelection : er_MD mi_R_clearSelection 0 := by unfold er_MD; decide +kernel
theorem mw_R_escapeCount : er_MW mi_R_escapeCount := ⟨(er_t 359 (by decide +kernel) rfl), (er_t 1 (by decide +kernel) rfl)⟩
theorem md_R_escapeCount : er_MD mi_R_escapeCount 0 := by unfold er_MD; decide +kernel
theorem mw_R_tileSide : er_MW mi_R_tileSide := ⟨(er_t 415 (by decide +kernel) rfl), (er_t 1 (by decide +kernel) rfl)⟩
theorem md_R_tileSide : er_MD mi_R_tileSide 2 := by unfold er_MD; decide +kernel
theorem mw_R_cutChannels : er_MW mi_R_cutChannels := ⟨(er_t 428 (by decide +kernel) rfl), (er_t 1 (by decide +kernel) rfl)⟩
theorem md_R_cutChannels : er_MD mi_R_cutChannels 0 := by unfold er_MD; decide +kernel
theorem mw_R_layerCount : er_MW mi_R_layerCount := ⟨(er_t 440 (by decide +kernel) rfl), (er_t 1 (by decide +kernel) rfl)⟩
theorem md_R_layerCount : er_MD mi_R_layerCount 1 := by unfold er_MD; decide +kernel
theorem mw_R_layerOf : er_MW mi_R_layerOf := ⟨(er_t 497 (by decide +kernel) rfl), (er_t 1 (by decide +kernel) rfl)⟩
theorem md_R_layerOf : er_MD mi_R_layerOf 3 := by unfold er_MD; decide +kernel
theorem mw_R_layerLoad : er_MW mi_R_layerLoad := ⟨(er_t 501 (by decide +kernel) rfl), (er_t 1 (by decide +kernel) rfl)⟩
theorem md_R_layerLoad : er_MD mi_R_layerLoad 2 := by unfold er_MD; decide +kernel
theorem mw_R_bestStrategy : er_MW mi_R_bestStrategy := ⟨(er_t 509 (by decide +kernel) rfl), (er_t 1 (by decide +kernel) rfl)⟩
theorem md_R_bestStrategy : er_MD mi_R_bestStrategy 0 := by unfold er_MD; decide +kernel
theorem mw_R_throughput : er_MW mi_R_throughput := ⟨(er_t 513 (by decide +kernel) rfl), (er_t 1 (by decide +kernel) rfl)⟩
theorem md_R_throughput : er_MD mi_R_throughput 0 := by unfold er_MD; decide +kernel
theorem mw_R_lowerBound : er_MW mi_R_lowerBound := ⟨(er_t 518 (by decide +kernel) rfl), (er_t 1 (by decide +kernel) rfl)⟩
theorem md_R_lowerBound : er_MD mi_R_lowerBound 0 := by unfold er_MD; decide +kernel
theorem mw_R_undo : er_MW mi_R_undo := ⟨(er_t 523 (by decide +kernel) rfl), (er_t 1 (by decide +kernel) rfl)⟩
theorem md_R_undo : er_MD mi_R_undo 0 := by unfold er_MD; decide +kernel
theorem mw_R_placeOf : er_MW mi_R_placeOf := ⟨(er_t 26 (by decide +kernel) rfl), (er_t 1 (by decide +kernel) rfl)⟩
theorem md_R_placeOf : er_MD mi_R_placeOf 2 := by unfold er_MD; decide +kernel
theorem mw_R_tileAt : er_MW mi_R_tileAt := ⟨(er_t 379 (by decide +kernel) rfl), (er_t 1 (by decide +kernel) rfl)⟩
theorem md_R_tileAt : er_MD mi_R_tileAt 2 := by unfold er_MD; decide +kernel
theorem mw_R_isStrategy : er_MW mi_R_isStrategy := ⟨(er_t 443 (by decide +kernel) rfl), (er_t 1 (by decide +kernel) rfl)⟩
theorem md_R_isStrategy : er_MD mi_R_isStrategy 1 := by unfold er_MD; decide +kernel
theorem mw_R_beginEdit : er_MW mi_R_beginEdit := ⟨(er_t 251 (by decide +kernel) rfl), (er_t 1 (by decide +kernel) rfl)⟩
theorem md_R_beginEdit : er_MD mi_R_beginEdit 0 := by unfold er_MD; decide +kernel
theorem mw_R_forgetResults : er_MW mi_R_forgetResults := ⟨(er_t 270 (by decide +kernel) rfl), (er_t 1 (by decide +kernel) rfl)⟩
theorem md_R_forgetResults : er_MD mi_R_forgetResults 0 := by unfold er_MD; decide +kernel
theorem mw_R_solveSelection : er_MW mi_R_solveSelection := ⟨(er_t 363 (by decide +kernel) rfl), (er_t 1 (by decide +kernel) rfl)⟩
theorem md_R_solveSelection : er_MD mi_R_solveSelection 0 := by unfold er_MD; decide +kernel
theorem mw_M_init : er_MW mi_M_init := ⟨(er_t 532 (by decide +kernel) rfl), (er_t 7 (by decide +kernel) rfl)⟩
theorem md_M_init : er_MD mi_M_init 0 := by unfold er_MD; decide +kernel
theorem mw_M_in : er_MW mi_M_in := ⟨(er_t 612 (by decide +kernel) rfl), (er_t 7 (by decide +kernel) rfl)⟩
theorem md_M_in : er_MD mi_M_in 3 := by unfold er_MD; decide +kernel
theorem mw_M_edit : er_MW mi_M_edit := ⟨(er_t 628 (by decide +kernel) rfl), (er_t 7 (by decide +kernel) rfl)⟩
theorem md_M_edit : er_MD mi_M_edit 0 := by unfold er_MD; decide +kernel
theorem mw_M_undo : er_MW mi_M_undo := ⟨(er_t 605 (by decide +kernel) rfl), (er_t 7 (by decide +kernel) rfl)⟩
theorem md_M_undo : er_MD mi_M_undo 0 := by unfold er_MD; decide +kernel
theorem mw_M_appendCharacter : er_MW mi_M_appendCharacter := ⟨(er_t 609 (by decide +kernel) rfl), (er_t 7 (by decide +kernel) rfl)⟩
theorem md_M_appendCharacter : er_MD mi_M_appendCharacter 1 := by unfold er_MD; decide +kernel
theorem mw_M_clearText : er_MW mi_M_clearText := ⟨(er_t 616 (by decide +kernel) rfl), (er_t 7 (by decide +kernel) rfl)⟩
theorem md_M_clearText : er_MD mi_M_clearText 0 := by unfold er_MD; decide +kernel
theorem mw_M_readGrid : er_MW mi_M_readGrid := ⟨(er_t 624 (by decide +kernel) rfl), (er_t 7 (by decide +kernel) rfl)⟩
theorem md_M_readGrid : er_MD mi_M_readGrid 0 := by unfold er_MD; decide +kernel
theorem mw_M_loadGrid : er_MW mi_M_loadGrid := ⟨(er_t 620 (by decide +kernel) rfl), (er_t 7 (by decide +kernel) rfl)⟩
theorem md_M_loadGrid : er_MD mi_M_loadGrid 0 := by unfold er_MD; decide +kernel
theorem mw_M_isPosition : er_MW mi_M_isPosition := ⟨(er_t 640 (by decide +kernel) rfl), (er_t 7 (by decide +kernel) rfl)⟩
theorem md_M_isPosition : er_MD mi_M_isPosition 2 := by unfold er_MD; decide +kernel
theorem mw_M_signals : er_MW mi_M_signals := ⟨(er_t 632 (by decide +kernel) rfl), (er_t 7 (by decide +kernel) rfl)⟩
theorem md_M_signals : er_MD mi_M_signals 0 := by unfold er_MD; decide +kernel
theorem mw_M_unpair : er_MW mi_M_unpair := ⟨(er_t 644 (by decide +kernel) rfl), (er_t 7 (by decide +kernel) rfl)⟩
theorem md_M_unpair : er_MD mi_M_unpair 1 := by unfold er_MD; decide +kernel
theorem mw_M_setKind : er_MW mi_M_setKind := ⟨(er_t 636 (by decide +kernel) rfl), (er_t 7 (by decide +kernel) rfl)⟩
theorem md_M_setKind : er_MD mi_M_setKind 3 := by unfold er_MD; decide +kernel
theorem mw_M_setChannelCapacity : er_MW mi_M_setChannelCapacity := ⟨(er_t 648 (by decide +kernel) rfl), (er_t 7 (by decide +kernel) rfl)⟩
theorem md_M_setChannelCapacity : er_MD mi_M_setChannelCapacity 1 := by unfold er_MD; decide +kernel
theorem mw_M_setTileCapacity : er_MW mi_M_setTileCapacity := ⟨(er_t 652 (by decide +kernel) rfl), (er_t 7 (by decide +kernel) rfl)⟩
theorem md_M_setTileCapacity : er_MD mi_M_setTileCapacity 1 := by unfold er_MD; decide +kernel
theorem mw_M_rows : er_MW mi_M_rows := ⟨(er_t 656 (by decide +kernel) rfl), (er_t 7 (by decide +kernel) rfl)⟩
theorem md_M_rows : er_MD mi_M_rows 0 := by unfold er_MD; decide +kernel
theorem mw_M_columns : er_MW mi_M_columns := ⟨(er_t 660 (by decide +kernel) rfl), (er_t 7 (by decide +kernel) rfl)⟩
theorem md_M_columns : er_MD mi_M_columns 0 := by unfold er_MD; decide +kernel
theorem mw_M_kindAt : er_MW mi_M_kindAt := ⟨(er_t 664 (by decide +kernel) rfl), (er_t 7 (by decide +kernel) rfl)⟩
theorem md_M_kindAt : er_MD mi_M_kindAt 2 := by unfold er_MD; decide +kernel
theorem mw_M_signalCount : er_MW mi_M_signalCount := ⟨(er_t 668 (by decide +kernel) rfl), (er_t 7 (by decide +kernel) rfl)⟩
theorem md_M_signalCount : er_MD mi_M_signalCount 0 := by unfold er_MD; decide +kernel
theorem mw_M_pairs : er_MW mi_M_pairs := ⟨(er_t 680 (by decide +kernel) rfl), (er_t 7 (by decide +kernel) rfl)⟩
theorem md_M_pairs : er_MD mi_M_pairs 0 := by unfold er_MD; decide +kernel
theorem mw_M_isFree : er_MW mi_M_isFree := ⟨(er_t 676 (by decide +kernel) rfl), (er_t 7 (by decide +kernel) rfl)⟩
theorem md_M_isFree : er_MD mi_M_isFree 1 := by unfold er_MD; decide +kernel
theorem mw_M_makePair : er_MW mi_M_makePair := ⟨(er_t 672 (by decide +kernel) rfl), (er_t 7 (by decide +kernel) rfl)⟩
theorem md_M_makePair : er_MD mi_M_makePair 4 := by unfold er_MD; decide +kernel
theorem mw_M_breakPair : er_MW mi_M_breakPair := ⟨(er_t 684 (by decide +kernel) rfl), (er_t 7 (by decide +kernel) rfl)⟩
theorem md_M_breakPair : er_MD mi_M_breakPair 2 := by unfold er_MD; decide +kernel
theorem mw_M_partnerOf : er_MW mi_M_partnerOf := ⟨(er_t 688 (by decide +kernel) rfl), (er_t 7 (by decide +kernel) rfl)⟩
theorem md_M_partnerOf : er_MD mi_M_partnerOf 2 := by unfold er_MD; decide +kernel
theorem mw_M_selected : er_MW mi_M_selected := ⟨(er_t 696 (by decide +kernel) rfl), (er_t 7 (by decide +kernel) rfl)⟩
theorem md_M_selected : er_MD mi_M_selected 0 := by unfold er_MD; decide +kernel
theorem mw_M_select : er_MW mi_M_select := ⟨(er_t 692 (by decide +kernel) rfl), (er_t 7 (by decide +kernel) rfl)⟩
theorem md_M_select : er_MD mi_M_select 2 := by unfold er_MD; decide +kernel
theorem mw_M_deselect : er_MW mi_M_deselect := ⟨(er_t 700 (by decide +kernel) rfl), (er_t 7 (by decide +kernel) rfl)⟩
theorem md_M_deselect : er_MD mi_M_deselect 2 := by unfold er_MD; decide +kernel
theorem mw_M_clearSelection : er_MW mi_M_clearSelection := ⟨(er_t 704 (by decide +kernel) rfl), (er_t 7 (by decide +kernel) rfl)⟩
theorem md_M_clearSelection : er_MD mi_M_clearSelection 0 := by unfold er_MD; decide +kernel
theorem mw_M_lead : er_MW mi_M_lead := ⟨(er_t 731 (by decide +kernel) rfl), (er_t 7 (by decide +kernel) rfl)⟩
theorem md_M_lead : er_MD mi_M_lead 3 := by unfold er_MD; decide +kernel
theorem mw_M_join : er_MW mi_M_join := ⟨(er_t 727 (by decide +kernel) rfl), (er_t 7 (by decide +kernel) rfl)⟩
theorem md_M_join : er_MD mi_M_join 3 := by unfold er_MD; decide +kernel
theorem mw_M_cutBack : er_MW mi_M_cutBack := ⟨(er_t 803 (by decide +kernel) rfl), (er_t 7 (by decide +kernel) rfl)⟩
theorem md_M_cutBack : er_MD mi_M_cutBack 1 := by unfold er_MD; decide +kernel
theorem mw_M_tile : er_MW mi_M_tile := ⟨(er_t 723 (by decide +kernel) rfl), (er_t 7 (by decide +kernel) rfl)⟩
theorem md_M_tile : er_MD mi_M_tile 2 := by unfold er_MD; decide +kernel
theorem mw_M_joinTiles : er_MW mi_M_joinTiles := ⟨(er_t 740 (by decide +kernel) rfl), (er_t 7 (by decide +kernel) rfl)⟩
theorem md_M_joinTiles : er_MD mi_M_joinTiles 4 := by unfold er_MD; decide +kernel
theorem mw_M_isRim : er_MW mi_M_isRim := ⟨(er_t 735 (by decide +kernel) rfl), (er_t 7 (by decide +kernel) rfl)⟩
theorem md_M_isRim : er_MD mi_M_isRim 2 := by unfold er_MD; decide +kernel
theorem mw_M_lay : er_MW mi_M_lay := ⟨(er_t 720 (by decide +kernel) rfl), (er_t 7 (by decide +kernel) rfl)⟩
theorem md_M_lay : er_MD mi_M_lay 0 := by unfold er_MD; decide +kernel
theorem mw_M_layPin : er_MW mi_M_layPin := ⟨(er_t 744 (by decide +kernel) rfl), (er_t 7 (by decide +kernel) rfl)⟩
theorem md_M_layPin : er_MD mi_M_layPin 2 := by unfold er_MD; decide +kernel
theorem mw_M_reach : er_MW mi_M_reach := ⟨(er_t 756 (by decide +kernel) rfl), (er_t 7 (by decide +kernel) rfl)⟩
theorem md_M_reach : er_MD mi_M_reach 0 := by unfold er_MD; decide +kernel
theorem mw_M_augment : er_MW mi_M_augment := ⟨(er_t 752 (by decide +kernel) rfl), (er_t 7 (by decide +kernel) rfl)⟩
theorem md_M_augment : er_MD mi_M_augment 0 := by unfold er_MD; decide +kernel
theorem mw_M_augmentAll : er_MW mi_M_augmentAll := ⟨(er_t 748 (by decide +kernel) rfl), (er_t 7 (by decide +kernel) rfl)⟩
theorem md_M_augmentAll : er_MD mi_M_augmentAll 0 := by unfold er_MD; decide +kernel
theorem mw_M_openNone : er_MW mi_M_openNone := ⟨(er_t 716 (by decide +kernel) rfl), (er_t 7 (by decide +kernel) rfl)⟩
theorem md_M_openNone : er_MD mi_M_openNone 0 := by unfold er_MD; decide +kernel
theorem mw_M_escape : er_MW mi_M_escape := ⟨(er_t 712 (by decide +kernel) rfl), (er_t 7 (by decide +kernel) rfl)⟩
theorem md_M_escape : er_MD mi_M_escape 0 := by unfold er_MD; decide +kernel
theorem mw_M_escapeCount : er_MW mi_M_escapeCount := ⟨(er_t 708 (by decide +kernel) rfl), (er_t 7 (by decide +kernel) rfl)⟩
theorem md_M_escapeCount : er_MD mi_M_escapeCount 0 := by unfold er_MD; decide +kernel
theorem mw_M_tileSide : er_MW mi_M_tileSide := ⟨(er_t 760 (by decide +kernel) rfl), (er_t 7 (by decide +kernel) rfl)⟩
theorem md_M_tileSide : er_MD mi_M_tileSide 2 := by unfold er_MD; decide +kernel
theorem mw_M_isCut : er_MW mi_M_isCut := ⟨(er_t 768 (by decide +kernel) rfl), (er_t 7 (by decide +kernel) rfl)⟩
theorem md_M_isCut : er_MD mi_M_isCut 2 := by unfold er_MD; decide +kernel
theorem mw_M_cutChannels : er_MW mi_M_cutChannels := ⟨(er_t 764 (by decide +kernel) rfl), (er_t 7 (by decide +kernel) rfl)⟩
theorem md_M_cutChannels : er_MD mi_M_cutChannels 0 := by unfold er_MD; decide +kernel
theorem mw_M_ring : er_MW mi_M_ring := ⟨(er_t 791 (by decide +kernel) rfl), (er_t 7 (by decide +kernel) rfl)⟩
theorem md_M_ring : er_MD mi_M_ring 1 := by unfold er_MD; decide +kernel
theorem mw_M_rank : er_MW mi_M_rank := ⟨(er_t 787 (by decide +kernel) rfl), (er_t 7 (by decide +kernel) rfl)⟩
theorem md_M_rank : er_MD mi_M_rank 2 := by unfold er_MD; decide +kernel
theorem mw_M_sort : er_MW mi_M_sort := ⟨(er_t 783 (by decide +kernel) rfl), (er_t 7 (by decide +kernel) rfl)⟩
theorem md_M_sort : er_MD mi_M_sort 1 := by unfold er_MD; decide +kernel
theorem mw_M_puts : er_MW mi_M_puts := ⟨(er_t 799 (by decide +kernel) rfl), (er_t 7 (by decide +kernel) rfl)⟩
theorem md_M_puts : er_MD mi_M_puts 2 := by unfold er_MD; decide +kernel
theorem mw_M_layering : er_MW mi_M_layering := ⟨(er_t 779 (by decide +kernel) rfl), (er_t 7 (by decide +kernel) rfl)⟩
theorem md_M_layering : er_MD mi_M_layering 1 := by unfold er_MD; decide +kernel
theorem mw_M_isFirst : er_MW mi_M_isFirst := ⟨(er_t 795 (by decide +kernel) rfl), (er_t 7 (by decide +kernel) rfl)⟩
theorem md_M_isFirst : er_MD mi_M_isFirst 2 := by unfold er_MD; decide +kernel
theorem mw_M_isStrategy : er_MW mi_M_isStrategy := ⟨(er_t 775 (by decide +kernel) rfl), (er_t 7 (by decide +kernel) rfl)⟩
theorem md_M_isStrategy : er_MD mi_M_isStrategy 1 := by unfold er_MD; decide +kernel
theorem mw_M_layerCount : er_MW mi_M_layerCount := ⟨(er_t 772 (by decide +kernel) rfl), (er_t 7 (by decide +kernel) rfl)⟩
theorem md_M_layerCount : er_MD mi_M_layerCount 1 := by unfold er_MD; decide +kernel
theorem mw_M_layerOf : er_MW mi_M_layerOf := ⟨(er_t 807 (by decide +kernel) rfl), (er_t 7 (by decide +kernel) rfl)⟩
theorem md_M_layerOf : er_MD mi_M_layerOf 3 := by unfold er_MD; decide +kernel
theorem mw_M_layerLoad : er_MW mi_M_layerLoad := ⟨(er_t 811 (by decide +kernel) rfl), (er_t 7 (by decide +kernel) rfl)⟩
theorem md_M_layerLoad : er_MD mi_M_layerLoad 2 := by unfold er_MD; decide +kernel
theorem mw_M_bestStrategy : er_MW mi_M_bestStrategy := ⟨(er_t 815 (by decide +kernel) rfl), (er_t 7 (by decide +kernel) rfl)⟩
theorem md_M_bestStrategy : er_MD mi_M_bestStrategy 0 := by unfold er_MD; decide +kernel
theorem mw_M_most : er_MW mi_M_most := ⟨(er_t 823 (by decide +kernel) rfl), (er_t 7 (by decide +kernel) rfl)⟩
theorem md_M_most : er_MD mi_M_most 0 := by unfold er_MD; decide +kernel
theorem mw_M_throughput : er_MW mi_M_throughput := ⟨(er_t 819 (by decide +kernel) rfl), (er_t 7 (by decide +kernel) rfl)⟩
theorem md_M_throughput : er_MD mi_M_throughput 0 := by unfold er_MD; decide +kernel
theorem mw_M_lowerBound : er_MW mi_M_lowerBound := ⟨(er_t 827 (by decide +kernel) rfl), (er_t 7 (by decide +kernel) rfl)⟩
theorem md_M_lowerBound : er_MD mi_M_lowerBound 0 := by unfold er_MD; decide +kernel
theorem mw_B_init : er_MW mi_B_init := ⟨(er_t 22 (by decide +kernel) rfl), (er_t 2 (by decide +kernel) rfl)⟩
theorem md_B_init : er_MD mi_B_init 0 := by unfold er_MD; decide +kernel
theorem mw_B_copyFrom : er_MW mi_B_copyFrom := ⟨(er_t 263 (by decide +kernel) rfl), (er_t 2 (by decide +kernel) rfl)⟩
theorem md_B_copyFrom : er_MD mi_B_copyFrom 1 := by unfold er_MD; decide +kernel
theorem mw_B_replaceGrid : er_MW mi_B_replaceGrid := ⟨(er_t 274 (by decide +kernel) rfl), (er_t 2 (by decide +kernel) rfl)⟩
theorem md_B_replaceGrid : er_MD mi_B_replaceGrid 1 := by unfold er_MD; decide +kernel
theorem mw_B_has : er_MW mi_B_has := ⟨(er_t 278 (by decide +kernel) rfl), (er_t 2 (by decide +kernel) rfl)⟩
theorem md_B_has : er_MD mi_B_has 2 := by unfold er_MD; decide +kernel
theorem mw_B_isFreeForPair : er_MW mi_B_isFreeForPair := ⟨(er_t 327 (by decide +kernel) rfl), (er_t 2 (by decide +kernel) rfl)⟩
theorem md_B_isFreeForPair : er_MD mi_B_isFreeForPair 1 := by unfold er_MD; decide +kernel
theorem mw_B_separate : er_MW mi_B_separate := ⟨(er_t 292 (by decide +kernel) rfl), (er_t 2 (by decide +kernel) rfl)⟩
theorem md_B_separate : er_MD mi_B_separate 1 := by unfold er_MD; decide +kernel
theorem mw_B_countSignals : er_MW mi_B_countSignals := ⟨(er_t 282 (by decide +kernel) rfl), (er_t 2 (by decide +kernel) rfl)⟩
theorem md_B_countSignals : er_MD mi_B_countSignals 0 := by unfold er_MD; decide +kernel
theorem mw_B_countPairs : er_MW mi_B_countPairs := ⟨(er_t 331 (by decide +kernel) rfl), (er_t 2 (by decide +kernel) rfl)⟩
theorem md_B_countPairs : er_MD mi_B_countPairs 0 := by unfold er_MD; decide +kernel
theorem mw_B_countSelected : er_MW mi_B_countSelected := ⟨(er_t 347 (by decide +kernel) rfl), (er_t 2 (by decide +kernel) rfl)⟩
theorem md_B_countSelected : er_MD mi_B_countSelected 0 := by unfold er_MD; decide +kernel
theorem mw_N_init : er_MW mi_N_init := ⟨(er_t 114 (by decide +kernel) rfl), (er_t 5 (by decide +kernel) rfl)⟩
theorem md_N_init : er_MD mi_N_init 0 := by unfold er_MD; decide +kernel
theorem mw_N_build : er_MW mi_N_build := ⟨(er_t 367 (by decide +kernel) rfl), (er_t 5 (by decide +kernel) rfl)⟩
theorem md_N_build : er_MD mi_N_build 3 := by unfold er_MD; decide +kernel
theorem mw_N_connectPins : er_MW mi_N_connectPins := ⟨(er_t 375 (by decide +kernel) rfl), (er_t 5 (by decide +kernel) rfl)⟩
theorem md_N_connectPins : er_MD mi_N_connectPins 2 := by unfold er_MD; decide +kernel
theorem mw_N_connectTiles : er_MW mi_N_connectTiles := ⟨(er_t 383 (by decide +kernel) rfl), (er_t 5 (by decide +kernel) rfl)⟩
theorem md_N_connectTiles : er_MD mi_N_connectTiles 1 := by unfold er_MD; decide +kernel
theorem mw_N_connectChannels : er_MW mi_N_connectChannels := ⟨(er_t 388 (by decide +kernel) rfl), (er_t 5 (by decide +kernel) rfl)⟩
theorem md_N_connectChannels : er_MD mi_N_connectChannels 2 := by unfold er_MD; decide +kernel
theorem mw_N_connectBothWays : er_MW mi_N_connectBothWays := ⟨(er_t 392 (by decide +kernel) rfl), (er_t 5 (by decide +kernel) rfl)⟩
theorem md_N_connectBothWays : er_MD mi_N_connectBothWays 3 := by unfold er_MD; decide +kernel
theorem mw_N_connect : er_MW mi_N_connect := ⟨(er_t 371 (by decide +kernel) rfl), (er_t 5 (by decide +kernel) rfl)⟩
theorem md_N_connect : er_MD mi_N_connect 3 := by unfold er_MD; decide +kernel
theorem mw_N_supply : er_MW mi_N_supply := ⟨(er_t 396 (by decide +kernel) rfl), (er_t 5 (by decide +kernel) rfl)⟩
theorem md_N_supply : er_MD mi_N_supply 2 := by unfold er_MD; decide +kernel
theorem mw_N_keepFlow : er_MW mi_N_keepFlow := ⟨(er_t 486 (by decide +kernel) rfl), (er_t 5 (by decide +kernel) rfl)⟩
theorem md_N_keepFlow : er_MD mi_N_keepFlow 0 := by unfold er_MD; decide +kernel
theorem mw_N_giveFlowBack : er_MW mi_N_giveFlowBack := ⟨(er_t 493 (by decide +kernel) rfl), (er_t 5 (by decide +kernel) rfl)⟩
theorem md_N_giveFlowBack : er_MD mi_N_giveFlowBack 0 := by unfold er_MD; decide +kernel
theorem mw_N_pushAll : er_MW mi_N_pushAll := ⟨(er_t 400 (by decide +kernel) rfl), (er_t 5 (by decide +kernel) rfl)⟩
theorem md_N_pushAll : er_MD mi_N_pushAll 0 := by unfold er_MD; decide +kernel
theorem mw_N_push : er_MW mi_N_push := ⟨(er_t 404 (by decide +kernel) rfl), (er_t 5 (by decide +kernel) rfl)⟩
theorem md_N_push : er_MD mi_N_push 0 := by unfold er_MD; decide +kernel
theorem mw_N_findWay : er_MW mi_N_findWay := ⟨(er_t 408 (by decide +kernel) rfl), (er_t 5 (by decide +kernel) rfl)⟩
theorem md_N_findWay : er_MD mi_N_findWay 0 := by unfold er_MD; decide +kernel
theorem mw_N_isNear : er_MW mi_N_isNear := ⟨(er_t 424 (by decide +kernel) rfl), (er_t 5 (by decide +kernel) rfl)⟩
theorem md_N_isNear : er_MD mi_N_isNear 1 := by unfold er_MD; decide +kernel
theorem mw_N_sideOf : er_MW mi_N_sideOf := ⟨(er_t 420 (by decide +kernel) rfl), (er_t 5 (by decide +kernel) rfl)⟩
theorem md_N_sideOf : er_MD mi_N_sideOf 1 := by unfold er_MD; decide +kernel
theorem mw_N_countCutChannels : er_MW mi_N_countCutChannels := ⟨(er_t 432 (by decide +kernel) rfl), (er_t 5 (by decide +kernel) rfl)⟩
theorem md_N_countCutChannels : er_MD mi_N_countCutChannels 0 := by unfold er_MD; decide +kernel
theorem mw_N_leavesNearSide : er_MW mi_N_leavesNearSide := ⟨(er_t 436 (by decide +kernel) rfl), (er_t 5 (by decide +kernel) rfl)⟩
theorem md_N_leavesNearSide : er_MD mi_N_leavesNearSide 1 := by unfold er_MD; decide +kernel
theorem mw_G_init : er_MW mi_G_init := ⟨(er_t 88 (by decide +kernel) rfl), (er_t 4 (by decide +kernel) rfl)⟩
theorem md_G_init : er_MD mi_G_init 0 := by unfold er_MD; decide +kernel
theorem mw_G_add : er_MW mi_G_add := ⟨(er_t 227 (by decide +kernel) rfl), (er_t 4 (by decide +kernel) rfl)⟩
theorem md_G_add : er_MD mi_G_add 1 := by unfold er_MD; decide +kernel
theorem mw_G_read : er_MW mi_G_read := ⟨(er_t 239 (by decide +kernel) rfl), (er_t 4 (by decide +kernel) rfl)⟩
theorem md_G_read : er_MD mi_G_read 0 := by unfold er_MD; decide +kernel
theorem mw_G_isAllowed : er_MW mi_G_isAllowed := ⟨(er_t 243 (by decide +kernel) rfl), (er_t 4 (by decide +kernel) rfl)⟩
theorem md_G_isAllowed : er_MD mi_G_isAllowed 2 := by unfold er_MD; decide +kernel
theorem mw_G_kindOf : er_MW mi_G_kindOf := ⟨(er_t 246 (by decide +kernel) rfl), (er_t 4 (by decide +kernel) rfl)⟩
theorem md_G_kindOf : er_MD mi_G_kindOf 1 := by unfold er_MD; decide +kernel
theorem mw_H_init : er_MW mi_H_init := ⟨(er_t 71 (by decide +kernel) rfl), (er_t 3 (by decide +kernel) rfl)⟩
theorem md_H_init : er_MD mi_H_init 0 := by unfold er_MD; decide +kernel
theorem mw_H_keep : er_MW mi_H_keep := ⟨(er_t 255 (by decide +kernel) rfl), (er_t 3 (by decide +kernel) rfl)⟩
theorem md_H_keep : er_MD mi_H_keep 1 := by unfold er_MD; decide +kernel
theorem mw_H_dropOldest : er_MW mi_H_dropOldest := ⟨(er_t 259 (by decide +kernel) rfl), (er_t 3 (by decide +kernel) rfl)⟩
theorem md_H_dropOldest : er_MD mi_H_dropOldest 0 := by unfold er_MD; decide +kernel
theorem mw_H_giveBack : er_MW mi_H_giveBack := ⟨(er_t 527 (by decide +kernel) rfl), (er_t 3 (by decide +kernel) rfl)⟩
theorem md_H_giveBack : er_MD mi_H_giveBack 1 := by unfold er_MD; decide +kernel
theorem mw_Y_init : er_MW mi_Y_init := ⟨(er_t 155 (by decide +kernel) rfl), (er_t 6 (by decide +kernel) rfl)⟩
theorem md_Y_init : er_MD mi_Y_init 1 := by unfold er_MD; decide +kernel
theorem mw_Y_countOn : er_MW mi_Y_countOn := ⟨(er_t 505 (by decide +kernel) rfl), (er_t 6 (by decide +kernel) rfl)⟩
theorem md_Y_countOn : er_MD mi_Y_countOn 1 := by unfold er_MD; decide +kernel
theorem mw_Y_refresh : er_MW mi_Y_refresh := ⟨(er_t 447 (by decide +kernel) rfl), (er_t 6 (by decide +kernel) rfl)⟩
theorem md_Y_refresh : er_MD mi_Y_refresh 2 := by unfold er_MD; decide +kernel
theorem mw_Y_fill : er_MW mi_Y_fill := ⟨(er_t 477 (by decide +kernel) rfl), (er_t 6 (by decide +kernel) rfl)⟩
theorem md_Y_fill : er_MD mi_Y_fill 3 := by unfold er_MD; decide +kernel
theorem mw_Y_consider : er_MW mi_Y_consider := ⟨(er_t 482 (by decide +kernel) rfl), (er_t 6 (by decide +kernel) rfl)⟩
theorem md_Y_consider : er_MD mi_Y_consider 4 := by unfold er_MD; decide +kernel
theorem mw_Y_putInOrder : er_MW mi_Y_putInOrder := ⟨(er_t 451 (by decide +kernel) rfl), (er_t 6 (by decide +kernel) rfl)⟩
theorem md_Y_putInOrder : er_MD mi_Y_putInOrder 1 := by unfold er_MD; decide +kernel
theorem mw_Y_addByRows : er_MW mi_Y_addByRows := ⟨(er_t 455 (by decide +kernel) rfl), (er_t 6 (by decide +kernel) rfl)⟩
theorem md_Y_addByRows : er_MD mi_Y_addByRows 1 := by unfold er_MD; decide +kernel
theorem mw_Y_addByColumns : er_MW mi_Y_addByColumns := ⟨(er_t 464 (by decide +kernel) rfl), (er_t 6 (by decide +kernel) rfl)⟩
theorem md_Y_addByColumns : er_MD mi_Y_addByColumns 1 := by unfold er_MD; decide +kernel
theorem mw_Y_addRing : er_MW mi_Y_addRing := ⟨(er_t 468 (by decide +kernel) rfl), (er_t 6 (by decide +kernel) rfl)⟩
theorem md_Y_addRing : er_MD mi_Y_addRing 2 := by unfold er_MD; decide +kernel
theorem mw_Y_ringOf : er_MW mi_Y_ringOf := ⟨(er_t 471 (by decide +kernel) rfl), (er_t 6 (by decide +kernel) rfl)⟩
theorem md_Y_ringOf : er_MD mi_Y_ringOf 3 := by unfold er_MD; decide +kernel
theorem mw_Y_addPlace : er_MW mi_Y_addPlace := ⟨(er_t 459 (by decide +kernel) rfl), (er_t 6 (by decide +kernel) rfl)⟩
theorem md_Y_addPlace : er_MD mi_Y_addPlace 2 := by unfold er_MD; decide +kernel
theorem mo_R_3 : Cond.methodLink "EscapeRouter" 3 objectInit ∈ er_tb ∧ Cond.instanceMethod objectInit ∈ er_tb ∧ Cond.code objectInit ⟨#[0xb1]⟩ 1 none ∈ er_tb := ⟨(er_t 15 (by decide +kernel) rfl), (er_t 16 (by decide +kernel) rfl), (er_t 17 (by decide +kernel) rfl)⟩
theorem ml_R_11 : Cond.methodLink "EscapeRouter" 11 mi_B_init.1 ∈ er_tb ∧ Cond.instanceMethod mi_B_init.1 ∈ er_tb := ⟨(er_t 20 (by decide +kernel) rfl), (er_t 21 (by decide +kernel) rfl)⟩
theorem ml_R_18 : Cond.methodLink "EscapeRouter" 18 mi_H_init.1 ∈ er_tb ∧ Cond.instanceMethod mi_H_init.1 ∈ er_tb := ⟨(er_t 69 (by decide +kernel) rfl), (er_t 70 (by decide +kernel) rfl)⟩
theorem ml_R_25 : Cond.methodLink "EscapeRouter" 25 mi_G_init.1 ∈ er_tb ∧ Cond.instanceMethod mi_G_init.1 ∈ er_tb := ⟨(er_t 86 (by decide +kernel) rfl), (er_t 87 (by decide +kernel) rfl)⟩
theorem ml_R_32 : Cond.methodLink "EscapeRouter" 32 mi_N_init.1 ∈ er_tb ∧ Cond.instanceMethod mi_N_init.1 ∈ er_tb := ⟨(er_t 112 (by decide +kernel) rfl), (er_t 113 (by decide +kernel) rfl)⟩
theorem ml_R_46 : Cond.methodLink "EscapeRouter" 46 mi_Y_init.1 ∈ er_tb ∧ Cond.instanceMethod mi_Y_init.1 ∈ er_tb := ⟨(er_t 153 (by decide +kernel) rfl), (er_t 154 (by decide +kernel) rfl)⟩
theorem ml_R_64 : Cond.methodLink "EscapeRouter" 64 mi_G_add.1 ∈ er_tb ∧ Cond.instanceMethod mi_G_add.1 ∈ er_tb ∧ Cond.selects mi_G_add.1.cls mi_G_add.1 mi_G_add.1 ∈ er_tb := ⟨(er_t 224 (by decide +kernel) rfl), (er_t 225 (by decide +kernel) rfl), (er_t 226 (by decide +kernel) rfl)⟩
theorem ml_R_71 : Cond.methodLink "EscapeRouter" 71 mi_G_read.1 ∈ er_tb ∧ Cond.instanceMethod mi_G_read.1 ∈ er_tb ∧ Cond.selects mi_G_read.1.cls mi_G_read.1 mi_G_read.1 ∈ er_tb := ⟨(er_t 236 (by decide +kernel) rfl), (er_t 237 (by decide +kernel) rfl), (er_t 238 (by decide +kernel) rfl)⟩
theorem ml_R_75 : Cond.methodLink "EscapeRouter" 75 mi_R_beginEdit.1 ∈ er_tb ∧ Cond.instanceMethod mi_R_beginEdit.1 ∈ er_tb ∧ Cond.selects mi_R_beginEdit.1.cls mi_R_beginEdit.1 mi_R_beginEdit.1 ∈ er_tb := ⟨(er_t 248 (by decide +kernel) rfl), (er_t 250 (by decide +kernel) rfl), (er_p (q := (⟨"EscapeRouter", "beginEdit", "()V"⟩, 10)) 1 (by decide +kernel))⟩
theorem ml_R_78 : Cond.methodLink "EscapeRouter" 78 mi_B_replaceGrid.1 ∈ er_tb ∧ Cond.instanceMethod mi_B_replaceGrid.1 ∈ er_tb ∧ Cond.selects mi_B_replaceGrid.1.cls mi_B_replaceGrid.1 mi_B_replaceGrid.1 ∈ er_tb := ⟨(er_t 271 (by decide +kernel) rfl), (er_t 272 (by decide +kernel) rfl), (er_t 273 (by decide +kernel) rfl)⟩
theorem ml_R_82 : Cond.methodLink "EscapeRouter" 82 mi_B_countSignals.1 ∈ er_tb ∧ Cond.instanceMethod mi_B_countSignals.1 ∈ er_tb ∧ Cond.selects mi_B_countSignals.1.cls mi_B_countSignals.1 mi_B_countSignals.1 ∈ er_tb := ⟨(er_t 279 (by decide +kernel) rfl), (er_t 280 (by decide +kernel) rfl), (er_t 281 (by decide +kernel) rfl)⟩
theorem ml_R_85 : Cond.methodLink "EscapeRouter" 85 mi_B_has.1 ∈ er_tb ∧ Cond.instanceMethod mi_B_has.1 ∈ er_tb ∧ Cond.selects mi_B_has.1.cls mi_B_has.1 mi_B_has.1 ∈ er_tb := ⟨(er_t 287 (by decide +kernel) rfl), (er_t 276 (by decide +kernel) rfl), (er_t 277 (by decide +kernel) rfl)⟩
theorem ml_R_89 : Cond.methodLink "EscapeRouter" 89 mi_R_placeOf.1 ∈ er_tb ∧ Cond.static mi_R_placeOf.1 ∈ er_tb := ⟨(er_t 288 (by decide +kernel) rfl), (er_t 25 (by decide +kernel) rfl)⟩
theorem ml_R_97 : Cond.methodLink "EscapeRouter" 97 mi_B_separate.1 ∈ er_tb ∧ Cond.instanceMethod mi_B_separate.1 ∈ er_tb ∧ Cond.selects mi_B_separate.1.cls mi_B_separate.1 mi_B_separate.1 ∈ er_tb := ⟨(er_t 289 (by decide +kernel) rfl), (er_t 290 (by decide +kernel) rfl), (er_t 291 (by decide +kernel) rfl)⟩
theorem mm_R_115 : Cond.methodLink "EscapeRouter" 115 Lib.Math.abs.name ∈ er_tb ∧ Cond.static Lib.Math.abs.name ∈ er_tb ∧ Cond.initialized "java/lang/Math" ∈ er_tb ∧ Cond.code Lib.Math.abs.name Lib.Math.abs.code 1 (some .int) ∈ er_tb := ⟨(er_t 321 (by decide +kernel) rfl), (er_t 322 (by decide +kernel) rfl), (er_t 9 (by decide +kernel) rfl), (er_t 323 (by decide +kernel) rfl)⟩
theorem ml_R_121 : Cond.methodLink "EscapeRouter" 121 mi_B_isFreeForPair.1 ∈ er_tb ∧ Cond.instanceMethod mi_B_isFreeForPair.1 ∈ er_tb ∧ Cond.selects mi_B_isFreeForPair.1.cls mi_B_isFreeForPair.1 mi_B_isFreeForPair.1 ∈ er_tb := ⟨(er_t 324 (by decide +kernel) rfl), (er_t 325 (by decide +kernel) rfl), (er_t 326 (by decide +kernel) rfl)⟩
theorem ml_R_127 : Cond.methodLink "EscapeRouter" 127 mi_B_countPairs.1 ∈ er_tb ∧ Cond.instanceMethod mi_B_countPairs.1 ∈ er_tb ∧ Cond.selects mi_B_countPairs.1.cls mi_B_countPairs.1 mi_B_countPairs.1 ∈ er_tb := ⟨(er_t 328 (by decide +kernel) rfl), (er_t 329 (by decide +kernel) rfl), (er_t 330 (by decide +kernel) rfl)⟩
theorem ml_R_130 : Cond.methodLink "EscapeRouter" 130 mi_B_countSelected.1 ∈ er_tb ∧ Cond.instanceMethod mi_B_countSelected.1 ∈ er_tb ∧ Cond.selects mi_B_countSelected.1.cls mi_B_countSelected.1 mi_B_countSelected.1 ∈ er_tb := ⟨(er_t 344 (by decide +kernel) rfl), (er_t 345 (by decide +kernel) rfl), (er_t 346 (by decide +kernel) rfl)⟩
theorem ml_R_133 : Cond.methodLink "EscapeRouter" 133 mi_R_solveSelection.1 ∈ er_tb ∧ Cond.instanceMethod mi_R_solveSelection.1 ∈ er_tb ∧ Cond.selects mi_R_solveSelection.1.cls mi_R_solveSelection.1 mi_R_solveSelection.1 ∈ er_tb := ⟨(er_t 360 (by decide +kernel) rfl), (er_t 362 (by decide +kernel) rfl), (er_p (q := (⟨"EscapeRouter", "solveSelection", "()V"⟩, 10)) 4 (by decide +kernel))⟩
theorem ml_R_136 : Cond.methodLink "EscapeRouter" 136 mi_R_tileAt.1 ∈ er_tb ∧ Cond.static mi_R_tileAt.1 ∈ er_tb := ⟨(er_t 416 (by decide +kernel) rfl), (er_t 378 (by decide +kernel) rfl)⟩
theorem ml_R_139 : Cond.methodLink "EscapeRouter" 139 mi_N_sideOf.1 ∈ er_tb ∧ Cond.instanceMethod mi_N_sideOf.1 ∈ er_tb ∧ Cond.selects mi_N_sideOf.1.cls mi_N_sideOf.1 mi_N_sideOf.1 ∈ er_tb := ⟨(er_t 417 (by decide +kernel) rfl), (er_t 418 (by decide +kernel) rfl), (er_t 419 (by decide +kernel) rfl)⟩
theorem ml_R_142 : Cond.methodLink "EscapeRouter" 142 mi_N_countCutChannels.1 ∈ er_tb ∧ Cond.instanceMethod mi_N_countCutChannels.1 ∈ er_tb ∧ Cond.selects mi_N_countCutChannels.1.cls mi_N_countCutChannels.1 mi_N_countCutChannels.1 ∈ er_tb := ⟨(er_t 429 (by decide +kernel) rfl), (er_t 430 (by decide +kernel) rfl), (er_t 431 (by decide +kernel) rfl)⟩
theorem ml_R_145 : Cond.methodLink "EscapeRouter" 145 mi_R_isStrategy.1 ∈ er_tb ∧ Cond.static mi_R_isStrategy.1 ∈ er_tb := ⟨(er_t 441 (by decide +kernel) rfl), (er_t 442 (by decide +kernel) rfl)⟩
theorem ml_R_148 : Cond.methodLink "EscapeRouter" 148 mi_Y_refresh.1 ∈ er_tb ∧ Cond.instanceMethod mi_Y_refresh.1 ∈ er_tb ∧ Cond.selects mi_Y_refresh.1.cls mi_Y_refresh.1 mi_Y_refresh.1 ∈ er_tb := ⟨(er_t 444 (by decide +kernel) rfl), (er_t 445 (by decide +kernel) rfl), (er_t 446 (by decide +kernel) rfl)⟩
theorem ml_R_161 : Cond.methodLink "EscapeRouter" 161 mi_Y_countOn.1 ∈ er_tb ∧ Cond.instanceMethod mi_Y_countOn.1 ∈ er_tb ∧ Cond.selects mi_Y_countOn.1.cls mi_Y_countOn.1 mi_Y_countOn.1 ∈ er_tb := ⟨(er_t 502 (by decide +kernel) rfl), (er_t 503 (by decide +kernel) rfl), (er_t 504 (by decide +kernel) rfl)⟩
theorem ml_R_165 : Cond.methodLink "EscapeRouter" 165 mi_N_build.1 ∈ er_tb ∧ Cond.instanceMethod mi_N_build.1 ∈ er_tb ∧ Cond.selects mi_N_build.1.cls mi_N_build.1 mi_N_build.1 ∈ er_tb := ⟨(er_t 364 (by decide +kernel) rfl), (er_t 365 (by decide +kernel) rfl), (er_t 366 (by decide +kernel) rfl)⟩
theorem ml_R_169 : Cond.methodLink "EscapeRouter" 169 mi_N_supply.1 ∈ er_tb ∧ Cond.instanceMethod mi_N_supply.1 ∈ er_tb ∧ Cond.selects mi_N_supply.1.cls mi_N_supply.1 mi_N_supply.1 ∈ er_tb := ⟨(er_t 393 (by decide +kernel) rfl), (er_t 394 (by decide +kernel) rfl), (er_t 395 (by decide +kernel) rfl)⟩
theorem ml_R_173 : Cond.methodLink "EscapeRouter" 173 mi_N_pushAll.1 ∈ er_tb ∧ Cond.instanceMethod mi_N_pushAll.1 ∈ er_tb ∧ Cond.selects mi_N_pushAll.1.cls mi_N_pushAll.1 mi_N_pushAll.1 ∈ er_tb := ⟨(er_t 397 (by decide +kernel) rfl), (er_t 398 (by decide +kernel) rfl), (er_t 399 (by decide +kernel) rfl)⟩
theorem ml_R_176 : Cond.methodLink "EscapeRouter" 176 mi_R_throughput.1 ∈ er_tb ∧ Cond.instanceMethod mi_R_throughput.1 ∈ er_tb ∧ Cond.selects mi_R_throughput.1.cls mi_R_throughput.1 mi_R_throughput.1 ∈ er_tb := ⟨(er_t 519 (by decide +kernel) rfl), (er_t 511 (by decide +kernel) rfl), (er_t 512 (by decide +kernel) rfl)⟩
theorem ml_R_182 : Cond.methodLink "EscapeRouter" 182 mi_H_giveBack.1 ∈ er_tb ∧ Cond.instanceMethod mi_H_giveBack.1 ∈ er_tb ∧ Cond.selects mi_H_giveBack.1.cls mi_H_giveBack.1 mi_H_giveBack.1 ∈ er_tb := ⟨(er_t 524 (by decide +kernel) rfl), (er_t 525 (by decide +kernel) rfl), (er_t 526 (by decide +kernel) rfl)⟩
theorem ml_R_186 : Cond.methodLink "EscapeRouter" 186 mi_R_forgetResults.1 ∈ er_tb ∧ Cond.instanceMethod mi_R_forgetResults.1 ∈ er_tb ∧ Cond.selects mi_R_forgetResults.1.cls mi_R_forgetResults.1 mi_R_forgetResults.1 ∈ er_tb := ⟨(er_t 267 (by decide +kernel) rfl), (er_t 269 (by decide +kernel) rfl), (er_p (q := (⟨"EscapeRouter", "forgetResults", "()V"⟩, 10)) 3 (by decide +kernel))⟩
theorem ml_R_189 : Cond.methodLink "EscapeRouter" 189 mi_H_keep.1 ∈ er_tb ∧ Cond.instanceMethod mi_H_keep.1 ∈ er_tb ∧ Cond.selects mi_H_keep.1.cls mi_H_keep.1 mi_H_keep.1 ∈ er_tb := ⟨(er_t 252 (by decide +kernel) rfl), (er_t 253 (by decide +kernel) rfl), (er_t 254 (by decide +kernel) rfl)⟩
theorem mo_B_3 : Cond.methodLink "EscapeRouter$Board" 3 objectInit ∈ er_tb ∧ Cond.instanceMethod objectInit ∈ er_tb ∧ Cond.code objectInit ⟨#[0xb1]⟩ 1 none ∈ er_tb := ⟨(er_t 23 (by decide +kernel) rfl), (er_t 16 (by decide +kernel) rfl), (er_t 17 (by decide +kernel) rfl)⟩
theorem ml_B_35 : ("EscapeRouter$Board", 35, mi_R_placeOf.1, "EscapeRouter") ∈ er_nw ∧ Cond.static mi_R_placeOf.1 ∈ er_tb := ⟨by decide +kernel, (er_t 25 (by decide +kernel) rfl)⟩
theorem mc_B_39 : Cond.methodLink "EscapeRouter$Board" 39 arraycopyName ∈ er_tb ∧ Cond.native arraycopyName ∈ er_tb ∧ Cond.static arraycopyName ∈ er_tb ∧ Cond.initialized "java/lang/System" ∈ er_tb := ⟨(er_t 264 (by decide +kernel) rfl), (er_t 266 (by decide +kernel) rfl), (er_t 265 (by decide +kernel) rfl), (er_t 8 (by decide +kernel) rfl)⟩
theorem ml_B_49 : Cond.methodLink "EscapeRouter$Board" 49 mi_B_has.1 ∈ er_tb ∧ Cond.instanceMethod mi_B_has.1 ∈ er_tb ∧ Cond.selects mi_B_has.1.cls mi_B_has.1 mi_B_has.1 ∈ er_tb := ⟨(er_t 275 (by decide +kernel) rfl), (er_t 276 (by decide +kernel) rfl), (er_t 277 (by decide +kernel) rfl)⟩
theorem mo_N_5 : Cond.methodLink "EscapeRouter$FlowNetwork" 5 objectInit ∈ er_tb ∧ Cond.instanceMethod objectInit ∈ er_tb ∧ Cond.code objectInit ⟨#[0xb1]⟩ 1 none ∈ er_tb := ⟨(er_t 115 (by decide +kernel) rfl), (er_t 16 (by decide +kernel) rfl), (er_t 17 (by decide +kernel) rfl)⟩
theorem ml_N_46 : Cond.methodLink "EscapeRouter$FlowNetwork" 46 mi_N_connect.1 ∈ er_tb ∧ Cond.instanceMethod mi_N_connect.1 ∈ er_tb ∧ Cond.selects mi_N_connect.1.cls mi_N_connect.1 mi_N_connect.1 ∈ er_tb := ⟨(er_t 368 (by decide +kernel) rfl), (er_t 370 (by decide +kernel) rfl), (er_p (q := (⟨"EscapeRouter$FlowNetwork", "connect", "(III)V"⟩, 11)) 5 (by decide +kernel))⟩
theorem ml_N_50 : Cond.methodLink "EscapeRouter$FlowNetwork" 50 mi_N_connectPins.1 ∈ er_tb ∧ Cond.instanceMethod mi_N_connectPins.1 ∈ er_tb ∧ Cond.selects mi_N_connectPins.1.cls mi_N_connectPins.1 mi_N_connectPins.1 ∈ er_tb := ⟨(er_t 372 (by decide +kernel) rfl), (er_t 374 (by decide +kernel) rfl), (er_p (q := (⟨"EscapeRouter$FlowNetwork", "connectPins", "(LEscapeRouter$Board;I)V"⟩, 11)) 6 (by decide +kernel))⟩
theorem ml_N_54 : Cond.methodLink "EscapeRouter$FlowNetwork" 54 mi_N_connectTiles.1 ∈ er_tb ∧ Cond.instanceMethod mi_N_connectTiles.1 ∈ er_tb ∧ Cond.selects mi_N_connectTiles.1.cls mi_N_connectTiles.1 mi_N_connectTiles.1 ∈ er_tb := ⟨(er_t 380 (by decide +kernel) rfl), (er_t 382 (by decide +kernel) rfl), (er_p (q := (⟨"EscapeRouter$FlowNetwork", "connectTiles", "(LEscapeRouter$Board;)V"⟩, 11)) 7 (by decide +kernel))⟩
theorem ml_N_58 : Cond.methodLink "EscapeRouter$FlowNetwork" 58 mi_N_connectChannels.1 ∈ er_tb ∧ Cond.instanceMethod mi_N_connectChannels.1 ∈ er_tb ∧ Cond.selects mi_N_connectChannels.1.cls mi_N_connectChannels.1 mi_N_connectChannels.1 ∈ er_tb := ⟨(er_t 385 (by decide +kernel) rfl), (er_t 387 (by decide +kernel) rfl), (er_p (q := (⟨"EscapeRouter$FlowNetwork", "connectChannels", "(LEscapeRouter$Board;[Z)V"⟩, 11)) 8 (by decide +kernel))⟩
theorem ml_N_70 : ("EscapeRouter$FlowNetwork", 70, mi_R_placeOf.1, "EscapeRouter") ∈ er_nw ∧ Cond.static mi_R_placeOf.1 ∈ er_tb := ⟨by decide +kernel, (er_t 25 (by decide +kernel) rfl)⟩
theorem ml_N_77 : ("EscapeRouter$FlowNetwork", 77, mi_R_tileAt.1, "EscapeRouter") ∈ er_nw ∧ Cond.static mi_R_tileAt.1 ∈ er_tb := ⟨by decide +kernel, (er_t 378 (by decide +kernel) rfl)⟩
theorem ml_N_87 : Cond.methodLink "EscapeRouter$FlowNetwork" 87 mi_N_connectBothWays.1 ∈ er_tb ∧ Cond.instanceMethod mi_N_connectBothWays.1 ∈ er_tb ∧ Cond.selects mi_N_connectBothWays.1.cls mi_N_connectBothWays.1 mi_N_connectBothWays.1 ∈ er_tb := ⟨(er_t 389 (by decide +kernel) rfl), (er_t 391 (by decide +kernel) rfl), (er_p (q := (⟨"EscapeRouter$FlowNetwork", "connectBothWays", "(III)V"⟩, 11)) 9 (by decide +kernel))⟩
theorem mc_N_90 : Cond.methodLink "EscapeRouter$FlowNetwork" 90 arraycopyName ∈ er_tb ∧ Cond.native arraycopyName ∈ er_tb ∧ Cond.static arraycopyName ∈ er_tb ∧ Cond.initialized "java/lang/System" ∈ er_tb := ⟨(er_t 487 (by decide +kernel) rfl), (er_t 266 (by decide +kernel) rfl), (er_t 265 (by decide +kernel) rfl), (er_t 8 (by decide +kernel) rfl)⟩
theorem ml_N_96 : Cond.methodLink "EscapeRouter$FlowNetwork" 96 mi_N_push.1 ∈ er_tb ∧ Cond.instanceMethod mi_N_push.1 ∈ er_tb ∧ Cond.selects mi_N_push.1.cls mi_N_push.1 mi_N_push.1 ∈ er_tb := ⟨(er_t 401 (by decide +kernel) rfl), (er_t 402 (by decide +kernel) rfl), (er_t 403 (by decide +kernel) rfl)⟩
theorem ml_N_100 : Cond.methodLink "EscapeRouter$FlowNetwork" 100 mi_N_findWay.1 ∈ er_tb ∧ Cond.instanceMethod mi_N_findWay.1 ∈ er_tb ∧ Cond.selects mi_N_findWay.1.cls mi_N_findWay.1 mi_N_findWay.1 ∈ er_tb := ⟨(er_t 405 (by decide +kernel) rfl), (er_t 407 (by decide +kernel) rfl), (er_p (q := (⟨"EscapeRouter$FlowNetwork", "findWay", "()Z"⟩, 11)) 10 (by decide +kernel))⟩
theorem mm_N_104 : Cond.methodLink "EscapeRouter$FlowNetwork" 104 Lib.Math.min.name ∈ er_tb ∧ Cond.static Lib.Math.min.name ∈ er_tb ∧ Cond.initialized "java/lang/Math" ∈ er_tb ∧ Cond.code Lib.Math.min.name Lib.Math.min.code 2 (some .int) ∈ er_tb := ⟨(er_t 409 (by decide +kernel) rfl), (er_t 410 (by decide +kernel) rfl), (er_t 9 (by decide +kernel) rfl), (er_t 411 (by decide +kernel) rfl)⟩
theorem ml_N_109 : Cond.methodLink "EscapeRouter$FlowNetwork" 109 mi_N_isNear.1 ∈ er_tb ∧ Cond.instanceMethod mi_N_isNear.1 ∈ er_tb ∧ Cond.selects mi_N_isNear.1.cls mi_N_isNear.1 mi_N_isNear.1 ∈ er_tb := ⟨(er_t 421 (by decide +kernel) rfl), (er_t 423 (by decide +kernel) rfl), (er_p (q := (⟨"EscapeRouter$FlowNetwork", "isNear", "(I)Z"⟩, 11)) 11 (by decide +kernel))⟩
theorem ml_N_113 : Cond.methodLink "EscapeRouter$FlowNetwork" 113 mi_N_leavesNearSide.1 ∈ er_tb ∧ Cond.instanceMethod mi_N_leavesNearSide.1 ∈ er_tb ∧ Cond.selects mi_N_leavesNearSide.1.cls mi_N_leavesNearSide.1 mi_N_leavesNearSide.1 ∈ er_tb := ⟨(er_t 433 (by decide +kernel) rfl), (er_t 435 (by decide +kernel) rfl), (er_p (q := (⟨"EscapeRouter$FlowNetwork", "leavesNearSide", "(I)Z"⟩, 11)) 12 (by decide +kernel))⟩
theorem mo_G_3 : Cond.methodLink "EscapeRouter$GridText" 3 objectInit ∈ er_tb ∧ Cond.instanceMethod objectInit ∈ er_tb ∧ Cond.code objectInit ⟨#[0xb1]⟩ 1 none ∈ er_tb := ⟨(er_t 89 (by decide +kernel) rfl), (er_t 16 (by decide +kernel) rfl), (er_t 17 (by decide +kernel) rfl)⟩
theorem ml_G_28 : Cond.methodLink "EscapeRouter$GridText" 28 mi_G_isAllowed.1 ∈ er_tb ∧ Cond.instanceMethod mi_G_isAllowed.1 ∈ er_tb ∧ Cond.selects mi_G_isAllowed.1.cls mi_G_isAllowed.1 mi_G_isAllowed.1 ∈ er_tb := ⟨(er_t 240 (by decide +kernel) rfl), (er_t 242 (by decide +kernel) rfl), (er_p (q := (⟨"EscapeRouter$GridText", "isAllowed", "(II)Z"⟩, 5)) 0 (by decide +kernel))⟩
theorem ml_G_32 : ("EscapeRouter$GridText", 32, mi_R_placeOf.1, "EscapeRouter") ∈ er_nw ∧ Cond.static mi_R_placeOf.1 ∈ er_tb := ⟨by decide +kernel, (er_t 25 (by decide +kernel) rfl)⟩
theorem ml_G_36 : Cond.methodLink "EscapeRouter$GridText" 36 mi_G_kindOf.1 ∈ er_tb ∧ Cond.static mi_G_kindOf.1 ∈ er_tb := ⟨(er_t 244 (by decide +kernel) rfl), (er_t 245 (by decide +kernel) rfl)⟩
theorem mo_H_1 : Cond.methodLink "EscapeRouter$History" 1 objectInit ∈ er_tb ∧ Cond.instanceMethod objectInit ∈ er_tb ∧ Cond.code objectInit ⟨#[0xb1]⟩ 1 none ∈ er_tb := ⟨(er_t 72 (by decide +kernel) rfl), (er_t 16 (by decide +kernel) rfl), (er_t 17 (by decide +kernel) rfl)⟩
theorem ml_H_15 : Cond.methodLink "EscapeRouter$History" 15 mi_B_init.1 ∈ er_tb ∧ Cond.instanceMethod mi_B_init.1 ∈ er_tb := ⟨(er_t 75 (by decide +kernel) rfl), (er_t 21 (by decide +kernel) rfl)⟩
theorem ml_H_20 : Cond.methodLink "EscapeRouter$History" 20 mi_H_dropOldest.1 ∈ er_tb ∧ Cond.instanceMethod mi_H_dropOldest.1 ∈ er_tb ∧ Cond.selects mi_H_dropOldest.1.cls mi_H_dropOldest.1 mi_H_dropOldest.1 ∈ er_tb := ⟨(er_t 256 (by decide +kernel) rfl), (er_t 258 (by decide +kernel) rfl), (er_p (q := (⟨"EscapeRouter$History", "dropOldest", "()V"⟩, 2)) 2 (by decide +kernel))⟩
theorem ml_H_23 : Cond.methodLink "EscapeRouter$History" 23 mi_B_copyFrom.1 ∈ er_tb ∧ Cond.instanceMethod mi_B_copyFrom.1 ∈ er_tb ∧ Cond.selects mi_B_copyFrom.1.cls mi_B_copyFrom.1 mi_B_copyFrom.1 ∈ er_tb := ⟨(er_t 260 (by decide +kernel) rfl), (er_t 261 (by decide +kernel) rfl), (er_t 262 (by decide +kernel) rfl)⟩
theorem mo_Y_3 : Cond.methodLink "EscapeRouter$Layering" 3 objectInit ∈ er_tb ∧ Cond.instanceMethod objectInit ∈ er_tb ∧ Cond.code objectInit ⟨#[0xb1]⟩ 1 none ∈ er_tb := ⟨(er_t 156 (by decide +kernel) rfl), (er_t 16 (by decide +kernel) rfl), (er_t 17 (by decide +kernel) rfl)⟩
theorem ml_Y_42 : Cond.methodLink "EscapeRouter$Layering" 42 mi_Y_putInOrder.1 ∈ er_tb ∧ Cond.instanceMethod mi_Y_putInOrder.1 ∈ er_tb ∧ Cond.selects mi_Y_putInOrder.1.cls mi_Y_putInOrder.1 mi_Y_putInOrder.1 ∈ er_tb := ⟨(er_t 448 (by decide +kernel) rfl), (er_t 450 (by decide +kernel) rfl), (er_p (q := (⟨"EscapeRouter$Layering", "putInOrder", "(LEscapeRouter$Board;)V"⟩, 9)) 13 (by decide +kernel))⟩
theorem ml_Y_46 : Cond.methodLink "EscapeRouter$Layering" 46 mi_B_countSignals.1 ∈ er_tb ∧ Cond.instanceMethod mi_B_countSignals.1 ∈ er_tb ∧ Cond.selects mi_B_countSignals.1.cls mi_B_countSignals.1 mi_B_countSignals.1 ∈ er_tb := ⟨(er_t 473 (by decide +kernel) rfl), (er_t 280 (by decide +kernel) rfl), (er_t 281 (by decide +kernel) rfl)⟩
theorem ml_Y_52 : Cond.methodLink "EscapeRouter$Layering" 52 mi_Y_fill.1 ∈ er_tb ∧ Cond.instanceMethod mi_Y_fill.1 ∈ er_tb ∧ Cond.selects mi_Y_fill.1.cls mi_Y_fill.1 mi_Y_fill.1 ∈ er_tb := ⟨(er_t 474 (by decide +kernel) rfl), (er_t 476 (by decide +kernel) rfl), (er_p (q := (⟨"EscapeRouter$Layering", "fill", "(ILEscapeRouter$Board;LEscapeRouter$FlowNetwork;)I"⟩, 9)) 18 (by decide +kernel))⟩
theorem ml_Y_59 : Cond.methodLink "EscapeRouter$Layering" 59 mi_N_build.1 ∈ er_tb ∧ Cond.instanceMethod mi_N_build.1 ∈ er_tb ∧ Cond.selects mi_N_build.1.cls mi_N_build.1 mi_N_build.1 ∈ er_tb := ⟨(er_t 478 (by decide +kernel) rfl), (er_t 365 (by decide +kernel) rfl), (er_t 366 (by decide +kernel) rfl)⟩
theorem ml_Y_68 : Cond.methodLink "EscapeRouter$Layering" 68 mi_Y_consider.1 ∈ er_tb ∧ Cond.instanceMethod mi_Y_consider.1 ∈ er_tb ∧ Cond.selects mi_Y_consider.1.cls mi_Y_consider.1 mi_Y_consider.1 ∈ er_tb := ⟨(er_t 479 (by decide +kernel) rfl), (er_t 481 (by decide +kernel) rfl), (er_p (q := (⟨"EscapeRouter$Layering", "consider", "(IIILEscapeRouter$FlowNetwork;)I"⟩, 9)) 19 (by decide +kernel))⟩
theorem ml_Y_72 : Cond.methodLink "EscapeRouter$Layering" 72 mi_N_keepFlow.1 ∈ er_tb ∧ Cond.instanceMethod mi_N_keepFlow.1 ∈ er_tb ∧ Cond.selects mi_N_keepFlow.1.cls mi_N_keepFlow.1 mi_N_keepFlow.1 ∈ er_tb := ⟨(er_t 483 (by decide +kernel) rfl), (er_t 484 (by decide +kernel) rfl), (er_t 485 (by decide +kernel) rfl)⟩
theorem ml_Y_75 : Cond.methodLink "EscapeRouter$Layering" 75 mi_N_supply.1 ∈ er_tb ∧ Cond.instanceMethod mi_N_supply.1 ∈ er_tb ∧ Cond.selects mi_N_supply.1.cls mi_N_supply.1 mi_N_supply.1 ∈ er_tb := ⟨(er_t 488 (by decide +kernel) rfl), (er_t 394 (by decide +kernel) rfl), (er_t 395 (by decide +kernel) rfl)⟩
theorem ml_Y_79 : Cond.methodLink "EscapeRouter$Layering" 79 mi_N_push.1 ∈ er_tb ∧ Cond.instanceMethod mi_N_push.1 ∈ er_tb ∧ Cond.selects mi_N_push.1.cls mi_N_push.1 mi_N_push.1 ∈ er_tb := ⟨(er_t 489 (by decide +kernel) rfl), (er_t 402 (by decide +kernel) rfl), (er_t 403 (by decide +kernel) rfl)⟩
theorem ml_Y_82 : Cond.methodLink "EscapeRouter$Layering" 82 mi_N_giveFlowBack.1 ∈ er_tb ∧ Cond.instanceMethod mi_N_giveFlowBack.1 ∈ er_tb ∧ Cond.selects mi_N_giveFlowBack.1.cls mi_N_giveFlowBack.1 mi_N_giveFlowBack.1 ∈ er_tb := ⟨(er_t 490 (by decide +kernel) rfl), (er_t 491 (by decide +kernel) rfl), (er_t 492 (by decide +kernel) rfl)⟩
theorem ml_Y_85 : Cond.methodLink "EscapeRouter$Layering" 85 mi_Y_addByRows.1 ∈ er_tb ∧ Cond.instanceMethod mi_Y_addByRows.1 ∈ er_tb ∧ Cond.selects mi_Y_addByRows.1.cls mi_Y_addByRows.1 mi_Y_addByRows.1 ∈ er_tb := ⟨(er_t 452 (by decide +kernel) rfl), (er_t 454 (by decide +kernel) rfl), (er_p (q := (⟨"EscapeRouter$Layering", "addByRows", "(LEscapeRouter$Board;)V"⟩, 9)) 14 (by decide +kernel))⟩
theorem ml_Y_88 : Cond.methodLink "EscapeRouter$Layering" 88 mi_Y_addByColumns.1 ∈ er_tb ∧ Cond.instanceMethod mi_Y_addByColumns.1 ∈ er_tb ∧ Cond.selects mi_Y_addByColumns.1.cls mi_Y_addByColumns.1 mi_Y_addByColumns.1 ∈ er_tb := ⟨(er_t 461 (by decide +kernel) rfl), (er_t 463 (by decide +kernel) rfl), (er_p (q := (⟨"EscapeRouter$Layering", "addByColumns", "(LEscapeRouter$Board;)V"⟩, 9)) 16 (by decide +kernel))⟩
theorem ml_Y_91 : Cond.methodLink "EscapeRouter$Layering" 91 mi_Y_addRing.1 ∈ er_tb ∧ Cond.instanceMethod mi_Y_addRing.1 ∈ er_tb ∧ Cond.selects mi_Y_addRing.1.cls mi_Y_addRing.1 mi_Y_addRing.1 ∈ er_tb := ⟨(er_t 465 (by decide +kernel) rfl), (er_t 467 (by decide +kernel) rfl), (er_p (q := (⟨"EscapeRouter$Layering", "addRing", "(LEscapeRouter$Board;I)V"⟩, 9)) 17 (by decide +kernel))⟩
theorem ml_Y_101 : Cond.methodLink "EscapeRouter$Layering" 101 mi_Y_addPlace.1 ∈ er_tb ∧ Cond.instanceMethod mi_Y_addPlace.1 ∈ er_tb ∧ Cond.selects mi_Y_addPlace.1.cls mi_Y_addPlace.1 mi_Y_addPlace.1 ∈ er_tb := ⟨(er_t 456 (by decide +kernel) rfl), (er_t 458 (by decide +kernel) rfl), (er_p (q := (⟨"EscapeRouter$Layering", "addPlace", "(II)V"⟩, 9)) 15 (by decide +kernel))⟩
theorem ml_Y_104 : Cond.methodLink "EscapeRouter$Layering" 104 mi_Y_ringOf.1 ∈ er_tb ∧ Cond.static mi_Y_ringOf.1 ∈ er_tb := ⟨(er_t 469 (by decide +kernel) rfl), (er_t 470 (by decide +kernel) rfl)⟩
theorem mm_Y_108 : Cond.methodLink "EscapeRouter$Layering" 108 Lib.Math.min.name ∈ er_tb ∧ Cond.static Lib.Math.min.name ∈ er_tb ∧ Cond.initialized "java/lang/Math" ∈ er_tb ∧ Cond.code Lib.Math.min.name Lib.Math.min.code 2 (some .int) ∈ er_tb := ⟨(er_t 472 (by decide +kernel) rfl), (er_t 410 (by decide +kernel) rfl), (er_t 9 (by decide +kernel) rfl), (er_t 411 (by decide +kernel) rfl)⟩
theorem ml_Y_114 : ("EscapeRouter$Layering", 114, mi_R_placeOf.1, "EscapeRouter") ∈ er_nw ∧ Cond.static mi_R_placeOf.1 ∈ er_tb := ⟨by decide +kernel, (er_t 25 (by decide +kernel) rfl)⟩
theorem ml_L_9 : Cond.methodLink "EscapeRouterLaw" 9 mi_R_init.1 ∈ er_tb ∧ Cond.instanceMethod mi_R_init.1 ∈ er_tb := ⟨(er_t 12 (by decide +kernel) rfl), (er_t 13 (by decide +kernel) rfl)⟩
theorem ml_L_12 : Cond.methodLink "EscapeRouterLaw" 12 mi_M_init.1 ∈ er_tb ∧ Cond.instanceMethod mi_M_init.1 ∈ er_tb := ⟨(er_t 530 (by decide +kernel) rfl), (er_t 531 (by decide +kernel) rfl)⟩
theorem ml_L_13 : Cond.methodLink "EscapeRouterLaw" 13 mi_R_appendCharacter.1 ∈ er_tb ∧ Cond.instanceMethod mi_R_appendCharacter.1 ∈ er_tb ∧ Cond.selects mi_R_appendCharacter.1.cls mi_R_appendCharacter.1 mi_R_appendCharacter.1 ∈ er_tb := ⟨(er_t 220 (by decide +kernel) rfl), (er_t 221 (by decide +kernel) rfl), (er_t 222 (by decide +kernel) rfl)⟩
theorem ml_L_17 : Cond.methodLink "EscapeRouterLaw" 17 mi_M_appendCharacter.1 ∈ er_tb ∧ Cond.instanceMethod mi_M_appendCharacter.1 ∈ er_tb ∧ Cond.selects mi_M_appendCharacter.1.cls mi_M_appendCharacter.1 mi_M_appendCharacter.1 ∈ er_tb := ⟨(er_t 606 (by decide +kernel) rfl), (er_t 607 (by decide +kernel) rfl), (er_t 608 (by decide +kernel) rfl)⟩
theorem ml_L_18 : Cond.methodLink "EscapeRouterLaw" 18 mi_R_clearText.1 ∈ er_tb ∧ Cond.instanceMethod mi_R_clearText.1 ∈ er_tb ∧ Cond.selects mi_R_clearText.1.cls mi_R_clearText.1 mi_R_clearText.1 ∈ er_tb := ⟨(er_t 228 (by decide +kernel) rfl), (er_t 229 (by decide +kernel) rfl), (er_t 230 (by decide +kernel) rfl)⟩
theorem ml_L_22 : Cond.methodLink "EscapeRouterLaw" 22 mi_M_clearText.1 ∈ er_tb ∧ Cond.instanceMethod mi_M_clearText.1 ∈ er_tb ∧ Cond.selects mi_M_clearText.1.cls mi_M_clearText.1 mi_M_clearText.1 ∈ er_tb := ⟨(er_t 613 (by decide +kernel) rfl), (er_t 614 (by decide +kernel) rfl), (er_t 615 (by decide +kernel) rfl)⟩
theorem ml_L_23 : Cond.methodLink "EscapeRouterLaw" 23 mi_R_loadGrid.1 ∈ er_tb ∧ Cond.instanceMethod mi_R_loadGrid.1 ∈ er_tb ∧ Cond.selects mi_R_loadGrid.1.cls mi_R_loadGrid.1 mi_R_loadGrid.1 ∈ er_tb := ⟨(er_t 232 (by decide +kernel) rfl), (er_t 233 (by decide +kernel) rfl), (er_t 234 (by decide +kernel) rfl)⟩
theorem ml_L_26 : Cond.methodLink "EscapeRouterLaw" 26 mi_M_loadGrid.1 ∈ er_tb ∧ Cond.instanceMethod mi_M_loadGrid.1 ∈ er_tb ∧ Cond.selects mi_M_loadGrid.1.cls mi_M_loadGrid.1 mi_M_loadGrid.1 ∈ er_tb := ⟨(er_t 617 (by decide +kernel) rfl), (er_t 618 (by decide +kernel) rfl), (er_t 619 (by decide +kernel) rfl)⟩
theorem ml_L_27 : Cond.methodLink "EscapeRouterLaw" 27 mi_R_setKind.1 ∈ er_tb ∧ Cond.instanceMethod mi_R_setKind.1 ∈ er_tb ∧ Cond.selects mi_R_setKind.1.cls mi_R_setKind.1 mi_R_setKind.1 ∈ er_tb := ⟨(er_t 283 (by decide +kernel) rfl), (er_t 284 (by decide +kernel) rfl), (er_t 285 (by decide +kernel) rfl)⟩
theorem ml_L_31 : Cond.methodLink "EscapeRouterLaw" 31 mi_M_setKind.1 ∈ er_tb ∧ Cond.instanceMethod mi_M_setKind.1 ∈ er_tb ∧ Cond.selects mi_M_setKind.1.cls mi_M_setKind.1 mi_M_setKind.1 ∈ er_tb := ⟨(er_t 633 (by decide +kernel) rfl), (er_t 634 (by decide +kernel) rfl), (er_t 635 (by decide +kernel) rfl)⟩
theorem ml_L_32 : Cond.methodLink "EscapeRouterLaw" 32 mi_R_setChannelCapacity.1 ∈ er_tb ∧ Cond.instanceMethod mi_R_setChannelCapacity.1 ∈ er_tb ∧ Cond.selects mi_R_setChannelCapacity.1.cls mi_R_setChannelCapacity.1 mi_R_setChannelCapacity.1 ∈ er_tb := ⟨(er_t 293 (by decide +kernel) rfl), (er_t 294 (by decide +kernel) rfl), (er_t 295 (by decide +kernel) rfl)⟩
theorem ml_L_35 : Cond.methodLink "EscapeRouterLaw" 35 mi_M_setChannelCapacity.1 ∈ er_tb ∧ Cond.instanceMethod mi_M_setChannelCapacity.1 ∈ er_tb ∧ Cond.selects mi_M_setChannelCapacity.1.cls mi_M_setChannelCapacity.1 mi_M_setChannelCapacity.1 ∈ er_tb := ⟨(er_t 645 (by decide +kernel) rfl), (er_t 646 (by decide +kernel) rfl), (er_t 647 (by decide +kernel) rfl)⟩
theorem ml_L_36 : Cond.methodLink "EscapeRouterLaw" 36 mi_R_setTileCapacity.1 ∈ er_tb ∧ Cond.instanceMethod mi_R_setTileCapacity.1 ∈ er_tb ∧ Cond.selects mi_R_setTileCapacity.1.cls mi_R_setTileCapacity.1 mi_R_setTileCapacity.1 ∈ er_tb := ⟨(er_t 297 (by decide +kernel) rfl), (er_t 298 (by decide +kernel) rfl), (er_t 299 (by decide +kernel) rfl)⟩
theorem ml_L_39 : Cond.methodLink "EscapeRouterLaw" 39 mi_M_setTileCapacity.1 ∈ er_tb ∧ Cond.instanceMethod mi_M_setTileCapacity.1 ∈ er_tb ∧ Cond.selects mi_M_setTileCapacity.1.cls mi_M_setTileCapacity.1 mi_M_setTileCapacity.1 ∈ er_tb := ⟨(er_t 649 (by decide +kernel) rfl), (er_t 650 (by decide +kernel) rfl), (er_t 651 (by decide +kernel) rfl)⟩
theorem ml_L_40 : Cond.methodLink "EscapeRouterLaw" 40 mi_R_rows.1 ∈ er_tb ∧ Cond.instanceMethod mi_R_rows.1 ∈ er_tb ∧ Cond.selects mi_R_rows.1.cls mi_R_rows.1 mi_R_rows.1 ∈ er_tb := ⟨(er_t 301 (by decide +kernel) rfl), (er_t 302 (by decide +kernel) rfl), (er_t 303 (by decide +kernel) rfl)⟩
theorem ml_L_43 : Cond.methodLink "EscapeRouterLaw" 43 mi_M_rows.1 ∈ er_tb ∧ Cond.instanceMethod mi_M_rows.1 ∈ er_tb ∧ Cond.selects mi_M_rows.1.cls mi_M_rows.1 mi_M_rows.1 ∈ er_tb := ⟨(er_t 653 (by decide +kernel) rfl), (er_t 654 (by decide +kernel) rfl), (er_t 655 (by decide +kernel) rfl)⟩
theorem ml_L_44 : Cond.methodLink "EscapeRouterLaw" 44 mi_R_columns.1 ∈ er_tb ∧ Cond.instanceMethod mi_R_columns.1 ∈ er_tb ∧ Cond.selects mi_R_columns.1.cls mi_R_columns.1 mi_R_columns.1 ∈ er_tb := ⟨(er_t 305 (by decide +kernel) rfl), (er_t 306 (by decide +kernel) rfl), (er_t 307 (by decide +kernel) rfl)⟩
theorem ml_L_47 : Cond.methodLink "EscapeRouterLaw" 47 mi_M_columns.1 ∈ er_tb ∧ Cond.instanceMethod mi_M_columns.1 ∈ er_tb ∧ Cond.selects mi_M_columns.1.cls mi_M_columns.1 mi_M_columns.1 ∈ er_tb := ⟨(er_t 657 (by decide +kernel) rfl), (er_t 658 (by decide +kernel) rfl), (er_t 659 (by decide +kernel) rfl)⟩
theorem ml_L_48 : Cond.methodLink "EscapeRouterLaw" 48 mi_R_kindAt.1 ∈ er_tb ∧ Cond.instanceMethod mi_R_kindAt.1 ∈ er_tb ∧ Cond.selects mi_R_kindAt.1.cls mi_R_kindAt.1 mi_R_kindAt.1 ∈ er_tb := ⟨(er_t 309 (by decide +kernel) rfl), (er_t 310 (by decide +kernel) rfl), (er_t 311 (by decide +kernel) rfl)⟩
theorem ml_L_52 : Cond.methodLink "EscapeRouterLaw" 52 mi_M_kindAt.1 ∈ er_tb ∧ Cond.instanceMethod mi_M_kindAt.1 ∈ er_tb ∧ Cond.selects mi_M_kindAt.1.cls mi_M_kindAt.1 mi_M_kindAt.1 ∈ er_tb := ⟨(er_t 661 (by decide +kernel) rfl), (er_t 662 (by decide +kernel) rfl), (er_t 663 (by decide +kernel) rfl)⟩
theorem ml_L_53 : Cond.methodLink "EscapeRouterLaw" 53 mi_R_signalCount.1 ∈ er_tb ∧ Cond.instanceMethod mi_R_signalCount.1 ∈ er_tb ∧ Cond.selects mi_R_signalCount.1.cls mi_R_signalCount.1 mi_R_signalCount.1 ∈ er_tb := ⟨(er_t 313 (by decide +kernel) rfl), (er_t 314 (by decide +kernel) rfl), (er_t 315 (by decide +kernel) rfl)⟩
theorem ml_L_56 : Cond.methodLink "EscapeRouterLaw" 56 mi_M_signalCount.1 ∈ er_tb ∧ Cond.instanceMethod mi_M_signalCount.1 ∈ er_tb ∧ Cond.selects mi_M_signalCount.1.cls mi_M_signalCount.1 mi_M_signalCount.1 ∈ er_tb := ⟨(er_t 665 (by decide +kernel) rfl), (er_t 666 (by decide +kernel) rfl), (er_t 667 (by decide +kernel) rfl)⟩
theorem ml_L_57 : Cond.methodLink "EscapeRouterLaw" 57 mi_R_makePair.1 ∈ er_tb ∧ Cond.instanceMethod mi_R_makePair.1 ∈ er_tb ∧ Cond.selects mi_R_makePair.1.cls mi_R_makePair.1 mi_R_makePair.1 ∈ er_tb := ⟨(er_t 317 (by decide +kernel) rfl), (er_t 318 (by decide +kernel) rfl), (er_t 319 (by decide +kernel) rfl)⟩
theorem ml_L_61 : Cond.methodLink "EscapeRouterLaw" 61 mi_M_makePair.1 ∈ er_tb ∧ Cond.instanceMethod mi_M_makePair.1 ∈ er_tb ∧ Cond.selects mi_M_makePair.1.cls mi_M_makePair.1 mi_M_makePair.1 ∈ er_tb := ⟨(er_t 669 (by decide +kernel) rfl), (er_t 670 (by decide +kernel) rfl), (er_t 671 (by decide +kernel) rfl)⟩
theorem ml_L_62 : Cond.methodLink "EscapeRouterLaw" 62 mi_R_breakPair.1 ∈ er_tb ∧ Cond.instanceMethod mi_R_breakPair.1 ∈ er_tb ∧ Cond.selects mi_R_breakPair.1.cls mi_R_breakPair.1 mi_R_breakPair.1 ∈ er_tb := ⟨(er_t 332 (by decide +kernel) rfl), (er_t 333 (by decide +kernel) rfl), (er_t 334 (by decide +kernel) rfl)⟩
theorem ml_L_65 : Cond.methodLink "EscapeRouterLaw" 65 mi_M_breakPair.1 ∈ er_tb ∧ Cond.instanceMethod mi_M_breakPair.1 ∈ er_tb ∧ Cond.selects mi_M_breakPair.1.cls mi_M_breakPair.1 mi_M_breakPair.1 ∈ er_tb := ⟨(er_t 681 (by decide +kernel) rfl), (er_t 682 (by decide +kernel) rfl), (er_t 683 (by decide +kernel) rfl)⟩
theorem ml_L_66 : Cond.methodLink "EscapeRouterLaw" 66 mi_R_partnerOf.1 ∈ er_tb ∧ Cond.instanceMethod mi_R_partnerOf.1 ∈ er_tb ∧ Cond.selects mi_R_partnerOf.1.cls mi_R_partnerOf.1 mi_R_partnerOf.1 ∈ er_tb := ⟨(er_t 336 (by decide +kernel) rfl), (er_t 337 (by decide +kernel) rfl), (er_t 338 (by decide +kernel) rfl)⟩
theorem ml_L_69 : Cond.methodLink "EscapeRouterLaw" 69 mi_M_partnerOf.1 ∈ er_tb ∧ Cond.instanceMethod mi_M_partnerOf.1 ∈ er_tb ∧ Cond.selects mi_M_partnerOf.1.cls mi_M_partnerOf.1 mi_M_partnerOf.1 ∈ er_tb := ⟨(er_t 685 (by decide +kernel) rfl), (er_t 686 (by decide +kernel) rfl), (er_t 687 (by decide +kernel) rfl)⟩
theorem ml_L_70 : Cond.methodLink "EscapeRouterLaw" 70 mi_R_select.1 ∈ er_tb ∧ Cond.instanceMethod mi_R_select.1 ∈ er_tb ∧ Cond.selects mi_R_select.1.cls mi_R_select.1 mi_R_select.1 ∈ er_tb := ⟨(er_t 340 (by decide +kernel) rfl), (er_t 341 (by decide +kernel) rfl), (er_t 342 (by decide +kernel) rfl)⟩
theorem ml_L_73 : Cond.methodLink "EscapeRouterLaw" 73 mi_M_select.1 ∈ er_tb ∧ Cond.instanceMethod mi_M_select.1 ∈ er_tb ∧ Cond.selects mi_M_select.1.cls mi_M_select.1 mi_M_select.1 ∈ er_tb := ⟨(er_t 689 (by decide +kernel) rfl), (er_t 690 (by decide +kernel) rfl), (er_t 691 (by decide +kernel) rfl)⟩
theorem ml_L_74 : Cond.methodLink "EscapeRouterLaw" 74 mi_R_deselect.1 ∈ er_tb ∧ Cond.instanceMethod mi_R_deselect.1 ∈ er_tb ∧ Cond.selects mi_R_deselect.1.cls mi_R_deselect.1 mi_R_deselect.1 ∈ er_tb := ⟨(er_t 348 (by decide +kernel) rfl), (er_t 349 (by decide +kernel) rfl), (er_t 350 (by decide +kernel) rfl)⟩
theorem ml_L_77 : Cond.methodLink "EscapeRouterLaw" 77 mi_M_deselect.1 ∈ er_tb ∧ Cond.instanceMethod mi_M_deselect.1 ∈ er_tb ∧ Cond.selects mi_M_deselect.1.cls mi_M_deselect.1 mi_M_deselect.1 ∈ er_tb := ⟨(er_t 697 (by decide +kernel) rfl), (er_t 698 (by decide +kernel) rfl), (er_t 699 (by decide +kernel) rfl)⟩
theorem ml_L_78 : Cond.methodLink "EscapeRouterLaw" 78 mi_R_clearSelection.1 ∈ er_tb ∧ Cond.instanceMethod mi_R_clearSelection.1 ∈ er_tb ∧ Cond.selects mi_R_clearSelection.1.cls mi_R_clearSelection.1 mi_R_clearSelection.1 ∈ er_tb := ⟨(er_t 352 (by decide +kernel) rfl), (er_t 353 (by decide +kernel) rfl), (er_t 354 (by decide +kernel) rfl)⟩
theorem ml_L_81 : Cond.methodLink "EscapeRouterLaw" 81 mi_M_clearSelection.1 ∈ er_tb ∧ Cond.instanceMethod mi_M_clearSelection.1 ∈ er_tb ∧ Cond.selects mi_M_clearSelection.1.cls mi_M_clearSelection.1 mi_M_clearSelection.1 ∈ er_tb := ⟨(er_t 701 (by decide +kernel) rfl), (er_t 702 (by decide +kernel) rfl), (er_t 703 (by decide +kernel) rfl)⟩
theorem ml_L_82 : Cond.methodLink "EscapeRouterLaw" 82 mi_R_escapeCount.1 ∈ er_tb ∧ Cond.instanceMethod mi_R_escapeCount.1 ∈ er_tb ∧ Cond.selects mi_R_escapeCount.1.cls mi_R_escapeCount.1 mi_R_escapeCount.1 ∈ er_tb := ⟨(er_t 356 (by decide +kernel) rfl), (er_t 357 (by decide +kernel) rfl), (er_t 358 (by decide +kernel) rfl)⟩
theorem ml_L_85 : Cond.methodLink "EscapeRouterLaw" 85 mi_M_escapeCount.1 ∈ er_tb ∧ Cond.instanceMethod mi_M_escapeCount.1 ∈ er_tb ∧ Cond.selects mi_M_escapeCount.1.cls mi_M_escapeCount.1 mi_M_escapeCount.1 ∈ er_tb := ⟨(er_t 705 (by decide +kernel) rfl), (er_t 706 (by decide +kernel) rfl), (er_t 707 (by decide +kernel) rfl)⟩
theorem ml_L_86 : Cond.methodLink "EscapeRouterLaw" 86 mi_R_tileSide.1 ∈ er_tb ∧ Cond.instanceMethod mi_R_tileSide.1 ∈ er_tb ∧ Cond.selects mi_R_tileSide.1.cls mi_R_tileSide.1 mi_R_tileSide.1 ∈ er_tb := ⟨(er_t 412 (by decide +kernel) rfl), (er_t 413 (by decide +kernel) rfl), (er_t 414 (by decide +kernel) rfl)⟩
theorem ml_L_89 : Cond.methodLink "EscapeRouterLaw" 89 mi_M_tileSide.1 ∈ er_tb ∧ Cond.instanceMethod mi_M_tileSide.1 ∈ er_tb ∧ Cond.selects mi_M_tileSide.1.cls mi_M_tileSide.1 mi_M_tileSide.1 ∈ er_tb := ⟨(er_t 757 (by decide +kernel) rfl), (er_t 758 (by decide +kernel) rfl), (er_t 759 (by decide +kernel) rfl)⟩
theorem ml_L_90 : Cond.methodLink "EscapeRouterLaw" 90 mi_R_cutChannels.1 ∈ er_tb ∧ Cond.instanceMethod mi_R_cutChannels.1 ∈ er_tb ∧ Cond.selects mi_R_cutChannels.1.cls mi_R_cutChannels.1 mi_R_cutChannels.1 ∈ er_tb := ⟨(er_t 425 (by decide +kernel) rfl), (er_t 426 (by decide +kernel) rfl), (er_t 427 (by decide +kernel) rfl)⟩
theorem ml_L_93 : Cond.methodLink "EscapeRouterLaw" 93 mi_M_cutChannels.1 ∈ er_tb ∧ Cond.instanceMethod mi_M_cutChannels.1 ∈ er_tb ∧ Cond.selects mi_M_cutChannels.1.cls mi_M_cutChannels.1 mi_M_cutChannels.1 ∈ er_tb := ⟨(er_t 761 (by decide +kernel) rfl), (er_t 762 (by decide +kernel) rfl), (er_t 763 (by decide +kernel) rfl)⟩
theorem ml_L_94 : Cond.methodLink "EscapeRouterLaw" 94 mi_R_layerCount.1 ∈ er_tb ∧ Cond.instanceMethod mi_R_layerCount.1 ∈ er_tb ∧ Cond.selects mi_R_layerCount.1.cls mi_R_layerCount.1 mi_R_layerCount.1 ∈ er_tb := ⟨(er_t 437 (by decide +kernel) rfl), (er_t 438 (by decide +kernel) rfl), (er_t 439 (by decide +kernel) rfl)⟩
theorem ml_L_97 : Cond.methodLink "EscapeRouterLaw" 97 mi_M_layerCount.1 ∈ er_tb ∧ Cond.instanceMethod mi_M_layerCount.1 ∈ er_tb ∧ Cond.selects mi_M_layerCount.1.cls mi_M_layerCount.1 mi_M_layerCount.1 ∈ er_tb := ⟨(er_t 769 (by decide +kernel) rfl), (er_t 770 (by decide +kernel) rfl), (er_t 771 (by decide +kernel) rfl)⟩
theorem ml_L_98 : Cond.methodLink "EscapeRouterLaw" 98 mi_R_layerOf.1 ∈ er_tb ∧ Cond.instanceMethod mi_R_layerOf.1 ∈ er_tb ∧ Cond.selects mi_R_layerOf.1.cls mi_R_layerOf.1 mi_R_layerOf.1 ∈ er_tb := ⟨(er_t 494 (by decide +kernel) rfl), (er_t 495 (by decide +kernel) rfl), (er_t 496 (by decide +kernel) rfl)⟩
theorem ml_L_101 : Cond.methodLink "EscapeRouterLaw" 101 mi_M_layerOf.1 ∈ er_tb ∧ Cond.instanceMethod mi_M_layerOf.1 ∈ er_tb ∧ Cond.selects mi_M_layerOf.1.cls mi_M_layerOf.1 mi_M_layerOf.1 ∈ er_tb := ⟨(er_t 804 (by decide +kernel) rfl), (er_t 805 (by decide +kernel) rfl), (er_t 806 (by decide +kernel) rfl)⟩
theorem ml_L_102 : Cond.methodLink "EscapeRouterLaw" 102 mi_R_layerLoad.1 ∈ er_tb ∧ Cond.instanceMethod mi_R_layerLoad.1 ∈ er_tb ∧ Cond.selects mi_R_layerLoad.1.cls mi_R_layerLoad.1 mi_R_layerLoad.1 ∈ er_tb := ⟨(er_t 498 (by decide +kernel) rfl), (er_t 499 (by decide +kernel) rfl), (er_t 500 (by decide +kernel) rfl)⟩
theorem ml_L_105 : Cond.methodLink "EscapeRouterLaw" 105 mi_M_layerLoad.1 ∈ er_tb ∧ Cond.instanceMethod mi_M_layerLoad.1 ∈ er_tb ∧ Cond.selects mi_M_layerLoad.1.cls mi_M_layerLoad.1 mi_M_layerLoad.1 ∈ er_tb := ⟨(er_t 808 (by decide +kernel) rfl), (er_t 809 (by decide +kernel) rfl), (er_t 810 (by decide +kernel) rfl)⟩
theorem ml_L_106 : Cond.methodLink "EscapeRouterLaw" 106 mi_R_bestStrategy.1 ∈ er_tb ∧ Cond.instanceMethod mi_R_bestStrategy.1 ∈ er_tb ∧ Cond.selects mi_R_bestStrategy.1.cls mi_R_bestStrategy.1 mi_R_bestStrategy.1 ∈ er_tb := ⟨(er_t 506 (by decide +kernel) rfl), (er_t 507 (by decide +kernel) rfl), (er_t 508 (by decide +kernel) rfl)⟩
theorem ml_L_109 : Cond.methodLink "EscapeRouterLaw" 109 mi_M_bestStrategy.1 ∈ er_tb ∧ Cond.instanceMethod mi_M_bestStrategy.1 ∈ er_tb ∧ Cond.selects mi_M_bestStrategy.1.cls mi_M_bestStrategy.1 mi_M_bestStrategy.1 ∈ er_tb := ⟨(er_t 812 (by decide +kernel) rfl), (er_t 813 (by decide +kernel) rfl), (er_t 814 (by decide +kernel) rfl)⟩
theorem ml_L_110 : Cond.methodLink "EscapeRouterLaw" 110 mi_R_throughput.1 ∈ er_tb ∧ Cond.instanceMethod mi_R_throughput.1 ∈ er_tb ∧ Cond.selects mi_R_throughput.1.cls mi_R_throughput.1 mi_R_throughput.1 ∈ er_tb := ⟨(er_t 510 (by decide +kernel) rfl), (er_t 511 (by decide +kernel) rfl), (er_t 512 (by decide +kernel) rfl)⟩
theorem ml_L_113 : Cond.methodLink "EscapeRouterLaw" 113 mi_M_throughput.1 ∈ er_tb ∧ Cond.instanceMethod mi_M_throughput.1 ∈ er_tb ∧ Cond.selects mi_M_throughput.1.cls mi_M_throughput.1 mi_M_throughput.1 ∈ er_tb := ⟨(er_t 816 (by decide +kernel) rfl), (er_t 817 (by decide +kernel) rfl), (er_t 818 (by decide +kernel) rfl)⟩
theorem ml_L_114 : Cond.methodLink "EscapeRouterLaw" 114 mi_R_lowerBound.1 ∈ er_tb ∧ Cond.instanceMethod mi_R_lowerBound.1 ∈ er_tb ∧ Cond.selects mi_R_lowerBound.1.cls mi_R_lowerBound.1 mi_R_lowerBound.1 ∈ er_tb := ⟨(er_t 515 (by decide +kernel) rfl), (er_t 516 (by decide +kernel) rfl), (er_t 517 (by decide +kernel) rfl)⟩
theorem ml_L_117 : Cond.methodLink "EscapeRouterLaw" 117 mi_M_lowerBound.1 ∈ er_tb ∧ Cond.instanceMethod mi_M_lowerBound.1 ∈ er_tb ∧ Cond.selects mi_M_lowerBound.1.cls mi_M_lowerBound.1 mi_M_lowerBound.1 ∈ er_tb := ⟨(er_t 824 (by decide +kernel) rfl), (er_t 825 (by decide +kernel) rfl), (er_t 826 (by decide +kernel) rfl)⟩
theorem ml_L_118 : Cond.methodLink "EscapeRouterLaw" 118 mi_R_undo.1 ∈ er_tb ∧ Cond.instanceMethod mi_R_undo.1 ∈ er_tb ∧ Cond.selects mi_R_undo.1.cls mi_R_undo.1 mi_R_undo.1 ∈ er_tb := ⟨(er_t 520 (by decide +kernel) rfl), (er_t 521 (by decide +kernel) rfl), (er_t 522 (by decide +kernel) rfl)⟩
theorem ml_L_121 : Cond.methodLink "EscapeRouterLaw" 121 mi_M_undo.1 ∈ er_tb ∧ Cond.instanceMethod mi_M_undo.1 ∈ er_tb ∧ Cond.selects mi_M_undo.1.cls mi_M_undo.1 mi_M_undo.1 ∈ er_tb := ⟨(er_t 602 (by decide +kernel) rfl), (er_t 603 (by decide +kernel) rfl), (er_t 604 (by decide +kernel) rfl)⟩
theorem mo_M_1 : Cond.methodLink "EscapeRouterModel" 1 objectInit ∈ er_tb ∧ Cond.instanceMethod objectInit ∈ er_tb ∧ Cond.code objectInit ⟨#[0xb1]⟩ 1 none ∈ er_tb := ⟨(er_t 533 (by decide +kernel) rfl), (er_t 16 (by decide +kernel) rfl), (er_t 17 (by decide +kernel) rfl)⟩
theorem ml_M_64 : Cond.methodLink "EscapeRouterModel" 64 mi_M_in.1 ∈ er_tb ∧ Cond.static mi_M_in.1 ∈ er_tb := ⟨(er_t 610 (by decide +kernel) rfl), (er_t 611 (by decide +kernel) rfl)⟩
theorem ml_M_77 : Cond.methodLink "EscapeRouterModel" 77 mi_M_readGrid.1 ∈ er_tb ∧ Cond.instanceMethod mi_M_readGrid.1 ∈ er_tb ∧ Cond.selects mi_M_readGrid.1.cls mi_M_readGrid.1 mi_M_readGrid.1 ∈ er_tb := ⟨(er_t 621 (by decide +kernel) rfl), (er_t 623 (by decide +kernel) rfl), (er_p (q := (⟨"EscapeRouterModel", "readGrid", "()I"⟩, 22)) 20 (by decide +kernel))⟩
theorem ml_M_81 : Cond.methodLink "EscapeRouterModel" 81 mi_M_edit.1 ∈ er_tb ∧ Cond.instanceMethod mi_M_edit.1 ∈ er_tb ∧ Cond.selects mi_M_edit.1.cls mi_M_edit.1 mi_M_edit.1 ∈ er_tb := ⟨(er_t 625 (by decide +kernel) rfl), (er_t 627 (by decide +kernel) rfl), (er_p (q := (⟨"EscapeRouterModel", "edit", "()V"⟩, 22)) 21 (by decide +kernel))⟩
theorem ml_M_84 : Cond.methodLink "EscapeRouterModel" 84 mi_M_signals.1 ∈ er_tb ∧ Cond.instanceMethod mi_M_signals.1 ∈ er_tb ∧ Cond.selects mi_M_signals.1.cls mi_M_signals.1 mi_M_signals.1 ∈ er_tb := ⟨(er_t 629 (by decide +kernel) rfl), (er_t 631 (by decide +kernel) rfl), (er_p (q := (⟨"EscapeRouterModel", "signals", "()I"⟩, 22)) 22 (by decide +kernel))⟩
theorem ml_M_87 : Cond.methodLink "EscapeRouterModel" 87 mi_M_isPosition.1 ∈ er_tb ∧ Cond.instanceMethod mi_M_isPosition.1 ∈ er_tb ∧ Cond.selects mi_M_isPosition.1.cls mi_M_isPosition.1 mi_M_isPosition.1 ∈ er_tb := ⟨(er_t 637 (by decide +kernel) rfl), (er_t 639 (by decide +kernel) rfl), (er_p (q := (⟨"EscapeRouterModel", "isPosition", "(II)Z"⟩, 22)) 23 (by decide +kernel))⟩
theorem ml_M_91 : Cond.methodLink "EscapeRouterModel" 91 mi_M_unpair.1 ∈ er_tb ∧ Cond.instanceMethod mi_M_unpair.1 ∈ er_tb ∧ Cond.selects mi_M_unpair.1.cls mi_M_unpair.1 mi_M_unpair.1 ∈ er_tb := ⟨(er_t 641 (by decide +kernel) rfl), (er_t 643 (by decide +kernel) rfl), (er_p (q := (⟨"EscapeRouterModel", "unpair", "(I)V"⟩, 22)) 24 (by decide +kernel))⟩
theorem ml_M_95 : Cond.methodLink "EscapeRouterModel" 95 mi_M_isFree.1 ∈ er_tb ∧ Cond.instanceMethod mi_M_isFree.1 ∈ er_tb ∧ Cond.selects mi_M_isFree.1.cls mi_M_isFree.1 mi_M_isFree.1 ∈ er_tb := ⟨(er_t 673 (by decide +kernel) rfl), (er_t 675 (by decide +kernel) rfl), (er_p (q := (⟨"EscapeRouterModel", "isFree", "(I)Z"⟩, 22)) 25 (by decide +kernel))⟩
theorem ml_M_99 : Cond.methodLink "EscapeRouterModel" 99 mi_M_pairs.1 ∈ er_tb ∧ Cond.instanceMethod mi_M_pairs.1 ∈ er_tb ∧ Cond.selects mi_M_pairs.1.cls mi_M_pairs.1 mi_M_pairs.1 ∈ er_tb := ⟨(er_t 677 (by decide +kernel) rfl), (er_t 679 (by decide +kernel) rfl), (er_p (q := (⟨"EscapeRouterModel", "pairs", "()I"⟩, 22)) 26 (by decide +kernel))⟩
theorem ml_M_102 : Cond.methodLink "EscapeRouterModel" 102 mi_M_selected.1 ∈ er_tb ∧ Cond.instanceMethod mi_M_selected.1 ∈ er_tb ∧ Cond.selects mi_M_selected.1.cls mi_M_selected.1 mi_M_selected.1 ∈ er_tb := ⟨(er_t 693 (by decide +kernel) rfl), (er_t 695 (by decide +kernel) rfl), (er_p (q := (⟨"EscapeRouterModel", "selected", "()I"⟩, 22)) 27 (by decide +kernel))⟩
theorem ml_M_108 : Cond.methodLink "EscapeRouterModel" 108 mi_M_lead.1 ∈ er_tb ∧ Cond.instanceMethod mi_M_lead.1 ∈ er_tb ∧ Cond.selects mi_M_lead.1.cls mi_M_lead.1 mi_M_lead.1 ∈ er_tb := ⟨(er_t 728 (by decide +kernel) rfl), (er_t 730 (by decide +kernel) rfl), (er_p (q := (⟨"EscapeRouterModel", "lead", "(III)V"⟩, 22)) 32 (by decide +kernel))⟩
theorem ml_M_112 : Cond.methodLink "EscapeRouterModel" 112 mi_M_join.1 ∈ er_tb ∧ Cond.instanceMethod mi_M_join.1 ∈ er_tb ∧ Cond.selects mi_M_join.1.cls mi_M_join.1 mi_M_join.1 ∈ er_tb := ⟨(er_t 724 (by decide +kernel) rfl), (er_t 726 (by decide +kernel) rfl), (er_p (q := (⟨"EscapeRouterModel", "join", "(III)V"⟩, 22)) 31 (by decide +kernel))⟩
theorem ml_M_115 : Cond.methodLink "EscapeRouterModel" 115 mi_M_tile.1 ∈ er_tb ∧ Cond.static mi_M_tile.1 ∈ er_tb := ⟨(er_t 721 (by decide +kernel) rfl), (er_t 722 (by decide +kernel) rfl)⟩
theorem ml_M_119 : Cond.methodLink "EscapeRouterModel" 119 mi_M_isRim.1 ∈ er_tb ∧ Cond.instanceMethod mi_M_isRim.1 ∈ er_tb ∧ Cond.selects mi_M_isRim.1.cls mi_M_isRim.1 mi_M_isRim.1 ∈ er_tb := ⟨(er_t 732 (by decide +kernel) rfl), (er_t 734 (by decide +kernel) rfl), (er_p (q := (⟨"EscapeRouterModel", "isRim", "(II)Z"⟩, 22)) 33 (by decide +kernel))⟩
theorem ml_M_123 : Cond.methodLink "EscapeRouterModel" 123 mi_M_joinTiles.1 ∈ er_tb ∧ Cond.instanceMethod mi_M_joinTiles.1 ∈ er_tb ∧ Cond.selects mi_M_joinTiles.1.cls mi_M_joinTiles.1 mi_M_joinTiles.1 ∈ er_tb := ⟨(er_t 737 (by decide +kernel) rfl), (er_t 739 (by decide +kernel) rfl), (er_p (q := (⟨"EscapeRouterModel", "joinTiles", "(IIII)V"⟩, 22)) 34 (by decide +kernel))⟩
theorem ml_M_127 : Cond.methodLink "EscapeRouterModel" 127 mi_M_reach.1 ∈ er_tb ∧ Cond.instanceMethod mi_M_reach.1 ∈ er_tb ∧ Cond.selects mi_M_reach.1.cls mi_M_reach.1 mi_M_reach.1 ∈ er_tb := ⟨(er_t 753 (by decide +kernel) rfl), (er_t 755 (by decide +kernel) rfl), (er_p (q := (⟨"EscapeRouterModel", "reach", "()V"⟩, 22)) 38 (by decide +kernel))⟩
theorem ml_M_130 : Cond.methodLink "EscapeRouterModel" 130 mi_M_augment.1 ∈ er_tb ∧ Cond.instanceMethod mi_M_augment.1 ∈ er_tb ∧ Cond.selects mi_M_augment.1.cls mi_M_augment.1 mi_M_augment.1 ∈ er_tb := ⟨(er_t 749 (by decide +kernel) rfl), (er_t 751 (by decide +kernel) rfl), (er_p (q := (⟨"EscapeRouterModel", "augment", "()I"⟩, 22)) 37 (by decide +kernel))⟩
theorem ml_M_133 : Cond.methodLink "EscapeRouterModel" 133 mi_M_openNone.1 ∈ er_tb ∧ Cond.instanceMethod mi_M_openNone.1 ∈ er_tb ∧ Cond.selects mi_M_openNone.1.cls mi_M_openNone.1 mi_M_openNone.1 ∈ er_tb := ⟨(er_t 713 (by decide +kernel) rfl), (er_t 715 (by decide +kernel) rfl), (er_p (q := (⟨"EscapeRouterModel", "openNone", "()V"⟩, 22)) 29 (by decide +kernel))⟩
theorem ml_M_136 : Cond.methodLink "EscapeRouterModel" 136 mi_M_lay.1 ∈ er_tb ∧ Cond.instanceMethod mi_M_lay.1 ∈ er_tb ∧ Cond.selects mi_M_lay.1.cls mi_M_lay.1 mi_M_lay.1 ∈ er_tb := ⟨(er_t 717 (by decide +kernel) rfl), (er_t 719 (by decide +kernel) rfl), (er_p (q := (⟨"EscapeRouterModel", "lay", "()V"⟩, 22)) 30 (by decide +kernel))⟩
theorem ml_M_139 : Cond.methodLink "EscapeRouterModel" 139 mi_M_layPin.1 ∈ er_tb ∧ Cond.instanceMethod mi_M_layPin.1 ∈ er_tb ∧ Cond.selects mi_M_layPin.1.cls mi_M_layPin.1 mi_M_layPin.1 ∈ er_tb := ⟨(er_t 741 (by decide +kernel) rfl), (er_t 743 (by decide +kernel) rfl), (er_p (q := (⟨"EscapeRouterModel", "layPin", "(II)V"⟩, 22)) 35 (by decide +kernel))⟩
theorem ml_M_143 : Cond.methodLink "EscapeRouterModel" 143 mi_M_augmentAll.1 ∈ er_tb ∧ Cond.instanceMethod mi_M_augmentAll.1 ∈ er_tb ∧ Cond.selects mi_M_augmentAll.1.cls mi_M_augmentAll.1 mi_M_augmentAll.1 ∈ er_tb := ⟨(er_t 745 (by decide +kernel) rfl), (er_t 747 (by decide +kernel) rfl), (er_p (q := (⟨"EscapeRouterModel", "augmentAll", "()I"⟩, 22)) 36 (by decide +kernel))⟩
theorem ml_M_146 : Cond.methodLink "EscapeRouterModel" 146 mi_M_escape.1 ∈ er_tb ∧ Cond.instanceMethod mi_M_escape.1 ∈ er_tb ∧ Cond.selects mi_M_escape.1.cls mi_M_escape.1 mi_M_escape.1 ∈ er_tb := ⟨(er_t 709 (by decide +kernel) rfl), (er_t 711 (by decide +kernel) rfl), (er_p (q := (⟨"EscapeRouterModel", "escape", "()I"⟩, 22)) 28 (by decide +kernel))⟩
theorem ml_M_149 : Cond.methodLink "EscapeRouterModel" 149 mi_M_isCut.1 ∈ er_tb ∧ Cond.instanceMethod mi_M_isCut.1 ∈ er_tb ∧ Cond.selects mi_M_isCut.1.cls mi_M_isCut.1 mi_M_isCut.1 ∈ er_tb := ⟨(er_t 765 (by decide +kernel) rfl), (er_t 767 (by decide +kernel) rfl), (er_p (q := (⟨"EscapeRouterModel", "isCut", "(II)I"⟩, 22)) 39 (by decide +kernel))⟩
theorem ml_M_152 : Cond.methodLink "EscapeRouterModel" 152 mi_M_ring.1 ∈ er_tb ∧ Cond.instanceMethod mi_M_ring.1 ∈ er_tb ∧ Cond.selects mi_M_ring.1.cls mi_M_ring.1 mi_M_ring.1 ∈ er_tb := ⟨(er_t 788 (by decide +kernel) rfl), (er_t 790 (by decide +kernel) rfl), (er_p (q := (⟨"EscapeRouterModel", "ring", "(I)I"⟩, 22)) 43 (by decide +kernel))⟩
theorem ml_M_159 : Cond.methodLink "EscapeRouterModel" 159 mi_M_rank.1 ∈ er_tb ∧ Cond.instanceMethod mi_M_rank.1 ∈ er_tb ∧ Cond.selects mi_M_rank.1.cls mi_M_rank.1 mi_M_rank.1 ∈ er_tb := ⟨(er_t 784 (by decide +kernel) rfl), (er_t 786 (by decide +kernel) rfl), (er_p (q := (⟨"EscapeRouterModel", "rank", "(II)I"⟩, 22)) 42 (by decide +kernel))⟩
theorem ml_M_162 : Cond.methodLink "EscapeRouterModel" 162 mi_M_cutBack.1 ∈ er_tb ∧ Cond.instanceMethod mi_M_cutBack.1 ∈ er_tb ∧ Cond.selects mi_M_cutBack.1.cls mi_M_cutBack.1 mi_M_cutBack.1 ∈ er_tb := ⟨(er_t 800 (by decide +kernel) rfl), (er_t 802 (by decide +kernel) rfl), (er_p (q := (⟨"EscapeRouterModel", "cutBack", "(I)V"⟩, 22)) 46 (by decide +kernel))⟩
theorem ml_M_165 : Cond.methodLink "EscapeRouterModel" 165 mi_M_sort.1 ∈ er_tb ∧ Cond.instanceMethod mi_M_sort.1 ∈ er_tb ∧ Cond.selects mi_M_sort.1.cls mi_M_sort.1 mi_M_sort.1 ∈ er_tb := ⟨(er_t 780 (by decide +kernel) rfl), (er_t 782 (by decide +kernel) rfl), (er_p (q := (⟨"EscapeRouterModel", "sort", "(I)V"⟩, 22)) 41 (by decide +kernel))⟩
theorem ml_M_168 : Cond.methodLink "EscapeRouterModel" 168 mi_M_isFirst.1 ∈ er_tb ∧ Cond.instanceMethod mi_M_isFirst.1 ∈ er_tb ∧ Cond.selects mi_M_isFirst.1.cls mi_M_isFirst.1 mi_M_isFirst.1 ∈ er_tb := ⟨(er_t 792 (by decide +kernel) rfl), (er_t 794 (by decide +kernel) rfl), (er_p (q := (⟨"EscapeRouterModel", "isFirst", "(II)Z"⟩, 22)) 44 (by decide +kernel))⟩
theorem ml_M_171 : Cond.methodLink "EscapeRouterModel" 171 mi_M_puts.1 ∈ er_tb ∧ Cond.instanceMethod mi_M_puts.1 ∈ er_tb ∧ Cond.selects mi_M_puts.1.cls mi_M_puts.1 mi_M_puts.1 ∈ er_tb := ⟨(er_t 796 (by decide +kernel) rfl), (er_t 798 (by decide +kernel) rfl), (er_p (q := (⟨"EscapeRouterModel", "puts", "(II)Z"⟩, 22)) 45 (by decide +kernel))⟩
theorem ml_M_174 : Cond.methodLink "EscapeRouterModel" 174 mi_M_isStrategy.1 ∈ er_tb ∧ Cond.static mi_M_isStrategy.1 ∈ er_tb := ⟨(er_t 773 (by decide +kernel) rfl), (er_t 774 (by decide +kernel) rfl)⟩
theorem ml_M_177 : Cond.methodLink "EscapeRouterModel" 177 mi_M_layering.1 ∈ er_tb ∧ Cond.instanceMethod mi_M_layering.1 ∈ er_tb ∧ Cond.selects mi_M_layering.1.cls mi_M_layering.1 mi_M_layering.1 ∈ er_tb := ⟨(er_t 776 (by decide +kernel) rfl), (er_t 778 (by decide +kernel) rfl), (er_p (q := (⟨"EscapeRouterModel", "layering", "(I)I"⟩, 22)) 40 (by decide +kernel))⟩
theorem ml_M_180 : Cond.methodLink "EscapeRouterModel" 180 mi_M_most.1 ∈ er_tb ∧ Cond.instanceMethod mi_M_most.1 ∈ er_tb ∧ Cond.selects mi_M_most.1.cls mi_M_most.1 mi_M_most.1 ∈ er_tb := ⟨(er_t 820 (by decide +kernel) rfl), (er_t 822 (by decide +kernel) rfl), (er_p (q := (⟨"EscapeRouterModel", "most", "()I"⟩, 22)) 47 (by decide +kernel))⟩
theorem kc_N_83 : Cond.constant "EscapeRouter$FlowNetwork" 83 (Int32.ofInt 1000000) ∈ er_tb := (er_t 384 (by decide +kernel) rfl)
theorem kc_R_164 : Cond.constant "EscapeRouter" 164 (Int32.ofInt 1000000) ∈ er_tb := (er_t 514 (by decide +kernel) rfl)
theorem kc_M_122 : Cond.constant "EscapeRouterModel" 122 (Int32.ofInt 100000) ∈ er_tb := (er_t 736 (by decide +kernel) rfl)
theorem ka_int : Cond.arrayClass .int ∈ er_tb := (er_t 65 (by decide +kernel) rfl)
theorem ka_boolean : Cond.arrayClass .boolean ∈ er_tb := (er_t 66 (by decide +kernel) rfl)
theorem ka_byte : Cond.arrayClass .byte ∈ er_tb := (er_t 601 (by decide +kernel) rfl)
theorem kn_L_7 : Cond.classLink "EscapeRouterLaw" 7 "EscapeRouter" ∈ er_tb ∧ Cond.instantiable "EscapeRouter" 10 ∈ er_tb ∧ Cond.initialized "EscapeRouter" ∈ er_tb := ⟨(er_t 10 (by decide +kernel) rfl), (er_t 11 (by decide +kernel) rfl), (er_t 1 (by decide +kernel) rfl)⟩
theorem kl_L_7 : Cond.classLink "EscapeRouterLaw" 7 "EscapeRouter" ∈ er_tb := (er_t 10 (by decide +kernel) rfl)
theorem kn_R_9 : Cond.classLink "EscapeRouter" 9 "EscapeRouter$Board" ∈ er_tb ∧ Cond.instantiable "EscapeRouter$Board" 7 ∈ er_tb ∧ Cond.initialized "EscapeRouter$Board" ∈ er_tb := ⟨(er_t 18 (by decide +kernel) rfl), (er_t 19 (by decide +kernel) rfl), (er_t 2 (by decide +kernel) rfl)⟩
theorem kl_R_9 : Cond.classLink "EscapeRouter" 9 "EscapeRouter$Board" ∈ er_tb := (er_t 18 (by decide +kernel) rfl)
theorem kn_R_16 : Cond.classLink "EscapeRouter" 16 "EscapeRouter$History" ∈ er_tb ∧ Cond.instantiable "EscapeRouter$History" 2 ∈ er_tb ∧ Cond.initialized "EscapeRouter$History" ∈ er_tb := ⟨(er_t 67 (by decide +kernel) rfl), (er_t 68 (by decide +kernel) rfl), (er_t 3 (by decide +kernel) rfl)⟩
theorem kl_R_16 : Cond.classLink "EscapeRouter" 16 "EscapeRouter$History" ∈ er_tb := (er_t 67 (by decide +kernel) rfl)
theorem kn_H_9 : Cond.classLink "EscapeRouter$History" 9 "EscapeRouter$Board" ∈ er_tb ∧ Cond.instantiable "EscapeRouter$Board" 7 ∈ er_tb ∧ Cond.initialized "EscapeRouter$Board" ∈ er_tb := ⟨(er_t 73 (by decide +kernel) rfl), (er_t 19 (by decide +kernel) rfl), (er_t 2 (by decide +kernel) rfl)⟩
theorem kl_H_9 : Cond.classLink "EscapeRouter$History" 9 "EscapeRouter$Board" ∈ er_tb := (er_t 73 (by decide +kernel) rfl)
theorem kn_R_23 : Cond.classLink "EscapeRouter" 23 "EscapeRouter$GridText" ∈ er_tb ∧ Cond.instantiable "EscapeRouter$GridText" 5 ∈ er_tb ∧ Cond.initialized "EscapeRouter$GridText" ∈ er_tb := ⟨(er_t 84 (by decide +kernel) rfl), (er_t 85 (by decide +kernel) rfl), (er_t 4 (by decide +kernel) rfl)⟩
theorem kl_R_23 : Cond.classLink "EscapeRouter" 23 "EscapeRouter$GridText" ∈ er_tb := (er_t 84 (by decide +kernel) rfl)
theorem kn_R_30 : Cond.classLink "EscapeRouter" 30 "EscapeRouter$FlowNetwork" ∈ er_tb ∧ Cond.instantiable "EscapeRouter$FlowNetwork" 11 ∈ er_tb ∧ Cond.initialized "EscapeRouter$FlowNetwork" ∈ er_tb := ⟨(er_t 110 (by decide +kernel) rfl), (er_t 111 (by decide +kernel) rfl), (er_t 5 (by decide +kernel) rfl)⟩
theorem kl_R_30 : Cond.classLink "EscapeRouter" 30 "EscapeRouter$FlowNetwork" ∈ er_tb := (er_t 110 (by decide +kernel) rfl)
theorem kn_R_40 : Cond.classLink "EscapeRouter" 40 "EscapeRouter$Layering" ∈ er_tb ∧ Cond.instantiable "EscapeRouter$Layering" 9 ∈ er_tb ∧ Cond.initialized "EscapeRouter$Layering" ∈ er_tb := ⟨(er_t 150 (by decide +kernel) rfl), (er_t 152 (by decide +kernel) rfl), (er_t 6 (by decide +kernel) rfl)⟩
theorem kl_R_40 : Cond.classLink "EscapeRouter" 40 "EscapeRouter$Layering" ∈ er_tb := (er_t 150 (by decide +kernel) rfl)
theorem kn_L_10 : Cond.classLink "EscapeRouterLaw" 10 "EscapeRouterModel" ∈ er_tb ∧ Cond.instantiable "EscapeRouterModel" 22 ∈ er_tb ∧ Cond.initialized "EscapeRouterModel" ∈ er_tb := ⟨(er_t 528 (by decide +kernel) rfl), (er_t 529 (by decide +kernel) rfl), (er_t 7 (by decide +kernel) rfl)⟩
theorem kl_L_10 : Cond.classLink "EscapeRouterLaw" 10 "EscapeRouterModel" ∈ er_tb := (er_t 528 (by decide +kernel) rfl)
end
section
/-! decode rows: printed by wip/whole/gen07.py -/
theorem d_R_init_0 : decode mi_R_init.2.1 0 = .ok (.aload_n 0, 1) := by decide +kernel
theorem d_R_init_1 : decode mi_R_init.2.1 1 = .ok (.invokespecial 3, 3) := by decide +kernel
theorem d_R_init_4 : decode mi_R_init.2.1 4 = .ok (.aload_n 0, 1) := by decide +kernel
theorem d_R_init_5 : decode mi_R_init.2.1 5 = .ok (.new 9, 3) := by decide +kernel
theorem d_R_init_8 : decode mi_R_init.2.1 8 = .ok (.dup, 1) := by decide +kernel
theorem d_R_init_9 : decode mi_R_init.2.1 9 = .ok (.invokespecial 11, 3) := by decide +kernel
theorem d_R_init_12 : decode mi_R_init.2.1 12 = .ok (.putfield 12, 3) := by decide +kernel
theorem d_R_init_15 : decode mi_R_init.2.1 15 = .ok (.aload_n 0, 1) := by decide +kernel
theorem d_R_init_16 : decode mi_R_init.2.1 16 = .ok (.new 16, 3) := by decide +kernel
theorem d_R_init_19 : decode mi_R_init.2.1 19 = .ok (.dup, 1) := by decide +kernel
theorem d_R_init_20 : decode mi_R_init.2.1 20 = .ok (.invokespecial 18, 3) := by decide +kernel
theorem d_R_init_23 : decode mi_R_init.2.1 23 = .ok (.putfield 19, 3) := by decide +kernel
theorem d_R_init_26 : decode mi_R_init.2.1 26 = .ok (.aload_n 0, 1) := by decide +kernel
theorem d_R_init_27 : decode mi_R_init.2.1 27 = .ok (.new 23, 3) := by decide +kernel
theorem d_R_init_30 : decode mi_R_init.2.1 30 = .ok (.dup, 1) := by decide +kernel
theorem d_R_init_31 : decode mi_R_init.2.1 31 = .ok (.invokespecial 25, 3) := by decide +kernel
theorem d_R_init_34 : decode mi_R_init.2.1 34 = .ok (.putfield 26, 3) := by decide +kernel
theorem d_R_init_37 : decode mi_R_init.2.1 37 = .ok (.aload_n 0, 1) := by decide +kernel
theorem d_R_init_38 : decode mi_R_init.2.1 38 = .ok (.new 30, 3) := by decide +kernel
theorem d_R_init_41 : decode mi_R_init.2.1 41 = .ok (.dup, 1) := by decide +kernel
theorem d_R_init_42 : decode mi_R_init.2.1 42 = .ok (.invokespecial 32, 3) := by decide +kernel
theorem d_R_init_45 : decode mi_R_init.2.1 45 = .ok (.putfield 33, 3) := by decide +kernel
theorem d_R_init_48 : decode mi_R_init.2.1 48 = .ok (.aload_n 0, 1) := by decide +kernel
theorem d_R_init_49 : decode mi_R_init.2.1 49 = .ok (.new 30, 3) := by decide +kernel
theorem d_R_init_52 : decode mi_R_init.2.1 52 = .ok (.dup, 1) := by decide +kernel
theorem d_R_init_53 : decode mi_R_init.2.1 53 = .ok (.invokespecial 32, 3) := by decide +kernel
theorem d_R_init_56 : decode mi_R_init.2.1 56 = .ok (.putfield 37, 3) := by decide +kernel
theorem d_R_init_59 : decode mi_R_init.2.1 59 = .ok (.aload_n 0, 1) := by decide +kernel
theorem d_R_init_60 : decode mi_R_init.2.1 60 = .ok (.iconst 4, 1) := by decide +kernel
theorem d_R_init_61 : decode mi_R_init.2.1 61 = .ok (.anewarray 40, 3) := by decide +kernel
theorem d_R_init_64 : decode mi_R_init.2.1 64 = .ok (.putfield 42, 3) := by decide +kernel
theorem d_R_init_67 : decode mi_R_init.2.1 67 = .ok (.iconst 0, 1) := by decide +kernel
theorem d_R_init_68 : decode mi_R_init.2.1 68 = .ok (.istore_n 1, 1) := by decide +kernel
theorem d_R_init_69 : decode mi_R_init.2.1 69 = .ok (.iload_n 1, 1) := by decide +kernel
theorem d_R_init_70 : decode mi_R_init.2.1 70 = .ok (.iconst 4, 1) := by decide +kernel
theorem d_R_init_71 : decode mi_R_init.2.1 71 = .ok (.if_icmp .ge 23, 3) := by decide +kernel
theorem d_R_init_74 : decode mi_R_init.2.1 74 = .ok (.aload_n 0, 1) := by decide +kernel
theorem d_R_init_75 : decode mi_R_init.2.1 75 = .ok (.getfield 42, 3) := by decide +kernel
theorem d_R_init_78 : decode mi_R_init.2.1 78 = .ok (.iload_n 1, 1) := by decide +kernel
theorem d_R_init_79 : decode mi_R_init.2.1 79 = .ok (.new 40, 3) := by decide +kernel
theorem d_R_init_82 : decode mi_R_init.2.1 82 = .ok (.dup, 1) := by decide +kernel
theorem d_R_init_83 : decode mi_R_init.2.1 83 = .ok (.iload_n 1, 1) := by decide +kernel
theorem d_R_init_84 : decode mi_R_init.2.1 84 = .ok (.invokespecial 46, 3) := by decide +kernel
theorem d_R_init_87 : decode mi_R_init.2.1 87 = .ok (.aastore, 1) := by decide +kernel
theorem d_R_init_88 : decode mi_R_init.2.1 88 = .ok (.iinc 1 1, 3) := by decide +kernel
theorem d_R_init_91 : decode mi_R_init.2.1 91 = .ok (.goto (-22), 3) := by decide +kernel
theorem d_R_init_94 : decode mi_R_init.2.1 94 = .ok (.aload_n 0, 1) := by decide +kernel
theorem d_R_init_95 : decode mi_R_init.2.1 95 = .ok (.bipush 36, 2) := by decide +kernel
theorem d_R_init_97 : decode mi_R_init.2.1 97 = .ok (.newarray .boolean, 2) := by decide +kernel
theorem d_R_init_99 : decode mi_R_init.2.1 99 = .ok (.putfield 49, 3) := by decide +kernel
theorem d_R_init_102 : decode mi_R_init.2.1 102 = .ok (.aload_n 0, 1) := by decide +kernel
theorem d_R_init_103 : decode mi_R_init.2.1 103 = .ok (.iconst 0, 1) := by decide +kernel
theorem d_R_init_104 : decode mi_R_init.2.1 104 = .ok (.putfield 53, 3) := by decide +kernel
theorem d_R_init_107 : decode mi_R_init.2.1 107 = .ok (.aload_n 0, 1) := by decide +kernel
theorem d_R_init_108 : decode mi_R_init.2.1 108 = .ok (.iconst 0, 1) := by decide +kernel
theorem d_R_init_109 : decode mi_R_init.2.1 109 = .ok (.putfield 57, 3) := by decide +kernel
theorem d_R_init_112 : decode mi_R_init.2.1 112 = .ok (.aload_n 0, 1) := by decide +kernel
theorem d_R_init_113 : decode mi_R_init.2.1 113 = .ok (.bipush (-9), 2) := by decide +kernel
theorem d_R_init_115 : decode mi_R_init.2.1 115 = .ok (.putfield 61, 3) := by decide +kernel
theorem d_R_init_118 : decode mi_R_init.2.1 118 = .ok (.return_, 1) := by decide +kernel
theorem d_R_appendCharacter_0 : decode mi_R_appendCharacter.2.1 0 = .ok (.iload_n 1, 1) := by decide +kernel
theorem d_R_appendCharacter_1 : decode mi_R_appendCharacter.2.1 1 = .ok (.ifCond .lt 10, 3) := by decide +kernel
theorem d_R_appendCharacter_4 : decode mi_R_appendCharacter.2.1 4 = .ok (.iload_n 1, 1) := by decide +kernel
theorem d_R_appendCharacter_5 : decode mi_R_appendCharacter.2.1 5 = .ok (.sipush 255, 3) := by decide +kernel
theorem d_R_appendCharacter_8 : decode mi_R_appendCharacter.2.1 8 = .ok (.if_icmp .le 5, 3) := by decide +kernel
theorem d_R_appendCharacter_11 : decode mi_R_appendCharacter.2.1 11 = .ok (.iconst (-1), 1) := by decide +kernel
theorem d_R_appendCharacter_12 : decode mi_R_appendCharacter.2.1 12 = .ok (.ireturn, 1) := by decide +kernel
theorem d_R_appendCharacter_13 : decode mi_R_appendCharacter.2.1 13 = .ok (.aload_n 0, 1) := by decide +kernel
theorem d_R_appendCharacter_14 : decode mi_R_appendCharacter.2.1 14 = .ok (.getfield 26, 3) := by decide +kernel
theorem d_R_appendCharacter_17 : decode mi_R_appendCharacter.2.1 17 = .ok (.iload_n 1, 1) := by decide +kernel
theorem d_R_appendCharacter_18 : decode mi_R_appendCharacter.2.1 18 = .ok (.invokevirtual 64, 3) := by decide +kernel
theorem d_R_appendCharacter_21 : decode mi_R_appendCharacter.2.1 21 = .ok (.ifCond .eq 13, 3) := by decide +kernel
theorem d_R_appendCharacter_24 : decode mi_R_appendCharacter.2.1 24 = .ok (.aload_n 0, 1) := by decide +kernel
theorem d_R_appendCharacter_25 : decode mi_R_appendCharacter.2.1 25 = .ok (.getfield 26, 3) := by decide +kernel
theorem d_R_appendCharacter_28 : decode mi_R_appendCharacter.2.1 28 = .ok (.getfield 68, 3) := by decide +kernel
theorem d_R_appendCharacter_31 : decode mi_R_appendCharacter.2.1 31 = .ok (.goto 5, 3) := by decide +kernel
theorem d_R_appendCharacter_34 : decode mi_R_appendCharacter.2.1 34 = .ok (.bipush (-3), 2) := by decide +kernel
theorem d_R_appendCharacter_36 : decode mi_R_appendCharacter.2.1 36 = .ok (.ireturn, 1) := by decide +kernel
theorem d_R_clearText_0 : decode mi_R_clearText.2.1 0 = .ok (.aload_n 0, 1) := by decide +kernel
theorem d_R_clearText_1 : decode mi_R_clearText.2.1 1 = .ok (.getfield 26, 3) := by decide +kernel
theorem d_R_clearText_4 : decode mi_R_clearText.2.1 4 = .ok (.getfield 68, 3) := by decide +kernel
theorem d_R_clearText_7 : decode mi_R_clearText.2.1 7 = .ok (.istore_n 1, 1) := by decide +kernel
theorem d_R_clearText_8 : decode mi_R_clearText.2.1 8 = .ok (.aload_n 0, 1) := by decide +kernel
theorem d_R_clearText_9 : decode mi_R_clearText.2.1 9 = .ok (.getfield 26, 3) := by decide +kernel
theorem d_R_clearText_12 : decode mi_R_clearText.2.1 12 = .ok (.iconst 0, 1) := by decide +kernel
theorem d_R_clearText_13 : decode mi_R_clearText.2.1 13 = .ok (.putfield 68, 3) := by decide +kernel
theorem d_R_clearText_16 : decode mi_R_clearText.2.1 16 = .ok (.iload_n 1, 1) := by decide +kernel
theorem d_R_clearText_17 : decode mi_R_clearText.2.1 17 = .ok (.ireturn, 1) := by decide +kernel
theorem d_R_loadGrid_0 : decode mi_R_loadGrid.2.1 0 = .ok (.aload_n 0, 1) := by decide +kernel
theorem d_R_loadGrid_1 : decode mi_R_loadGrid.2.1 1 = .ok (.getfield 26, 3) := by decide +kernel
theorem d_R_loadGrid_4 : decode mi_R_loadGrid.2.1 4 = .ok (.invokevirtual 71, 3) := by decide +kernel
theorem d_R_loadGrid_7 : decode mi_R_loadGrid.2.1 7 = .ok (.istore_n 1, 1) := by decide +kernel
theorem d_R_loadGrid_8 : decode mi_R_loadGrid.2.1 8 = .ok (.iload_n 1, 1) := by decide +kernel
theorem d_R_loadGrid_9 : decode mi_R_loadGrid.2.1 9 = .ok (.iconst (-1), 1) := by decide +kernel
theorem d_R_loadGrid_10 : decode mi_R_loadGrid.2.1 10 = .ok (.if_icmp .eq 8, 3) := by decide +kernel
theorem d_R_loadGrid_13 : decode mi_R_loadGrid.2.1 13 = .ok (.bipush (-10), 2) := by decide +kernel
theorem d_R_loadGrid_15 : decode mi_R_loadGrid.2.1 15 = .ok (.iload_n 1, 1) := by decide +kernel
theorem d_R_loadGrid_16 : decode mi_R_loadGrid.2.1 16 = .ok (.isub, 1) := by decide +kernel
theorem d_R_loadGrid_17 : decode mi_R_loadGrid.2.1 17 = .ok (.ireturn, 1) := by decide +kernel
theorem d_R_loadGrid_18 : decode mi_R_loadGrid.2.1 18 = .ok (.aload_n 0, 1) := by decide +kernel
theorem d_R_loadGrid_19 : decode mi_R_loadGrid.2.1 19 = .ok (.invokevirtual 75, 3) := by decide +kernel
theorem d_R_loadGrid_22 : decode mi_R_loadGrid.2.1 22 = .ok (.aload_n 0, 1) := by decide +kernel
theorem d_R_loadGrid_23 : decode mi_R_loadGrid.2.1 23 = .ok (.getfield 12, 3) := by decide +kernel
theorem d_R_loadGrid_26 : decode mi_R_loadGrid.2.1 26 = .ok (.aload_n 0, 1) := by decide +kernel
theorem d_R_loadGrid_27 : decode mi_R_loadGrid.2.1 27 = .ok (.getfield 26, 3) := by decide +kernel
theorem d_R_loadGrid_30 : decode mi_R_loadGrid.2.1 30 = .ok (.invokevirtual 78, 3) := by decide +kernel
theorem d_R_loadGrid_33 : decode mi_R_loadGrid.2.1 33 = .ok (.aload_n 0, 1) := by decide +kernel
theorem d_R_loadGrid_34 : decode mi_R_loadGrid.2.1 34 = .ok (.getfield 26, 3) := by decide +kernel
theorem d_R_loadGrid_37 : decode mi_R_loadGrid.2.1 37 = .ok (.iconst 0, 1) := by decide +kernel
theorem d_R_loadGrid_38 : decode mi_R_loadGrid.2.1 38 = .ok (.putfield 68, 3) := by decide +kernel
theorem d_R_loadGrid_41 : decode mi_R_loadGrid.2.1 41 = .ok (.aload_n 0, 1) := by decide +kernel
theorem d_R_loadGrid_42 : decode mi_R_loadGrid.2.1 42 = .ok (.getfield 12, 3) := by decide +kernel
theorem d_R_loadGrid_45 : decode mi_R_loadGrid.2.1 45 = .ok (.invokevirtual 82, 3) := by decide +kernel
theorem d_R_loadGrid_48 : decode mi_R_loadGrid.2.1 48 = .ok (.ireturn, 1) := by decide +kernel
theorem d_R_setKind_0 : decode mi_R_setKind.2.1 0 = .ok (.aload_n 0, 1) := by decide +kernel
theorem d_R_setKind_1 : decode mi_R_setKind.2.1 1 = .ok (.getfield 12, 3) := by decide +kernel
theorem d_R_setKind_4 : decode mi_R_setKind.2.1 4 = .ok (.iload_n 1, 1) := by decide +kernel
theorem d_R_setKind_5 : decode mi_R_setKind.2.1 5 = .ok (.iload_n 2, 1) := by decide +kernel
theorem d_R_setKind_6 : decode mi_R_setKind.2.1 6 = .ok (.invokevirtual 85, 3) := by decide +kernel
theorem d_R_setKind_9 : decode mi_R_setKind.2.1 9 = .ok (.ifCond .eq 12, 3) := by decide +kernel
theorem d_R_setKind_12 : decode mi_R_setKind.2.1 12 = .ok (.iload_n 3, 1) := by decide +kernel
theorem d_R_setKind_13 : decode mi_R_setKind.2.1 13 = .ok (.ifCond .lt 8, 3) := by decide +kernel
theorem d_R_setKind_16 : decode mi_R_setKind.2.1 16 = .ok (.iload_n 3, 1) := by decide +kernel
theorem d_R_setKind_17 : decode mi_R_setKind.2.1 17 = .ok (.iconst 2, 1) := by decide +kernel
theorem d_R_setKind_18 : decode mi_R_setKind.2.1 18 = .ok (.if_icmp .le 5, 3) := by decide +kernel
theorem d_R_setKind_21 : decode mi_R_setKind.2.1 21 = .ok (.iconst (-1), 1) := by decide +kernel
theorem d_R_setKind_22 : decode mi_R_setKind.2.1 22 = .ok (.ireturn, 1) := by decide +kernel
theorem d_R_setKind_23 : decode mi_R_setKind.2.1 23 = .ok (.iload_n 1, 1) := by decide +kernel
theorem d_R_setKind_24 : decode mi_R_setKind.2.1 24 = .ok (.iload_n 2, 1) := by decide +kernel
theorem d_R_setKind_25 : decode mi_R_setKind.2.1 25 = .ok (.invokestatic 89, 3) := by decide +kernel
theorem d_R_setKind_28 : decode mi_R_setKind.2.1 28 = .ok (.istore 4, 2) := by decide +kernel
theorem d_R_setKind_30 : decode mi_R_setKind.2.1 30 = .ok (.aload_n 0, 1) := by decide +kernel
theorem d_R_setKind_31 : decode mi_R_setKind.2.1 31 = .ok (.getfield 12, 3) := by decide +kernel
theorem d_R_setKind_34 : decode mi_R_setKind.2.1 34 = .ok (.getfield 93, 3) := by decide +kernel
theorem d_R_setKind_37 : decode mi_R_setKind.2.1 37 = .ok (.iload 4, 2) := by decide +kernel
theorem d_R_setKind_39 : decode mi_R_setKind.2.1 39 = .ok (.iaload, 1) := by decide +kernel
theorem d_R_setKind_40 : decode mi_R_setKind.2.1 40 = .ok (.istore 5, 2) := by decide +kernel
theorem d_R_setKind_42 : decode mi_R_setKind.2.1 42 = .ok (.iload 5, 2) := by decide +kernel
theorem d_R_setKind_44 : decode mi_R_setKind.2.1 44 = .ok (.iload_n 3, 1) := by decide +kernel
theorem d_R_setKind_45 : decode mi_R_setKind.2.1 45 = .ok (.if_icmp .ne 6, 3) := by decide +kernel
theorem d_R_setKind_48 : decode mi_R_setKind.2.1 48 = .ok (.bipush (-2), 2) := by decide +kernel
theorem d_R_setKind_50 : decode mi_R_setKind.2.1 50 = .ok (.ireturn, 1) := by decide +kernel
theorem d_R_setKind_51 : decode mi_R_setKind.2.1 51 = .ok (.aload_n 0, 1) := by decide +kernel
theorem d_R_setKind_52 : decode mi_R_setKind.2.1 52 = .ok (.invokevirtual 75, 3) := by decide +kernel
theorem d_R_setKind_55 : decode mi_R_setKind.2.1 55 = .ok (.aload_n 0, 1) := by decide +kernel
theorem d_R_setKind_56 : decode mi_R_setKind.2.1 56 = .ok (.getfield 12, 3) := by decide +kernel
theorem d_R_setKind_59 : decode mi_R_setKind.2.1 59 = .ok (.iload 4, 2) := by decide +kernel
theorem d_R_setKind_61 : decode mi_R_setKind.2.1 61 = .ok (.invokevirtual 97, 3) := by decide +kernel
theorem d_R_setKind_64 : decode mi_R_setKind.2.1 64 = .ok (.aload_n 0, 1) := by decide +kernel
theorem d_R_setKind_65 : decode mi_R_setKind.2.1 65 = .ok (.getfield 12, 3) := by decide +kernel
theorem d_R_setKind_68 : decode mi_R_setKind.2.1 68 = .ok (.getfield 100, 3) := by decide +kernel
theorem d_R_setKind_71 : decode mi_R_setKind.2.1 71 = .ok (.iload 4, 2) := by decide +kernel
theorem d_R_setKind_73 : decode mi_R_setKind.2.1 73 = .ok (.iconst 0, 1) := by decide +kernel
theorem d_R_setKind_74 : decode mi_R_setKind.2.1 74 = .ok (.bastore, 1) := by decide +kernel
theorem d_R_setKind_75 : decode mi_R_setKind.2.1 75 = .ok (.aload_n 0, 1) := by decide +kernel
theorem d_R_setKind_76 : decode mi_R_setKind.2.1 76 = .ok (.getfield 12, 3) := by decide +kernel
theorem d_R_setKind_79 : decode mi_R_setKind.2.1 79 = .ok (.getfield 93, 3) := by decide +kernel
theorem d_R_setKind_82 : decode mi_R_setKind.2.1 82 = .ok (.iload 4, 2) := by decide +kernel
theorem d_R_setKind_84 : decode mi_R_setKind.2.1 84 = .ok (.iload_n 3, 1) := by decide +kernel
theorem d_R_setKind_85 : decode mi_R_setKind.2.1 85 = .ok (.iastore, 1) := by decide +kernel
theorem d_R_setKind_86 : decode mi_R_setKind.2.1 86 = .ok (.iload 5, 2) := by decide +kernel
theorem d_R_setKind_88 : decode mi_R_setKind.2.1 88 = .ok (.ireturn, 1) := by decide +kernel
theorem d_R_setChannelCapacity_0 : decode mi_R_setChannelCapacity.2.1 0 = .ok (.iload_n 1, 1) := by decide +kernel
theorem d_R_setChannelCapacity_1 : decode mi_R_setChannelCapacity.2.1 1 = .ok (.ifCond .lt 8, 3) := by decide +kernel
theorem d_R_setChannelCapacity_4 : decode mi_R_setChannelCapacity.2.1 4 = .ok (.iload_n 1, 1) := by decide +kernel
theorem d_R_setChannelCapacity_5 : decode mi_R_setChannelCapacity.2.1 5 = .ok (.iconst 5, 1) := by decide +kernel
theorem d_R_setChannelCapacity_6 : decode mi_R_setChannelCapacity.2.1 6 = .ok (.if_icmp .le 5, 3) := by decide +kernel
theorem d_R_setChannelCapacity_9 : decode mi_R_setChannelCapacity.2.1 9 = .ok (.iconst (-1), 1) := by decide +kernel
theorem d_R_setChannelCapacity_10 : decode mi_R_setChannelCapacity.2.1 10 = .ok (.ireturn, 1) := by decide +kernel
theorem d_R_setChannelCapacity_11 : decode mi_R_setChannelCapacity.2.1 11 = .ok (.aload_n 0, 1) := by decide +kernel
theorem d_R_setChannelCapacity_12 : decode mi_R_setChannelCapacity.2.1 12 = .ok (.invokevirtual 75, 3) := by decide +kernel
theorem d_R_setChannelCapacity_15 : decode mi_R_setChannelCapacity.2.1 15 = .ok (.aload_n 0, 1) := by decide +kernel
theorem d_R_setChannelCapacity_16 : decode mi_R_setChannelCapacity.2.1 16 = .ok (.getfield 12, 3) := by decide +kernel
theorem d_R_setChannelCapacity_19 : decode mi_R_setChannelCapacity.2.1 19 = .ok (.getfield 103, 3) := by decide +kernel
theorem d_R_setChannelCapacity_22 : decode mi_R_setChannelCapacity.2.1 22 = .ok (.istore_n 2, 1) := by decide +kernel
theorem d_R_setChannelCapacity_23 : decode mi_R_setChannelCapacity.2.1 23 = .ok (.aload_n 0, 1) := by decide +kernel
theorem d_R_setChannelCapacity_24 : decode mi_R_setChannelCapacity.2.1 24 = .ok (.getfield 12, 3) := by decide +kernel
theorem d_R_setChannelCapacity_27 : decode mi_R_setChannelCapacity.2.1 27 = .ok (.iload_n 1, 1) := by decide +kernel
theorem d_R_setChannelCapacity_28 : decode mi_R_setChannelCapacity.2.1 28 = .ok (.putfield 103, 3) := by decide +kernel
theorem d_R_setChannelCapacity_31 : decode mi_R_setChannelCapacity.2.1 31 = .ok (.iload_n 2, 1) := by decide +kernel
theorem d_R_setChannelCapacity_32 : decode mi_R_setChannelCapacity.2.1 32 = .ok (.ireturn, 1) := by decide +kernel
theorem d_R_setTileCapacity_0 : decode mi_R_setTileCapacity.2.1 0 = .ok (.iload_n 1, 1) := by decide +kernel
theorem d_R_setTileCapacity_1 : decode mi_R_setTileCapacity.2.1 1 = .ok (.ifCond .lt 9, 3) := by decide +kernel
theorem d_R_setTileCapacity_4 : decode mi_R_setTileCapacity.2.1 4 = .ok (.iload_n 1, 1) := by decide +kernel
theorem d_R_setTileCapacity_5 : decode mi_R_setTileCapacity.2.1 5 = .ok (.bipush 9, 2) := by decide +kernel
theorem d_R_setTileCapacity_7 : decode mi_R_setTileCapacity.2.1 7 = .ok (.if_icmp .le 5, 3) := by decide +kernel
theorem d_R_setTileCapacity_10 : decode mi_R_setTileCapacity.2.1 10 = .ok (.iconst (-1), 1) := by decide +kernel
theorem d_R_setTileCapacity_11 : decode mi_R_setTileCapacity.2.1 11 = .ok (.ireturn, 1) := by decide +kernel
theorem d_R_setTileCapacity_12 : decode mi_R_setTileCapacity.2.1 12 = .ok (.aload_n 0, 1) := by decide +kernel
theorem d_R_setTileCapacity_13 : decode mi_R_setTileCapacity.2.1 13 = .ok (.invokevirtual 75, 3) := by decide +kernel
theorem d_R_setTileCapacity_16 : decode mi_R_setTileCapacity.2.1 16 = .ok (.aload_n 0, 1) := by decide +kernel
theorem d_R_setTileCapacity_17 : decode mi_R_setTileCapacity.2.1 17 = .ok (.getfield 12, 3) := by decide +kernel
theorem d_R_setTileCapacity_20 : decode mi_R_setTileCapacity.2.1 20 = .ok (.getfield 106, 3) := by decide +kernel
theorem d_R_setTileCapacity_23 : decode mi_R_setTileCapacity.2.1 23 = .ok (.istore_n 2, 1) := by decide +kernel
theorem d_R_setTileCapacity_24 : decode mi_R_setTileCapacity.2.1 24 = .ok (.aload_n 0, 1) := by decide +kernel
theorem d_R_setTileCapacity_25 : decode mi_R_setTileCapacity.2.1 25 = .ok (.getfield 12, 3) := by decide +kernel
theorem d_R_setTileCapacity_28 : decode mi_R_setTileCapacity.2.1 28 = .ok (.iload_n 1, 1) := by decide +kernel
theorem d_R_setTileCapacity_29 : decode mi_R_setTileCapacity.2.1 29 = .ok (.putfield 106, 3) := by decide +kernel
theorem d_R_setTileCapacity_32 : decode mi_R_setTileCapacity.2.1 32 = .ok (.iload_n 2, 1) := by decide +kernel
theorem d_R_setTileCapacity_33 : decode mi_R_setTileCapacity.2.1 33 = .ok (.ireturn, 1) := by decide +kernel
theorem d_R_rows_0 : decode mi_R_rows.2.1 0 = .ok (.aload_n 0, 1) := by decide +kernel
theorem d_R_rows_1 : decode mi_R_rows.2.1 1 = .ok (.getfield 12, 3) := by decide +kernel
theorem d_R_rows_4 : decode mi_R_rows.2.1 4 = .ok (.getfield 109, 3) := by decide +kernel
theorem d_R_rows_7 : decode mi_R_rows.2.1 7 = .ok (.ireturn, 1) := by decide +kernel
theorem d_R_columns_0 : decode mi_R_columns.2.1 0 = .ok (.aload_n 0, 1) := by decide +kernel
theorem d_R_columns_1 : decode mi_R_columns.2.1 1 = .ok (.getfield 12, 3) := by decide +kernel
theorem d_R_columns_4 : decode mi_R_columns.2.1 4 = .ok (.getfield 112, 3) := by decide +kernel
theorem d_R_columns_7 : decode mi_R_columns.2.1 7 = .ok (.ireturn, 1) := by decide +kernel
theorem d_R_kindAt_0 : decode mi_R_kindAt.2.1 0 = .ok (.aload_n 0, 1) := by decide +kernel
theorem d_R_kindAt_1 : decode mi_R_kindAt.2.1 1 = .ok (.getfield 12, 3) := by decide +kernel
theorem d_R_kindAt_4 : decode mi_R_kindAt.2.1 4 = .ok (.iload_n 1, 1) := by decide +kernel
theorem d_R_kindAt_5 : decode mi_R_kindAt.2.1 5 = .ok (.iload_n 2, 1) := by decide +kernel
theorem d_R_kindAt_6 : decode mi_R_kindAt.2.1 6 = .ok (.invokevirtual 85, 3) := by decide +kernel
theorem d_R_kindAt_9 : decode mi_R_kindAt.2.1 9 = .ok (.ifCond .eq 19, 3) := by decide +kernel
theorem d_R_kindAt_12 : decode mi_R_kindAt.2.1 12 = .ok (.aload_n 0, 1) := by decide +kernel
theorem d_R_kindAt_13 : decode mi_R_kindAt.2.1 13 = .ok (.getfield 12, 3) := by decide +kernel
theorem d_R_kindAt_16 : decode mi_R_kindAt.2.1 16 = .ok (.getfield 93, 3) := by decide +kernel
theorem d_R_kindAt_19 : decode mi_R_kindAt.2.1 19 = .ok (.iload_n 1, 1) := by decide +kernel
theorem d_R_kindAt_20 : decode mi_R_kindAt.2.1 20 = .ok (.iload_n 2, 1) := by decide +kernel
theorem d_R_kindAt_21 : decode mi_R_kindAt.2.1 21 = .ok (.invokestatic 89, 3) := by decide +kernel
theorem d_R_kindAt_24 : decode mi_R_kindAt.2.1 24 = .ok (.iaload, 1) := by decide +kernel
theorem d_R_kindAt_25 : decode mi_R_kindAt.2.1 25 = .ok (.goto 4, 3) := by decide +kernel
theorem d_R_kindAt_28 : decode mi_R_kindAt.2.1 28 = .ok (.iconst (-1), 1) := by decide +kernel
theorem d_R_kindAt_29 : decode mi_R_kindAt.2.1 29 = .ok (.ireturn, 1) := by decide +kernel
theorem d_R_signalCount_0 : decode mi_R_signalCount.2.1 0 = .ok (.aload_n 0, 1) := by decide +kernel
theorem d_R_signalCount_1 : decode mi_R_signalCount.2.1 1 = .ok (.getfield 12, 3) := by decide +kernel
theorem d_R_signalCount_4 : decode mi_R_signalCount.2.1 4 = .ok (.invokevirtual 82, 3) := by decide +kernel
theorem d_R_signalCount_7 : decode mi_R_signalCount.2.1 7 = .ok (.ireturn, 1) := by decide +kernel
theorem d_R_makePair_0 : decode mi_R_makePair.2.1 0 = .ok (.aload_n 0, 1) := by decide +kernel
theorem d_R_makePair_1 : decode mi_R_makePair.2.1 1 = .ok (.getfield 12, 3) := by decide +kernel
theorem d_R_makePair_4 : decode mi_R_makePair.2.1 4 = .ok (.iload_n 1, 1) := by decide +kernel
theorem d_R_makePair_5 : decode mi_R_makePair.2.1 5 = .ok (.iload_n 2, 1) := by decide +kernel
theorem d_R_makePair_6 : decode mi_R_makePair.2.1 6 = .ok (.invokevirtual 85, 3) := by decide +kernel
theorem d_R_makePair_9 : decode mi_R_makePair.2.1 9 = .ok (.ifCond .eq 16, 3) := by decide +kernel
theorem d_R_makePair_12 : decode mi_R_makePair.2.1 12 = .ok (.aload_n 0, 1) := by decide +kernel
theorem d_R_makePair_13 : decode mi_R_makePair.2.1 13 = .ok (.getfield 12, 3) := by decide +kernel
theorem d_R_makePair_16 : decode mi_R_makePair.2.1 16 = .ok (.iload_n 3, 1) := by decide +kernel
theorem d_R_makePair_17 : decode mi_R_makePair.2.1 17 = .ok (.iload 4, 2) := by decide +kernel
theorem d_R_makePair_19 : decode mi_R_makePair.2.1 19 = .ok (.invokevirtual 85, 3) := by decide +kernel
theorem d_R_makePair_22 : decode mi_R_makePair.2.1 22 = .ok (.ifCond .ne 5, 3) := by decide +kernel
theorem d_R_makePair_25 : decode mi_R_makePair.2.1 25 = .ok (.iconst (-1), 1) := by decide +kernel
theorem d_R_makePair_26 : decode mi_R_makePair.2.1 26 = .ok (.ireturn, 1) := by decide +kernel
theorem d_R_makePair_27 : decode mi_R_makePair.2.1 27 = .ok (.iload_n 1, 1) := by decide +kernel
theorem d_R_makePair_28 : decode mi_R_makePair.2.1 28 = .ok (.iload_n 3, 1) := by decide +kernel
theorem d_R_makePair_29 : decode mi_R_makePair.2.1 29 = .ok (.isub, 1) := by decide +kernel
theorem d_R_makePair_30 : decode mi_R_makePair.2.1 30 = .ok (.invokestatic 115, 3) := by decide +kernel
theorem d_R_makePair_33 : decode mi_R_makePair.2.1 33 = .ok (.iload_n 2, 1) := by decide +kernel
theorem d_R_makePair_34 : decode mi_R_makePair.2.1 34 = .ok (.iload 4, 2) := by decide +kernel
theorem d_R_makePair_36 : decode mi_R_makePair.2.1 36 = .ok (.isub, 1) := by decide +kernel
theorem d_R_makePair_37 : decode mi_R_makePair.2.1 37 = .ok (.invokestatic 115, 3) := by decide +kernel
theorem d_R_makePair_40 : decode mi_R_makePair.2.1 40 = .ok (.iadd, 1) := by decide +kernel
theorem d_R_makePair_41 : decode mi_R_makePair.2.1 41 = .ok (.iconst 1, 1) := by decide +kernel
theorem d_R_makePair_42 : decode mi_R_makePair.2.1 42 = .ok (.if_icmp .eq 5, 3) := by decide +kernel
theorem d_R_makePair_45 : decode mi_R_makePair.2.1 45 = .ok (.iconst (-1), 1) := by decide +kernel
theorem d_R_makePair_46 : decode mi_R_makePair.2.1 46 = .ok (.ireturn, 1) := by decide +kernel
theorem d_R_makePair_47 : decode mi_R_makePair.2.1 47 = .ok (.iload_n 1, 1) := by decide +kernel
theorem d_R_makePair_48 : decode mi_R_makePair.2.1 48 = .ok (.iload_n 2, 1) := by decide +kernel
theorem d_R_makePair_49 : decode mi_R_makePair.2.1 49 = .ok (.invokestatic 89, 3) := by decide +kernel
theorem d_R_makePair_52 : decode mi_R_makePair.2.1 52 = .ok (.istore 5, 2) := by decide +kernel
theorem d_R_makePair_54 : decode mi_R_makePair.2.1 54 = .ok (.iload_n 3, 1) := by decide +kernel
theorem d_R_makePair_55 : decode mi_R_makePair.2.1 55 = .ok (.iload 4, 2) := by decide +kernel
theorem d_R_makePair_57 : decode mi_R_makePair.2.1 57 = .ok (.invokestatic 89, 3) := by decide +kernel
theorem d_R_makePair_60 : decode mi_R_makePair.2.1 60 = .ok (.istore 6, 2) := by decide +kernel
theorem d_R_makePair_62 : decode mi_R_makePair.2.1 62 = .ok (.aload_n 0, 1) := by decide +kernel
theorem d_R_makePair_63 : decode mi_R_makePair.2.1 63 = .ok (.getfield 12, 3) := by decide +kernel
theorem d_R_makePair_66 : decode mi_R_makePair.2.1 66 = .ok (.iload 5, 2) := by decide +kernel
theorem d_R_makePair_68 : decode mi_R_makePair.2.1 68 = .ok (.invokevirtual 121, 3) := by decide +kernel
theorem d_R_makePair_71 : decode mi_R_makePair.2.1 71 = .ok (.ifCond .eq 15, 3) := by decide +kernel
theorem d_R_makePair_74 : decode mi_R_makePair.2.1 74 = .ok (.aload_n 0, 1) := by decide +kernel
theorem d_R_makePair_75 : decode mi_R_makePair.2.1 75 = .ok (.getfield 12, 3) := by decide +kernel
theorem d_R_makePair_78 : decode mi_R_makePair.2.1 78 = .ok (.iload 6, 2) := by decide +kernel
theorem d_R_makePair_80 : decode mi_R_makePair.2.1 80 = .ok (.invokevirtual 121, 3) := by decide +kernel
theorem d_R_makePair_83 : decode mi_R_makePair.2.1 83 = .ok (.ifCond .ne 6, 3) := by decide +kernel
theorem d_R_makePair_86 : decode mi_R_makePair.2.1 86 = .ok (.bipush (-2), 2) := by decide +kernel
theorem d_R_makePair_88 : decode mi_R_makePair.2.1 88 = .ok (.ireturn, 1) := by decide +kernel
theorem d_R_makePair_89 : decode mi_R_makePair.2.1 89 = .ok (.aload_n 0, 1) := by decide +kernel
theorem d_R_makePair_90 : decode mi_R_makePair.2.1 90 = .ok (.invokevirtual 75, 3) := by decide +kernel
theorem d_R_makePair_93 : decode mi_R_makePair.2.1 93 = .ok (.aload_n 0, 1) := by decide +kernel
theorem d_R_makePair_94 : decode mi_R_makePair.2.1 94 = .ok (.getfield 12, 3) := by decide +kernel
theorem d_R_makePair_97 : decode mi_R_makePair.2.1 97 = .ok (.getfield 124, 3) := by decide +kernel
theorem d_R_makePair_100 : decode mi_R_makePair.2.1 100 = .ok (.iload 5, 2) := by decide +kernel
theorem d_R_makePair_102 : decode mi_R_makePair.2.1 102 = .ok (.iload 6, 2) := by decide +kernel
theorem d_R_makePair_104 : decode mi_R_makePair.2.1 104 = .ok (.iastore, 1) := by decide +kernel
theorem d_R_makePair_105 : decode mi_R_makePair.2.1 105 = .ok (.aload_n 0, 1) := by decide +kernel
theorem d_R_makePair_106 : decode mi_R_makePair.2.1 106 = .ok (.getfield 12, 3) := by decide +kernel
theorem d_R_makePair_109 : decode mi_R_makePair.2.1 109 = .ok (.getfield 124, 3) := by decide +kernel
theorem d_R_makePair_112 : decode mi_R_makePair.2.1 112 = .ok (.iload 6, 2) := by decide +kernel
theorem d_R_makePair_114 : decode mi_R_makePair.2.1 114 = .ok (.iload 5, 2) := by decide +kernel
theorem d_R_makePair_116 : decode mi_R_makePair.2.1 116 = .ok (.iastore, 1) := by decide +kernel
theorem d_R_makePair_117 : decode mi_R_makePair.2.1 117 = .ok (.aload_n 0, 1) := by decide +kernel
theorem d_R_makePair_118 : decode mi_R_makePair.2.1 118 = .ok (.getfield 12, 3) := by decide +kernel
theorem d_R_makePair_121 : decode mi_R_makePair.2.1 121 = .ok (.invokevirtual 127, 3) := by decide +kernel
theorem d_R_makePair_124 : decode mi_R_makePair.2.1 124 = .ok (.ireturn, 1) := by decide +kernel
theorem d_R_breakPair_0 : decode mi_R_breakPair.2.1 0 = .ok (.aload_n 0, 1) := by decide +kernel
theorem d_R_breakPair_1 : decode mi_R_breakPair.2.1 1 = .ok (.getfield 12, 3) := by decide +kernel
theorem d_R_breakPair_4 : decode mi_R_breakPair.2.1 4 = .ok (.iload_n 1, 1) := by decide +kernel
theorem d_R_breakPair_5 : decode mi_R_breakPair.2.1 5 = .ok (.iload_n 2, 1) := by decide +kernel
theorem d_R_breakPair_6 : decode mi_R_breakPair.2.1 6 = .ok (.invokevirtual 85, 3) := by decide +kernel
theorem d_R_breakPair_9 : decode mi_R_breakPair.2.1 9 = .ok (.ifCond .ne 5, 3) := by decide +kernel
theorem d_R_breakPair_12 : decode mi_R_breakPair.2.1 12 = .ok (.iconst (-1), 1) := by decide +kernel
theorem d_R_breakPair_13 : decode mi_R_breakPair.2.1 13 = .ok (.ireturn, 1) := by decide +kernel
theorem d_R_breakPair_14 : decode mi_R_breakPair.2.1 14 = .ok (.iload_n 1, 1) := by decide +kernel
theorem d_R_breakPair_15 : decode mi_R_breakPair.2.1 15 = .ok (.iload_n 2, 1) := by decide +kernel
theorem d_R_breakPair_16 : decode mi_R_breakPair.2.1 16 = .ok (.invokestatic 89, 3) := by decide +kernel
theorem d_R_breakPair_19 : decode mi_R_breakPair.2.1 19 = .ok (.istore_n 3, 1) := by decide +kernel
theorem d_R_breakPair_20 : decode mi_R_breakPair.2.1 20 = .ok (.aload_n 0, 1) := by decide +kernel
theorem d_R_breakPair_21 : decode mi_R_breakPair.2.1 21 = .ok (.getfield 12, 3) := by decide +kernel
theorem d_R_breakPair_24 : decode mi_R_breakPair.2.1 24 = .ok (.getfield 124, 3) := by decide +kernel
theorem d_R_breakPair_27 : decode mi_R_breakPair.2.1 27 = .ok (.iload_n 3, 1) := by decide +kernel
theorem d_R_breakPair_28 : decode mi_R_breakPair.2.1 28 = .ok (.iaload, 1) := by decide +kernel
theorem d_R_breakPair_29 : decode mi_R_breakPair.2.1 29 = .ok (.iconst (-1), 1) := by decide +kernel
theorem d_R_breakPair_30 : decode mi_R_breakPair.2.1 30 = .ok (.if_icmp .ne 6, 3) := by decide +kernel
theorem d_R_breakPair_33 : decode mi_R_breakPair.2.1 33 = .ok (.bipush (-2), 2) := by decide +kernel
theorem d_R_breakPair_35 : decode mi_R_breakPair.2.1 35 = .ok (.ireturn, 1) := by decide +kernel
theorem d_R_breakPair_36 : decode mi_R_breakPair.2.1 36 = .ok (.aload_n 0, 1) := by decide +kernel
theorem d_R_breakPair_37 : decode mi_R_breakPair.2.1 37 = .ok (.invokevirtual 75, 3) := by decide +kernel
theorem d_R_breakPair_40 : decode mi_R_breakPair.2.1 40 = .ok (.aload_n 0, 1) := by decide +kernel
theorem d_R_breakPair_41 : decode mi_R_breakPair.2.1 41 = .ok (.getfield 12, 3) := by decide +kernel
theorem d_R_breakPair_44 : decode mi_R_breakPair.2.1 44 = .ok (.iload_n 3, 1) := by decide +kernel
theorem d_R_breakPair_45 : decode mi_R_breakPair.2.1 45 = .ok (.invokevirtual 97, 3) := by decide +kernel
theorem d_R_breakPair_48 : decode mi_R_breakPair.2.1 48 = .ok (.aload_n 0, 1) := by decide +kernel
theorem d_R_breakPair_49 : decode mi_R_breakPair.2.1 49 = .ok (.getfield 12, 3) := by decide +kernel
theorem d_R_breakPair_52 : decode mi_R_breakPair.2.1 52 = .ok (.invokevirtual 127, 3) := by decide +kernel
theorem d_R_breakPair_55 : decode mi_R_breakPair.2.1 55 = .ok (.ireturn, 1) := by decide +kernel
theorem d_R_partnerOf_0 : decode mi_R_partnerOf.2.1 0 = .ok (.aload_n 0, 1) := by decide +kernel
theorem d_R_partnerOf_1 : decode mi_R_partnerOf.2.1 1 = .ok (.getfield 12, 3) := by decide +kernel
theorem d_R_partnerOf_4 : decode mi_R_partnerOf.2.1 4 = .ok (.iload_n 1, 1) := by decide +kernel
theorem d_R_partnerOf_5 : decode mi_R_partnerOf.2.1 5 = .ok (.iload_n 2, 1) := by decide +kernel
theorem d_R_partnerOf_6 : decode mi_R_partnerOf.2.1 6 = .ok (.invokevirtual 85, 3) := by decide +kernel
theorem d_R_partnerOf_9 : decode mi_R_partnerOf.2.1 9 = .ok (.ifCond .ne 5, 3) := by decide +kernel
theorem d_R_partnerOf_12 : decode mi_R_partnerOf.2.1 12 = .ok (.iconst (-1), 1) := by decide +kernel
theorem d_R_partnerOf_13 : decode mi_R_partnerOf.2.1 13 = .ok (.ireturn, 1) := by decide +kernel
theorem d_R_partnerOf_14 : decode mi_R_partnerOf.2.1 14 = .ok (.aload_n 0, 1) := by decide +kernel
theorem d_R_partnerOf_15 : decode mi_R_partnerOf.2.1 15 = .ok (.getfield 12, 3) := by decide +kernel
theorem d_R_partnerOf_18 : decode mi_R_partnerOf.2.1 18 = .ok (.getfield 124, 3) := by decide +kernel
theorem d_R_partnerOf_21 : decode mi_R_partnerOf.2.1 21 = .ok (.iload_n 1, 1) := by decide +kernel
theorem d_R_partnerOf_22 : decode mi_R_partnerOf.2.1 22 = .ok (.iload_n 2, 1) := by decide +kernel
theorem d_R_partnerOf_23 : decode mi_R_partnerOf.2.1 23 = .ok (.invokestatic 89, 3) := by decide +kernel
theorem d_R_partnerOf_26 : decode mi_R_partnerOf.2.1 26 = .ok (.iaload, 1) := by decide +kernel
theorem d_R_partnerOf_27 : decode mi_R_partnerOf.2.1 27 = .ok (.istore_n 3, 1) := by decide +kernel
theorem d_R_partnerOf_28 : decode mi_R_partnerOf.2.1 28 = .ok (.iload_n 3, 1) := by decide +kernel
theorem d_R_partnerOf_29 : decode mi_R_partnerOf.2.1 29 = .ok (.iconst (-1), 1) := by decide +kernel
theorem d_R_partnerOf_30 : decode mi_R_partnerOf.2.1 30 = .ok (.if_icmp .ne 6, 3) := by decide +kernel
theorem d_R_partnerOf_33 : decode mi_R_partnerOf.2.1 33 = .ok (.bipush (-9), 2) := by decide +kernel
theorem d_R_partnerOf_35 : decode mi_R_partnerOf.2.1 35 = .ok (.ireturn, 1) := by decide +kernel
theorem d_R_partnerOf_36 : decode mi_R_partnerOf.2.1 36 = .ok (.bipush 10, 2) := by decide +kernel
theorem d_R_partnerOf_38 : decode mi_R_partnerOf.2.1 38 = .ok (.iload_n 3, 1) := by decide +kernel
theorem d_R_partnerOf_39 : decode mi_R_partnerOf.2.1 39 = .ok (.bipush 6, 2) := by decide +kernel
theorem d_R_partnerOf_41 : decode mi_R_partnerOf.2.1 41 = .ok (.idiv, 1) := by decide +kernel
theorem d_R_partnerOf_42 : decode mi_R_partnerOf.2.1 42 = .ok (.imul, 1) := by decide +kernel
theorem d_R_partnerOf_43 : decode mi_R_partnerOf.2.1 43 = .ok (.iload_n 3, 1) := by decide +kernel
theorem d_R_partnerOf_44 : decode mi_R_partnerOf.2.1 44 = .ok (.bipush 6, 2) := by decide +kernel
theorem d_R_partnerOf_46 : decode mi_R_partnerOf.2.1 46 = .ok (.irem, 1) := by decide +kernel
theorem d_R_partnerOf_47 : decode mi_R_partnerOf.2.1 47 = .ok (.iadd, 1) := by decide +kernel
theorem d_R_partnerOf_48 : decode mi_R_partnerOf.2.1 48 = .ok (.ireturn, 1) := by decide +kernel
theorem d_R_select_0 : decode mi_R_select.2.1 0 = .ok (.aload_n 0, 1) := by decide +kernel
theorem d_R_select_1 : decode mi_R_select.2.1 1 = .ok (.getfield 12, 3) := by decide +kernel
theorem d_R_select_4 : decode mi_R_select.2.1 4 = .ok (.iload_n 1, 1) := by decide +kernel
theorem d_R_select_5 : decode mi_R_select.2.1 5 = .ok (.iload_n 2, 1) := by decide +kernel
theorem d_R_select_6 : decode mi_R_select.2.1 6 = .ok (.invokevirtual 85, 3) := by decide +kernel
theorem d_R_select_9 : decode mi_R_select.2.1 9 = .ok (.ifCond .ne 5, 3) := by decide +kernel
theorem d_R_select_12 : decode mi_R_select.2.1 12 = .ok (.iconst (-1), 1) := by decide +kernel
theorem d_R_select_13 : decode mi_R_select.2.1 13 = .ok (.ireturn, 1) := by decide +kernel
theorem d_R_select_14 : decode mi_R_select.2.1 14 = .ok (.iload_n 1, 1) := by decide +kernel
theorem d_R_select_15 : decode mi_R_select.2.1 15 = .ok (.iload_n 2, 1) := by decide +kernel
theorem d_R_select_16 : decode mi_R_select.2.1 16 = .ok (.invokestatic 89, 3) := by decide +kernel
theorem d_R_select_19 : decode mi_R_select.2.1 19 = .ok (.istore_n 3, 1) := by decide +kernel
theorem d_R_select_20 : decode mi_R_select.2.1 20 = .ok (.aload_n 0, 1) := by decide +kernel
theorem d_R_select_21 : decode mi_R_select.2.1 21 = .ok (.getfield 12, 3) := by decide +kernel
theorem d_R_select_24 : decode mi_R_select.2.1 24 = .ok (.getfield 93, 3) := by decide +kernel
theorem d_R_select_27 : decode mi_R_select.2.1 27 = .ok (.iload_n 3, 1) := by decide +kernel
theorem d_R_select_28 : decode mi_R_select.2.1 28 = .ok (.iaload, 1) := by decide +kernel
theorem d_R_select_29 : decode mi_R_select.2.1 29 = .ok (.iconst 1, 1) := by decide +kernel
theorem d_R_select_30 : decode mi_R_select.2.1 30 = .ok (.if_icmp .ne 15, 3) := by decide +kernel
theorem d_R_select_33 : decode mi_R_select.2.1 33 = .ok (.aload_n 0, 1) := by decide +kernel
theorem d_R_select_34 : decode mi_R_select.2.1 34 = .ok (.getfield 12, 3) := by decide +kernel
theorem d_R_select_37 : decode mi_R_select.2.1 37 = .ok (.getfield 100, 3) := by decide +kernel
theorem d_R_select_40 : decode mi_R_select.2.1 40 = .ok (.iload_n 3, 1) := by decide +kernel
theorem d_R_select_41 : decode mi_R_select.2.1 41 = .ok (.baload, 1) := by decide +kernel
theorem d_R_select_42 : decode mi_R_select.2.1 42 = .ok (.ifCond .eq 6, 3) := by decide +kernel
theorem d_R_select_45 : decode mi_R_select.2.1 45 = .ok (.bipush (-2), 2) := by decide +kernel
theorem d_R_select_47 : decode mi_R_select.2.1 47 = .ok (.ireturn, 1) := by decide +kernel
theorem d_R_select_48 : decode mi_R_select.2.1 48 = .ok (.aload_n 0, 1) := by decide +kernel
theorem d_R_select_49 : decode mi_R_select.2.1 49 = .ok (.invokevirtual 75, 3) := by decide +kernel
theorem d_R_select_52 : decode mi_R_select.2.1 52 = .ok (.aload_n 0, 1) := by decide +kernel
theorem d_R_select_53 : decode mi_R_select.2.1 53 = .ok (.getfield 12, 3) := by decide +kernel
theorem d_R_select_56 : decode mi_R_select.2.1 56 = .ok (.getfield 100, 3) := by decide +kernel
theorem d_R_select_59 : decode mi_R_select.2.1 59 = .ok (.iload_n 3, 1) := by decide +kernel
theorem d_R_select_60 : decode mi_R_select.2.1 60 = .ok (.iconst 1, 1) := by decide +kernel
theorem d_R_select_61 : decode mi_R_select.2.1 61 = .ok (.bastore, 1) := by decide +kernel
theorem d_R_select_62 : decode mi_R_select.2.1 62 = .ok (.aload_n 0, 1) := by decide +kernel
theorem d_R_select_63 : decode mi_R_select.2.1 63 = .ok (.getfield 12, 3) := by decide +kernel
theorem d_R_select_66 : decode mi_R_select.2.1 66 = .ok (.invokevirtual 130, 3) := by decide +kernel
theorem d_R_select_69 : decode mi_R_select.2.1 69 = .ok (.ireturn, 1) := by decide +kernel
theorem d_R_deselect_0 : decode mi_R_deselect.2.1 0 = .ok (.aload_n 0, 1) := by decide +kernel
theorem d_R_deselect_1 : decode mi_R_deselect.2.1 1 = .ok (.getfield 12, 3) := by decide +kernel
theorem d_R_deselect_4 : decode mi_R_deselect.2.1 4 = .ok (.iload_n 1, 1) := by decide +kernel
theorem d_R_deselect_5 : decode mi_R_deselect.2.1 5 = .ok (.iload_n 2, 1) := by decide +kernel
theorem d_R_deselect_6 : decode mi_R_deselect.2.1 6 = .ok (.invokevirtual 85, 3) := by decide +kernel
theorem d_R_deselect_9 : decode mi_R_deselect.2.1 9 = .ok (.ifCond .ne 5, 3) := by decide +kernel
theorem d_R_deselect_12 : decode mi_R_deselect.2.1 12 = .ok (.iconst (-1), 1) := by decide +kernel
theorem d_R_deselect_13 : decode mi_R_deselect.2.1 13 = .ok (.ireturn, 1) := by decide +kernel
theorem d_R_deselect_14 : decode mi_R_deselect.2.1 14 = .ok (.iload_n 1, 1) := by decide +kernel
theorem d_R_deselect_15 : decode mi_R_deselect.2.1 15 = .ok (.iload_n 2, 1) := by decide +kernel
theorem d_R_deselect_16 : decode mi_R_deselect.2.1 16 = .ok (.invokestatic 89, 3) := by decide +kernel
theorem d_R_deselect_19 : decode mi_R_deselect.2.1 19 = .ok (.istore_n 3, 1) := by decide +kernel
theorem d_R_deselect_20 : decode mi_R_deselect.2.1 20 = .ok (.aload_n 0, 1) := by decide +kernel
theorem d_R_deselect_21 : decode mi_R_deselect.2.1 21 = .ok (.getfield 12, 3) := by decide +kernel
theorem d_R_deselect_24 : decode mi_R_deselect.2.1 24 = .ok (.getfield 100, 3) := by decide +kernel
theorem d_R_deselect_27 : decode mi_R_deselect.2.1 27 = .ok (.iload_n 3, 1) := by decide +kernel
theorem d_R_deselect_28 : decode mi_R_deselect.2.1 28 = .ok (.baload, 1) := by decide +kernel
theorem d_R_deselect_29 : decode mi_R_deselect.2.1 29 = .ok (.ifCond .ne 6, 3) := by decide +kernel
theorem d_R_deselect_32 : decode mi_R_deselect.2.1 32 = .ok (.bipush (-2), 2) := by decide +kernel
theorem d_R_deselect_34 : decode mi_R_deselect.2.1 34 = .ok (.ireturn, 1) := by decide +kernel
theorem d_R_deselect_35 : decode mi_R_deselect.2.1 35 = .ok (.aload_n 0, 1) := by decide +kernel
theorem d_R_deselect_36 : decode mi_R_deselect.2.1 36 = .ok (.invokevirtual 75, 3) := by decide +kernel
theorem d_R_deselect_39 : decode mi_R_deselect.2.1 39 = .ok (.aload_n 0, 1) := by decide +kernel
theorem d_R_deselect_40 : decode mi_R_deselect.2.1 40 = .ok (.getfield 12, 3) := by decide +kernel
theorem d_R_deselect_43 : decode mi_R_deselect.2.1 43 = .ok (.getfield 100, 3) := by decide +kernel
theorem d_R_deselect_46 : decode mi_R_deselect.2.1 46 = .ok (.iload_n 3, 1) := by decide +kernel
theorem d_R_deselect_47 : decode mi_R_deselect.2.1 47 = .ok (.iconst 0, 1) := by decide +kernel
theorem d_R_deselect_48 : decode mi_R_deselect.2.1 48 = .ok (.bastore, 1) := by decide +kernel
theorem d_R_deselect_49 : decode mi_R_deselect.2.1 49 = .ok (.aload_n 0, 1) := by decide +kernel
theorem d_R_deselect_50 : decode mi_R_deselect.2.1 50 = .ok (.getfield 12, 3) := by decide +kernel
theorem d_R_deselect_53 : decode mi_R_deselect.2.1 53 = .ok (.invokevirtual 130, 3) := by decide +kernel
theorem d_R_deselect_56 : decode mi_R_deselect.2.1 56 = .ok (.ireturn, 1) := by decide +kernel
theorem d_R_clearSelection_0 : decode mi_R_clearSelection.2.1 0 = .ok (.aload_n 0, 1) := by decide +kernel
theorem d_R_clearSelection_1 : decode mi_R_clearSelection.2.1 1 = .ok (.getfield 12, 3) := by decide +kernel
theorem d_R_clearSelection_4 : decode mi_R_clearSelection.2.1 4 = .ok (.invokevirtual 130, 3) := by decide +kernel
theorem d_R_clearSelection_7 : decode mi_R_clearSelection.2.1 7 = .ok (.istore_n 1, 1) := by decide +kernel
theorem d_R_clearSelection_8 : decode mi_R_clearSelection.2.1 8 = .ok (.iload_n 1, 1) := by decide +kernel
theorem d_R_clearSelection_9 : decode mi_R_clearSelection.2.1 9 = .ok (.ifCond .ne 6, 3) := by decide +kernel
theorem d_R_clearSelection_12 : decode mi_R_clearSelection.2.1 12 = .ok (.bipush (-2), 2) := by decide +kernel
theorem d_R_clearSelection_14 : decode mi_R_clearSelection.2.1 14 = .ok (.ireturn, 1) := by decide +kernel
theorem d_R_clearSelection_15 : decode mi_R_clearSelection.2.1 15 = .ok (.aload_n 0, 1) := by decide +kernel
theorem d_R_clearSelection_16 : decode mi_R_clearSelection.2.1 16 = .ok (.invokevirtual 75, 3) := by decide +kernel
theorem d_R_clearSelection_19 : decode mi_R_clearSelection.2.1 19 = .ok (.iconst 0, 1) := by decide +kernel
theorem d_R_clearSelection_20 : decode mi_R_clearSelection.2.1 20 = .ok (.istore_n 2, 1) := by decide +kernel
theorem d_R_clearSelection_21 : decode mi_R_clearSelection.2.1 21 = .ok (.iload_n 2, 1) := by decide +kernel
theorem d_R_clearSelection_22 : decode mi_R_clearSelection.2.1 22 = .ok (.bipush 36, 2) := by decide +kernel
theorem d_R_clearSelection_24 : decode mi_R_clearSelection.2.1 24 = .ok (.if_icmp .ge 19, 3) := by decide +kernel
theorem d_R_clearSelection_27 : decode mi_R_clearSelection.2.1 27 = .ok (.aload_n 0, 1) := by decide +kernel
theorem d_R_clearSelection_28 : decode mi_R_clearSelection.2.1 28 = .ok (.getfield 12, 3) := by decide +kernel
theorem d_R_clearSelection_31 : decode mi_R_clearSelection.2.1 31 = .ok (.getfield 100, 3) := by decide +kernel
theorem d_R_clearSelection_34 : decode mi_R_clearSelection.2.1 34 = .ok (.iload_n 2, 1) := by decide +kernel
theorem d_R_clearSelection_35 : decode mi_R_clearSelection.2.1 35 = .ok (.iconst 0, 1) := by decide +kernel
theorem d_R_clearSelection_36 : decode mi_R_clearSelection.2.1 36 = .ok (.bastore, 1) := by decide +kernel
theorem d_R_clearSelection_37 : decode mi_R_clearSelection.2.1 37 = .ok (.iinc 2 1, 3) := by decide +kernel
theorem d_R_clearSelection_40 : decode mi_R_clearSelection.2.1 40 = .ok (.goto (-19), 3) := by decide +kernel
theorem d_R_clearSelection_43 : decode mi_R_clearSelection.2.1 43 = .ok (.iload_n 1, 1) := by decide +kernel
theorem d_R_clearSelection_44 : decode mi_R_clearSelection.2.1 44 = .ok (.ireturn, 1) := by decide +kernel
theorem d_R_escapeCount_0 : decode mi_R_escapeCount.2.1 0 = .ok (.aload_n 0, 1) := by decide +kernel
theorem d_R_escapeCount_1 : decode mi_R_escapeCount.2.1 1 = .ok (.invokevirtual 133, 3) := by decide +kernel
theorem d_R_escapeCount_4 : decode mi_R_escapeCount.2.1 4 = .ok (.aload_n 0, 1) := by decide +kernel
theorem d_R_escapeCount_5 : decode mi_R_escapeCount.2.1 5 = .ok (.getfield 57, 3) := by decide +kernel
theorem d_R_escapeCount_8 : decode mi_R_escapeCount.2.1 8 = .ok (.ireturn, 1) := by decide +kernel
theorem d_R_tileSide_0 : decode mi_R_tileSide.2.1 0 = .ok (.iload_n 1, 1) := by decide +kernel
theorem d_R_tileSide_1 : decode mi_R_tileSide.2.1 1 = .ok (.ifCond .lt 29, 3) := by decide +kernel
theorem d_R_tileSide_4 : decode mi_R_tileSide.2.1 4 = .ok (.iload_n 1, 1) := by decide +kernel
theorem d_R_tileSide_5 : decode mi_R_tileSide.2.1 5 = .ok (.aload_n 0, 1) := by decide +kernel
theorem d_R_tileSide_6 : decode mi_R_tileSide.2.1 6 = .ok (.getfield 12, 3) := by decide +kernel
theorem d_R_tileSide_9 : decode mi_R_tileSide.2.1 9 = .ok (.getfield 109, 3) := by decide +kernel
theorem d_R_tileSide_12 : decode mi_R_tileSide.2.1 12 = .ok (.if_icmp .gt 18, 3) := by decide +kernel
theorem d_R_tileSide_15 : decode mi_R_tileSide.2.1 15 = .ok (.iload_n 2, 1) := by decide +kernel
theorem d_R_tileSide_16 : decode mi_R_tileSide.2.1 16 = .ok (.ifCond .lt 14, 3) := by decide +kernel
theorem d_R_tileSide_19 : decode mi_R_tileSide.2.1 19 = .ok (.iload_n 2, 1) := by decide +kernel
theorem d_R_tileSide_20 : decode mi_R_tileSide.2.1 20 = .ok (.aload_n 0, 1) := by decide +kernel
theorem d_R_tileSide_21 : decode mi_R_tileSide.2.1 21 = .ok (.getfield 12, 3) := by decide +kernel
theorem d_R_tileSide_24 : decode mi_R_tileSide.2.1 24 = .ok (.getfield 112, 3) := by decide +kernel
theorem d_R_tileSide_27 : decode mi_R_tileSide.2.1 27 = .ok (.if_icmp .le 5, 3) := by decide +kernel
theorem d_R_tileSide_30 : decode mi_R_tileSide.2.1 30 = .ok (.iconst (-1), 1) := by decide +kernel
theorem d_R_tileSide_31 : decode mi_R_tileSide.2.1 31 = .ok (.ireturn, 1) := by decide +kernel
theorem d_R_tileSide_32 : decode mi_R_tileSide.2.1 32 = .ok (.aload_n 0, 1) := by decide +kernel
theorem d_R_tileSide_33 : decode mi_R_tileSide.2.1 33 = .ok (.invokevirtual 133, 3) := by decide +kernel
theorem d_R_tileSide_36 : decode mi_R_tileSide.2.1 36 = .ok (.aload_n 0, 1) := by decide +kernel
theorem d_R_tileSide_37 : decode mi_R_tileSide.2.1 37 = .ok (.getfield 33, 3) := by decide +kernel
theorem d_R_tileSide_40 : decode mi_R_tileSide.2.1 40 = .ok (.iload_n 1, 1) := by decide +kernel
theorem d_R_tileSide_41 : decode mi_R_tileSide.2.1 41 = .ok (.iload_n 2, 1) := by decide +kernel
theorem d_R_tileSide_42 : decode mi_R_tileSide.2.1 42 = .ok (.invokestatic 136, 3) := by decide +kernel
theorem d_R_tileSide_45 : decode mi_R_tileSide.2.1 45 = .ok (.invokevirtual 139, 3) := by decide +kernel
theorem d_R_tileSide_48 : decode mi_R_tileSide.2.1 48 = .ok (.ireturn, 1) := by decide +kernel
theorem d_R_cutChannels_0 : decode mi_R_cutChannels.2.1 0 = .ok (.aload_n 0, 1) := by decide +kernel
theorem d_R_cutChannels_1 : decode mi_R_cutChannels.2.1 1 = .ok (.invokevirtual 133, 3) := by decide +kernel
theorem d_R_cutChannels_4 : decode mi_R_cutChannels.2.1 4 = .ok (.aload_n 0, 1) := by decide +kernel
theorem d_R_cutChannels_5 : decode mi_R_cutChannels.2.1 5 = .ok (.getfield 33, 3) := by decide +kernel
theorem d_R_cutChannels_8 : decode mi_R_cutChannels.2.1 8 = .ok (.invokevirtual 142, 3) := by decide +kernel
theorem d_R_cutChannels_11 : decode mi_R_cutChannels.2.1 11 = .ok (.ireturn, 1) := by decide +kernel
theorem d_R_layerCount_0 : decode mi_R_layerCount.2.1 0 = .ok (.iload_n 1, 1) := by decide +kernel
theorem d_R_layerCount_1 : decode mi_R_layerCount.2.1 1 = .ok (.invokestatic 145, 3) := by decide +kernel
theorem d_R_layerCount_4 : decode mi_R_layerCount.2.1 4 = .ok (.ifCond .ne 5, 3) := by decide +kernel
theorem d_R_layerCount_7 : decode mi_R_layerCount.2.1 7 = .ok (.iconst (-1), 1) := by decide +kernel
theorem d_R_layerCount_8 : decode mi_R_layerCount.2.1 8 = .ok (.ireturn, 1) := by decide +kernel
theorem d_R_layerCount_9 : decode mi_R_layerCount.2.1 9 = .ok (.aload_n 0, 1) := by decide +kernel
theorem d_R_layerCount_10 : decode mi_R_layerCount.2.1 10 = .ok (.getfield 42, 3) := by decide +kernel
theorem d_R_layerCount_13 : decode mi_R_layerCount.2.1 13 = .ok (.iload_n 1, 1) := by decide +kernel
theorem d_R_layerCount_14 : decode mi_R_layerCount.2.1 14 = .ok (.aaload, 1) := by decide +kernel
theorem d_R_layerCount_15 : decode mi_R_layerCount.2.1 15 = .ok (.aload_n 0, 1) := by decide +kernel
theorem d_R_layerCount_16 : decode mi_R_layerCount.2.1 16 = .ok (.getfield 12, 3) := by decide +kernel
theorem d_R_layerCount_19 : decode mi_R_layerCount.2.1 19 = .ok (.aload_n 0, 1) := by decide +kernel
theorem d_R_layerCount_20 : decode mi_R_layerCount.2.1 20 = .ok (.getfield 37, 3) := by decide +kernel
theorem d_R_layerCount_23 : decode mi_R_layerCount.2.1 23 = .ok (.invokevirtual 148, 3) := by decide +kernel
theorem d_R_layerCount_26 : decode mi_R_layerCount.2.1 26 = .ok (.astore_n 2, 1) := by decide +kernel
theorem d_R_layerCount_27 : decode mi_R_layerCount.2.1 27 = .ok (.aload_n 2, 1) := by decide +kernel
theorem d_R_layerCount_28 : decode mi_R_layerCount.2.1 28 = .ok (.getfield 152, 3) := by decide +kernel
theorem d_R_layerCount_31 : decode mi_R_layerCount.2.1 31 = .ok (.ifCond .eq 10, 3) := by decide +kernel
theorem d_R_layerCount_34 : decode mi_R_layerCount.2.1 34 = .ok (.aload_n 2, 1) := by decide +kernel
theorem d_R_layerCount_35 : decode mi_R_layerCount.2.1 35 = .ok (.getfield 155, 3) := by decide +kernel
theorem d_R_layerCount_38 : decode mi_R_layerCount.2.1 38 = .ok (.goto 5, 3) := by decide +kernel
theorem d_R_layerCount_41 : decode mi_R_layerCount.2.1 41 = .ok (.bipush (-9), 2) := by decide +kernel
theorem d_R_layerCount_43 : decode mi_R_layerCount.2.1 43 = .ok (.ireturn, 1) := by decide +kernel
theorem d_R_layerOf_0 : decode mi_R_layerOf.2.1 0 = .ok (.iload_n 1, 1) := by decide +kernel
theorem d_R_layerOf_1 : decode mi_R_layerOf.2.1 1 = .ok (.invokestatic 145, 3) := by decide +kernel
theorem d_R_layerOf_4 : decode mi_R_layerOf.2.1 4 = .ok (.ifCond .eq 15, 3) := by decide +kernel
theorem d_R_layerOf_7 : decode mi_R_layerOf.2.1 7 = .ok (.aload_n 0, 1) := by decide +kernel
theorem d_R_layerOf_8 : decode mi_R_layerOf.2.1 8 = .ok (.getfield 12, 3) := by decide +kernel
theorem d_R_layerOf_11 : decode mi_R_layerOf.2.1 11 = .ok (.iload_n 2, 1) := by decide +kernel
theorem d_R_layerOf_12 : decode mi_R_layerOf.2.1 12 = .ok (.iload_n 3, 1) := by decide +kernel
theorem d_R_layerOf_13 : decode mi_R_layerOf.2.1 13 = .ok (.invokevirtual 85, 3) := by decide +kernel
theorem d_R_layerOf_16 : decode mi_R_layerOf.2.1 16 = .ok (.ifCond .ne 5, 3) := by decide +kernel
theorem d_R_layerOf_19 : decode mi_R_layerOf.2.1 19 = .ok (.iconst (-1), 1) := by decide +kernel
theorem d_R_layerOf_20 : decode mi_R_layerOf.2.1 20 = .ok (.ireturn, 1) := by decide +kernel
theorem d_R_layerOf_21 : decode mi_R_layerOf.2.1 21 = .ok (.aload_n 0, 1) := by decide +kernel
theorem d_R_layerOf_22 : decode mi_R_layerOf.2.1 22 = .ok (.getfield 42, 3) := by decide +kernel
theorem d_R_layerOf_25 : decode mi_R_layerOf.2.1 25 = .ok (.iload_n 1, 1) := by decide +kernel
theorem d_R_layerOf_26 : decode mi_R_layerOf.2.1 26 = .ok (.aaload, 1) := by decide +kernel
theorem d_R_layerOf_27 : decode mi_R_layerOf.2.1 27 = .ok (.aload_n 0, 1) := by decide +kernel
theorem d_R_layerOf_28 : decode mi_R_layerOf.2.1 28 = .ok (.getfield 12, 3) := by decide +kernel
theorem d_R_layerOf_31 : decode mi_R_layerOf.2.1 31 = .ok (.aload_n 0, 1) := by decide +kernel
theorem d_R_layerOf_32 : decode mi_R_layerOf.2.1 32 = .ok (.getfield 37, 3) := by decide +kernel
theorem d_R_layerOf_35 : decode mi_R_layerOf.2.1 35 = .ok (.invokevirtual 148, 3) := by decide +kernel
theorem d_R_layerOf_38 : decode mi_R_layerOf.2.1 38 = .ok (.getfield 158, 3) := by decide +kernel
theorem d_R_layerOf_41 : decode mi_R_layerOf.2.1 41 = .ok (.iload_n 2, 1) := by decide +kernel
theorem d_R_layerOf_42 : decode mi_R_layerOf.2.1 42 = .ok (.iload_n 3, 1) := by decide +kernel
theorem d_R_layerOf_43 : decode mi_R_layerOf.2.1 43 = .ok (.invokestatic 89, 3) := by decide +kernel
theorem d_R_layerOf_46 : decode mi_R_layerOf.2.1 46 = .ok (.iaload, 1) := by decide +kernel
theorem d_R_layerOf_47 : decode mi_R_layerOf.2.1 47 = .ok (.istore 4, 2) := by decide +kernel
theorem d_R_layerOf_49 : decode mi_R_layerOf.2.1 49 = .ok (.iload 4, 2) := by decide +kernel
theorem d_R_layerOf_51 : decode mi_R_layerOf.2.1 51 = .ok (.ifCond .ne 8, 3) := by decide +kernel
theorem d_R_layerOf_54 : decode mi_R_layerOf.2.1 54 = .ok (.bipush (-9), 2) := by decide +kernel
theorem d_R_layerOf_56 : decode mi_R_layerOf.2.1 56 = .ok (.goto 5, 3) := by decide +kernel
theorem d_R_layerOf_59 : decode mi_R_layerOf.2.1 59 = .ok (.iload 4, 2) := by decide +kernel
theorem d_R_layerOf_61 : decode mi_R_layerOf.2.1 61 = .ok (.ireturn, 1) := by decide +kernel
theorem d_R_layerLoad_0 : decode mi_R_layerLoad.2.1 0 = .ok (.iload_n 1, 1) := by decide +kernel
theorem d_R_layerLoad_1 : decode mi_R_layerLoad.2.1 1 = .ok (.invokestatic 145, 3) := by decide +kernel
theorem d_R_layerLoad_4 : decode mi_R_layerLoad.2.1 4 = .ok (.ifCond .eq 8, 3) := by decide +kernel
theorem d_R_layerLoad_7 : decode mi_R_layerLoad.2.1 7 = .ok (.iload_n 2, 1) := by decide +kernel
theorem d_R_layerLoad_8 : decode mi_R_layerLoad.2.1 8 = .ok (.iconst 1, 1) := by decide +kernel
theorem d_R_layerLoad_9 : decode mi_R_layerLoad.2.1 9 = .ok (.if_icmp .ge 5, 3) := by decide +kernel
theorem d_R_layerLoad_12 : decode mi_R_layerLoad.2.1 12 = .ok (.iconst (-1), 1) := by decide +kernel
theorem d_R_layerLoad_13 : decode mi_R_layerLoad.2.1 13 = .ok (.ireturn, 1) := by decide +kernel
theorem d_R_layerLoad_14 : decode mi_R_layerLoad.2.1 14 = .ok (.aload_n 0, 1) := by decide +kernel
theorem d_R_layerLoad_15 : decode mi_R_layerLoad.2.1 15 = .ok (.getfield 42, 3) := by decide +kernel
theorem d_R_layerLoad_18 : decode mi_R_layerLoad.2.1 18 = .ok (.iload_n 1, 1) := by decide +kernel
theorem d_R_layerLoad_19 : decode mi_R_layerLoad.2.1 19 = .ok (.aaload, 1) := by decide +kernel
theorem d_R_layerLoad_20 : decode mi_R_layerLoad.2.1 20 = .ok (.aload_n 0, 1) := by decide +kernel
theorem d_R_layerLoad_21 : decode mi_R_layerLoad.2.1 21 = .ok (.getfield 12, 3) := by decide +kernel
theorem d_R_layerLoad_24 : decode mi_R_layerLoad.2.1 24 = .ok (.aload_n 0, 1) := by decide +kernel
theorem d_R_layerLoad_25 : decode mi_R_layerLoad.2.1 25 = .ok (.getfield 37, 3) := by decide +kernel
theorem d_R_layerLoad_28 : decode mi_R_layerLoad.2.1 28 = .ok (.invokevirtual 148, 3) := by decide +kernel
theorem d_R_layerLoad_31 : decode mi_R_layerLoad.2.1 31 = .ok (.iload_n 2, 1) := by decide +kernel
theorem d_R_layerLoad_32 : decode mi_R_layerLoad.2.1 32 = .ok (.invokevirtual 161, 3) := by decide +kernel
theorem d_R_layerLoad_35 : decode mi_R_layerLoad.2.1 35 = .ok (.ireturn, 1) := by decide +kernel
theorem d_R_bestStrategy_0 : decode mi_R_bestStrategy.2.1 0 = .ok (.bipush (-9), 2) := by decide +kernel
theorem d_R_bestStrategy_2 : decode mi_R_bestStrategy.2.1 2 = .ok (.istore_n 1, 1) := by decide +kernel
theorem d_R_bestStrategy_3 : decode mi_R_bestStrategy.2.1 3 = .ok (.bipush 37, 2) := by decide +kernel
theorem d_R_bestStrategy_5 : decode mi_R_bestStrategy.2.1 5 = .ok (.istore_n 2, 1) := by decide +kernel
theorem d_R_bestStrategy_6 : decode mi_R_bestStrategy.2.1 6 = .ok (.iconst 0, 1) := by decide +kernel
theorem d_R_bestStrategy_7 : decode mi_R_bestStrategy.2.1 7 = .ok (.istore_n 3, 1) := by decide +kernel
theorem d_R_bestStrategy_8 : decode mi_R_bestStrategy.2.1 8 = .ok (.iload_n 3, 1) := by decide +kernel
theorem d_R_bestStrategy_9 : decode mi_R_bestStrategy.2.1 9 = .ok (.iconst 4, 1) := by decide +kernel
theorem d_R_bestStrategy_10 : decode mi_R_bestStrategy.2.1 10 = .ok (.if_icmp .ge 53, 3) := by decide +kernel
theorem d_R_bestStrategy_13 : decode mi_R_bestStrategy.2.1 13 = .ok (.aload_n 0, 1) := by decide +kernel
theorem d_R_bestStrategy_14 : decode mi_R_bestStrategy.2.1 14 = .ok (.getfield 42, 3) := by decide +kernel
theorem d_R_bestStrategy_17 : decode mi_R_bestStrategy.2.1 17 = .ok (.iload_n 3, 1) := by decide +kernel
theorem d_R_bestStrategy_18 : decode mi_R_bestStrategy.2.1 18 = .ok (.aaload, 1) := by decide +kernel
theorem d_R_bestStrategy_19 : decode mi_R_bestStrategy.2.1 19 = .ok (.aload_n 0, 1) := by decide +kernel
theorem d_R_bestStrategy_20 : decode mi_R_bestStrategy.2.1 20 = .ok (.getfield 12, 3) := by decide +kernel
theorem d_R_bestStrategy_23 : decode mi_R_bestStrategy.2.1 23 = .ok (.aload_n 0, 1) := by decide +kernel
theorem d_R_bestStrategy_24 : decode mi_R_bestStrategy.2.1 24 = .ok (.getfield 37, 3) := by decide +kernel
theorem d_R_bestStrategy_27 : decode mi_R_bestStrategy.2.1 27 = .ok (.invokevirtual 148, 3) := by decide +kernel
theorem d_R_bestStrategy_30 : decode mi_R_bestStrategy.2.1 30 = .ok (.astore 4, 2) := by decide +kernel
theorem d_R_bestStrategy_32 : decode mi_R_bestStrategy.2.1 32 = .ok (.aload 4, 2) := by decide +kernel
theorem d_R_bestStrategy_34 : decode mi_R_bestStrategy.2.1 34 = .ok (.getfield 152, 3) := by decide +kernel
theorem d_R_bestStrategy_37 : decode mi_R_bestStrategy.2.1 37 = .ok (.ifCond .eq 20, 3) := by decide +kernel
theorem d_R_bestStrategy_40 : decode mi_R_bestStrategy.2.1 40 = .ok (.aload 4, 2) := by decide +kernel
theorem d_R_bestStrategy_42 : decode mi_R_bestStrategy.2.1 42 = .ok (.getfield 155, 3) := by decide +kernel
theorem d_R_bestStrategy_45 : decode mi_R_bestStrategy.2.1 45 = .ok (.iload_n 2, 1) := by decide +kernel
theorem d_R_bestStrategy_46 : decode mi_R_bestStrategy.2.1 46 = .ok (.if_icmp .ge 11, 3) := by decide +kernel
theorem d_R_bestStrategy_49 : decode mi_R_bestStrategy.2.1 49 = .ok (.iload_n 3, 1) := by decide +kernel
theorem d_R_bestStrategy_50 : decode mi_R_bestStrategy.2.1 50 = .ok (.istore_n 1, 1) := by decide +kernel
theorem d_R_bestStrategy_51 : decode mi_R_bestStrategy.2.1 51 = .ok (.aload 4, 2) := by decide +kernel
theorem d_R_bestStrategy_53 : decode mi_R_bestStrategy.2.1 53 = .ok (.getfield 155, 3) := by decide +kernel
theorem d_R_bestStrategy_56 : decode mi_R_bestStrategy.2.1 56 = .ok (.istore_n 2, 1) := by decide +kernel
theorem d_R_bestStrategy_57 : decode mi_R_bestStrategy.2.1 57 = .ok (.iinc 3 1, 3) := by decide +kernel
theorem d_R_bestStrategy_60 : decode mi_R_bestStrategy.2.1 60 = .ok (.goto (-52), 3) := by decide +kernel
theorem d_R_bestStrategy_63 : decode mi_R_bestStrategy.2.1 63 = .ok (.iload_n 1, 1) := by decide +kernel
theorem d_R_bestStrategy_64 : decode mi_R_bestStrategy.2.1 64 = .ok (.ireturn, 1) := by decide +kernel
theorem d_R_throughput_0 : decode mi_R_throughput.2.1 0 = .ok (.aload_n 0, 1) := by decide +kernel
theorem d_R_throughput_1 : decode mi_R_throughput.2.1 1 = .ok (.getfield 61, 3) := by decide +kernel
theorem d_R_throughput_4 : decode mi_R_throughput.2.1 4 = .ok (.bipush (-9), 2) := by decide +kernel
theorem d_R_throughput_6 : decode mi_R_throughput.2.1 6 = .ok (.if_icmp .ne 106, 3) := by decide +kernel
theorem d_R_throughput_9 : decode mi_R_throughput.2.1 9 = .ok (.iconst 0, 1) := by decide +kernel
theorem d_R_throughput_10 : decode mi_R_throughput.2.1 10 = .ok (.istore_n 1, 1) := by decide +kernel
theorem d_R_throughput_11 : decode mi_R_throughput.2.1 11 = .ok (.iload_n 1, 1) := by decide +kernel
theorem d_R_throughput_12 : decode mi_R_throughput.2.1 12 = .ok (.bipush 36, 2) := by decide +kernel
theorem d_R_throughput_14 : decode mi_R_throughput.2.1 14 = .ok (.if_icmp .ge 33, 3) := by decide +kernel
theorem d_R_throughput_17 : decode mi_R_throughput.2.1 17 = .ok (.aload_n 0, 1) := by decide +kernel
theorem d_R_throughput_18 : decode mi_R_throughput.2.1 18 = .ok (.getfield 49, 3) := by decide +kernel
theorem d_R_throughput_21 : decode mi_R_throughput.2.1 21 = .ok (.iload_n 1, 1) := by decide +kernel
theorem d_R_throughput_22 : decode mi_R_throughput.2.1 22 = .ok (.aload_n 0, 1) := by decide +kernel
theorem d_R_throughput_23 : decode mi_R_throughput.2.1 23 = .ok (.getfield 12, 3) := by decide +kernel
theorem d_R_throughput_26 : decode mi_R_throughput.2.1 26 = .ok (.getfield 93, 3) := by decide +kernel
theorem d_R_throughput_29 : decode mi_R_throughput.2.1 29 = .ok (.iload_n 1, 1) := by decide +kernel
theorem d_R_throughput_30 : decode mi_R_throughput.2.1 30 = .ok (.iaload, 1) := by decide +kernel
theorem d_R_throughput_31 : decode mi_R_throughput.2.1 31 = .ok (.iconst 2, 1) := by decide +kernel
theorem d_R_throughput_32 : decode mi_R_throughput.2.1 32 = .ok (.if_icmp .eq 7, 3) := by decide +kernel
theorem d_R_throughput_35 : decode mi_R_throughput.2.1 35 = .ok (.iconst 1, 1) := by decide +kernel
theorem d_R_throughput_36 : decode mi_R_throughput.2.1 36 = .ok (.goto 4, 3) := by decide +kernel
theorem d_R_throughput_39 : decode mi_R_throughput.2.1 39 = .ok (.iconst 0, 1) := by decide +kernel
theorem d_R_throughput_40 : decode mi_R_throughput.2.1 40 = .ok (.bastore, 1) := by decide +kernel
theorem d_R_throughput_41 : decode mi_R_throughput.2.1 41 = .ok (.iinc 1 1, 3) := by decide +kernel
theorem d_R_throughput_44 : decode mi_R_throughput.2.1 44 = .ok (.goto (-33), 3) := by decide +kernel
theorem d_R_throughput_47 : decode mi_R_throughput.2.1 47 = .ok (.aload_n 0, 1) := by decide +kernel
theorem d_R_throughput_48 : decode mi_R_throughput.2.1 48 = .ok (.getfield 37, 3) := by decide +kernel
theorem d_R_throughput_51 : decode mi_R_throughput.2.1 51 = .ok (.aload_n 0, 1) := by decide +kernel
theorem d_R_throughput_52 : decode mi_R_throughput.2.1 52 = .ok (.getfield 12, 3) := by decide +kernel
theorem d_R_throughput_55 : decode mi_R_throughput.2.1 55 = .ok (.aload_n 0, 1) := by decide +kernel
theorem d_R_throughput_56 : decode mi_R_throughput.2.1 56 = .ok (.getfield 49, 3) := by decide +kernel
theorem d_R_throughput_59 : decode mi_R_throughput.2.1 59 = .ok (.ldc 164, 2) := by decide +kernel
theorem d_R_throughput_61 : decode mi_R_throughput.2.1 61 = .ok (.invokevirtual 165, 3) := by decide +kernel
theorem d_R_throughput_64 : decode mi_R_throughput.2.1 64 = .ok (.iconst 0, 1) := by decide +kernel
theorem d_R_throughput_65 : decode mi_R_throughput.2.1 65 = .ok (.istore_n 1, 1) := by decide +kernel
theorem d_R_throughput_66 : decode mi_R_throughput.2.1 66 = .ok (.iload_n 1, 1) := by decide +kernel
theorem d_R_throughput_67 : decode mi_R_throughput.2.1 67 = .ok (.bipush 36, 2) := by decide +kernel
theorem d_R_throughput_69 : decode mi_R_throughput.2.1 69 = .ok (.if_icmp .ge 32, 3) := by decide +kernel
theorem d_R_throughput_72 : decode mi_R_throughput.2.1 72 = .ok (.aload_n 0, 1) := by decide +kernel
theorem d_R_throughput_73 : decode mi_R_throughput.2.1 73 = .ok (.getfield 12, 3) := by decide +kernel
theorem d_R_throughput_76 : decode mi_R_throughput.2.1 76 = .ok (.getfield 93, 3) := by decide +kernel
theorem d_R_throughput_79 : decode mi_R_throughput.2.1 79 = .ok (.iload_n 1, 1) := by decide +kernel
theorem d_R_throughput_80 : decode mi_R_throughput.2.1 80 = .ok (.iaload, 1) := by decide +kernel
theorem d_R_throughput_81 : decode mi_R_throughput.2.1 81 = .ok (.iconst 1, 1) := by decide +kernel
theorem d_R_throughput_82 : decode mi_R_throughput.2.1 82 = .ok (.if_icmp .ne 13, 3) := by decide +kernel
theorem d_R_throughput_85 : decode mi_R_throughput.2.1 85 = .ok (.aload_n 0, 1) := by decide +kernel
theorem d_R_throughput_86 : decode mi_R_throughput.2.1 86 = .ok (.getfield 37, 3) := by decide +kernel
theorem d_R_throughput_89 : decode mi_R_throughput.2.1 89 = .ok (.iload_n 1, 1) := by decide +kernel
theorem d_R_throughput_90 : decode mi_R_throughput.2.1 90 = .ok (.ldc 164, 2) := by decide +kernel
theorem d_R_throughput_92 : decode mi_R_throughput.2.1 92 = .ok (.invokevirtual 169, 3) := by decide +kernel
theorem d_R_throughput_95 : decode mi_R_throughput.2.1 95 = .ok (.iinc 1 1, 3) := by decide +kernel
theorem d_R_throughput_98 : decode mi_R_throughput.2.1 98 = .ok (.goto (-32), 3) := by decide +kernel
theorem d_R_throughput_101 : decode mi_R_throughput.2.1 101 = .ok (.aload_n 0, 1) := by decide +kernel
theorem d_R_throughput_102 : decode mi_R_throughput.2.1 102 = .ok (.aload_n 0, 1) := by decide +kernel
theorem d_R_throughput_103 : decode mi_R_throughput.2.1 103 = .ok (.getfield 37, 3) := by decide +kernel
theorem d_R_throughput_106 : decode mi_R_throughput.2.1 106 = .ok (.invokevirtual 173, 3) := by decide +kernel
theorem d_R_throughput_109 : decode mi_R_throughput.2.1 109 = .ok (.putfield 61, 3) := by decide +kernel
theorem d_R_throughput_112 : decode mi_R_throughput.2.1 112 = .ok (.aload_n 0, 1) := by decide +kernel
theorem d_R_throughput_113 : decode mi_R_throughput.2.1 113 = .ok (.getfield 61, 3) := by decide +kernel
theorem d_R_throughput_116 : decode mi_R_throughput.2.1 116 = .ok (.ireturn, 1) := by decide +kernel
theorem d_R_lowerBound_0 : decode mi_R_lowerBound.2.1 0 = .ok (.aload_n 0, 1) := by decide +kernel
theorem d_R_lowerBound_1 : decode mi_R_lowerBound.2.1 1 = .ok (.getfield 12, 3) := by decide +kernel
theorem d_R_lowerBound_4 : decode mi_R_lowerBound.2.1 4 = .ok (.invokevirtual 82, 3) := by decide +kernel
theorem d_R_lowerBound_7 : decode mi_R_lowerBound.2.1 7 = .ok (.istore_n 1, 1) := by decide +kernel
theorem d_R_lowerBound_8 : decode mi_R_lowerBound.2.1 8 = .ok (.iload_n 1, 1) := by decide +kernel
theorem d_R_lowerBound_9 : decode mi_R_lowerBound.2.1 9 = .ok (.ifCond .ne 5, 3) := by decide +kernel
theorem d_R_lowerBound_12 : decode mi_R_lowerBound.2.1 12 = .ok (.iconst 0, 1) := by decide +kernel
theorem d_R_lowerBound_13 : decode mi_R_lowerBound.2.1 13 = .ok (.ireturn, 1) := by decide +kernel
theorem d_R_lowerBound_14 : decode mi_R_lowerBound.2.1 14 = .ok (.aload_n 0, 1) := by decide +kernel
theorem d_R_lowerBound_15 : decode mi_R_lowerBound.2.1 15 = .ok (.invokevirtual 176, 3) := by decide +kernel
theorem d_R_lowerBound_18 : decode mi_R_lowerBound.2.1 18 = .ok (.istore_n 2, 1) := by decide +kernel
theorem d_R_lowerBound_19 : decode mi_R_lowerBound.2.1 19 = .ok (.iload_n 2, 1) := by decide +kernel
theorem d_R_lowerBound_20 : decode mi_R_lowerBound.2.1 20 = .ok (.ifCond .gt 6, 3) := by decide +kernel
theorem d_R_lowerBound_23 : decode mi_R_lowerBound.2.1 23 = .ok (.bipush (-9), 2) := by decide +kernel
theorem d_R_lowerBound_25 : decode mi_R_lowerBound.2.1 25 = .ok (.ireturn, 1) := by decide +kernel
theorem d_R_lowerBound_26 : decode mi_R_lowerBound.2.1 26 = .ok (.iload_n 1, 1) := by decide +kernel
theorem d_R_lowerBound_27 : decode mi_R_lowerBound.2.1 27 = .ok (.iload_n 2, 1) := by decide +kernel
theorem d_R_lowerBound_28 : decode mi_R_lowerBound.2.1 28 = .ok (.iadd, 1) := by decide +kernel
theorem d_R_lowerBound_29 : decode mi_R_lowerBound.2.1 29 = .ok (.iconst 1, 1) := by decide +kernel
theorem d_R_lowerBound_30 : decode mi_R_lowerBound.2.1 30 = .ok (.isub, 1) := by decide +kernel
theorem d_R_lowerBound_31 : decode mi_R_lowerBound.2.1 31 = .ok (.iload_n 2, 1) := by decide +kernel
theorem d_R_lowerBound_32 : decode mi_R_lowerBound.2.1 32 = .ok (.idiv, 1) := by decide +kernel
theorem d_R_lowerBound_33 : decode mi_R_lowerBound.2.1 33 = .ok (.ireturn, 1) := by decide +kernel
theorem d_R_undo_0 : decode mi_R_undo.2.1 0 = .ok (.aload_n 0, 1) := by decide +kernel
theorem d_R_undo_1 : decode mi_R_undo.2.1 1 = .ok (.getfield 19, 3) := by decide +kernel
theorem d_R_undo_4 : decode mi_R_undo.2.1 4 = .ok (.getfield 179, 3) := by decide +kernel
theorem d_R_undo_7 : decode mi_R_undo.2.1 7 = .ok (.ifCond .ne 6, 3) := by decide +kernel
theorem d_R_undo_10 : decode mi_R_undo.2.1 10 = .ok (.bipush (-2), 2) := by decide +kernel
theorem d_R_undo_12 : decode mi_R_undo.2.1 12 = .ok (.ireturn, 1) := by decide +kernel
theorem d_R_undo_13 : decode mi_R_undo.2.1 13 = .ok (.aload_n 0, 1) := by decide +kernel
theorem d_R_undo_14 : decode mi_R_undo.2.1 14 = .ok (.getfield 19, 3) := by decide +kernel
theorem d_R_undo_17 : decode mi_R_undo.2.1 17 = .ok (.aload_n 0, 1) := by decide +kernel
theorem d_R_undo_18 : decode mi_R_undo.2.1 18 = .ok (.getfield 12, 3) := by decide +kernel
theorem d_R_undo_21 : decode mi_R_undo.2.1 21 = .ok (.invokevirtual 182, 3) := by decide +kernel
theorem d_R_undo_24 : decode mi_R_undo.2.1 24 = .ok (.aload_n 0, 1) := by decide +kernel
theorem d_R_undo_25 : decode mi_R_undo.2.1 25 = .ok (.invokevirtual 186, 3) := by decide +kernel
theorem d_R_undo_28 : decode mi_R_undo.2.1 28 = .ok (.aload_n 0, 1) := by decide +kernel
theorem d_R_undo_29 : decode mi_R_undo.2.1 29 = .ok (.getfield 19, 3) := by decide +kernel
theorem d_R_undo_32 : decode mi_R_undo.2.1 32 = .ok (.getfield 179, 3) := by decide +kernel
theorem d_R_undo_35 : decode mi_R_undo.2.1 35 = .ok (.ireturn, 1) := by decide +kernel
theorem d_R_placeOf_0 : decode mi_R_placeOf.2.1 0 = .ok (.iload_n 0, 1) := by decide +kernel
theorem d_R_placeOf_1 : decode mi_R_placeOf.2.1 1 = .ok (.bipush 6, 2) := by decide +kernel
theorem d_R_placeOf_3 : decode mi_R_placeOf.2.1 3 = .ok (.imul, 1) := by decide +kernel
theorem d_R_placeOf_4 : decode mi_R_placeOf.2.1 4 = .ok (.iload_n 1, 1) := by decide +kernel
theorem d_R_placeOf_5 : decode mi_R_placeOf.2.1 5 = .ok (.iadd, 1) := by decide +kernel
theorem d_R_placeOf_6 : decode mi_R_placeOf.2.1 6 = .ok (.ireturn, 1) := by decide +kernel
theorem d_R_tileAt_0 : decode mi_R_tileAt.2.1 0 = .ok (.iload_n 0, 1) := by decide +kernel
theorem d_R_tileAt_1 : decode mi_R_tileAt.2.1 1 = .ok (.bipush 7, 2) := by decide +kernel
theorem d_R_tileAt_3 : decode mi_R_tileAt.2.1 3 = .ok (.imul, 1) := by decide +kernel
theorem d_R_tileAt_4 : decode mi_R_tileAt.2.1 4 = .ok (.iload_n 1, 1) := by decide +kernel
theorem d_R_tileAt_5 : decode mi_R_tileAt.2.1 5 = .ok (.iadd, 1) := by decide +kernel
theorem d_R_tileAt_6 : decode mi_R_tileAt.2.1 6 = .ok (.ireturn, 1) := by decide +kernel
theorem d_R_isStrategy_0 : decode mi_R_isStrategy.2.1 0 = .ok (.iload_n 0, 1) := by decide +kernel
theorem d_R_isStrategy_1 : decode mi_R_isStrategy.2.1 1 = .ok (.ifCond .lt 12, 3) := by decide +kernel
theorem d_R_isStrategy_4 : decode mi_R_isStrategy.2.1 4 = .ok (.iload_n 0, 1) := by decide +kernel
theorem d_R_isStrategy_5 : decode mi_R_isStrategy.2.1 5 = .ok (.iconst 4, 1) := by decide +kernel
theorem d_R_isStrategy_6 : decode mi_R_isStrategy.2.1 6 = .ok (.if_icmp .ge 7, 3) := by decide +kernel
theorem d_R_isStrategy_9 : decode mi_R_isStrategy.2.1 9 = .ok (.iconst 1, 1) := by decide +kernel
theorem d_R_isStrategy_10 : decode mi_R_isStrategy.2.1 10 = .ok (.goto 4, 3) := by decide +kernel
theorem d_R_isStrategy_13 : decode mi_R_isStrategy.2.1 13 = .ok (.iconst 0, 1) := by decide +kernel
theorem d_R_isStrategy_14 : decode mi_R_isStrategy.2.1 14 = .ok (.ireturn, 1) := by decide +kernel
theorem d_R_beginEdit_0 : decode mi_R_beginEdit.2.1 0 = .ok (.aload_n 0, 1) := by decide +kernel
theorem d_R_beginEdit_1 : decode mi_R_beginEdit.2.1 1 = .ok (.getfield 19, 3) := by decide +kernel
theorem d_R_beginEdit_4 : decode mi_R_beginEdit.2.1 4 = .ok (.aload_n 0, 1) := by decide +kernel
theorem d_R_beginEdit_5 : decode mi_R_beginEdit.2.1 5 = .ok (.getfield 12, 3) := by decide +kernel
theorem d_R_beginEdit_8 : decode mi_R_beginEdit.2.1 8 = .ok (.invokevirtual 189, 3) := by decide +kernel
theorem d_R_beginEdit_11 : decode mi_R_beginEdit.2.1 11 = .ok (.aload_n 0, 1) := by decide +kernel
theorem d_R_beginEdit_12 : decode mi_R_beginEdit.2.1 12 = .ok (.invokevirtual 186, 3) := by decide +kernel
theorem d_R_beginEdit_15 : decode mi_R_beginEdit.2.1 15 = .ok (.return_, 1) := by decide +kernel
theorem d_R_forgetResults_0 : decode mi_R_forgetResults.2.1 0 = .ok (.aload_n 0, 1) := by decide +kernel
theorem d_R_forgetResults_1 : decode mi_R_forgetResults.2.1 1 = .ok (.iconst 0, 1) := by decide +kernel
theorem d_R_forgetResults_2 : decode mi_R_forgetResults.2.1 2 = .ok (.putfield 53, 3) := by decide +kernel
theorem d_R_forgetResults_5 : decode mi_R_forgetResults.2.1 5 = .ok (.aload_n 0, 1) := by decide +kernel
theorem d_R_forgetResults_6 : decode mi_R_forgetResults.2.1 6 = .ok (.bipush (-9), 2) := by decide +kernel
theorem d_R_forgetResults_8 : decode mi_R_forgetResults.2.1 8 = .ok (.putfield 61, 3) := by decide +kernel
theorem d_R_forgetResults_11 : decode mi_R_forgetResults.2.1 11 = .ok (.iconst 0, 1) := by decide +kernel
theorem d_R_forgetResults_12 : decode mi_R_forgetResults.2.1 12 = .ok (.istore_n 1, 1) := by decide +kernel
theorem d_R_forgetResults_13 : decode mi_R_forgetResults.2.1 13 = .ok (.iload_n 1, 1) := by decide +kernel
theorem d_R_forgetResults_14 : decode mi_R_forgetResults.2.1 14 = .ok (.iconst 4, 1) := by decide +kernel
theorem d_R_forgetResults_15 : decode mi_R_forgetResults.2.1 15 = .ok (.if_icmp .ge 19, 3) := by decide +kernel
theorem d_R_forgetResults_18 : decode mi_R_forgetResults.2.1 18 = .ok (.aload_n 0, 1) := by decide +kernel
theorem d_R_forgetResults_19 : decode mi_R_forgetResults.2.1 19 = .ok (.getfield 42, 3) := by decide +kernel
theorem d_R_forgetResults_22 : decode mi_R_forgetResults.2.1 22 = .ok (.iload_n 1, 1) := by decide +kernel
theorem d_R_forgetResults_23 : decode mi_R_forgetResults.2.1 23 = .ok (.aaload, 1) := by decide +kernel
theorem d_R_forgetResults_24 : decode mi_R_forgetResults.2.1 24 = .ok (.iconst 0, 1) := by decide +kernel
theorem d_R_forgetResults_25 : decode mi_R_forgetResults.2.1 25 = .ok (.putfield 192, 3) := by decide +kernel
theorem d_R_forgetResults_28 : decode mi_R_forgetResults.2.1 28 = .ok (.iinc 1 1, 3) := by decide +kernel
theorem d_R_forgetResults_31 : decode mi_R_forgetResults.2.1 31 = .ok (.goto (-18), 3) := by decide +kernel
theorem d_R_forgetResults_34 : decode mi_R_forgetResults.2.1 34 = .ok (.return_, 1) := by decide +kernel
theorem d_R_solveSelection_0 : decode mi_R_solveSelection.2.1 0 = .ok (.aload_n 0, 1) := by decide +kernel
theorem d_R_solveSelection_1 : decode mi_R_solveSelection.2.1 1 = .ok (.getfield 53, 3) := by decide +kernel
theorem d_R_solveSelection_4 : decode mi_R_solveSelection.2.1 4 = .ok (.ifCond .eq 4, 3) := by decide +kernel
theorem d_R_solveSelection_7 : decode mi_R_solveSelection.2.1 7 = .ok (.return_, 1) := by decide +kernel
theorem d_R_solveSelection_8 : decode mi_R_solveSelection.2.1 8 = .ok (.iconst 0, 1) := by decide +kernel
theorem d_R_solveSelection_9 : decode mi_R_solveSelection.2.1 9 = .ok (.istore_n 1, 1) := by decide +kernel
theorem d_R_solveSelection_10 : decode mi_R_solveSelection.2.1 10 = .ok (.iload_n 1, 1) := by decide +kernel
theorem d_R_solveSelection_11 : decode mi_R_solveSelection.2.1 11 = .ok (.bipush 36, 2) := by decide +kernel
theorem d_R_solveSelection_13 : decode mi_R_solveSelection.2.1 13 = .ok (.if_icmp .ge 32, 3) := by decide +kernel
theorem d_R_solveSelection_16 : decode mi_R_solveSelection.2.1 16 = .ok (.aload_n 0, 1) := by decide +kernel
theorem d_R_solveSelection_17 : decode mi_R_solveSelection.2.1 17 = .ok (.getfield 49, 3) := by decide +kernel
theorem d_R_solveSelection_20 : decode mi_R_solveSelection.2.1 20 = .ok (.iload_n 1, 1) := by decide +kernel
theorem d_R_solveSelection_21 : decode mi_R_solveSelection.2.1 21 = .ok (.aload_n 0, 1) := by decide +kernel
theorem d_R_solveSelection_22 : decode mi_R_solveSelection.2.1 22 = .ok (.getfield 12, 3) := by decide +kernel
theorem d_R_solveSelection_25 : decode mi_R_solveSelection.2.1 25 = .ok (.getfield 93, 3) := by decide +kernel
theorem d_R_solveSelection_28 : decode mi_R_solveSelection.2.1 28 = .ok (.iload_n 1, 1) := by decide +kernel
theorem d_R_solveSelection_29 : decode mi_R_solveSelection.2.1 29 = .ok (.iaload, 1) := by decide +kernel
theorem d_R_solveSelection_30 : decode mi_R_solveSelection.2.1 30 = .ok (.ifCond .ne 7, 3) := by decide +kernel
theorem d_R_solveSelection_33 : decode mi_R_solveSelection.2.1 33 = .ok (.iconst 1, 1) := by decide +kernel
theorem d_R_solveSelection_34 : decode mi_R_solveSelection.2.1 34 = .ok (.goto 4, 3) := by decide +kernel
theorem d_R_solveSelection_37 : decode mi_R_solveSelection.2.1 37 = .ok (.iconst 0, 1) := by decide +kernel
theorem d_R_solveSelection_38 : decode mi_R_solveSelection.2.1 38 = .ok (.bastore, 1) := by decide +kernel
theorem d_R_solveSelection_39 : decode mi_R_solveSelection.2.1 39 = .ok (.iinc 1 1, 3) := by decide +kernel
theorem d_R_solveSelection_42 : decode mi_R_solveSelection.2.1 42 = .ok (.goto (-32), 3) := by decide +kernel
theorem d_R_solveSelection_45 : decode mi_R_solveSelection.2.1 45 = .ok (.aload_n 0, 1) := by decide +kernel
theorem d_R_solveSelection_46 : decode mi_R_solveSelection.2.1 46 = .ok (.getfield 33, 3) := by decide +kernel
theorem d_R_solveSelection_49 : decode mi_R_solveSelection.2.1 49 = .ok (.aload_n 0, 1) := by decide +kernel
theorem d_R_solveSelection_50 : decode mi_R_solveSelection.2.1 50 = .ok (.getfield 12, 3) := by decide +kernel
theorem d_R_solveSelection_53 : decode mi_R_solveSelection.2.1 53 = .ok (.aload_n 0, 1) := by decide +kernel
theorem d_R_solveSelection_54 : decode mi_R_solveSelection.2.1 54 = .ok (.getfield 49, 3) := by decide +kernel
theorem d_R_solveSelection_57 : decode mi_R_solveSelection.2.1 57 = .ok (.iconst 1, 1) := by decide +kernel
theorem d_R_solveSelection_58 : decode mi_R_solveSelection.2.1 58 = .ok (.invokevirtual 165, 3) := by decide +kernel
theorem d_R_solveSelection_61 : decode mi_R_solveSelection.2.1 61 = .ok (.iconst 0, 1) := by decide +kernel
theorem d_R_solveSelection_62 : decode mi_R_solveSelection.2.1 62 = .ok (.istore_n 1, 1) := by decide +kernel
theorem d_R_solveSelection_63 : decode mi_R_solveSelection.2.1 63 = .ok (.iload_n 1, 1) := by decide +kernel
theorem d_R_solveSelection_64 : decode mi_R_solveSelection.2.1 64 = .ok (.bipush 36, 2) := by decide +kernel
theorem d_R_solveSelection_66 : decode mi_R_solveSelection.2.1 66 = .ok (.if_icmp .ge 30, 3) := by decide +kernel
theorem d_R_solveSelection_69 : decode mi_R_solveSelection.2.1 69 = .ok (.aload_n 0, 1) := by decide +kernel
theorem d_R_solveSelection_70 : decode mi_R_solveSelection.2.1 70 = .ok (.getfield 12, 3) := by decide +kernel
theorem d_R_solveSelection_73 : decode mi_R_solveSelection.2.1 73 = .ok (.getfield 100, 3) := by decide +kernel
theorem d_R_solveSelection_76 : decode mi_R_solveSelection.2.1 76 = .ok (.iload_n 1, 1) := by decide +kernel
theorem d_R_solveSelection_77 : decode mi_R_solveSelection.2.1 77 = .ok (.baload, 1) := by decide +kernel
theorem d_R_solveSelection_78 : decode mi_R_solveSelection.2.1 78 = .ok (.ifCond .eq 12, 3) := by decide +kernel
theorem d_R_solveSelection_81 : decode mi_R_solveSelection.2.1 81 = .ok (.aload_n 0, 1) := by decide +kernel
theorem d_R_solveSelection_82 : decode mi_R_solveSelection.2.1 82 = .ok (.getfield 33, 3) := by decide +kernel
theorem d_R_solveSelection_85 : decode mi_R_solveSelection.2.1 85 = .ok (.iload_n 1, 1) := by decide +kernel
theorem d_R_solveSelection_86 : decode mi_R_solveSelection.2.1 86 = .ok (.iconst 1, 1) := by decide +kernel
theorem d_R_solveSelection_87 : decode mi_R_solveSelection.2.1 87 = .ok (.invokevirtual 169, 3) := by decide +kernel
theorem d_R_solveSelection_90 : decode mi_R_solveSelection.2.1 90 = .ok (.iinc 1 1, 3) := by decide +kernel
theorem d_R_solveSelection_93 : decode mi_R_solveSelection.2.1 93 = .ok (.goto (-30), 3) := by decide +kernel
theorem d_R_solveSelection_96 : decode mi_R_solveSelection.2.1 96 = .ok (.aload_n 0, 1) := by decide +kernel
theorem d_R_solveSelection_97 : decode mi_R_solveSelection.2.1 97 = .ok (.aload_n 0, 1) := by decide +kernel
theorem d_R_solveSelection_98 : decode mi_R_solveSelection.2.1 98 = .ok (.getfield 33, 3) := by decide +kernel
theorem d_R_solveSelection_101 : decode mi_R_solveSelection.2.1 101 = .ok (.invokevirtual 173, 3) := by decide +kernel
theorem d_R_solveSelection_104 : decode mi_R_solveSelection.2.1 104 = .ok (.putfield 57, 3) := by decide +kernel
theorem d_R_solveSelection_107 : decode mi_R_solveSelection.2.1 107 = .ok (.aload_n 0, 1) := by decide +kernel
theorem d_R_solveSelection_108 : decode mi_R_solveSelection.2.1 108 = .ok (.iconst 1, 1) := by decide +kernel
theorem d_R_solveSelection_109 : decode mi_R_solveSelection.2.1 109 = .ok (.putfield 53, 3) := by decide +kernel
theorem d_R_solveSelection_112 : decode mi_R_solveSelection.2.1 112 = .ok (.return_, 1) := by decide +kernel
theorem d_B_init_0 : decode mi_B_init.2.1 0 = .ok (.aload_n 0, 1) := by decide +kernel
theorem d_B_init_1 : decode mi_B_init.2.1 1 = .ok (.invokespecial 3, 3) := by decide +kernel
theorem d_B_init_4 : decode mi_B_init.2.1 4 = .ok (.aload_n 0, 1) := by decide +kernel
theorem d_B_init_5 : decode mi_B_init.2.1 5 = .ok (.iconst 3, 1) := by decide +kernel
theorem d_B_init_6 : decode mi_B_init.2.1 6 = .ok (.putfield 9, 3) := by decide +kernel
theorem d_B_init_9 : decode mi_B_init.2.1 9 = .ok (.aload_n 0, 1) := by decide +kernel
theorem d_B_init_10 : decode mi_B_init.2.1 10 = .ok (.iconst 3, 1) := by decide +kernel
theorem d_B_init_11 : decode mi_B_init.2.1 11 = .ok (.putfield 15, 3) := by decide +kernel
theorem d_B_init_14 : decode mi_B_init.2.1 14 = .ok (.aload_n 0, 1) := by decide +kernel
theorem d_B_init_15 : decode mi_B_init.2.1 15 = .ok (.iconst 1, 1) := by decide +kernel
theorem d_B_init_16 : decode mi_B_init.2.1 16 = .ok (.putfield 18, 3) := by decide +kernel
theorem d_B_init_19 : decode mi_B_init.2.1 19 = .ok (.aload_n 0, 1) := by decide +kernel
theorem d_B_init_20 : decode mi_B_init.2.1 20 = .ok (.iconst 2, 1) := by decide +kernel
theorem d_B_init_21 : decode mi_B_init.2.1 21 = .ok (.putfield 21, 3) := by decide +kernel
theorem d_B_init_24 : decode mi_B_init.2.1 24 = .ok (.aload_n 0, 1) := by decide +kernel
theorem d_B_init_25 : decode mi_B_init.2.1 25 = .ok (.bipush 36, 2) := by decide +kernel
theorem d_B_init_27 : decode mi_B_init.2.1 27 = .ok (.newarray .int, 2) := by decide +kernel
theorem d_B_init_29 : decode mi_B_init.2.1 29 = .ok (.putfield 24, 3) := by decide +kernel
theorem d_B_init_32 : decode mi_B_init.2.1 32 = .ok (.aload_n 0, 1) := by decide +kernel
theorem d_B_init_33 : decode mi_B_init.2.1 33 = .ok (.bipush 36, 2) := by decide +kernel
theorem d_B_init_35 : decode mi_B_init.2.1 35 = .ok (.newarray .int, 2) := by decide +kernel
theorem d_B_init_37 : decode mi_B_init.2.1 37 = .ok (.putfield 28, 3) := by decide +kernel
theorem d_B_init_40 : decode mi_B_init.2.1 40 = .ok (.aload_n 0, 1) := by decide +kernel
theorem d_B_init_41 : decode mi_B_init.2.1 41 = .ok (.bipush 36, 2) := by decide +kernel
theorem d_B_init_43 : decode mi_B_init.2.1 43 = .ok (.newarray .boolean, 2) := by decide +kernel
theorem d_B_init_45 : decode mi_B_init.2.1 45 = .ok (.putfield 31, 3) := by decide +kernel
theorem d_B_init_48 : decode mi_B_init.2.1 48 = .ok (.iconst 0, 1) := by decide +kernel
theorem d_B_init_49 : decode mi_B_init.2.1 49 = .ok (.istore_n 1, 1) := by decide +kernel
theorem d_B_init_50 : decode mi_B_init.2.1 50 = .ok (.iload_n 1, 1) := by decide +kernel
theorem d_B_init_51 : decode mi_B_init.2.1 51 = .ok (.bipush 36, 2) := by decide +kernel
theorem d_B_init_53 : decode mi_B_init.2.1 53 = .ok (.if_icmp .ge 23, 3) := by decide +kernel
theorem d_B_init_56 : decode mi_B_init.2.1 56 = .ok (.aload_n 0, 1) := by decide +kernel
theorem d_B_init_57 : decode mi_B_init.2.1 57 = .ok (.getfield 24, 3) := by decide +kernel
theorem d_B_init_60 : decode mi_B_init.2.1 60 = .ok (.iload_n 1, 1) := by decide +kernel
theorem d_B_init_61 : decode mi_B_init.2.1 61 = .ok (.iconst 0, 1) := by decide +kernel
theorem d_B_init_62 : decode mi_B_init.2.1 62 = .ok (.iastore, 1) := by decide +kernel
theorem d_B_init_63 : decode mi_B_init.2.1 63 = .ok (.aload_n 0, 1) := by decide +kernel
theorem d_B_init_64 : decode mi_B_init.2.1 64 = .ok (.getfield 28, 3) := by decide +kernel
theorem d_B_init_67 : decode mi_B_init.2.1 67 = .ok (.iload_n 1, 1) := by decide +kernel
theorem d_B_init_68 : decode mi_B_init.2.1 68 = .ok (.iconst (-1), 1) := by decide +kernel
theorem d_B_init_69 : decode mi_B_init.2.1 69 = .ok (.iastore, 1) := by decide +kernel
theorem d_B_init_70 : decode mi_B_init.2.1 70 = .ok (.iinc 1 1, 3) := by decide +kernel
theorem d_B_init_73 : decode mi_B_init.2.1 73 = .ok (.goto (-23), 3) := by decide +kernel
theorem d_B_init_76 : decode mi_B_init.2.1 76 = .ok (.iconst 0, 1) := by decide +kernel
theorem d_B_init_77 : decode mi_B_init.2.1 77 = .ok (.istore_n 1, 1) := by decide +kernel
theorem d_B_init_78 : decode mi_B_init.2.1 78 = .ok (.iload_n 1, 1) := by decide +kernel
theorem d_B_init_79 : decode mi_B_init.2.1 79 = .ok (.aload_n 0, 1) := by decide +kernel
theorem d_B_init_80 : decode mi_B_init.2.1 80 = .ok (.getfield 9, 3) := by decide +kernel
theorem d_B_init_83 : decode mi_B_init.2.1 83 = .ok (.if_icmp .ge 36, 3) := by decide +kernel
theorem d_B_init_86 : decode mi_B_init.2.1 86 = .ok (.iconst 0, 1) := by decide +kernel
theorem d_B_init_87 : decode mi_B_init.2.1 87 = .ok (.istore_n 2, 1) := by decide +kernel
theorem d_B_init_88 : decode mi_B_init.2.1 88 = .ok (.iload_n 2, 1) := by decide +kernel
theorem d_B_init_89 : decode mi_B_init.2.1 89 = .ok (.aload_n 0, 1) := by decide +kernel
theorem d_B_init_90 : decode mi_B_init.2.1 90 = .ok (.getfield 15, 3) := by decide +kernel
theorem d_B_init_93 : decode mi_B_init.2.1 93 = .ok (.if_icmp .ge 20, 3) := by decide +kernel
theorem d_B_init_96 : decode mi_B_init.2.1 96 = .ok (.aload_n 0, 1) := by decide +kernel
theorem d_B_init_97 : decode mi_B_init.2.1 97 = .ok (.getfield 24, 3) := by decide +kernel
theorem d_B_init_100 : decode mi_B_init.2.1 100 = .ok (.iload_n 1, 1) := by decide +kernel
theorem d_B_init_101 : decode mi_B_init.2.1 101 = .ok (.iload_n 2, 1) := by decide +kernel
theorem d_B_init_102 : decode mi_B_init.2.1 102 = .ok (.invokestatic 35, 3) := by decide +kernel
theorem d_B_init_105 : decode mi_B_init.2.1 105 = .ok (.iconst 1, 1) := by decide +kernel
theorem d_B_init_106 : decode mi_B_init.2.1 106 = .ok (.iastore, 1) := by decide +kernel
theorem d_B_init_107 : decode mi_B_init.2.1 107 = .ok (.iinc 2 1, 3) := by decide +kernel
theorem d_B_init_110 : decode mi_B_init.2.1 110 = .ok (.goto (-22), 3) := by decide +kernel
theorem d_B_init_113 : decode mi_B_init.2.1 113 = .ok (.iinc 1 1, 3) := by decide +kernel
theorem d_B_init_116 : decode mi_B_init.2.1 116 = .ok (.goto (-38), 3) := by decide +kernel
theorem d_B_init_119 : decode mi_B_init.2.1 119 = .ok (.return_, 1) := by decide +kernel
theorem d_B_copyFrom_0 : decode mi_B_copyFrom.2.1 0 = .ok (.aload_n 0, 1) := by decide +kernel
theorem d_B_copyFrom_1 : decode mi_B_copyFrom.2.1 1 = .ok (.aload_n 1, 1) := by decide +kernel
theorem d_B_copyFrom_2 : decode mi_B_copyFrom.2.1 2 = .ok (.getfield 9, 3) := by decide +kernel
theorem d_B_copyFrom_5 : decode mi_B_copyFrom.2.1 5 = .ok (.putfield 9, 3) := by decide +kernel
theorem d_B_copyFrom_8 : decode mi_B_copyFrom.2.1 8 = .ok (.aload_n 0, 1) := by decide +kernel
theorem d_B_copyFrom_9 : decode mi_B_copyFrom.2.1 9 = .ok (.aload_n 1, 1) := by decide +kernel
theorem d_B_copyFrom_10 : decode mi_B_copyFrom.2.1 10 = .ok (.getfield 15, 3) := by decide +kernel
theorem d_B_copyFrom_13 : decode mi_B_copyFrom.2.1 13 = .ok (.putfield 15, 3) := by decide +kernel
theorem d_B_copyFrom_16 : decode mi_B_copyFrom.2.1 16 = .ok (.aload_n 0, 1) := by decide +kernel
theorem d_B_copyFrom_17 : decode mi_B_copyFrom.2.1 17 = .ok (.aload_n 1, 1) := by decide +kernel
theorem d_B_copyFrom_18 : decode mi_B_copyFrom.2.1 18 = .ok (.getfield 18, 3) := by decide +kernel
theorem d_B_copyFrom_21 : decode mi_B_copyFrom.2.1 21 = .ok (.putfield 18, 3) := by decide +kernel
theorem d_B_copyFrom_24 : decode mi_B_copyFrom.2.1 24 = .ok (.aload_n 0, 1) := by decide +kernel
theorem d_B_copyFrom_25 : decode mi_B_copyFrom.2.1 25 = .ok (.aload_n 1, 1) := by decide +kernel
theorem d_B_copyFrom_26 : decode mi_B_copyFrom.2.1 26 = .ok (.getfield 21, 3) := by decide +kernel
theorem d_B_copyFrom_29 : decode mi_B_copyFrom.2.1 29 = .ok (.putfield 21, 3) := by decide +kernel
theorem d_B_copyFrom_32 : decode mi_B_copyFrom.2.1 32 = .ok (.aload_n 1, 1) := by decide +kernel
theorem d_B_copyFrom_33 : decode mi_B_copyFrom.2.1 33 = .ok (.getfield 24, 3) := by decide +kernel
theorem d_B_copyFrom_36 : decode mi_B_copyFrom.2.1 36 = .ok (.iconst 0, 1) := by decide +kernel
theorem d_B_copyFrom_37 : decode mi_B_copyFrom.2.1 37 = .ok (.aload_n 0, 1) := by decide +kernel
theorem d_B_copyFrom_38 : decode mi_B_copyFrom.2.1 38 = .ok (.getfield 24, 3) := by decide +kernel
theorem d_B_copyFrom_41 : decode mi_B_copyFrom.2.1 41 = .ok (.iconst 0, 1) := by decide +kernel
theorem d_B_copyFrom_42 : decode mi_B_copyFrom.2.1 42 = .ok (.bipush 36, 2) := by decide +kernel
theorem d_B_copyFrom_44 : decode mi_B_copyFrom.2.1 44 = .ok (.invokestatic 39, 3) := by decide +kernel
theorem d_B_copyFrom_47 : decode mi_B_copyFrom.2.1 47 = .ok (.aload_n 1, 1) := by decide +kernel
theorem d_B_copyFrom_48 : decode mi_B_copyFrom.2.1 48 = .ok (.getfield 28, 3) := by decide +kernel
theorem d_B_copyFrom_51 : decode mi_B_copyFrom.2.1 51 = .ok (.iconst 0, 1) := by decide +kernel
theorem d_B_copyFrom_52 : decode mi_B_copyFrom.2.1 52 = .ok (.aload_n 0, 1) := by decide +kernel
theorem d_B_copyFrom_53 : decode mi_B_copyFrom.2.1 53 = .ok (.getfield 28, 3) := by decide +kernel
theorem d_B_copyFrom_56 : decode mi_B_copyFrom.2.1 56 = .ok (.iconst 0, 1) := by decide +kernel
theorem d_B_copyFrom_57 : decode mi_B_copyFrom.2.1 57 = .ok (.bipush 36, 2) := by decide +kernel
theorem d_B_copyFrom_59 : decode mi_B_copyFrom.2.1 59 = .ok (.invokestatic 39, 3) := by decide +kernel
theorem d_B_copyFrom_62 : decode mi_B_copyFrom.2.1 62 = .ok (.aload_n 1, 1) := by decide +kernel
theorem d_B_copyFrom_63 : decode mi_B_copyFrom.2.1 63 = .ok (.getfield 31, 3) := by decide +kernel
theorem d_B_copyFrom_66 : decode mi_B_copyFrom.2.1 66 = .ok (.iconst 0, 1) := by decide +kernel
theorem d_B_copyFrom_67 : decode mi_B_copyFrom.2.1 67 = .ok (.aload_n 0, 1) := by decide +kernel
theorem d_B_copyFrom_68 : decode mi_B_copyFrom.2.1 68 = .ok (.getfield 31, 3) := by decide +kernel
theorem d_B_copyFrom_71 : decode mi_B_copyFrom.2.1 71 = .ok (.iconst 0, 1) := by decide +kernel
theorem d_B_copyFrom_72 : decode mi_B_copyFrom.2.1 72 = .ok (.bipush 36, 2) := by decide +kernel
theorem d_B_copyFrom_74 : decode mi_B_copyFrom.2.1 74 = .ok (.invokestatic 39, 3) := by decide +kernel
theorem d_B_copyFrom_77 : decode mi_B_copyFrom.2.1 77 = .ok (.return_, 1) := by decide +kernel
theorem d_B_replaceGrid_0 : decode mi_B_replaceGrid.2.1 0 = .ok (.aload_n 0, 1) := by decide +kernel
theorem d_B_replaceGrid_1 : decode mi_B_replaceGrid.2.1 1 = .ok (.aload_n 1, 1) := by decide +kernel
theorem d_B_replaceGrid_2 : decode mi_B_replaceGrid.2.1 2 = .ok (.getfield 45, 3) := by decide +kernel
theorem d_B_replaceGrid_5 : decode mi_B_replaceGrid.2.1 5 = .ok (.putfield 9, 3) := by decide +kernel
theorem d_B_replaceGrid_8 : decode mi_B_replaceGrid.2.1 8 = .ok (.aload_n 0, 1) := by decide +kernel
theorem d_B_replaceGrid_9 : decode mi_B_replaceGrid.2.1 9 = .ok (.aload_n 1, 1) := by decide +kernel
theorem d_B_replaceGrid_10 : decode mi_B_replaceGrid.2.1 10 = .ok (.getfield 48, 3) := by decide +kernel
theorem d_B_replaceGrid_13 : decode mi_B_replaceGrid.2.1 13 = .ok (.putfield 15, 3) := by decide +kernel
theorem d_B_replaceGrid_16 : decode mi_B_replaceGrid.2.1 16 = .ok (.iconst 0, 1) := by decide +kernel
theorem d_B_replaceGrid_17 : decode mi_B_replaceGrid.2.1 17 = .ok (.istore_n 2, 1) := by decide +kernel
theorem d_B_replaceGrid_18 : decode mi_B_replaceGrid.2.1 18 = .ok (.iload_n 2, 1) := by decide +kernel
theorem d_B_replaceGrid_19 : decode mi_B_replaceGrid.2.1 19 = .ok (.bipush 6, 2) := by decide +kernel
theorem d_B_replaceGrid_21 : decode mi_B_replaceGrid.2.1 21 = .ok (.if_icmp .ge 73, 3) := by decide +kernel
theorem d_B_replaceGrid_24 : decode mi_B_replaceGrid.2.1 24 = .ok (.iconst 0, 1) := by decide +kernel
theorem d_B_replaceGrid_25 : decode mi_B_replaceGrid.2.1 25 = .ok (.istore_n 3, 1) := by decide +kernel
theorem d_B_replaceGrid_26 : decode mi_B_replaceGrid.2.1 26 = .ok (.iload_n 3, 1) := by decide +kernel
theorem d_B_replaceGrid_27 : decode mi_B_replaceGrid.2.1 27 = .ok (.bipush 6, 2) := by decide +kernel
theorem d_B_replaceGrid_29 : decode mi_B_replaceGrid.2.1 29 = .ok (.if_icmp .ge 59, 3) := by decide +kernel
theorem d_B_replaceGrid_32 : decode mi_B_replaceGrid.2.1 32 = .ok (.iload_n 2, 1) := by decide +kernel
theorem d_B_replaceGrid_33 : decode mi_B_replaceGrid.2.1 33 = .ok (.iload_n 3, 1) := by decide +kernel
theorem d_B_replaceGrid_34 : decode mi_B_replaceGrid.2.1 34 = .ok (.invokestatic 35, 3) := by decide +kernel
theorem d_B_replaceGrid_37 : decode mi_B_replaceGrid.2.1 37 = .ok (.istore 4, 2) := by decide +kernel
theorem d_B_replaceGrid_39 : decode mi_B_replaceGrid.2.1 39 = .ok (.aload_n 0, 1) := by decide +kernel
theorem d_B_replaceGrid_40 : decode mi_B_replaceGrid.2.1 40 = .ok (.getfield 24, 3) := by decide +kernel
theorem d_B_replaceGrid_43 : decode mi_B_replaceGrid.2.1 43 = .ok (.iload 4, 2) := by decide +kernel
theorem d_B_replaceGrid_45 : decode mi_B_replaceGrid.2.1 45 = .ok (.aload_n 0, 1) := by decide +kernel
theorem d_B_replaceGrid_46 : decode mi_B_replaceGrid.2.1 46 = .ok (.iload_n 2, 1) := by decide +kernel
theorem d_B_replaceGrid_47 : decode mi_B_replaceGrid.2.1 47 = .ok (.iload_n 3, 1) := by decide +kernel
theorem d_B_replaceGrid_48 : decode mi_B_replaceGrid.2.1 48 = .ok (.invokevirtual 49, 3) := by decide +kernel
theorem d_B_replaceGrid_51 : decode mi_B_replaceGrid.2.1 51 = .ok (.ifCond .eq 13, 3) := by decide +kernel
theorem d_B_replaceGrid_54 : decode mi_B_replaceGrid.2.1 54 = .ok (.aload_n 1, 1) := by decide +kernel
theorem d_B_replaceGrid_55 : decode mi_B_replaceGrid.2.1 55 = .ok (.getfield 53, 3) := by decide +kernel
theorem d_B_replaceGrid_58 : decode mi_B_replaceGrid.2.1 58 = .ok (.iload 4, 2) := by decide +kernel
theorem d_B_replaceGrid_60 : decode mi_B_replaceGrid.2.1 60 = .ok (.iaload, 1) := by decide +kernel
theorem d_B_replaceGrid_61 : decode mi_B_replaceGrid.2.1 61 = .ok (.goto 4, 3) := by decide +kernel
theorem d_B_replaceGrid_64 : decode mi_B_replaceGrid.2.1 64 = .ok (.iconst 0, 1) := by decide +kernel
theorem d_B_replaceGrid_65 : decode mi_B_replaceGrid.2.1 65 = .ok (.iastore, 1) := by decide +kernel
theorem d_B_replaceGrid_66 : decode mi_B_replaceGrid.2.1 66 = .ok (.aload_n 0, 1) := by decide +kernel
theorem d_B_replaceGrid_67 : decode mi_B_replaceGrid.2.1 67 = .ok (.getfield 28, 3) := by decide +kernel
theorem d_B_replaceGrid_70 : decode mi_B_replaceGrid.2.1 70 = .ok (.iload 4, 2) := by decide +kernel
theorem d_B_replaceGrid_72 : decode mi_B_replaceGrid.2.1 72 = .ok (.iconst (-1), 1) := by decide +kernel
theorem d_B_replaceGrid_73 : decode mi_B_replaceGrid.2.1 73 = .ok (.iastore, 1) := by decide +kernel
theorem d_B_replaceGrid_74 : decode mi_B_replaceGrid.2.1 74 = .ok (.aload_n 0, 1) := by decide +kernel
theorem d_B_replaceGrid_75 : decode mi_B_replaceGrid.2.1 75 = .ok (.getfield 31, 3) := by decide +kernel
theorem d_B_replaceGrid_78 : decode mi_B_replaceGrid.2.1 78 = .ok (.iload 4, 2) := by decide +kernel
theorem d_B_replaceGrid_80 : decode mi_B_replaceGrid.2.1 80 = .ok (.iconst 0, 1) := by decide +kernel
theorem d_B_replaceGrid_81 : decode mi_B_replaceGrid.2.1 81 = .ok (.bastore, 1) := by decide +kernel
theorem d_B_replaceGrid_82 : decode mi_B_replaceGrid.2.1 82 = .ok (.iinc 3 1, 3) := by decide +kernel
theorem d_B_replaceGrid_85 : decode mi_B_replaceGrid.2.1 85 = .ok (.goto (-59), 3) := by decide +kernel
theorem d_B_replaceGrid_88 : decode mi_B_replaceGrid.2.1 88 = .ok (.iinc 2 1, 3) := by decide +kernel
theorem d_B_replaceGrid_91 : decode mi_B_replaceGrid.2.1 91 = .ok (.goto (-73), 3) := by decide +kernel
theorem d_B_replaceGrid_94 : decode mi_B_replaceGrid.2.1 94 = .ok (.return_, 1) := by decide +kernel
theorem d_B_has_0 : decode mi_B_has.2.1 0 = .ok (.iload_n 1, 1) := by decide +kernel
theorem d_B_has_1 : decode mi_B_has.2.1 1 = .ok (.ifCond .lt 27, 3) := by decide +kernel
theorem d_B_has_4 : decode mi_B_has.2.1 4 = .ok (.iload_n 1, 1) := by decide +kernel
theorem d_B_has_5 : decode mi_B_has.2.1 5 = .ok (.aload_n 0, 1) := by decide +kernel
theorem d_B_has_6 : decode mi_B_has.2.1 6 = .ok (.getfield 9, 3) := by decide +kernel
theorem d_B_has_9 : decode mi_B_has.2.1 9 = .ok (.if_icmp .ge 19, 3) := by decide +kernel
theorem d_B_has_12 : decode mi_B_has.2.1 12 = .ok (.iload_n 2, 1) := by decide +kernel
theorem d_B_has_13 : decode mi_B_has.2.1 13 = .ok (.ifCond .lt 15, 3) := by decide +kernel
theorem d_B_has_16 : decode mi_B_has.2.1 16 = .ok (.iload_n 2, 1) := by decide +kernel
theorem d_B_has_17 : decode mi_B_has.2.1 17 = .ok (.aload_n 0, 1) := by decide +kernel
theorem d_B_has_18 : decode mi_B_has.2.1 18 = .ok (.getfield 15, 3) := by decide +kernel
theorem d_B_has_21 : decode mi_B_has.2.1 21 = .ok (.if_icmp .ge 7, 3) := by decide +kernel
theorem d_B_has_24 : decode mi_B_has.2.1 24 = .ok (.iconst 1, 1) := by decide +kernel
theorem d_B_has_25 : decode mi_B_has.2.1 25 = .ok (.goto 4, 3) := by decide +kernel
theorem d_B_has_28 : decode mi_B_has.2.1 28 = .ok (.iconst 0, 1) := by decide +kernel
theorem d_B_has_29 : decode mi_B_has.2.1 29 = .ok (.ireturn, 1) := by decide +kernel
theorem d_B_isFreeForPair_0 : decode mi_B_isFreeForPair.2.1 0 = .ok (.aload_n 0, 1) := by decide +kernel
theorem d_B_isFreeForPair_1 : decode mi_B_isFreeForPair.2.1 1 = .ok (.getfield 24, 3) := by decide +kernel
theorem d_B_isFreeForPair_4 : decode mi_B_isFreeForPair.2.1 4 = .ok (.iload_n 1, 1) := by decide +kernel
theorem d_B_isFreeForPair_5 : decode mi_B_isFreeForPair.2.1 5 = .ok (.iaload, 1) := by decide +kernel
theorem d_B_isFreeForPair_6 : decode mi_B_isFreeForPair.2.1 6 = .ok (.iconst 1, 1) := by decide +kernel
theorem d_B_isFreeForPair_7 : decode mi_B_isFreeForPair.2.1 7 = .ok (.if_icmp .ne 17, 3) := by decide +kernel
theorem d_B_isFreeForPair_10 : decode mi_B_isFreeForPair.2.1 10 = .ok (.aload_n 0, 1) := by decide +kernel
theorem d_B_isFreeForPair_11 : decode mi_B_isFreeForPair.2.1 11 = .ok (.getfield 28, 3) := by decide +kernel
theorem d_B_isFreeForPair_14 : decode mi_B_isFreeForPair.2.1 14 = .ok (.iload_n 1, 1) := by decide +kernel
theorem d_B_isFreeForPair_15 : decode mi_B_isFreeForPair.2.1 15 = .ok (.iaload, 1) := by decide +kernel
theorem d_B_isFreeForPair_16 : decode mi_B_isFreeForPair.2.1 16 = .ok (.iconst (-1), 1) := by decide +kernel
theorem d_B_isFreeForPair_17 : decode mi_B_isFreeForPair.2.1 17 = .ok (.if_icmp .ne 7, 3) := by decide +kernel
theorem d_B_isFreeForPair_20 : decode mi_B_isFreeForPair.2.1 20 = .ok (.iconst 1, 1) := by decide +kernel
theorem d_B_isFreeForPair_21 : decode mi_B_isFreeForPair.2.1 21 = .ok (.goto 4, 3) := by decide +kernel
theorem d_B_isFreeForPair_24 : decode mi_B_isFreeForPair.2.1 24 = .ok (.iconst 0, 1) := by decide +kernel
theorem d_B_isFreeForPair_25 : decode mi_B_isFreeForPair.2.1 25 = .ok (.ireturn, 1) := by decide +kernel
theorem d_B_separate_0 : decode mi_B_separate.2.1 0 = .ok (.aload_n 0, 1) := by decide +kernel
theorem d_B_separate_1 : decode mi_B_separate.2.1 1 = .ok (.getfield 28, 3) := by decide +kernel
theorem d_B_separate_4 : decode mi_B_separate.2.1 4 = .ok (.iload_n 1, 1) := by decide +kernel
theorem d_B_separate_5 : decode mi_B_separate.2.1 5 = .ok (.iaload, 1) := by decide +kernel
theorem d_B_separate_6 : decode mi_B_separate.2.1 6 = .ok (.istore_n 2, 1) := by decide +kernel
theorem d_B_separate_7 : decode mi_B_separate.2.1 7 = .ok (.iload_n 2, 1) := by decide +kernel
theorem d_B_separate_8 : decode mi_B_separate.2.1 8 = .ok (.iconst (-1), 1) := by decide +kernel
theorem d_B_separate_9 : decode mi_B_separate.2.1 9 = .ok (.if_icmp .eq 17, 3) := by decide +kernel
theorem d_B_separate_12 : decode mi_B_separate.2.1 12 = .ok (.aload_n 0, 1) := by decide +kernel
theorem d_B_separate_13 : decode mi_B_separate.2.1 13 = .ok (.getfield 28, 3) := by decide +kernel
theorem d_B_separate_16 : decode mi_B_separate.2.1 16 = .ok (.iload_n 2, 1) := by decide +kernel
theorem d_B_separate_17 : decode mi_B_separate.2.1 17 = .ok (.iconst (-1), 1) := by decide +kernel
theorem d_B_separate_18 : decode mi_B_separate.2.1 18 = .ok (.iastore, 1) := by decide +kernel
theorem d_B_separate_19 : decode mi_B_separate.2.1 19 = .ok (.aload_n 0, 1) := by decide +kernel
theorem d_B_separate_20 : decode mi_B_separate.2.1 20 = .ok (.getfield 28, 3) := by decide +kernel
theorem d_B_separate_23 : decode mi_B_separate.2.1 23 = .ok (.iload_n 1, 1) := by decide +kernel
theorem d_B_separate_24 : decode mi_B_separate.2.1 24 = .ok (.iconst (-1), 1) := by decide +kernel
theorem d_B_separate_25 : decode mi_B_separate.2.1 25 = .ok (.iastore, 1) := by decide +kernel
theorem d_B_separate_26 : decode mi_B_separate.2.1 26 = .ok (.return_, 1) := by decide +kernel
theorem d_B_countSignals_0 : decode mi_B_countSignals.2.1 0 = .ok (.iconst 0, 1) := by decide +kernel
theorem d_B_countSignals_1 : decode mi_B_countSignals.2.1 1 = .ok (.istore_n 1, 1) := by decide +kernel
theorem d_B_countSignals_2 : decode mi_B_countSignals.2.1 2 = .ok (.iconst 0, 1) := by decide +kernel
theorem d_B_countSignals_3 : decode mi_B_countSignals.2.1 3 = .ok (.istore_n 2, 1) := by decide +kernel
theorem d_B_countSignals_4 : decode mi_B_countSignals.2.1 4 = .ok (.iload_n 2, 1) := by decide +kernel
theorem d_B_countSignals_5 : decode mi_B_countSignals.2.1 5 = .ok (.bipush 36, 2) := by decide +kernel
theorem d_B_countSignals_7 : decode mi_B_countSignals.2.1 7 = .ok (.if_icmp .ge 22, 3) := by decide +kernel
theorem d_B_countSignals_10 : decode mi_B_countSignals.2.1 10 = .ok (.aload_n 0, 1) := by decide +kernel
theorem d_B_countSignals_11 : decode mi_B_countSignals.2.1 11 = .ok (.getfield 24, 3) := by decide +kernel
theorem d_B_countSignals_14 : decode mi_B_countSignals.2.1 14 = .ok (.iload_n 2, 1) := by decide +kernel
theorem d_B_countSignals_15 : decode mi_B_countSignals.2.1 15 = .ok (.iaload, 1) := by decide +kernel
theorem d_B_countSignals_16 : decode mi_B_countSignals.2.1 16 = .ok (.iconst 1, 1) := by decide +kernel
theorem d_B_countSignals_17 : decode mi_B_countSignals.2.1 17 = .ok (.if_icmp .ne 6, 3) := by decide +kernel
theorem d_B_countSignals_20 : decode mi_B_countSignals.2.1 20 = .ok (.iinc 1 1, 3) := by decide +kernel
theorem d_B_countSignals_23 : decode mi_B_countSignals.2.1 23 = .ok (.iinc 2 1, 3) := by decide +kernel
theorem d_B_countSignals_26 : decode mi_B_countSignals.2.1 26 = .ok (.goto (-22), 3) := by decide +kernel
theorem d_B_countSignals_29 : decode mi_B_countSignals.2.1 29 = .ok (.iload_n 1, 1) := by decide +kernel
theorem d_B_countSignals_30 : decode mi_B_countSignals.2.1 30 = .ok (.ireturn, 1) := by decide +kernel
theorem d_B_countPairs_0 : decode mi_B_countPairs.2.1 0 = .ok (.iconst 0, 1) := by decide +kernel
theorem d_B_countPairs_1 : decode mi_B_countPairs.2.1 1 = .ok (.istore_n 1, 1) := by decide +kernel
theorem d_B_countPairs_2 : decode mi_B_countPairs.2.1 2 = .ok (.iconst 0, 1) := by decide +kernel
theorem d_B_countPairs_3 : decode mi_B_countPairs.2.1 3 = .ok (.istore_n 2, 1) := by decide +kernel
theorem d_B_countPairs_4 : decode mi_B_countPairs.2.1 4 = .ok (.iload_n 2, 1) := by decide +kernel
theorem d_B_countPairs_5 : decode mi_B_countPairs.2.1 5 = .ok (.bipush 36, 2) := by decide +kernel
theorem d_B_countPairs_7 : decode mi_B_countPairs.2.1 7 = .ok (.if_icmp .ge 22, 3) := by decide +kernel
theorem d_B_countPairs_10 : decode mi_B_countPairs.2.1 10 = .ok (.aload_n 0, 1) := by decide +kernel
theorem d_B_countPairs_11 : decode mi_B_countPairs.2.1 11 = .ok (.getfield 28, 3) := by decide +kernel
theorem d_B_countPairs_14 : decode mi_B_countPairs.2.1 14 = .ok (.iload_n 2, 1) := by decide +kernel
theorem d_B_countPairs_15 : decode mi_B_countPairs.2.1 15 = .ok (.iaload, 1) := by decide +kernel
theorem d_B_countPairs_16 : decode mi_B_countPairs.2.1 16 = .ok (.iload_n 2, 1) := by decide +kernel
theorem d_B_countPairs_17 : decode mi_B_countPairs.2.1 17 = .ok (.if_icmp .le 6, 3) := by decide +kernel
theorem d_B_countPairs_20 : decode mi_B_countPairs.2.1 20 = .ok (.iinc 1 1, 3) := by decide +kernel
theorem d_B_countPairs_23 : decode mi_B_countPairs.2.1 23 = .ok (.iinc 2 1, 3) := by decide +kernel
theorem d_B_countPairs_26 : decode mi_B_countPairs.2.1 26 = .ok (.goto (-22), 3) := by decide +kernel
theorem d_B_countPairs_29 : decode mi_B_countPairs.2.1 29 = .ok (.iload_n 1, 1) := by decide +kernel
theorem d_B_countPairs_30 : decode mi_B_countPairs.2.1 30 = .ok (.ireturn, 1) := by decide +kernel
theorem d_B_countSelected_0 : decode mi_B_countSelected.2.1 0 = .ok (.iconst 0, 1) := by decide +kernel
theorem d_B_countSelected_1 : decode mi_B_countSelected.2.1 1 = .ok (.istore_n 1, 1) := by decide +kernel
theorem d_B_countSelected_2 : decode mi_B_countSelected.2.1 2 = .ok (.iconst 0, 1) := by decide +kernel
theorem d_B_countSelected_3 : decode mi_B_countSelected.2.1 3 = .ok (.istore_n 2, 1) := by decide +kernel
theorem d_B_countSelected_4 : decode mi_B_countSelected.2.1 4 = .ok (.iload_n 2, 1) := by decide +kernel
theorem d_B_countSelected_5 : decode mi_B_countSelected.2.1 5 = .ok (.bipush 36, 2) := by decide +kernel
theorem d_B_countSelected_7 : decode mi_B_countSelected.2.1 7 = .ok (.if_icmp .ge 21, 3) := by decide +kernel
theorem d_B_countSelected_10 : decode mi_B_countSelected.2.1 10 = .ok (.aload_n 0, 1) := by decide +kernel
theorem d_B_countSelected_11 : decode mi_B_countSelected.2.1 11 = .ok (.getfield 31, 3) := by decide +kernel
theorem d_B_countSelected_14 : decode mi_B_countSelected.2.1 14 = .ok (.iload_n 2, 1) := by decide +kernel
theorem d_B_countSelected_15 : decode mi_B_countSelected.2.1 15 = .ok (.baload, 1) := by decide +kernel
theorem d_B_countSelected_16 : decode mi_B_countSelected.2.1 16 = .ok (.ifCond .eq 6, 3) := by decide +kernel
theorem d_B_countSelected_19 : decode mi_B_countSelected.2.1 19 = .ok (.iinc 1 1, 3) := by decide +kernel
theorem d_B_countSelected_22 : decode mi_B_countSelected.2.1 22 = .ok (.iinc 2 1, 3) := by decide +kernel
theorem d_B_countSelected_25 : decode mi_B_countSelected.2.1 25 = .ok (.goto (-21), 3) := by decide +kernel
theorem d_B_countSelected_28 : decode mi_B_countSelected.2.1 28 = .ok (.iload_n 1, 1) := by decide +kernel
theorem d_B_countSelected_29 : decode mi_B_countSelected.2.1 29 = .ok (.ireturn, 1) := by decide +kernel
theorem d_G_init_0 : decode mi_G_init.2.1 0 = .ok (.aload_n 0, 1) := by decide +kernel
theorem d_G_init_1 : decode mi_G_init.2.1 1 = .ok (.invokespecial 3, 3) := by decide +kernel
theorem d_G_init_4 : decode mi_G_init.2.1 4 = .ok (.aload_n 0, 1) := by decide +kernel
theorem d_G_init_5 : decode mi_G_init.2.1 5 = .ok (.bipush 60, 2) := by decide +kernel
theorem d_G_init_7 : decode mi_G_init.2.1 7 = .ok (.newarray .int, 2) := by decide +kernel
theorem d_G_init_9 : decode mi_G_init.2.1 9 = .ok (.putfield 11, 3) := by decide +kernel
theorem d_G_init_12 : decode mi_G_init.2.1 12 = .ok (.aload_n 0, 1) := by decide +kernel
theorem d_G_init_13 : decode mi_G_init.2.1 13 = .ok (.iconst 0, 1) := by decide +kernel
theorem d_G_init_14 : decode mi_G_init.2.1 14 = .ok (.putfield 15, 3) := by decide +kernel
theorem d_G_init_17 : decode mi_G_init.2.1 17 = .ok (.aload_n 0, 1) := by decide +kernel
theorem d_G_init_18 : decode mi_G_init.2.1 18 = .ok (.iconst 0, 1) := by decide +kernel
theorem d_G_init_19 : decode mi_G_init.2.1 19 = .ok (.putfield 19, 3) := by decide +kernel
theorem d_G_init_22 : decode mi_G_init.2.1 22 = .ok (.aload_n 0, 1) := by decide +kernel
theorem d_G_init_23 : decode mi_G_init.2.1 23 = .ok (.iconst 0, 1) := by decide +kernel
theorem d_G_init_24 : decode mi_G_init.2.1 24 = .ok (.putfield 22, 3) := by decide +kernel
theorem d_G_init_27 : decode mi_G_init.2.1 27 = .ok (.aload_n 0, 1) := by decide +kernel
theorem d_G_init_28 : decode mi_G_init.2.1 28 = .ok (.bipush 36, 2) := by decide +kernel
theorem d_G_init_30 : decode mi_G_init.2.1 30 = .ok (.newarray .int, 2) := by decide +kernel
theorem d_G_init_32 : decode mi_G_init.2.1 32 = .ok (.putfield 25, 3) := by decide +kernel
theorem d_G_init_35 : decode mi_G_init.2.1 35 = .ok (.return_, 1) := by decide +kernel
theorem d_G_add_0 : decode mi_G_add.2.1 0 = .ok (.aload_n 0, 1) := by decide +kernel
theorem d_G_add_1 : decode mi_G_add.2.1 1 = .ok (.getfield 15, 3) := by decide +kernel
theorem d_G_add_4 : decode mi_G_add.2.1 4 = .ok (.bipush 60, 2) := by decide +kernel
theorem d_G_add_6 : decode mi_G_add.2.1 6 = .ok (.if_icmp .lt 5, 3) := by decide +kernel
theorem d_G_add_9 : decode mi_G_add.2.1 9 = .ok (.iconst 0, 1) := by decide +kernel
theorem d_G_add_10 : decode mi_G_add.2.1 10 = .ok (.ireturn, 1) := by decide +kernel
theorem d_G_add_11 : decode mi_G_add.2.1 11 = .ok (.aload_n 0, 1) := by decide +kernel
theorem d_G_add_12 : decode mi_G_add.2.1 12 = .ok (.getfield 11, 3) := by decide +kernel
theorem d_G_add_15 : decode mi_G_add.2.1 15 = .ok (.aload_n 0, 1) := by decide +kernel
theorem d_G_add_16 : decode mi_G_add.2.1 16 = .ok (.getfield 15, 3) := by decide +kernel
theorem d_G_add_19 : decode mi_G_add.2.1 19 = .ok (.iload_n 1, 1) := by decide +kernel
theorem d_G_add_20 : decode mi_G_add.2.1 20 = .ok (.iastore, 1) := by decide +kernel
theorem d_G_add_21 : decode mi_G_add.2.1 21 = .ok (.aload_n 0, 1) := by decide +kernel
theorem d_G_add_22 : decode mi_G_add.2.1 22 = .ok (.dup, 1) := by decide +kernel
theorem d_G_add_23 : decode mi_G_add.2.1 23 = .ok (.getfield 15, 3) := by decide +kernel
theorem d_G_add_26 : decode mi_G_add.2.1 26 = .ok (.iconst 1, 1) := by decide +kernel
theorem d_G_add_27 : decode mi_G_add.2.1 27 = .ok (.iadd, 1) := by decide +kernel
theorem d_G_add_28 : decode mi_G_add.2.1 28 = .ok (.putfield 15, 3) := by decide +kernel
theorem d_G_add_31 : decode mi_G_add.2.1 31 = .ok (.iconst 1, 1) := by decide +kernel
theorem d_G_add_32 : decode mi_G_add.2.1 32 = .ok (.ireturn, 1) := by decide +kernel
theorem d_G_read_0 : decode mi_G_read.2.1 0 = .ok (.aload_n 0, 1) := by decide +kernel
theorem d_G_read_1 : decode mi_G_read.2.1 1 = .ok (.iconst 0, 1) := by decide +kernel
theorem d_G_read_2 : decode mi_G_read.2.1 2 = .ok (.putfield 19, 3) := by decide +kernel
theorem d_G_read_5 : decode mi_G_read.2.1 5 = .ok (.aload_n 0, 1) := by decide +kernel
theorem d_G_read_6 : decode mi_G_read.2.1 6 = .ok (.bipush 6, 2) := by decide +kernel
theorem d_G_read_8 : decode mi_G_read.2.1 8 = .ok (.putfield 22, 3) := by decide +kernel
theorem d_G_read_11 : decode mi_G_read.2.1 11 = .ok (.iconst 0, 1) := by decide +kernel
theorem d_G_read_12 : decode mi_G_read.2.1 12 = .ok (.istore_n 1, 1) := by decide +kernel
theorem d_G_read_13 : decode mi_G_read.2.1 13 = .ok (.iconst 0, 1) := by decide +kernel
theorem d_G_read_14 : decode mi_G_read.2.1 14 = .ok (.istore_n 2, 1) := by decide +kernel
theorem d_G_read_15 : decode mi_G_read.2.1 15 = .ok (.iload_n 2, 1) := by decide +kernel
theorem d_G_read_16 : decode mi_G_read.2.1 16 = .ok (.aload_n 0, 1) := by decide +kernel
theorem d_G_read_17 : decode mi_G_read.2.1 17 = .ok (.getfield 15, 3) := by decide +kernel
theorem d_G_read_20 : decode mi_G_read.2.1 20 = .ok (.if_icmp .ge 82, 3) := by decide +kernel
theorem d_G_read_23 : decode mi_G_read.2.1 23 = .ok (.aload_n 0, 1) := by decide +kernel
theorem d_G_read_24 : decode mi_G_read.2.1 24 = .ok (.getfield 11, 3) := by decide +kernel
theorem d_G_read_27 : decode mi_G_read.2.1 27 = .ok (.iload_n 2, 1) := by decide +kernel
theorem d_G_read_28 : decode mi_G_read.2.1 28 = .ok (.iaload, 1) := by decide +kernel
theorem d_G_read_29 : decode mi_G_read.2.1 29 = .ok (.istore_n 3, 1) := by decide +kernel
theorem d_G_read_30 : decode mi_G_read.2.1 30 = .ok (.iload_n 3, 1) := by decide +kernel
theorem d_G_read_31 : decode mi_G_read.2.1 31 = .ok (.bipush 32, 2) := by decide +kernel
theorem d_G_read_33 : decode mi_G_read.2.1 33 = .ok (.if_icmp .ne 6, 3) := by decide +kernel
theorem d_G_read_36 : decode mi_G_read.2.1 36 = .ok (.goto 60, 3) := by decide +kernel
theorem d_G_read_39 : decode mi_G_read.2.1 39 = .ok (.aload_n 0, 1) := by decide +kernel
theorem d_G_read_40 : decode mi_G_read.2.1 40 = .ok (.iload_n 3, 1) := by decide +kernel
theorem d_G_read_41 : decode mi_G_read.2.1 41 = .ok (.iload_n 1, 1) := by decide +kernel
theorem d_G_read_42 : decode mi_G_read.2.1 42 = .ok (.invokevirtual 28, 3) := by decide +kernel
theorem d_G_read_45 : decode mi_G_read.2.1 45 = .ok (.ifCond .ne 5, 3) := by decide +kernel
theorem d_G_read_48 : decode mi_G_read.2.1 48 = .ok (.iload_n 2, 1) := by decide +kernel
theorem d_G_read_49 : decode mi_G_read.2.1 49 = .ok (.ireturn, 1) := by decide +kernel
theorem d_G_read_50 : decode mi_G_read.2.1 50 = .ok (.iload_n 3, 1) := by decide +kernel
theorem d_G_read_51 : decode mi_G_read.2.1 51 = .ok (.bipush 59, 2) := by decide +kernel
theorem d_G_read_53 : decode mi_G_read.2.1 53 = .ok (.if_icmp .ne 23, 3) := by decide +kernel
theorem d_G_read_56 : decode mi_G_read.2.1 56 = .ok (.aload_n 0, 1) := by decide +kernel
theorem d_G_read_57 : decode mi_G_read.2.1 57 = .ok (.iload_n 1, 1) := by decide +kernel
theorem d_G_read_58 : decode mi_G_read.2.1 58 = .ok (.putfield 22, 3) := by decide +kernel
theorem d_G_read_61 : decode mi_G_read.2.1 61 = .ok (.aload_n 0, 1) := by decide +kernel
theorem d_G_read_62 : decode mi_G_read.2.1 62 = .ok (.dup, 1) := by decide +kernel
theorem d_G_read_63 : decode mi_G_read.2.1 63 = .ok (.getfield 19, 3) := by decide +kernel
theorem d_G_read_66 : decode mi_G_read.2.1 66 = .ok (.iconst 1, 1) := by decide +kernel
theorem d_G_read_67 : decode mi_G_read.2.1 67 = .ok (.iadd, 1) := by decide +kernel
theorem d_G_read_68 : decode mi_G_read.2.1 68 = .ok (.putfield 19, 3) := by decide +kernel
theorem d_G_read_71 : decode mi_G_read.2.1 71 = .ok (.iconst 0, 1) := by decide +kernel
theorem d_G_read_72 : decode mi_G_read.2.1 72 = .ok (.istore_n 1, 1) := by decide +kernel
theorem d_G_read_73 : decode mi_G_read.2.1 73 = .ok (.goto 23, 3) := by decide +kernel
theorem d_G_read_76 : decode mi_G_read.2.1 76 = .ok (.aload_n 0, 1) := by decide +kernel
theorem d_G_read_77 : decode mi_G_read.2.1 77 = .ok (.getfield 25, 3) := by decide +kernel
theorem d_G_read_80 : decode mi_G_read.2.1 80 = .ok (.aload_n 0, 1) := by decide +kernel
theorem d_G_read_81 : decode mi_G_read.2.1 81 = .ok (.getfield 19, 3) := by decide +kernel
theorem d_G_read_84 : decode mi_G_read.2.1 84 = .ok (.iload_n 1, 1) := by decide +kernel
theorem d_G_read_85 : decode mi_G_read.2.1 85 = .ok (.invokestatic 32, 3) := by decide +kernel
theorem d_G_read_88 : decode mi_G_read.2.1 88 = .ok (.iload_n 3, 1) := by decide +kernel
theorem d_G_read_89 : decode mi_G_read.2.1 89 = .ok (.invokestatic 36, 3) := by decide +kernel
theorem d_G_read_92 : decode mi_G_read.2.1 92 = .ok (.iastore, 1) := by decide +kernel
theorem d_G_read_93 : decode mi_G_read.2.1 93 = .ok (.iinc 1 1, 3) := by decide +kernel
theorem d_G_read_96 : decode mi_G_read.2.1 96 = .ok (.iinc 2 1, 3) := by decide +kernel
theorem d_G_read_99 : decode mi_G_read.2.1 99 = .ok (.goto (-84), 3) := by decide +kernel
theorem d_G_read_102 : decode mi_G_read.2.1 102 = .ok (.aload_n 0, 1) := by decide +kernel
theorem d_G_read_103 : decode mi_G_read.2.1 103 = .ok (.getfield 19, 3) := by decide +kernel
theorem d_G_read_106 : decode mi_G_read.2.1 106 = .ok (.ifCond .eq 7, 3) := by decide +kernel
theorem d_G_read_109 : decode mi_G_read.2.1 109 = .ok (.iload_n 1, 1) := by decide +kernel
theorem d_G_read_110 : decode mi_G_read.2.1 110 = .ok (.ifCond .le 10, 3) := by decide +kernel
theorem d_G_read_113 : decode mi_G_read.2.1 113 = .ok (.aload_n 0, 1) := by decide +kernel
theorem d_G_read_114 : decode mi_G_read.2.1 114 = .ok (.getfield 15, 3) := by decide +kernel
theorem d_G_read_117 : decode mi_G_read.2.1 117 = .ok (.goto 4, 3) := by decide +kernel
theorem d_G_read_120 : decode mi_G_read.2.1 120 = .ok (.iconst (-1), 1) := by decide +kernel
theorem d_G_read_121 : decode mi_G_read.2.1 121 = .ok (.ireturn, 1) := by decide +kernel
theorem d_G_isAllowed_0 : decode mi_G_isAllowed.2.1 0 = .ok (.aload_n 0, 1) := by decide +kernel
theorem d_G_isAllowed_1 : decode mi_G_isAllowed.2.1 1 = .ok (.getfield 19, 3) := by decide +kernel
theorem d_G_isAllowed_4 : decode mi_G_isAllowed.2.1 4 = .ok (.bipush 6, 2) := by decide +kernel
theorem d_G_isAllowed_6 : decode mi_G_isAllowed.2.1 6 = .ok (.if_icmp .lt 5, 3) := by decide +kernel
theorem d_G_isAllowed_9 : decode mi_G_isAllowed.2.1 9 = .ok (.iconst 0, 1) := by decide +kernel
theorem d_G_isAllowed_10 : decode mi_G_isAllowed.2.1 10 = .ok (.ireturn, 1) := by decide +kernel
theorem d_G_isAllowed_11 : decode mi_G_isAllowed.2.1 11 = .ok (.iload_n 1, 1) := by decide +kernel
theorem d_G_isAllowed_12 : decode mi_G_isAllowed.2.1 12 = .ok (.bipush 59, 2) := by decide +kernel
theorem d_G_isAllowed_14 : decode mi_G_isAllowed.2.1 14 = .ok (.if_icmp .ne 36, 3) := by decide +kernel
theorem d_G_isAllowed_17 : decode mi_G_isAllowed.2.1 17 = .ok (.aload_n 0, 1) := by decide +kernel
theorem d_G_isAllowed_18 : decode mi_G_isAllowed.2.1 18 = .ok (.getfield 19, 3) := by decide +kernel
theorem d_G_isAllowed_21 : decode mi_G_isAllowed.2.1 21 = .ok (.ifCond .ne 15, 3) := by decide +kernel
theorem d_G_isAllowed_24 : decode mi_G_isAllowed.2.1 24 = .ok (.iload_n 2, 1) := by decide +kernel
theorem d_G_isAllowed_25 : decode mi_G_isAllowed.2.1 25 = .ok (.ifCond .le 7, 3) := by decide +kernel
theorem d_G_isAllowed_28 : decode mi_G_isAllowed.2.1 28 = .ok (.iconst 1, 1) := by decide +kernel
theorem d_G_isAllowed_29 : decode mi_G_isAllowed.2.1 29 = .ok (.goto 20, 3) := by decide +kernel
theorem d_G_isAllowed_32 : decode mi_G_isAllowed.2.1 32 = .ok (.iconst 0, 1) := by decide +kernel
theorem d_G_isAllowed_33 : decode mi_G_isAllowed.2.1 33 = .ok (.goto 16, 3) := by decide +kernel
theorem d_G_isAllowed_36 : decode mi_G_isAllowed.2.1 36 = .ok (.iload_n 2, 1) := by decide +kernel
theorem d_G_isAllowed_37 : decode mi_G_isAllowed.2.1 37 = .ok (.aload_n 0, 1) := by decide +kernel
theorem d_G_isAllowed_38 : decode mi_G_isAllowed.2.1 38 = .ok (.getfield 22, 3) := by decide +kernel
theorem d_G_isAllowed_41 : decode mi_G_isAllowed.2.1 41 = .ok (.if_icmp .ne 7, 3) := by decide +kernel
theorem d_G_isAllowed_44 : decode mi_G_isAllowed.2.1 44 = .ok (.iconst 1, 1) := by decide +kernel
theorem d_G_isAllowed_45 : decode mi_G_isAllowed.2.1 45 = .ok (.goto 4, 3) := by decide +kernel
theorem d_G_isAllowed_48 : decode mi_G_isAllowed.2.1 48 = .ok (.iconst 0, 1) := by decide +kernel
theorem d_G_isAllowed_49 : decode mi_G_isAllowed.2.1 49 = .ok (.ireturn, 1) := by decide +kernel
theorem d_G_isAllowed_50 : decode mi_G_isAllowed.2.1 50 = .ok (.iload_n 1, 1) := by decide +kernel
theorem d_G_isAllowed_51 : decode mi_G_isAllowed.2.1 51 = .ok (.invokestatic 36, 3) := by decide +kernel
theorem d_G_isAllowed_54 : decode mi_G_isAllowed.2.1 54 = .ok (.iconst (-1), 1) := by decide +kernel
theorem d_G_isAllowed_55 : decode mi_G_isAllowed.2.1 55 = .ok (.if_icmp .eq 15, 3) := by decide +kernel
theorem d_G_isAllowed_58 : decode mi_G_isAllowed.2.1 58 = .ok (.iload_n 2, 1) := by decide +kernel
theorem d_G_isAllowed_59 : decode mi_G_isAllowed.2.1 59 = .ok (.aload_n 0, 1) := by decide +kernel
theorem d_G_isAllowed_60 : decode mi_G_isAllowed.2.1 60 = .ok (.getfield 22, 3) := by decide +kernel
theorem d_G_isAllowed_63 : decode mi_G_isAllowed.2.1 63 = .ok (.if_icmp .ge 7, 3) := by decide +kernel
theorem d_G_isAllowed_66 : decode mi_G_isAllowed.2.1 66 = .ok (.iconst 1, 1) := by decide +kernel
theorem d_G_isAllowed_67 : decode mi_G_isAllowed.2.1 67 = .ok (.goto 4, 3) := by decide +kernel
theorem d_G_isAllowed_70 : decode mi_G_isAllowed.2.1 70 = .ok (.iconst 0, 1) := by decide +kernel
theorem d_G_isAllowed_71 : decode mi_G_isAllowed.2.1 71 = .ok (.ireturn, 1) := by decide +kernel
theorem d_G_kindOf_0 : decode mi_G_kindOf.2.1 0 = .ok (.iload_n 0, 1) := by decide +kernel
theorem d_G_kindOf_1 : decode mi_G_kindOf.2.1 1 = .ok (.lookupswitch 41 #[(46, 39), (112, 37), (115, 35)], 35) := by decide +kernel
theorem d_G_kindOf_36 : decode mi_G_kindOf.2.1 36 = .ok (.iconst 1, 1) := by decide +kernel
theorem d_G_kindOf_37 : decode mi_G_kindOf.2.1 37 = .ok (.ireturn, 1) := by decide +kernel
theorem d_G_kindOf_38 : decode mi_G_kindOf.2.1 38 = .ok (.iconst 2, 1) := by decide +kernel
theorem d_G_kindOf_39 : decode mi_G_kindOf.2.1 39 = .ok (.ireturn, 1) := by decide +kernel
theorem d_G_kindOf_40 : decode mi_G_kindOf.2.1 40 = .ok (.iconst 0, 1) := by decide +kernel
theorem d_G_kindOf_41 : decode mi_G_kindOf.2.1 41 = .ok (.ireturn, 1) := by decide +kernel
theorem d_G_kindOf_42 : decode mi_G_kindOf.2.1 42 = .ok (.iconst (-1), 1) := by decide +kernel
theorem d_G_kindOf_43 : decode mi_G_kindOf.2.1 43 = .ok (.ireturn, 1) := by decide +kernel
theorem d_H_init_0 : decode mi_H_init.2.1 0 = .ok (.aload_n 0, 1) := by decide +kernel
theorem d_H_init_1 : decode mi_H_init.2.1 1 = .ok (.invokespecial 1, 3) := by decide +kernel
theorem d_H_init_4 : decode mi_H_init.2.1 4 = .ok (.aload_n 0, 1) := by decide +kernel
theorem d_H_init_5 : decode mi_H_init.2.1 5 = .ok (.bipush 8, 2) := by decide +kernel
theorem d_H_init_7 : decode mi_H_init.2.1 7 = .ok (.anewarray 9, 3) := by decide +kernel
theorem d_H_init_10 : decode mi_H_init.2.1 10 = .ok (.putfield 11, 3) := by decide +kernel
theorem d_H_init_13 : decode mi_H_init.2.1 13 = .ok (.iconst 0, 1) := by decide +kernel
theorem d_H_init_14 : decode mi_H_init.2.1 14 = .ok (.istore_n 1, 1) := by decide +kernel
theorem d_H_init_15 : decode mi_H_init.2.1 15 = .ok (.iload_n 1, 1) := by decide +kernel
theorem d_H_init_16 : decode mi_H_init.2.1 16 = .ok (.bipush 8, 2) := by decide +kernel
theorem d_H_init_18 : decode mi_H_init.2.1 18 = .ok (.if_icmp .ge 22, 3) := by decide +kernel
theorem d_H_init_21 : decode mi_H_init.2.1 21 = .ok (.aload_n 0, 1) := by decide +kernel
theorem d_H_init_22 : decode mi_H_init.2.1 22 = .ok (.getfield 11, 3) := by decide +kernel
theorem d_H_init_25 : decode mi_H_init.2.1 25 = .ok (.iload_n 1, 1) := by decide +kernel
theorem d_H_init_26 : decode mi_H_init.2.1 26 = .ok (.new 9, 3) := by decide +kernel
theorem d_H_init_29 : decode mi_H_init.2.1 29 = .ok (.dup, 1) := by decide +kernel
theorem d_H_init_30 : decode mi_H_init.2.1 30 = .ok (.invokespecial 15, 3) := by decide +kernel
theorem d_H_init_33 : decode mi_H_init.2.1 33 = .ok (.aastore, 1) := by decide +kernel
theorem d_H_init_34 : decode mi_H_init.2.1 34 = .ok (.iinc 1 1, 3) := by decide +kernel
theorem d_H_init_37 : decode mi_H_init.2.1 37 = .ok (.goto (-22), 3) := by decide +kernel
theorem d_H_init_40 : decode mi_H_init.2.1 40 = .ok (.aload_n 0, 1) := by decide +kernel
theorem d_H_init_41 : decode mi_H_init.2.1 41 = .ok (.iconst 0, 1) := by decide +kernel
theorem d_H_init_42 : decode mi_H_init.2.1 42 = .ok (.putfield 16, 3) := by decide +kernel
theorem d_H_init_45 : decode mi_H_init.2.1 45 = .ok (.return_, 1) := by decide +kernel
theorem d_H_keep_0 : decode mi_H_keep.2.1 0 = .ok (.aload_n 0, 1) := by decide +kernel
theorem d_H_keep_1 : decode mi_H_keep.2.1 1 = .ok (.getfield 16, 3) := by decide +kernel
theorem d_H_keep_4 : decode mi_H_keep.2.1 4 = .ok (.bipush 8, 2) := by decide +kernel
theorem d_H_keep_6 : decode mi_H_keep.2.1 6 = .ok (.if_icmp .ne 7, 3) := by decide +kernel
theorem d_H_keep_9 : decode mi_H_keep.2.1 9 = .ok (.aload_n 0, 1) := by decide +kernel
theorem d_H_keep_10 : decode mi_H_keep.2.1 10 = .ok (.invokevirtual 20, 3) := by decide +kernel
theorem d_H_keep_13 : decode mi_H_keep.2.1 13 = .ok (.aload_n 0, 1) := by decide +kernel
theorem d_H_keep_14 : decode mi_H_keep.2.1 14 = .ok (.getfield 11, 3) := by decide +kernel
theorem d_H_keep_17 : decode mi_H_keep.2.1 17 = .ok (.aload_n 0, 1) := by decide +kernel
theorem d_H_keep_18 : decode mi_H_keep.2.1 18 = .ok (.getfield 16, 3) := by decide +kernel
theorem d_H_keep_21 : decode mi_H_keep.2.1 21 = .ok (.aaload, 1) := by decide +kernel
theorem d_H_keep_22 : decode mi_H_keep.2.1 22 = .ok (.aload_n 1, 1) := by decide +kernel
theorem d_H_keep_23 : decode mi_H_keep.2.1 23 = .ok (.invokevirtual 23, 3) := by decide +kernel
theorem d_H_keep_26 : decode mi_H_keep.2.1 26 = .ok (.aload_n 0, 1) := by decide +kernel
theorem d_H_keep_27 : decode mi_H_keep.2.1 27 = .ok (.dup, 1) := by decide +kernel
theorem d_H_keep_28 : decode mi_H_keep.2.1 28 = .ok (.getfield 16, 3) := by decide +kernel
theorem d_H_keep_31 : decode mi_H_keep.2.1 31 = .ok (.iconst 1, 1) := by decide +kernel
theorem d_H_keep_32 : decode mi_H_keep.2.1 32 = .ok (.iadd, 1) := by decide +kernel
theorem d_H_keep_33 : decode mi_H_keep.2.1 33 = .ok (.putfield 16, 3) := by decide +kernel
theorem d_H_keep_36 : decode mi_H_keep.2.1 36 = .ok (.return_, 1) := by decide +kernel
theorem d_H_dropOldest_0 : decode mi_H_dropOldest.2.1 0 = .ok (.aload_n 0, 1) := by decide +kernel
theorem d_H_dropOldest_1 : decode mi_H_dropOldest.2.1 1 = .ok (.getfield 11, 3) := by decide +kernel
theorem d_H_dropOldest_4 : decode mi_H_dropOldest.2.1 4 = .ok (.iconst 0, 1) := by decide +kernel
theorem d_H_dropOldest_5 : decode mi_H_dropOldest.2.1 5 = .ok (.aaload, 1) := by decide +kernel
theorem d_H_dropOldest_6 : decode mi_H_dropOldest.2.1 6 = .ok (.astore_n 1, 1) := by decide +kernel
theorem d_H_dropOldest_7 : decode mi_H_dropOldest.2.1 7 = .ok (.iconst 1, 1) := by decide +kernel
theorem d_H_dropOldest_8 : decode mi_H_dropOldest.2.1 8 = .ok (.istore_n 2, 1) := by decide +kernel
theorem d_H_dropOldest_9 : decode mi_H_dropOldest.2.1 9 = .ok (.iload_n 2, 1) := by decide +kernel
theorem d_H_dropOldest_10 : decode mi_H_dropOldest.2.1 10 = .ok (.bipush 8, 2) := by decide +kernel
theorem d_H_dropOldest_12 : decode mi_H_dropOldest.2.1 12 = .ok (.if_icmp .ge 23, 3) := by decide +kernel
theorem d_H_dropOldest_15 : decode mi_H_dropOldest.2.1 15 = .ok (.aload_n 0, 1) := by decide +kernel
theorem d_H_dropOldest_16 : decode mi_H_dropOldest.2.1 16 = .ok (.getfield 11, 3) := by decide +kernel
theorem d_H_dropOldest_19 : decode mi_H_dropOldest.2.1 19 = .ok (.iload_n 2, 1) := by decide +kernel
theorem d_H_dropOldest_20 : decode mi_H_dropOldest.2.1 20 = .ok (.iconst 1, 1) := by decide +kernel
theorem d_H_dropOldest_21 : decode mi_H_dropOldest.2.1 21 = .ok (.isub, 1) := by decide +kernel
theorem d_H_dropOldest_22 : decode mi_H_dropOldest.2.1 22 = .ok (.aload_n 0, 1) := by decide +kernel
theorem d_H_dropOldest_23 : decode mi_H_dropOldest.2.1 23 = .ok (.getfield 11, 3) := by decide +kernel
theorem d_H_dropOldest_26 : decode mi_H_dropOldest.2.1 26 = .ok (.iload_n 2, 1) := by decide +kernel
theorem d_H_dropOldest_27 : decode mi_H_dropOldest.2.1 27 = .ok (.aaload, 1) := by decide +kernel
theorem d_H_dropOldest_28 : decode mi_H_dropOldest.2.1 28 = .ok (.aastore, 1) := by decide +kernel
theorem d_H_dropOldest_29 : decode mi_H_dropOldest.2.1 29 = .ok (.iinc 2 1, 3) := by decide +kernel
theorem d_H_dropOldest_32 : decode mi_H_dropOldest.2.1 32 = .ok (.goto (-23), 3) := by decide +kernel
theorem d_H_dropOldest_35 : decode mi_H_dropOldest.2.1 35 = .ok (.aload_n 0, 1) := by decide +kernel
theorem d_H_dropOldest_36 : decode mi_H_dropOldest.2.1 36 = .ok (.getfield 11, 3) := by decide +kernel
theorem d_H_dropOldest_39 : decode mi_H_dropOldest.2.1 39 = .ok (.bipush 7, 2) := by decide +kernel
theorem d_H_dropOldest_41 : decode mi_H_dropOldest.2.1 41 = .ok (.aload_n 1, 1) := by decide +kernel
theorem d_H_dropOldest_42 : decode mi_H_dropOldest.2.1 42 = .ok (.aastore, 1) := by decide +kernel
theorem d_H_dropOldest_43 : decode mi_H_dropOldest.2.1 43 = .ok (.aload_n 0, 1) := by decide +kernel
theorem d_H_dropOldest_44 : decode mi_H_dropOldest.2.1 44 = .ok (.bipush 7, 2) := by decide +kernel
theorem d_H_dropOldest_46 : decode mi_H_dropOldest.2.1 46 = .ok (.putfield 16, 3) := by decide +kernel
theorem d_H_dropOldest_49 : decode mi_H_dropOldest.2.1 49 = .ok (.return_, 1) := by decide +kernel
theorem d_H_giveBack_0 : decode mi_H_giveBack.2.1 0 = .ok (.aload_n 0, 1) := by decide +kernel
theorem d_H_giveBack_1 : decode mi_H_giveBack.2.1 1 = .ok (.getfield 16, 3) := by decide +kernel
theorem d_H_giveBack_4 : decode mi_H_giveBack.2.1 4 = .ok (.ifCond .le 26, 3) := by decide +kernel
theorem d_H_giveBack_7 : decode mi_H_giveBack.2.1 7 = .ok (.aload_n 0, 1) := by decide +kernel
theorem d_H_giveBack_8 : decode mi_H_giveBack.2.1 8 = .ok (.dup, 1) := by decide +kernel
theorem d_H_giveBack_9 : decode mi_H_giveBack.2.1 9 = .ok (.getfield 16, 3) := by decide +kernel
theorem d_H_giveBack_12 : decode mi_H_giveBack.2.1 12 = .ok (.iconst 1, 1) := by decide +kernel
theorem d_H_giveBack_13 : decode mi_H_giveBack.2.1 13 = .ok (.isub, 1) := by decide +kernel
theorem d_H_giveBack_14 : decode mi_H_giveBack.2.1 14 = .ok (.putfield 16, 3) := by decide +kernel
theorem d_H_giveBack_17 : decode mi_H_giveBack.2.1 17 = .ok (.aload_n 1, 1) := by decide +kernel
theorem d_H_giveBack_18 : decode mi_H_giveBack.2.1 18 = .ok (.aload_n 0, 1) := by decide +kernel
theorem d_H_giveBack_19 : decode mi_H_giveBack.2.1 19 = .ok (.getfield 11, 3) := by decide +kernel
theorem d_H_giveBack_22 : decode mi_H_giveBack.2.1 22 = .ok (.aload_n 0, 1) := by decide +kernel
theorem d_H_giveBack_23 : decode mi_H_giveBack.2.1 23 = .ok (.getfield 16, 3) := by decide +kernel
theorem d_H_giveBack_26 : decode mi_H_giveBack.2.1 26 = .ok (.aaload, 1) := by decide +kernel
theorem d_H_giveBack_27 : decode mi_H_giveBack.2.1 27 = .ok (.invokevirtual 23, 3) := by decide +kernel
theorem d_H_giveBack_30 : decode mi_H_giveBack.2.1 30 = .ok (.return_, 1) := by decide +kernel
end
section
/-! decode rows: printed by wip/whole/gen07.py -/
theorem d_N_init_0 : decode mi_N_init.2.1 0 = .ok (.aload_n 0, 1) := by decide +kernel
theorem d_N_init_1 : decode mi_N_init.2.1 1 = .ok (.invokespecial 5, 3) := by decide +kernel
theorem d_N_init_4 : decode mi_N_init.2.1 4 = .ok (.aload_n 0, 1) := by decide +kernel
theorem d_N_init_5 : decode mi_N_init.2.1 5 = .ok (.sipush 136, 3) := by decide +kernel
theorem d_N_init_8 : decode mi_N_init.2.1 8 = .ok (.newarray .int, 2) := by decide +kernel
theorem d_N_init_10 : decode mi_N_init.2.1 10 = .ok (.putfield 11, 3) := by decide +kernel
theorem d_N_init_13 : decode mi_N_init.2.1 13 = .ok (.aload_n 0, 1) := by decide +kernel
theorem d_N_init_14 : decode mi_N_init.2.1 14 = .ok (.sipush 746, 3) := by decide +kernel
theorem d_N_init_17 : decode mi_N_init.2.1 17 = .ok (.newarray .int, 2) := by decide +kernel
theorem d_N_init_19 : decode mi_N_init.2.1 19 = .ok (.putfield 15, 3) := by decide +kernel
theorem d_N_init_22 : decode mi_N_init.2.1 22 = .ok (.aload_n 0, 1) := by decide +kernel
theorem d_N_init_23 : decode mi_N_init.2.1 23 = .ok (.sipush 746, 3) := by decide +kernel
theorem d_N_init_26 : decode mi_N_init.2.1 26 = .ok (.newarray .int, 2) := by decide +kernel
theorem d_N_init_28 : decode mi_N_init.2.1 28 = .ok (.putfield 18, 3) := by decide +kernel
theorem d_N_init_31 : decode mi_N_init.2.1 31 = .ok (.aload_n 0, 1) := by decide +kernel
theorem d_N_init_32 : decode mi_N_init.2.1 32 = .ok (.sipush 746, 3) := by decide +kernel
theorem d_N_init_35 : decode mi_N_init.2.1 35 = .ok (.newarray .int, 2) := by decide +kernel
theorem d_N_init_37 : decode mi_N_init.2.1 37 = .ok (.putfield 21, 3) := by decide +kernel
theorem d_N_init_40 : decode mi_N_init.2.1 40 = .ok (.aload_n 0, 1) := by decide +kernel
theorem d_N_init_41 : decode mi_N_init.2.1 41 = .ok (.sipush 746, 3) := by decide +kernel
theorem d_N_init_44 : decode mi_N_init.2.1 44 = .ok (.newarray .int, 2) := by decide +kernel
theorem d_N_init_46 : decode mi_N_init.2.1 46 = .ok (.putfield 24, 3) := by decide +kernel
theorem d_N_init_49 : decode mi_N_init.2.1 49 = .ok (.aload_n 0, 1) := by decide +kernel
theorem d_N_init_50 : decode mi_N_init.2.1 50 = .ok (.sipush 136, 3) := by decide +kernel
theorem d_N_init_53 : decode mi_N_init.2.1 53 = .ok (.newarray .int, 2) := by decide +kernel
theorem d_N_init_55 : decode mi_N_init.2.1 55 = .ok (.putfield 27, 3) := by decide +kernel
theorem d_N_init_58 : decode mi_N_init.2.1 58 = .ok (.aload_n 0, 1) := by decide +kernel
theorem d_N_init_59 : decode mi_N_init.2.1 59 = .ok (.sipush 136, 3) := by decide +kernel
theorem d_N_init_62 : decode mi_N_init.2.1 62 = .ok (.newarray .int, 2) := by decide +kernel
theorem d_N_init_64 : decode mi_N_init.2.1 64 = .ok (.putfield 30, 3) := by decide +kernel
theorem d_N_init_67 : decode mi_N_init.2.1 67 = .ok (.aload_n 0, 1) := by decide +kernel
theorem d_N_init_68 : decode mi_N_init.2.1 68 = .ok (.sipush 136, 3) := by decide +kernel
theorem d_N_init_71 : decode mi_N_init.2.1 71 = .ok (.newarray .int, 2) := by decide +kernel
theorem d_N_init_73 : decode mi_N_init.2.1 73 = .ok (.putfield 33, 3) := by decide +kernel
theorem d_N_init_76 : decode mi_N_init.2.1 76 = .ok (.aload_n 0, 1) := by decide +kernel
theorem d_N_init_77 : decode mi_N_init.2.1 77 = .ok (.iconst 0, 1) := by decide +kernel
theorem d_N_init_78 : decode mi_N_init.2.1 78 = .ok (.putfield 36, 3) := by decide +kernel
theorem d_N_init_81 : decode mi_N_init.2.1 81 = .ok (.aload_n 0, 1) := by decide +kernel
theorem d_N_init_82 : decode mi_N_init.2.1 82 = .ok (.iconst 0, 1) := by decide +kernel
theorem d_N_init_83 : decode mi_N_init.2.1 83 = .ok (.putfield 40, 3) := by decide +kernel
theorem d_N_init_86 : decode mi_N_init.2.1 86 = .ok (.aload_n 0, 1) := by decide +kernel
theorem d_N_init_87 : decode mi_N_init.2.1 87 = .ok (.iconst 0, 1) := by decide +kernel
theorem d_N_init_88 : decode mi_N_init.2.1 88 = .ok (.putfield 43, 3) := by decide +kernel
theorem d_N_init_91 : decode mi_N_init.2.1 91 = .ok (.return_, 1) := by decide +kernel
theorem d_N_build_0 : decode mi_N_build.2.1 0 = .ok (.aload_n 0, 1) := by decide +kernel
theorem d_N_build_1 : decode mi_N_build.2.1 1 = .ok (.iconst 0, 1) := by decide +kernel
theorem d_N_build_2 : decode mi_N_build.2.1 2 = .ok (.putfield 36, 3) := by decide +kernel
theorem d_N_build_5 : decode mi_N_build.2.1 5 = .ok (.iconst 0, 1) := by decide +kernel
theorem d_N_build_6 : decode mi_N_build.2.1 6 = .ok (.istore 4, 2) := by decide +kernel
theorem d_N_build_8 : decode mi_N_build.2.1 8 = .ok (.iload 4, 2) := by decide +kernel
theorem d_N_build_10 : decode mi_N_build.2.1 10 = .ok (.sipush 136, 3) := by decide +kernel
theorem d_N_build_13 : decode mi_N_build.2.1 13 = .ok (.if_icmp .ge 17, 3) := by decide +kernel
theorem d_N_build_16 : decode mi_N_build.2.1 16 = .ok (.aload_n 0, 1) := by decide +kernel
theorem d_N_build_17 : decode mi_N_build.2.1 17 = .ok (.getfield 11, 3) := by decide +kernel
theorem d_N_build_20 : decode mi_N_build.2.1 20 = .ok (.iload 4, 2) := by decide +kernel
theorem d_N_build_22 : decode mi_N_build.2.1 22 = .ok (.iconst (-1), 1) := by decide +kernel
theorem d_N_build_23 : decode mi_N_build.2.1 23 = .ok (.iastore, 1) := by decide +kernel
theorem d_N_build_24 : decode mi_N_build.2.1 24 = .ok (.iinc 4 1, 3) := by decide +kernel
theorem d_N_build_27 : decode mi_N_build.2.1 27 = .ok (.goto (-19), 3) := by decide +kernel
theorem d_N_build_30 : decode mi_N_build.2.1 30 = .ok (.iconst 0, 1) := by decide +kernel
theorem d_N_build_31 : decode mi_N_build.2.1 31 = .ok (.istore 4, 2) := by decide +kernel
theorem d_N_build_33 : decode mi_N_build.2.1 33 = .ok (.iload 4, 2) := by decide +kernel
theorem d_N_build_35 : decode mi_N_build.2.1 35 = .ok (.bipush 36, 2) := by decide +kernel
theorem d_N_build_37 : decode mi_N_build.2.1 37 = .ok (.if_icmp .ge 19, 3) := by decide +kernel
theorem d_N_build_40 : decode mi_N_build.2.1 40 = .ok (.aload_n 0, 1) := by decide +kernel
theorem d_N_build_41 : decode mi_N_build.2.1 41 = .ok (.iconst 0, 1) := by decide +kernel
theorem d_N_build_42 : decode mi_N_build.2.1 42 = .ok (.iconst 2, 1) := by decide +kernel
theorem d_N_build_43 : decode mi_N_build.2.1 43 = .ok (.iload 4, 2) := by decide +kernel
theorem d_N_build_45 : decode mi_N_build.2.1 45 = .ok (.iadd, 1) := by decide +kernel
theorem d_N_build_46 : decode mi_N_build.2.1 46 = .ok (.iconst 0, 1) := by decide +kernel
theorem d_N_build_47 : decode mi_N_build.2.1 47 = .ok (.invokevirtual 46, 3) := by decide +kernel
theorem d_N_build_50 : decode mi_N_build.2.1 50 = .ok (.iinc 4 1, 3) := by decide +kernel
theorem d_N_build_53 : decode mi_N_build.2.1 53 = .ok (.goto (-20), 3) := by decide +kernel
theorem d_N_build_56 : decode mi_N_build.2.1 56 = .ok (.aload_n 0, 1) := by decide +kernel
theorem d_N_build_57 : decode mi_N_build.2.1 57 = .ok (.aload_n 1, 1) := by decide +kernel
theorem d_N_build_58 : decode mi_N_build.2.1 58 = .ok (.iload_n 3, 1) := by decide +kernel
theorem d_N_build_59 : decode mi_N_build.2.1 59 = .ok (.invokevirtual 50, 3) := by decide +kernel
theorem d_N_build_62 : decode mi_N_build.2.1 62 = .ok (.aload_n 0, 1) := by decide +kernel
theorem d_N_build_63 : decode mi_N_build.2.1 63 = .ok (.aload_n 1, 1) := by decide +kernel
theorem d_N_build_64 : decode mi_N_build.2.1 64 = .ok (.invokevirtual 54, 3) := by decide +kernel
theorem d_N_build_67 : decode mi_N_build.2.1 67 = .ok (.aload_n 0, 1) := by decide +kernel
theorem d_N_build_68 : decode mi_N_build.2.1 68 = .ok (.aload_n 0, 1) := by decide +kernel
theorem d_N_build_69 : decode mi_N_build.2.1 69 = .ok (.getfield 36, 3) := by decide +kernel
theorem d_N_build_72 : decode mi_N_build.2.1 72 = .ok (.putfield 40, 3) := by decide +kernel
theorem d_N_build_75 : decode mi_N_build.2.1 75 = .ok (.aload_n 0, 1) := by decide +kernel
theorem d_N_build_76 : decode mi_N_build.2.1 76 = .ok (.aload_n 1, 1) := by decide +kernel
theorem d_N_build_77 : decode mi_N_build.2.1 77 = .ok (.aload_n 2, 1) := by decide +kernel
theorem d_N_build_78 : decode mi_N_build.2.1 78 = .ok (.invokevirtual 58, 3) := by decide +kernel
theorem d_N_build_81 : decode mi_N_build.2.1 81 = .ok (.return_, 1) := by decide +kernel
theorem d_N_connectPins_0 : decode mi_N_connectPins.2.1 0 = .ok (.iconst 0, 1) := by decide +kernel
theorem d_N_connectPins_1 : decode mi_N_connectPins.2.1 1 = .ok (.istore_n 3, 1) := by decide +kernel
theorem d_N_connectPins_2 : decode mi_N_connectPins.2.1 2 = .ok (.iload_n 3, 1) := by decide +kernel
theorem d_N_connectPins_3 : decode mi_N_connectPins.2.1 3 = .ok (.aload_n 1, 1) := by decide +kernel
theorem d_N_connectPins_4 : decode mi_N_connectPins.2.1 4 = .ok (.getfield 62, 3) := by decide +kernel
theorem d_N_connectPins_7 : decode mi_N_connectPins.2.1 7 = .ok (.if_icmp .ge 124, 3) := by decide +kernel
theorem d_N_connectPins_10 : decode mi_N_connectPins.2.1 10 = .ok (.iconst 0, 1) := by decide +kernel
theorem d_N_connectPins_11 : decode mi_N_connectPins.2.1 11 = .ok (.istore 4, 2) := by decide +kernel
theorem d_N_connectPins_13 : decode mi_N_connectPins.2.1 13 = .ok (.iload 4, 2) := by decide +kernel
theorem d_N_connectPins_15 : decode mi_N_connectPins.2.1 15 = .ok (.aload_n 1, 1) := by decide +kernel
theorem d_N_connectPins_16 : decode mi_N_connectPins.2.1 16 = .ok (.getfield 67, 3) := by decide +kernel
theorem d_N_connectPins_19 : decode mi_N_connectPins.2.1 19 = .ok (.if_icmp .ge 106, 3) := by decide +kernel
theorem d_N_connectPins_22 : decode mi_N_connectPins.2.1 22 = .ok (.iload_n 3, 1) := by decide +kernel
theorem d_N_connectPins_23 : decode mi_N_connectPins.2.1 23 = .ok (.iload 4, 2) := by decide +kernel
theorem d_N_connectPins_25 : decode mi_N_connectPins.2.1 25 = .ok (.invokestatic 70, 3) := by decide +kernel
theorem d_N_connectPins_28 : decode mi_N_connectPins.2.1 28 = .ok (.istore 5, 2) := by decide +kernel
theorem d_N_connectPins_30 : decode mi_N_connectPins.2.1 30 = .ok (.aload_n 1, 1) := by decide +kernel
theorem d_N_connectPins_31 : decode mi_N_connectPins.2.1 31 = .ok (.getfield 74, 3) := by decide +kernel
theorem d_N_connectPins_34 : decode mi_N_connectPins.2.1 34 = .ok (.iload 5, 2) := by decide +kernel
theorem d_N_connectPins_36 : decode mi_N_connectPins.2.1 36 = .ok (.iaload, 1) := by decide +kernel
theorem d_N_connectPins_37 : decode mi_N_connectPins.2.1 37 = .ok (.iconst 1, 1) := by decide +kernel
theorem d_N_connectPins_38 : decode mi_N_connectPins.2.1 38 = .ok (.if_icmp .ne 81, 3) := by decide +kernel
theorem d_N_connectPins_41 : decode mi_N_connectPins.2.1 41 = .ok (.iconst 2, 1) := by decide +kernel
theorem d_N_connectPins_42 : decode mi_N_connectPins.2.1 42 = .ok (.iload 5, 2) := by decide +kernel
theorem d_N_connectPins_44 : decode mi_N_connectPins.2.1 44 = .ok (.iadd, 1) := by decide +kernel
theorem d_N_connectPins_45 : decode mi_N_connectPins.2.1 45 = .ok (.istore 6, 2) := by decide +kernel
theorem d_N_connectPins_47 : decode mi_N_connectPins.2.1 47 = .ok (.aload_n 0, 1) := by decide +kernel
theorem d_N_connectPins_48 : decode mi_N_connectPins.2.1 48 = .ok (.iload 6, 2) := by decide +kernel
theorem d_N_connectPins_50 : decode mi_N_connectPins.2.1 50 = .ok (.bipush 38, 2) := by decide +kernel
theorem d_N_connectPins_52 : decode mi_N_connectPins.2.1 52 = .ok (.iload_n 3, 1) := by decide +kernel
theorem d_N_connectPins_53 : decode mi_N_connectPins.2.1 53 = .ok (.iload 4, 2) := by decide +kernel
theorem d_N_connectPins_55 : decode mi_N_connectPins.2.1 55 = .ok (.invokestatic 77, 3) := by decide +kernel
theorem d_N_connectPins_58 : decode mi_N_connectPins.2.1 58 = .ok (.iadd, 1) := by decide +kernel
theorem d_N_connectPins_59 : decode mi_N_connectPins.2.1 59 = .ok (.iload_n 2, 1) := by decide +kernel
theorem d_N_connectPins_60 : decode mi_N_connectPins.2.1 60 = .ok (.invokevirtual 46, 3) := by decide +kernel
theorem d_N_connectPins_63 : decode mi_N_connectPins.2.1 63 = .ok (.aload_n 0, 1) := by decide +kernel
theorem d_N_connectPins_64 : decode mi_N_connectPins.2.1 64 = .ok (.iload 6, 2) := by decide +kernel
theorem d_N_connectPins_66 : decode mi_N_connectPins.2.1 66 = .ok (.bipush 38, 2) := by decide +kernel
theorem d_N_connectPins_68 : decode mi_N_connectPins.2.1 68 = .ok (.iload_n 3, 1) := by decide +kernel
theorem d_N_connectPins_69 : decode mi_N_connectPins.2.1 69 = .ok (.iload 4, 2) := by decide +kernel
theorem d_N_connectPins_71 : decode mi_N_connectPins.2.1 71 = .ok (.iconst 1, 1) := by decide +kernel
theorem d_N_connectPins_72 : decode mi_N_connectPins.2.1 72 = .ok (.iadd, 1) := by decide +kernel
theorem d_N_connectPins_73 : decode mi_N_connectPins.2.1 73 = .ok (.invokestatic 77, 3) := by decide +kernel
theorem d_N_connectPins_76 : decode mi_N_connectPins.2.1 76 = .ok (.iadd, 1) := by decide +kernel
theorem d_N_connectPins_77 : decode mi_N_connectPins.2.1 77 = .ok (.iload_n 2, 1) := by decide +kernel
theorem d_N_connectPins_78 : decode mi_N_connectPins.2.1 78 = .ok (.invokevirtual 46, 3) := by decide +kernel
theorem d_N_connectPins_81 : decode mi_N_connectPins.2.1 81 = .ok (.aload_n 0, 1) := by decide +kernel
theorem d_N_connectPins_82 : decode mi_N_connectPins.2.1 82 = .ok (.iload 6, 2) := by decide +kernel
theorem d_N_connectPins_84 : decode mi_N_connectPins.2.1 84 = .ok (.bipush 38, 2) := by decide +kernel
theorem d_N_connectPins_86 : decode mi_N_connectPins.2.1 86 = .ok (.iload_n 3, 1) := by decide +kernel
theorem d_N_connectPins_87 : decode mi_N_connectPins.2.1 87 = .ok (.iconst 1, 1) := by decide +kernel
theorem d_N_connectPins_88 : decode mi_N_connectPins.2.1 88 = .ok (.iadd, 1) := by decide +kernel
theorem d_N_connectPins_89 : decode mi_N_connectPins.2.1 89 = .ok (.iload 4, 2) := by decide +kernel
theorem d_N_connectPins_91 : decode mi_N_connectPins.2.1 91 = .ok (.invokestatic 77, 3) := by decide +kernel
theorem d_N_connectPins_94 : decode mi_N_connectPins.2.1 94 = .ok (.iadd, 1) := by decide +kernel
theorem d_N_connectPins_95 : decode mi_N_connectPins.2.1 95 = .ok (.iload_n 2, 1) := by decide +kernel
theorem d_N_connectPins_96 : decode mi_N_connectPins.2.1 96 = .ok (.invokevirtual 46, 3) := by decide +kernel
theorem d_N_connectPins_99 : decode mi_N_connectPins.2.1 99 = .ok (.aload_n 0, 1) := by decide +kernel
theorem d_N_connectPins_100 : decode mi_N_connectPins.2.1 100 = .ok (.iload 6, 2) := by decide +kernel
theorem d_N_connectPins_102 : decode mi_N_connectPins.2.1 102 = .ok (.bipush 38, 2) := by decide +kernel
theorem d_N_connectPins_104 : decode mi_N_connectPins.2.1 104 = .ok (.iload_n 3, 1) := by decide +kernel
theorem d_N_connectPins_105 : decode mi_N_connectPins.2.1 105 = .ok (.iconst 1, 1) := by decide +kernel
theorem d_N_connectPins_106 : decode mi_N_connectPins.2.1 106 = .ok (.iadd, 1) := by decide +kernel
theorem d_N_connectPins_107 : decode mi_N_connectPins.2.1 107 = .ok (.iload 4, 2) := by decide +kernel
theorem d_N_connectPins_109 : decode mi_N_connectPins.2.1 109 = .ok (.iconst 1, 1) := by decide +kernel
theorem d_N_connectPins_110 : decode mi_N_connectPins.2.1 110 = .ok (.iadd, 1) := by decide +kernel
theorem d_N_connectPins_111 : decode mi_N_connectPins.2.1 111 = .ok (.invokestatic 77, 3) := by decide +kernel
theorem d_N_connectPins_114 : decode mi_N_connectPins.2.1 114 = .ok (.iadd, 1) := by decide +kernel
theorem d_N_connectPins_115 : decode mi_N_connectPins.2.1 115 = .ok (.iload_n 2, 1) := by decide +kernel
theorem d_N_connectPins_116 : decode mi_N_connectPins.2.1 116 = .ok (.invokevirtual 46, 3) := by decide +kernel
theorem d_N_connectPins_119 : decode mi_N_connectPins.2.1 119 = .ok (.iinc 4 1, 3) := by decide +kernel
theorem d_N_connectPins_122 : decode mi_N_connectPins.2.1 122 = .ok (.goto (-109), 3) := by decide +kernel
theorem d_N_connectPins_125 : decode mi_N_connectPins.2.1 125 = .ok (.iinc 3 1, 3) := by decide +kernel
theorem d_N_connectPins_128 : decode mi_N_connectPins.2.1 128 = .ok (.goto (-126), 3) := by decide +kernel
theorem d_N_connectPins_131 : decode mi_N_connectPins.2.1 131 = .ok (.return_, 1) := by decide +kernel
theorem d_N_connectTiles_0 : decode mi_N_connectTiles.2.1 0 = .ok (.iconst 0, 1) := by decide +kernel
theorem d_N_connectTiles_1 : decode mi_N_connectTiles.2.1 1 = .ok (.istore_n 2, 1) := by decide +kernel
theorem d_N_connectTiles_2 : decode mi_N_connectTiles.2.1 2 = .ok (.iload_n 2, 1) := by decide +kernel
theorem d_N_connectTiles_3 : decode mi_N_connectTiles.2.1 3 = .ok (.aload_n 1, 1) := by decide +kernel
theorem d_N_connectTiles_4 : decode mi_N_connectTiles.2.1 4 = .ok (.getfield 62, 3) := by decide +kernel
theorem d_N_connectTiles_7 : decode mi_N_connectTiles.2.1 7 = .ok (.if_icmp .gt 86, 3) := by decide +kernel
theorem d_N_connectTiles_10 : decode mi_N_connectTiles.2.1 10 = .ok (.iconst 0, 1) := by decide +kernel
theorem d_N_connectTiles_11 : decode mi_N_connectTiles.2.1 11 = .ok (.istore_n 3, 1) := by decide +kernel
theorem d_N_connectTiles_12 : decode mi_N_connectTiles.2.1 12 = .ok (.iload_n 3, 1) := by decide +kernel
theorem d_N_connectTiles_13 : decode mi_N_connectTiles.2.1 13 = .ok (.aload_n 1, 1) := by decide +kernel
theorem d_N_connectTiles_14 : decode mi_N_connectTiles.2.1 14 = .ok (.getfield 67, 3) := by decide +kernel
theorem d_N_connectTiles_17 : decode mi_N_connectTiles.2.1 17 = .ok (.if_icmp .gt 70, 3) := by decide +kernel
theorem d_N_connectTiles_20 : decode mi_N_connectTiles.2.1 20 = .ok (.iload_n 2, 1) := by decide +kernel
theorem d_N_connectTiles_21 : decode mi_N_connectTiles.2.1 21 = .ok (.iload_n 3, 1) := by decide +kernel
theorem d_N_connectTiles_22 : decode mi_N_connectTiles.2.1 22 = .ok (.invokestatic 77, 3) := by decide +kernel
theorem d_N_connectTiles_25 : decode mi_N_connectTiles.2.1 25 = .ok (.istore 4, 2) := by decide +kernel
theorem d_N_connectTiles_27 : decode mi_N_connectTiles.2.1 27 = .ok (.aload_n 0, 1) := by decide +kernel
theorem d_N_connectTiles_28 : decode mi_N_connectTiles.2.1 28 = .ok (.bipush 38, 2) := by decide +kernel
theorem d_N_connectTiles_30 : decode mi_N_connectTiles.2.1 30 = .ok (.iload 4, 2) := by decide +kernel
theorem d_N_connectTiles_32 : decode mi_N_connectTiles.2.1 32 = .ok (.iadd, 1) := by decide +kernel
theorem d_N_connectTiles_33 : decode mi_N_connectTiles.2.1 33 = .ok (.bipush 87, 2) := by decide +kernel
theorem d_N_connectTiles_35 : decode mi_N_connectTiles.2.1 35 = .ok (.iload 4, 2) := by decide +kernel
theorem d_N_connectTiles_37 : decode mi_N_connectTiles.2.1 37 = .ok (.iadd, 1) := by decide +kernel
theorem d_N_connectTiles_38 : decode mi_N_connectTiles.2.1 38 = .ok (.aload_n 1, 1) := by decide +kernel
theorem d_N_connectTiles_39 : decode mi_N_connectTiles.2.1 39 = .ok (.getfield 80, 3) := by decide +kernel
theorem d_N_connectTiles_42 : decode mi_N_connectTiles.2.1 42 = .ok (.invokevirtual 46, 3) := by decide +kernel
theorem d_N_connectTiles_45 : decode mi_N_connectTiles.2.1 45 = .ok (.iload_n 2, 1) := by decide +kernel
theorem d_N_connectTiles_46 : decode mi_N_connectTiles.2.1 46 = .ok (.ifCond .eq 23, 3) := by decide +kernel
theorem d_N_connectTiles_49 : decode mi_N_connectTiles.2.1 49 = .ok (.iload_n 2, 1) := by decide +kernel
theorem d_N_connectTiles_50 : decode mi_N_connectTiles.2.1 50 = .ok (.aload_n 1, 1) := by decide +kernel
theorem d_N_connectTiles_51 : decode mi_N_connectTiles.2.1 51 = .ok (.getfield 62, 3) := by decide +kernel
theorem d_N_connectTiles_54 : decode mi_N_connectTiles.2.1 54 = .ok (.if_icmp .eq 15, 3) := by decide +kernel
theorem d_N_connectTiles_57 : decode mi_N_connectTiles.2.1 57 = .ok (.iload_n 3, 1) := by decide +kernel
theorem d_N_connectTiles_58 : decode mi_N_connectTiles.2.1 58 = .ok (.ifCond .eq 11, 3) := by decide +kernel
theorem d_N_connectTiles_61 : decode mi_N_connectTiles.2.1 61 = .ok (.iload_n 3, 1) := by decide +kernel
theorem d_N_connectTiles_62 : decode mi_N_connectTiles.2.1 62 = .ok (.aload_n 1, 1) := by decide +kernel
theorem d_N_connectTiles_63 : decode mi_N_connectTiles.2.1 63 = .ok (.getfield 67, 3) := by decide +kernel
theorem d_N_connectTiles_66 : decode mi_N_connectTiles.2.1 66 = .ok (.if_icmp .ne 15, 3) := by decide +kernel
theorem d_N_connectTiles_69 : decode mi_N_connectTiles.2.1 69 = .ok (.aload_n 0, 1) := by decide +kernel
theorem d_N_connectTiles_70 : decode mi_N_connectTiles.2.1 70 = .ok (.bipush 87, 2) := by decide +kernel
theorem d_N_connectTiles_72 : decode mi_N_connectTiles.2.1 72 = .ok (.iload 4, 2) := by decide +kernel
theorem d_N_connectTiles_74 : decode mi_N_connectTiles.2.1 74 = .ok (.iadd, 1) := by decide +kernel
theorem d_N_connectTiles_75 : decode mi_N_connectTiles.2.1 75 = .ok (.iconst 1, 1) := by decide +kernel
theorem d_N_connectTiles_76 : decode mi_N_connectTiles.2.1 76 = .ok (.ldc 83, 2) := by decide +kernel
theorem d_N_connectTiles_78 : decode mi_N_connectTiles.2.1 78 = .ok (.invokevirtual 46, 3) := by decide +kernel
theorem d_N_connectTiles_81 : decode mi_N_connectTiles.2.1 81 = .ok (.iinc 3 1, 3) := by decide +kernel
theorem d_N_connectTiles_84 : decode mi_N_connectTiles.2.1 84 = .ok (.goto (-72), 3) := by decide +kernel
theorem d_N_connectTiles_87 : decode mi_N_connectTiles.2.1 87 = .ok (.iinc 2 1, 3) := by decide +kernel
theorem d_N_connectTiles_90 : decode mi_N_connectTiles.2.1 90 = .ok (.goto (-88), 3) := by decide +kernel
theorem d_N_connectTiles_93 : decode mi_N_connectTiles.2.1 93 = .ok (.return_, 1) := by decide +kernel
theorem d_N_connectChannels_0 : decode mi_N_connectChannels.2.1 0 = .ok (.iconst 0, 1) := by decide +kernel
theorem d_N_connectChannels_1 : decode mi_N_connectChannels.2.1 1 = .ok (.istore_n 3, 1) := by decide +kernel
theorem d_N_connectChannels_2 : decode mi_N_connectChannels.2.1 2 = .ok (.iload_n 3, 1) := by decide +kernel
theorem d_N_connectChannels_3 : decode mi_N_connectChannels.2.1 3 = .ok (.aload_n 1, 1) := by decide +kernel
theorem d_N_connectChannels_4 : decode mi_N_connectChannels.2.1 4 = .ok (.getfield 62, 3) := by decide +kernel
theorem d_N_connectChannels_7 : decode mi_N_connectChannels.2.1 7 = .ok (.if_icmp .ge 165, 3) := by decide +kernel
theorem d_N_connectChannels_10 : decode mi_N_connectChannels.2.1 10 = .ok (.iconst 0, 1) := by decide +kernel
theorem d_N_connectChannels_11 : decode mi_N_connectChannels.2.1 11 = .ok (.istore 4, 2) := by decide +kernel
theorem d_N_connectChannels_13 : decode mi_N_connectChannels.2.1 13 = .ok (.iload 4, 2) := by decide +kernel
theorem d_N_connectChannels_15 : decode mi_N_connectChannels.2.1 15 = .ok (.aload_n 1, 1) := by decide +kernel
theorem d_N_connectChannels_16 : decode mi_N_connectChannels.2.1 16 = .ok (.getfield 67, 3) := by decide +kernel
theorem d_N_connectChannels_19 : decode mi_N_connectChannels.2.1 19 = .ok (.if_icmp .ge 147, 3) := by decide +kernel
theorem d_N_connectChannels_22 : decode mi_N_connectChannels.2.1 22 = .ok (.iload_n 3, 1) := by decide +kernel
theorem d_N_connectChannels_23 : decode mi_N_connectChannels.2.1 23 = .ok (.iload 4, 2) := by decide +kernel
theorem d_N_connectChannels_25 : decode mi_N_connectChannels.2.1 25 = .ok (.invokestatic 70, 3) := by decide +kernel
theorem d_N_connectChannels_28 : decode mi_N_connectChannels.2.1 28 = .ok (.istore 5, 2) := by decide +kernel
theorem d_N_connectChannels_30 : decode mi_N_connectChannels.2.1 30 = .ok (.iload_n 3, 1) := by decide +kernel
theorem d_N_connectChannels_31 : decode mi_N_connectChannels.2.1 31 = .ok (.iconst 1, 1) := by decide +kernel
theorem d_N_connectChannels_32 : decode mi_N_connectChannels.2.1 32 = .ok (.iadd, 1) := by decide +kernel
theorem d_N_connectChannels_33 : decode mi_N_connectChannels.2.1 33 = .ok (.iload 4, 2) := by decide +kernel
theorem d_N_connectChannels_35 : decode mi_N_connectChannels.2.1 35 = .ok (.iconst 1, 1) := by decide +kernel
theorem d_N_connectChannels_36 : decode mi_N_connectChannels.2.1 36 = .ok (.iadd, 1) := by decide +kernel
theorem d_N_connectChannels_37 : decode mi_N_connectChannels.2.1 37 = .ok (.invokestatic 77, 3) := by decide +kernel
theorem d_N_connectChannels_40 : decode mi_N_connectChannels.2.1 40 = .ok (.istore 6, 2) := by decide +kernel
theorem d_N_connectChannels_42 : decode mi_N_connectChannels.2.1 42 = .ok (.aload_n 1, 1) := by decide +kernel
theorem d_N_connectChannels_43 : decode mi_N_connectChannels.2.1 43 = .ok (.getfield 84, 3) := by decide +kernel
theorem d_N_connectChannels_46 : decode mi_N_connectChannels.2.1 46 = .ok (.aload_n 2, 1) := by decide +kernel
theorem d_N_connectChannels_47 : decode mi_N_connectChannels.2.1 47 = .ok (.iload 5, 2) := by decide +kernel
theorem d_N_connectChannels_49 : decode mi_N_connectChannels.2.1 49 = .ok (.baload, 1) := by decide +kernel
theorem d_N_connectChannels_50 : decode mi_N_connectChannels.2.1 50 = .ok (.ifCond .eq 7, 3) := by decide +kernel
theorem d_N_connectChannels_53 : decode mi_N_connectChannels.2.1 53 = .ok (.iconst 1, 1) := by decide +kernel
theorem d_N_connectChannels_54 : decode mi_N_connectChannels.2.1 54 = .ok (.goto 4, 3) := by decide +kernel
theorem d_N_connectChannels_57 : decode mi_N_connectChannels.2.1 57 = .ok (.iconst 0, 1) := by decide +kernel
theorem d_N_connectChannels_58 : decode mi_N_connectChannels.2.1 58 = .ok (.iadd, 1) := by decide +kernel
theorem d_N_connectChannels_59 : decode mi_N_connectChannels.2.1 59 = .ok (.istore 7, 2) := by decide +kernel
theorem d_N_connectChannels_61 : decode mi_N_connectChannels.2.1 61 = .ok (.iload 4, 2) := by decide +kernel
theorem d_N_connectChannels_63 : decode mi_N_connectChannels.2.1 63 = .ok (.iconst 1, 1) := by decide +kernel
theorem d_N_connectChannels_64 : decode mi_N_connectChannels.2.1 64 = .ok (.iadd, 1) := by decide +kernel
theorem d_N_connectChannels_65 : decode mi_N_connectChannels.2.1 65 = .ok (.aload_n 1, 1) := by decide +kernel
theorem d_N_connectChannels_66 : decode mi_N_connectChannels.2.1 66 = .ok (.getfield 67, 3) := by decide +kernel
theorem d_N_connectChannels_69 : decode mi_N_connectChannels.2.1 69 = .ok (.if_icmp .ge 42, 3) := by decide +kernel
theorem d_N_connectChannels_72 : decode mi_N_connectChannels.2.1 72 = .ok (.aload_n 2, 1) := by decide +kernel
theorem d_N_connectChannels_73 : decode mi_N_connectChannels.2.1 73 = .ok (.iload_n 3, 1) := by decide +kernel
theorem d_N_connectChannels_74 : decode mi_N_connectChannels.2.1 74 = .ok (.iload 4, 2) := by decide +kernel
theorem d_N_connectChannels_76 : decode mi_N_connectChannels.2.1 76 = .ok (.iconst 1, 1) := by decide +kernel
theorem d_N_connectChannels_77 : decode mi_N_connectChannels.2.1 77 = .ok (.iadd, 1) := by decide +kernel
theorem d_N_connectChannels_78 : decode mi_N_connectChannels.2.1 78 = .ok (.invokestatic 70, 3) := by decide +kernel
theorem d_N_connectChannels_81 : decode mi_N_connectChannels.2.1 81 = .ok (.baload, 1) := by decide +kernel
theorem d_N_connectChannels_82 : decode mi_N_connectChannels.2.1 82 = .ok (.ifCond .eq 7, 3) := by decide +kernel
theorem d_N_connectChannels_85 : decode mi_N_connectChannels.2.1 85 = .ok (.iconst 1, 1) := by decide +kernel
theorem d_N_connectChannels_86 : decode mi_N_connectChannels.2.1 86 = .ok (.goto 4, 3) := by decide +kernel
theorem d_N_connectChannels_89 : decode mi_N_connectChannels.2.1 89 = .ok (.iconst 0, 1) := by decide +kernel
theorem d_N_connectChannels_90 : decode mi_N_connectChannels.2.1 90 = .ok (.istore 8, 2) := by decide +kernel
theorem d_N_connectChannels_92 : decode mi_N_connectChannels.2.1 92 = .ok (.aload_n 0, 1) := by decide +kernel
theorem d_N_connectChannels_93 : decode mi_N_connectChannels.2.1 93 = .ok (.iload_n 3, 1) := by decide +kernel
theorem d_N_connectChannels_94 : decode mi_N_connectChannels.2.1 94 = .ok (.iload 4, 2) := by decide +kernel
theorem d_N_connectChannels_96 : decode mi_N_connectChannels.2.1 96 = .ok (.iconst 1, 1) := by decide +kernel
theorem d_N_connectChannels_97 : decode mi_N_connectChannels.2.1 97 = .ok (.iadd, 1) := by decide +kernel
theorem d_N_connectChannels_98 : decode mi_N_connectChannels.2.1 98 = .ok (.invokestatic 77, 3) := by decide +kernel
theorem d_N_connectChannels_101 : decode mi_N_connectChannels.2.1 101 = .ok (.iload 6, 2) := by decide +kernel
theorem d_N_connectChannels_103 : decode mi_N_connectChannels.2.1 103 = .ok (.iload 7, 2) := by decide +kernel
theorem d_N_connectChannels_105 : decode mi_N_connectChannels.2.1 105 = .ok (.iload 8, 2) := by decide +kernel
theorem d_N_connectChannels_107 : decode mi_N_connectChannels.2.1 107 = .ok (.iadd, 1) := by decide +kernel
theorem d_N_connectChannels_108 : decode mi_N_connectChannels.2.1 108 = .ok (.invokevirtual 87, 3) := by decide +kernel
theorem d_N_connectChannels_111 : decode mi_N_connectChannels.2.1 111 = .ok (.iload_n 3, 1) := by decide +kernel
theorem d_N_connectChannels_112 : decode mi_N_connectChannels.2.1 112 = .ok (.iconst 1, 1) := by decide +kernel
theorem d_N_connectChannels_113 : decode mi_N_connectChannels.2.1 113 = .ok (.iadd, 1) := by decide +kernel
theorem d_N_connectChannels_114 : decode mi_N_connectChannels.2.1 114 = .ok (.aload_n 1, 1) := by decide +kernel
theorem d_N_connectChannels_115 : decode mi_N_connectChannels.2.1 115 = .ok (.getfield 62, 3) := by decide +kernel
theorem d_N_connectChannels_118 : decode mi_N_connectChannels.2.1 118 = .ok (.if_icmp .ge 42, 3) := by decide +kernel
theorem d_N_connectChannels_121 : decode mi_N_connectChannels.2.1 121 = .ok (.aload_n 2, 1) := by decide +kernel
theorem d_N_connectChannels_122 : decode mi_N_connectChannels.2.1 122 = .ok (.iload_n 3, 1) := by decide +kernel
theorem d_N_connectChannels_123 : decode mi_N_connectChannels.2.1 123 = .ok (.iconst 1, 1) := by decide +kernel
theorem d_N_connectChannels_124 : decode mi_N_connectChannels.2.1 124 = .ok (.iadd, 1) := by decide +kernel
theorem d_N_connectChannels_125 : decode mi_N_connectChannels.2.1 125 = .ok (.iload 4, 2) := by decide +kernel
theorem d_N_connectChannels_127 : decode mi_N_connectChannels.2.1 127 = .ok (.invokestatic 70, 3) := by decide +kernel
theorem d_N_connectChannels_130 : decode mi_N_connectChannels.2.1 130 = .ok (.baload, 1) := by decide +kernel
theorem d_N_connectChannels_131 : decode mi_N_connectChannels.2.1 131 = .ok (.ifCond .eq 7, 3) := by decide +kernel
theorem d_N_connectChannels_134 : decode mi_N_connectChannels.2.1 134 = .ok (.iconst 1, 1) := by decide +kernel
theorem d_N_connectChannels_135 : decode mi_N_connectChannels.2.1 135 = .ok (.goto 4, 3) := by decide +kernel
theorem d_N_connectChannels_138 : decode mi_N_connectChannels.2.1 138 = .ok (.iconst 0, 1) := by decide +kernel
theorem d_N_connectChannels_139 : decode mi_N_connectChannels.2.1 139 = .ok (.istore 8, 2) := by decide +kernel
theorem d_N_connectChannels_141 : decode mi_N_connectChannels.2.1 141 = .ok (.aload_n 0, 1) := by decide +kernel
theorem d_N_connectChannels_142 : decode mi_N_connectChannels.2.1 142 = .ok (.iload_n 3, 1) := by decide +kernel
theorem d_N_connectChannels_143 : decode mi_N_connectChannels.2.1 143 = .ok (.iconst 1, 1) := by decide +kernel
theorem d_N_connectChannels_144 : decode mi_N_connectChannels.2.1 144 = .ok (.iadd, 1) := by decide +kernel
theorem d_N_connectChannels_145 : decode mi_N_connectChannels.2.1 145 = .ok (.iload 4, 2) := by decide +kernel
theorem d_N_connectChannels_147 : decode mi_N_connectChannels.2.1 147 = .ok (.invokestatic 77, 3) := by decide +kernel
theorem d_N_connectChannels_150 : decode mi_N_connectChannels.2.1 150 = .ok (.iload 6, 2) := by decide +kernel
theorem d_N_connectChannels_152 : decode mi_N_connectChannels.2.1 152 = .ok (.iload 7, 2) := by decide +kernel
theorem d_N_connectChannels_154 : decode mi_N_connectChannels.2.1 154 = .ok (.iload 8, 2) := by decide +kernel
theorem d_N_connectChannels_156 : decode mi_N_connectChannels.2.1 156 = .ok (.iadd, 1) := by decide +kernel
theorem d_N_connectChannels_157 : decode mi_N_connectChannels.2.1 157 = .ok (.invokevirtual 87, 3) := by decide +kernel
theorem d_N_connectChannels_160 : decode mi_N_connectChannels.2.1 160 = .ok (.iinc 4 1, 3) := by decide +kernel
theorem d_N_connectChannels_163 : decode mi_N_connectChannels.2.1 163 = .ok (.goto (-150), 3) := by decide +kernel
theorem d_N_connectChannels_166 : decode mi_N_connectChannels.2.1 166 = .ok (.iinc 3 1, 3) := by decide +kernel
theorem d_N_connectChannels_169 : decode mi_N_connectChannels.2.1 169 = .ok (.goto (-167), 3) := by decide +kernel
theorem d_N_connectChannels_172 : decode mi_N_connectChannels.2.1 172 = .ok (.return_, 1) := by decide +kernel
theorem d_N_connectBothWays_0 : decode mi_N_connectBothWays.2.1 0 = .ok (.aload_n 0, 1) := by decide +kernel
theorem d_N_connectBothWays_1 : decode mi_N_connectBothWays.2.1 1 = .ok (.bipush 87, 2) := by decide +kernel
theorem d_N_connectBothWays_3 : decode mi_N_connectBothWays.2.1 3 = .ok (.iload_n 1, 1) := by decide +kernel
theorem d_N_connectBothWays_4 : decode mi_N_connectBothWays.2.1 4 = .ok (.iadd, 1) := by decide +kernel
theorem d_N_connectBothWays_5 : decode mi_N_connectBothWays.2.1 5 = .ok (.bipush 38, 2) := by decide +kernel
theorem d_N_connectBothWays_7 : decode mi_N_connectBothWays.2.1 7 = .ok (.iload_n 2, 1) := by decide +kernel
theorem d_N_connectBothWays_8 : decode mi_N_connectBothWays.2.1 8 = .ok (.iadd, 1) := by decide +kernel
theorem d_N_connectBothWays_9 : decode mi_N_connectBothWays.2.1 9 = .ok (.iload_n 3, 1) := by decide +kernel
theorem d_N_connectBothWays_10 : decode mi_N_connectBothWays.2.1 10 = .ok (.invokevirtual 46, 3) := by decide +kernel
theorem d_N_connectBothWays_13 : decode mi_N_connectBothWays.2.1 13 = .ok (.aload_n 0, 1) := by decide +kernel
theorem d_N_connectBothWays_14 : decode mi_N_connectBothWays.2.1 14 = .ok (.bipush 87, 2) := by decide +kernel
theorem d_N_connectBothWays_16 : decode mi_N_connectBothWays.2.1 16 = .ok (.iload_n 2, 1) := by decide +kernel
theorem d_N_connectBothWays_17 : decode mi_N_connectBothWays.2.1 17 = .ok (.iadd, 1) := by decide +kernel
theorem d_N_connectBothWays_18 : decode mi_N_connectBothWays.2.1 18 = .ok (.bipush 38, 2) := by decide +kernel
theorem d_N_connectBothWays_20 : decode mi_N_connectBothWays.2.1 20 = .ok (.iload_n 1, 1) := by decide +kernel
theorem d_N_connectBothWays_21 : decode mi_N_connectBothWays.2.1 21 = .ok (.iadd, 1) := by decide +kernel
theorem d_N_connectBothWays_22 : decode mi_N_connectBothWays.2.1 22 = .ok (.iload_n 3, 1) := by decide +kernel
theorem d_N_connectBothWays_23 : decode mi_N_connectBothWays.2.1 23 = .ok (.invokevirtual 46, 3) := by decide +kernel
theorem d_N_connectBothWays_26 : decode mi_N_connectBothWays.2.1 26 = .ok (.return_, 1) := by decide +kernel
theorem d_N_connect_0 : decode mi_N_connect.2.1 0 = .ok (.aload_n 0, 1) := by decide +kernel
theorem d_N_connect_1 : decode mi_N_connect.2.1 1 = .ok (.getfield 36, 3) := by decide +kernel
theorem d_N_connect_4 : decode mi_N_connect.2.1 4 = .ok (.istore 4, 2) := by decide +kernel
theorem d_N_connect_6 : decode mi_N_connect.2.1 6 = .ok (.iload 4, 2) := by decide +kernel
theorem d_N_connect_8 : decode mi_N_connect.2.1 8 = .ok (.iconst 1, 1) := by decide +kernel
theorem d_N_connect_9 : decode mi_N_connect.2.1 9 = .ok (.iadd, 1) := by decide +kernel
theorem d_N_connect_10 : decode mi_N_connect.2.1 10 = .ok (.istore 5, 2) := by decide +kernel
theorem d_N_connect_12 : decode mi_N_connect.2.1 12 = .ok (.iload 5, 2) := by decide +kernel
theorem d_N_connect_14 : decode mi_N_connect.2.1 14 = .ok (.sipush 746, 3) := by decide +kernel
theorem d_N_connect_17 : decode mi_N_connect.2.1 17 = .ok (.if_icmp .lt 4, 3) := by decide +kernel
theorem d_N_connect_20 : decode mi_N_connect.2.1 20 = .ok (.return_, 1) := by decide +kernel
theorem d_N_connect_21 : decode mi_N_connect.2.1 21 = .ok (.aload_n 0, 1) := by decide +kernel
theorem d_N_connect_22 : decode mi_N_connect.2.1 22 = .ok (.getfield 18, 3) := by decide +kernel
theorem d_N_connect_25 : decode mi_N_connect.2.1 25 = .ok (.iload 4, 2) := by decide +kernel
theorem d_N_connect_27 : decode mi_N_connect.2.1 27 = .ok (.iload_n 2, 1) := by decide +kernel
theorem d_N_connect_28 : decode mi_N_connect.2.1 28 = .ok (.iastore, 1) := by decide +kernel
theorem d_N_connect_29 : decode mi_N_connect.2.1 29 = .ok (.aload_n 0, 1) := by decide +kernel
theorem d_N_connect_30 : decode mi_N_connect.2.1 30 = .ok (.getfield 21, 3) := by decide +kernel
theorem d_N_connect_33 : decode mi_N_connect.2.1 33 = .ok (.iload 4, 2) := by decide +kernel
theorem d_N_connect_35 : decode mi_N_connect.2.1 35 = .ok (.iload_n 3, 1) := by decide +kernel
theorem d_N_connect_36 : decode mi_N_connect.2.1 36 = .ok (.iastore, 1) := by decide +kernel
theorem d_N_connect_37 : decode mi_N_connect.2.1 37 = .ok (.aload_n 0, 1) := by decide +kernel
theorem d_N_connect_38 : decode mi_N_connect.2.1 38 = .ok (.getfield 15, 3) := by decide +kernel
theorem d_N_connect_41 : decode mi_N_connect.2.1 41 = .ok (.iload 4, 2) := by decide +kernel
theorem d_N_connect_43 : decode mi_N_connect.2.1 43 = .ok (.aload_n 0, 1) := by decide +kernel
theorem d_N_connect_44 : decode mi_N_connect.2.1 44 = .ok (.getfield 11, 3) := by decide +kernel
theorem d_N_connect_47 : decode mi_N_connect.2.1 47 = .ok (.iload_n 1, 1) := by decide +kernel
theorem d_N_connect_48 : decode mi_N_connect.2.1 48 = .ok (.iaload, 1) := by decide +kernel
theorem d_N_connect_49 : decode mi_N_connect.2.1 49 = .ok (.iastore, 1) := by decide +kernel
theorem d_N_connect_50 : decode mi_N_connect.2.1 50 = .ok (.aload_n 0, 1) := by decide +kernel
theorem d_N_connect_51 : decode mi_N_connect.2.1 51 = .ok (.getfield 11, 3) := by decide +kernel
theorem d_N_connect_54 : decode mi_N_connect.2.1 54 = .ok (.iload_n 1, 1) := by decide +kernel
theorem d_N_connect_55 : decode mi_N_connect.2.1 55 = .ok (.iload 4, 2) := by decide +kernel
theorem d_N_connect_57 : decode mi_N_connect.2.1 57 = .ok (.iastore, 1) := by decide +kernel
theorem d_N_connect_58 : decode mi_N_connect.2.1 58 = .ok (.aload_n 0, 1) := by decide +kernel
theorem d_N_connect_59 : decode mi_N_connect.2.1 59 = .ok (.getfield 18, 3) := by decide +kernel
theorem d_N_connect_62 : decode mi_N_connect.2.1 62 = .ok (.iload 5, 2) := by decide +kernel
theorem d_N_connect_64 : decode mi_N_connect.2.1 64 = .ok (.iload_n 1, 1) := by decide +kernel
theorem d_N_connect_65 : decode mi_N_connect.2.1 65 = .ok (.iastore, 1) := by decide +kernel
theorem d_N_connect_66 : decode mi_N_connect.2.1 66 = .ok (.aload_n 0, 1) := by decide +kernel
theorem d_N_connect_67 : decode mi_N_connect.2.1 67 = .ok (.getfield 21, 3) := by decide +kernel
theorem d_N_connect_70 : decode mi_N_connect.2.1 70 = .ok (.iload 5, 2) := by decide +kernel
theorem d_N_connect_72 : decode mi_N_connect.2.1 72 = .ok (.iconst 0, 1) := by decide +kernel
theorem d_N_connect_73 : decode mi_N_connect.2.1 73 = .ok (.iastore, 1) := by decide +kernel
theorem d_N_connect_74 : decode mi_N_connect.2.1 74 = .ok (.aload_n 0, 1) := by decide +kernel
theorem d_N_connect_75 : decode mi_N_connect.2.1 75 = .ok (.getfield 15, 3) := by decide +kernel
theorem d_N_connect_78 : decode mi_N_connect.2.1 78 = .ok (.iload 5, 2) := by decide +kernel
theorem d_N_connect_80 : decode mi_N_connect.2.1 80 = .ok (.aload_n 0, 1) := by decide +kernel
theorem d_N_connect_81 : decode mi_N_connect.2.1 81 = .ok (.getfield 11, 3) := by decide +kernel
theorem d_N_connect_84 : decode mi_N_connect.2.1 84 = .ok (.iload_n 2, 1) := by decide +kernel
theorem d_N_connect_85 : decode mi_N_connect.2.1 85 = .ok (.iaload, 1) := by decide +kernel
theorem d_N_connect_86 : decode mi_N_connect.2.1 86 = .ok (.iastore, 1) := by decide +kernel
theorem d_N_connect_87 : decode mi_N_connect.2.1 87 = .ok (.aload_n 0, 1) := by decide +kernel
theorem d_N_connect_88 : decode mi_N_connect.2.1 88 = .ok (.getfield 11, 3) := by decide +kernel
theorem d_N_connect_91 : decode mi_N_connect.2.1 91 = .ok (.iload_n 2, 1) := by decide +kernel
theorem d_N_connect_92 : decode mi_N_connect.2.1 92 = .ok (.iload 5, 2) := by decide +kernel
theorem d_N_connect_94 : decode mi_N_connect.2.1 94 = .ok (.iastore, 1) := by decide +kernel
theorem d_N_connect_95 : decode mi_N_connect.2.1 95 = .ok (.aload_n 0, 1) := by decide +kernel
theorem d_N_connect_96 : decode mi_N_connect.2.1 96 = .ok (.dup, 1) := by decide +kernel
theorem d_N_connect_97 : decode mi_N_connect.2.1 97 = .ok (.getfield 36, 3) := by decide +kernel
theorem d_N_connect_100 : decode mi_N_connect.2.1 100 = .ok (.iconst 2, 1) := by decide +kernel
theorem d_N_connect_101 : decode mi_N_connect.2.1 101 = .ok (.iadd, 1) := by decide +kernel
theorem d_N_connect_102 : decode mi_N_connect.2.1 102 = .ok (.putfield 36, 3) := by decide +kernel
theorem d_N_connect_105 : decode mi_N_connect.2.1 105 = .ok (.return_, 1) := by decide +kernel
theorem d_N_supply_0 : decode mi_N_supply.2.1 0 = .ok (.aload_n 0, 1) := by decide +kernel
theorem d_N_supply_1 : decode mi_N_supply.2.1 1 = .ok (.getfield 21, 3) := by decide +kernel
theorem d_N_supply_4 : decode mi_N_supply.2.1 4 = .ok (.iconst 2, 1) := by decide +kernel
theorem d_N_supply_5 : decode mi_N_supply.2.1 5 = .ok (.iload_n 1, 1) := by decide +kernel
theorem d_N_supply_6 : decode mi_N_supply.2.1 6 = .ok (.imul, 1) := by decide +kernel
theorem d_N_supply_7 : decode mi_N_supply.2.1 7 = .ok (.iload_n 2, 1) := by decide +kernel
theorem d_N_supply_8 : decode mi_N_supply.2.1 8 = .ok (.iastore, 1) := by decide +kernel
theorem d_N_supply_9 : decode mi_N_supply.2.1 9 = .ok (.return_, 1) := by decide +kernel
theorem d_N_keepFlow_0 : decode mi_N_keepFlow.2.1 0 = .ok (.aload_n 0, 1) := by decide +kernel
theorem d_N_keepFlow_1 : decode mi_N_keepFlow.2.1 1 = .ok (.getfield 21, 3) := by decide +kernel
theorem d_N_keepFlow_4 : decode mi_N_keepFlow.2.1 4 = .ok (.iconst 0, 1) := by decide +kernel
theorem d_N_keepFlow_5 : decode mi_N_keepFlow.2.1 5 = .ok (.aload_n 0, 1) := by decide +kernel
theorem d_N_keepFlow_6 : decode mi_N_keepFlow.2.1 6 = .ok (.getfield 24, 3) := by decide +kernel
theorem d_N_keepFlow_9 : decode mi_N_keepFlow.2.1 9 = .ok (.iconst 0, 1) := by decide +kernel
theorem d_N_keepFlow_10 : decode mi_N_keepFlow.2.1 10 = .ok (.sipush 746, 3) := by decide +kernel
theorem d_N_keepFlow_13 : decode mi_N_keepFlow.2.1 13 = .ok (.invokestatic 90, 3) := by decide +kernel
theorem d_N_keepFlow_16 : decode mi_N_keepFlow.2.1 16 = .ok (.return_, 1) := by decide +kernel
theorem d_N_giveFlowBack_0 : decode mi_N_giveFlowBack.2.1 0 = .ok (.aload_n 0, 1) := by decide +kernel
theorem d_N_giveFlowBack_1 : decode mi_N_giveFlowBack.2.1 1 = .ok (.getfield 24, 3) := by decide +kernel
theorem d_N_giveFlowBack_4 : decode mi_N_giveFlowBack.2.1 4 = .ok (.iconst 0, 1) := by decide +kernel
theorem d_N_giveFlowBack_5 : decode mi_N_giveFlowBack.2.1 5 = .ok (.aload_n 0, 1) := by decide +kernel
theorem d_N_giveFlowBack_6 : decode mi_N_giveFlowBack.2.1 6 = .ok (.getfield 21, 3) := by decide +kernel
theorem d_N_giveFlowBack_9 : decode mi_N_giveFlowBack.2.1 9 = .ok (.iconst 0, 1) := by decide +kernel
theorem d_N_giveFlowBack_10 : decode mi_N_giveFlowBack.2.1 10 = .ok (.sipush 746, 3) := by decide +kernel
theorem d_N_giveFlowBack_13 : decode mi_N_giveFlowBack.2.1 13 = .ok (.invokestatic 90, 3) := by decide +kernel
theorem d_N_giveFlowBack_16 : decode mi_N_giveFlowBack.2.1 16 = .ok (.return_, 1) := by decide +kernel
theorem d_N_pushAll_0 : decode mi_N_pushAll.2.1 0 = .ok (.iconst 0, 1) := by decide +kernel
theorem d_N_pushAll_1 : decode mi_N_pushAll.2.1 1 = .ok (.istore_n 1, 1) := by decide +kernel
theorem d_N_pushAll_2 : decode mi_N_pushAll.2.1 2 = .ok (.iconst 0, 1) := by decide +kernel
theorem d_N_pushAll_3 : decode mi_N_pushAll.2.1 3 = .ok (.istore_n 2, 1) := by decide +kernel
theorem d_N_pushAll_4 : decode mi_N_pushAll.2.1 4 = .ok (.iload_n 2, 1) := by decide +kernel
theorem d_N_pushAll_5 : decode mi_N_pushAll.2.1 5 = .ok (.sipush 217, 3) := by decide +kernel
theorem d_N_pushAll_8 : decode mi_N_pushAll.2.1 8 = .ok (.if_icmp .ge 25, 3) := by decide +kernel
theorem d_N_pushAll_11 : decode mi_N_pushAll.2.1 11 = .ok (.aload_n 0, 1) := by decide +kernel
theorem d_N_pushAll_12 : decode mi_N_pushAll.2.1 12 = .ok (.invokevirtual 96, 3) := by decide +kernel
theorem d_N_pushAll_15 : decode mi_N_pushAll.2.1 15 = .ok (.istore_n 3, 1) := by decide +kernel
theorem d_N_pushAll_16 : decode mi_N_pushAll.2.1 16 = .ok (.iload_n 3, 1) := by decide +kernel
theorem d_N_pushAll_17 : decode mi_N_pushAll.2.1 17 = .ok (.ifCond .ne 6, 3) := by decide +kernel
theorem d_N_pushAll_20 : decode mi_N_pushAll.2.1 20 = .ok (.goto 13, 3) := by decide +kernel
theorem d_N_pushAll_23 : decode mi_N_pushAll.2.1 23 = .ok (.iload_n 1, 1) := by decide +kernel
theorem d_N_pushAll_24 : decode mi_N_pushAll.2.1 24 = .ok (.iload_n 3, 1) := by decide +kernel
theorem d_N_pushAll_25 : decode mi_N_pushAll.2.1 25 = .ok (.iadd, 1) := by decide +kernel
theorem d_N_pushAll_26 : decode mi_N_pushAll.2.1 26 = .ok (.istore_n 1, 1) := by decide +kernel
theorem d_N_pushAll_27 : decode mi_N_pushAll.2.1 27 = .ok (.iinc 2 1, 3) := by decide +kernel
theorem d_N_pushAll_30 : decode mi_N_pushAll.2.1 30 = .ok (.goto (-26), 3) := by decide +kernel
theorem d_N_pushAll_33 : decode mi_N_pushAll.2.1 33 = .ok (.iload_n 1, 1) := by decide +kernel
theorem d_N_pushAll_34 : decode mi_N_pushAll.2.1 34 = .ok (.ireturn, 1) := by decide +kernel
theorem d_N_push_0 : decode mi_N_push.2.1 0 = .ok (.aload_n 0, 1) := by decide +kernel
theorem d_N_push_1 : decode mi_N_push.2.1 1 = .ok (.invokevirtual 100, 3) := by decide +kernel
theorem d_N_push_4 : decode mi_N_push.2.1 4 = .ok (.ifCond .ne 5, 3) := by decide +kernel
theorem d_N_push_7 : decode mi_N_push.2.1 7 = .ok (.iconst 0, 1) := by decide +kernel
theorem d_N_push_8 : decode mi_N_push.2.1 8 = .ok (.ireturn, 1) := by decide +kernel
theorem d_N_push_9 : decode mi_N_push.2.1 9 = .ok (.ldc 83, 2) := by decide +kernel
theorem d_N_push_11 : decode mi_N_push.2.1 11 = .ok (.istore_n 1, 1) := by decide +kernel
theorem d_N_push_12 : decode mi_N_push.2.1 12 = .ok (.iconst 1, 1) := by decide +kernel
theorem d_N_push_13 : decode mi_N_push.2.1 13 = .ok (.istore_n 2, 1) := by decide +kernel
theorem d_N_push_14 : decode mi_N_push.2.1 14 = .ok (.iconst 0, 1) := by decide +kernel
theorem d_N_push_15 : decode mi_N_push.2.1 15 = .ok (.istore_n 3, 1) := by decide +kernel
theorem d_N_push_16 : decode mi_N_push.2.1 16 = .ok (.iload_n 3, 1) := by decide +kernel
theorem d_N_push_17 : decode mi_N_push.2.1 17 = .ok (.sipush 136, 3) := by decide +kernel
theorem d_N_push_20 : decode mi_N_push.2.1 20 = .ok (.if_icmp .ge 43, 3) := by decide +kernel
theorem d_N_push_23 : decode mi_N_push.2.1 23 = .ok (.iload_n 2, 1) := by decide +kernel
theorem d_N_push_24 : decode mi_N_push.2.1 24 = .ok (.ifCond .eq 39, 3) := by decide +kernel
theorem d_N_push_27 : decode mi_N_push.2.1 27 = .ok (.aload_n 0, 1) := by decide +kernel
theorem d_N_push_28 : decode mi_N_push.2.1 28 = .ok (.getfield 30, 3) := by decide +kernel
theorem d_N_push_31 : decode mi_N_push.2.1 31 = .ok (.iload_n 2, 1) := by decide +kernel
theorem d_N_push_32 : decode mi_N_push.2.1 32 = .ok (.iaload, 1) := by decide +kernel
theorem d_N_push_33 : decode mi_N_push.2.1 33 = .ok (.istore 4, 2) := by decide +kernel
theorem d_N_push_35 : decode mi_N_push.2.1 35 = .ok (.iload_n 1, 1) := by decide +kernel
theorem d_N_push_36 : decode mi_N_push.2.1 36 = .ok (.aload_n 0, 1) := by decide +kernel
theorem d_N_push_37 : decode mi_N_push.2.1 37 = .ok (.getfield 21, 3) := by decide +kernel
theorem d_N_push_40 : decode mi_N_push.2.1 40 = .ok (.iload 4, 2) := by decide +kernel
theorem d_N_push_42 : decode mi_N_push.2.1 42 = .ok (.iaload, 1) := by decide +kernel
theorem d_N_push_43 : decode mi_N_push.2.1 43 = .ok (.invokestatic 104, 3) := by decide +kernel
theorem d_N_push_46 : decode mi_N_push.2.1 46 = .ok (.istore_n 1, 1) := by decide +kernel
theorem d_N_push_47 : decode mi_N_push.2.1 47 = .ok (.aload_n 0, 1) := by decide +kernel
theorem d_N_push_48 : decode mi_N_push.2.1 48 = .ok (.getfield 18, 3) := by decide +kernel
theorem d_N_push_51 : decode mi_N_push.2.1 51 = .ok (.iload 4, 2) := by decide +kernel
theorem d_N_push_53 : decode mi_N_push.2.1 53 = .ok (.iconst 1, 1) := by decide +kernel
theorem d_N_push_54 : decode mi_N_push.2.1 54 = .ok (.ixor, 1) := by decide +kernel
theorem d_N_push_55 : decode mi_N_push.2.1 55 = .ok (.iaload, 1) := by decide +kernel
theorem d_N_push_56 : decode mi_N_push.2.1 56 = .ok (.istore_n 2, 1) := by decide +kernel
theorem d_N_push_57 : decode mi_N_push.2.1 57 = .ok (.iinc 3 1, 3) := by decide +kernel
theorem d_N_push_60 : decode mi_N_push.2.1 60 = .ok (.goto (-44), 3) := by decide +kernel
theorem d_N_push_63 : decode mi_N_push.2.1 63 = .ok (.iconst 1, 1) := by decide +kernel
theorem d_N_push_64 : decode mi_N_push.2.1 64 = .ok (.istore_n 2, 1) := by decide +kernel
theorem d_N_push_65 : decode mi_N_push.2.1 65 = .ok (.iconst 0, 1) := by decide +kernel
theorem d_N_push_66 : decode mi_N_push.2.1 66 = .ok (.istore_n 3, 1) := by decide +kernel
theorem d_N_push_67 : decode mi_N_push.2.1 67 = .ok (.iload_n 3, 1) := by decide +kernel
theorem d_N_push_68 : decode mi_N_push.2.1 68 = .ok (.sipush 136, 3) := by decide +kernel
theorem d_N_push_71 : decode mi_N_push.2.1 71 = .ok (.if_icmp .ge 55, 3) := by decide +kernel
theorem d_N_push_74 : decode mi_N_push.2.1 74 = .ok (.iload_n 2, 1) := by decide +kernel
theorem d_N_push_75 : decode mi_N_push.2.1 75 = .ok (.ifCond .eq 51, 3) := by decide +kernel
theorem d_N_push_78 : decode mi_N_push.2.1 78 = .ok (.aload_n 0, 1) := by decide +kernel
theorem d_N_push_79 : decode mi_N_push.2.1 79 = .ok (.getfield 30, 3) := by decide +kernel
theorem d_N_push_82 : decode mi_N_push.2.1 82 = .ok (.iload_n 2, 1) := by decide +kernel
theorem d_N_push_83 : decode mi_N_push.2.1 83 = .ok (.iaload, 1) := by decide +kernel
theorem d_N_push_84 : decode mi_N_push.2.1 84 = .ok (.istore 4, 2) := by decide +kernel
theorem d_N_push_86 : decode mi_N_push.2.1 86 = .ok (.aload_n 0, 1) := by decide +kernel
theorem d_N_push_87 : decode mi_N_push.2.1 87 = .ok (.getfield 21, 3) := by decide +kernel
theorem d_N_push_90 : decode mi_N_push.2.1 90 = .ok (.iload 4, 2) := by decide +kernel
theorem d_N_push_92 : decode mi_N_push.2.1 92 = .ok (.dup2, 1) := by decide +kernel
theorem d_N_push_93 : decode mi_N_push.2.1 93 = .ok (.iaload, 1) := by decide +kernel
theorem d_N_push_94 : decode mi_N_push.2.1 94 = .ok (.iload_n 1, 1) := by decide +kernel
theorem d_N_push_95 : decode mi_N_push.2.1 95 = .ok (.isub, 1) := by decide +kernel
theorem d_N_push_96 : decode mi_N_push.2.1 96 = .ok (.iastore, 1) := by decide +kernel
theorem d_N_push_97 : decode mi_N_push.2.1 97 = .ok (.aload_n 0, 1) := by decide +kernel
theorem d_N_push_98 : decode mi_N_push.2.1 98 = .ok (.getfield 21, 3) := by decide +kernel
theorem d_N_push_101 : decode mi_N_push.2.1 101 = .ok (.iload 4, 2) := by decide +kernel
theorem d_N_push_103 : decode mi_N_push.2.1 103 = .ok (.iconst 1, 1) := by decide +kernel
theorem d_N_push_104 : decode mi_N_push.2.1 104 = .ok (.ixor, 1) := by decide +kernel
theorem d_N_push_105 : decode mi_N_push.2.1 105 = .ok (.dup2, 1) := by decide +kernel
theorem d_N_push_106 : decode mi_N_push.2.1 106 = .ok (.iaload, 1) := by decide +kernel
theorem d_N_push_107 : decode mi_N_push.2.1 107 = .ok (.iload_n 1, 1) := by decide +kernel
theorem d_N_push_108 : decode mi_N_push.2.1 108 = .ok (.iadd, 1) := by decide +kernel
theorem d_N_push_109 : decode mi_N_push.2.1 109 = .ok (.iastore, 1) := by decide +kernel
theorem d_N_push_110 : decode mi_N_push.2.1 110 = .ok (.aload_n 0, 1) := by decide +kernel
theorem d_N_push_111 : decode mi_N_push.2.1 111 = .ok (.getfield 18, 3) := by decide +kernel
theorem d_N_push_114 : decode mi_N_push.2.1 114 = .ok (.iload 4, 2) := by decide +kernel
theorem d_N_push_116 : decode mi_N_push.2.1 116 = .ok (.iconst 1, 1) := by decide +kernel
theorem d_N_push_117 : decode mi_N_push.2.1 117 = .ok (.ixor, 1) := by decide +kernel
theorem d_N_push_118 : decode mi_N_push.2.1 118 = .ok (.iaload, 1) := by decide +kernel
theorem d_N_push_119 : decode mi_N_push.2.1 119 = .ok (.istore_n 2, 1) := by decide +kernel
theorem d_N_push_120 : decode mi_N_push.2.1 120 = .ok (.iinc 3 1, 3) := by decide +kernel
theorem d_N_push_123 : decode mi_N_push.2.1 123 = .ok (.goto (-56), 3) := by decide +kernel
theorem d_N_push_126 : decode mi_N_push.2.1 126 = .ok (.iload_n 1, 1) := by decide +kernel
theorem d_N_push_127 : decode mi_N_push.2.1 127 = .ok (.ireturn, 1) := by decide +kernel
theorem d_N_findWay_0 : decode mi_N_findWay.2.1 0 = .ok (.aload_n 0, 1) := by decide +kernel
theorem d_N_findWay_1 : decode mi_N_findWay.2.1 1 = .ok (.dup, 1) := by decide +kernel
theorem d_N_findWay_2 : decode mi_N_findWay.2.1 2 = .ok (.getfield 43, 3) := by decide +kernel
theorem d_N_findWay_5 : decode mi_N_findWay.2.1 5 = .ok (.iconst 1, 1) := by decide +kernel
theorem d_N_findWay_6 : decode mi_N_findWay.2.1 6 = .ok (.iadd, 1) := by decide +kernel
theorem d_N_findWay_7 : decode mi_N_findWay.2.1 7 = .ok (.putfield 43, 3) := by decide +kernel
theorem d_N_findWay_10 : decode mi_N_findWay.2.1 10 = .ok (.aload_n 0, 1) := by decide +kernel
theorem d_N_findWay_11 : decode mi_N_findWay.2.1 11 = .ok (.getfield 27, 3) := by decide +kernel
theorem d_N_findWay_14 : decode mi_N_findWay.2.1 14 = .ok (.iconst 0, 1) := by decide +kernel
theorem d_N_findWay_15 : decode mi_N_findWay.2.1 15 = .ok (.aload_n 0, 1) := by decide +kernel
theorem d_N_findWay_16 : decode mi_N_findWay.2.1 16 = .ok (.getfield 43, 3) := by decide +kernel
theorem d_N_findWay_19 : decode mi_N_findWay.2.1 19 = .ok (.iastore, 1) := by decide +kernel
theorem d_N_findWay_20 : decode mi_N_findWay.2.1 20 = .ok (.aload_n 0, 1) := by decide +kernel
theorem d_N_findWay_21 : decode mi_N_findWay.2.1 21 = .ok (.getfield 33, 3) := by decide +kernel
theorem d_N_findWay_24 : decode mi_N_findWay.2.1 24 = .ok (.iconst 0, 1) := by decide +kernel
theorem d_N_findWay_25 : decode mi_N_findWay.2.1 25 = .ok (.iconst 0, 1) := by decide +kernel
theorem d_N_findWay_26 : decode mi_N_findWay.2.1 26 = .ok (.iastore, 1) := by decide +kernel
theorem d_N_findWay_27 : decode mi_N_findWay.2.1 27 = .ok (.iconst 1, 1) := by decide +kernel
theorem d_N_findWay_28 : decode mi_N_findWay.2.1 28 = .ok (.istore_n 1, 1) := by decide +kernel
theorem d_N_findWay_29 : decode mi_N_findWay.2.1 29 = .ok (.iconst 0, 1) := by decide +kernel
theorem d_N_findWay_30 : decode mi_N_findWay.2.1 30 = .ok (.istore_n 2, 1) := by decide +kernel
theorem d_N_findWay_31 : decode mi_N_findWay.2.1 31 = .ok (.iload_n 2, 1) := by decide +kernel
theorem d_N_findWay_32 : decode mi_N_findWay.2.1 32 = .ok (.iload_n 1, 1) := by decide +kernel
theorem d_N_findWay_33 : decode mi_N_findWay.2.1 33 = .ok (.if_icmp .ge 133, 3) := by decide +kernel
theorem d_N_findWay_36 : decode mi_N_findWay.2.1 36 = .ok (.iload_n 2, 1) := by decide +kernel
theorem d_N_findWay_37 : decode mi_N_findWay.2.1 37 = .ok (.sipush 136, 3) := by decide +kernel
theorem d_N_findWay_40 : decode mi_N_findWay.2.1 40 = .ok (.if_icmp .ge 126, 3) := by decide +kernel
theorem d_N_findWay_43 : decode mi_N_findWay.2.1 43 = .ok (.aload_n 0, 1) := by decide +kernel
theorem d_N_findWay_44 : decode mi_N_findWay.2.1 44 = .ok (.getfield 11, 3) := by decide +kernel
theorem d_N_findWay_47 : decode mi_N_findWay.2.1 47 = .ok (.aload_n 0, 1) := by decide +kernel
theorem d_N_findWay_48 : decode mi_N_findWay.2.1 48 = .ok (.getfield 33, 3) := by decide +kernel
theorem d_N_findWay_51 : decode mi_N_findWay.2.1 51 = .ok (.iload_n 2, 1) := by decide +kernel
theorem d_N_findWay_52 : decode mi_N_findWay.2.1 52 = .ok (.iaload, 1) := by decide +kernel
theorem d_N_findWay_53 : decode mi_N_findWay.2.1 53 = .ok (.iaload, 1) := by decide +kernel
theorem d_N_findWay_54 : decode mi_N_findWay.2.1 54 = .ok (.istore_n 3, 1) := by decide +kernel
theorem d_N_findWay_55 : decode mi_N_findWay.2.1 55 = .ok (.iconst 0, 1) := by decide +kernel
theorem d_N_findWay_56 : decode mi_N_findWay.2.1 56 = .ok (.istore 4, 2) := by decide +kernel
theorem d_N_findWay_58 : decode mi_N_findWay.2.1 58 = .ok (.iload_n 3, 1) := by decide +kernel
theorem d_N_findWay_59 : decode mi_N_findWay.2.1 59 = .ok (.iconst (-1), 1) := by decide +kernel
theorem d_N_findWay_60 : decode mi_N_findWay.2.1 60 = .ok (.if_icmp .eq 100, 3) := by decide +kernel
theorem d_N_findWay_63 : decode mi_N_findWay.2.1 63 = .ok (.iload 4, 2) := by decide +kernel
theorem d_N_findWay_65 : decode mi_N_findWay.2.1 65 = .ok (.sipush 746, 3) := by decide +kernel
theorem d_N_findWay_68 : decode mi_N_findWay.2.1 68 = .ok (.if_icmp .ge 92, 3) := by decide +kernel
theorem d_N_findWay_71 : decode mi_N_findWay.2.1 71 = .ok (.aload_n 0, 1) := by decide +kernel
theorem d_N_findWay_72 : decode mi_N_findWay.2.1 72 = .ok (.getfield 18, 3) := by decide +kernel
theorem d_N_findWay_75 : decode mi_N_findWay.2.1 75 = .ok (.iload_n 3, 1) := by decide +kernel
theorem d_N_findWay_76 : decode mi_N_findWay.2.1 76 = .ok (.iaload, 1) := by decide +kernel
theorem d_N_findWay_77 : decode mi_N_findWay.2.1 77 = .ok (.istore 5, 2) := by decide +kernel
theorem d_N_findWay_79 : decode mi_N_findWay.2.1 79 = .ok (.aload_n 0, 1) := by decide +kernel
theorem d_N_findWay_80 : decode mi_N_findWay.2.1 80 = .ok (.getfield 21, 3) := by decide +kernel
theorem d_N_findWay_83 : decode mi_N_findWay.2.1 83 = .ok (.iload_n 3, 1) := by decide +kernel
theorem d_N_findWay_84 : decode mi_N_findWay.2.1 84 = .ok (.iaload, 1) := by decide +kernel
theorem d_N_findWay_85 : decode mi_N_findWay.2.1 85 = .ok (.ifCond .le 62, 3) := by decide +kernel
theorem d_N_findWay_88 : decode mi_N_findWay.2.1 88 = .ok (.aload_n 0, 1) := by decide +kernel
theorem d_N_findWay_89 : decode mi_N_findWay.2.1 89 = .ok (.getfield 27, 3) := by decide +kernel
theorem d_N_findWay_92 : decode mi_N_findWay.2.1 92 = .ok (.iload 5, 2) := by decide +kernel
theorem d_N_findWay_94 : decode mi_N_findWay.2.1 94 = .ok (.iaload, 1) := by decide +kernel
theorem d_N_findWay_95 : decode mi_N_findWay.2.1 95 = .ok (.aload_n 0, 1) := by decide +kernel
theorem d_N_findWay_96 : decode mi_N_findWay.2.1 96 = .ok (.getfield 43, 3) := by decide +kernel
theorem d_N_findWay_99 : decode mi_N_findWay.2.1 99 = .ok (.if_icmp .eq 48, 3) := by decide +kernel
theorem d_N_findWay_102 : decode mi_N_findWay.2.1 102 = .ok (.iload_n 1, 1) := by decide +kernel
theorem d_N_findWay_103 : decode mi_N_findWay.2.1 103 = .ok (.sipush 136, 3) := by decide +kernel
theorem d_N_findWay_106 : decode mi_N_findWay.2.1 106 = .ok (.if_icmp .ge 41, 3) := by decide +kernel
theorem d_N_findWay_109 : decode mi_N_findWay.2.1 109 = .ok (.aload_n 0, 1) := by decide +kernel
theorem d_N_findWay_110 : decode mi_N_findWay.2.1 110 = .ok (.getfield 27, 3) := by decide +kernel
theorem d_N_findWay_113 : decode mi_N_findWay.2.1 113 = .ok (.iload 5, 2) := by decide +kernel
theorem d_N_findWay_115 : decode mi_N_findWay.2.1 115 = .ok (.aload_n 0, 1) := by decide +kernel
theorem d_N_findWay_116 : decode mi_N_findWay.2.1 116 = .ok (.getfield 43, 3) := by decide +kernel
theorem d_N_findWay_119 : decode mi_N_findWay.2.1 119 = .ok (.iastore, 1) := by decide +kernel
theorem d_N_findWay_120 : decode mi_N_findWay.2.1 120 = .ok (.aload_n 0, 1) := by decide +kernel
theorem d_N_findWay_121 : decode mi_N_findWay.2.1 121 = .ok (.getfield 30, 3) := by decide +kernel
theorem d_N_findWay_124 : decode mi_N_findWay.2.1 124 = .ok (.iload 5, 2) := by decide +kernel
theorem d_N_findWay_126 : decode mi_N_findWay.2.1 126 = .ok (.iload_n 3, 1) := by decide +kernel
theorem d_N_findWay_127 : decode mi_N_findWay.2.1 127 = .ok (.iastore, 1) := by decide +kernel
theorem d_N_findWay_128 : decode mi_N_findWay.2.1 128 = .ok (.iload 5, 2) := by decide +kernel
theorem d_N_findWay_130 : decode mi_N_findWay.2.1 130 = .ok (.iconst 1, 1) := by decide +kernel
theorem d_N_findWay_131 : decode mi_N_findWay.2.1 131 = .ok (.if_icmp .ne 5, 3) := by decide +kernel
theorem d_N_findWay_134 : decode mi_N_findWay.2.1 134 = .ok (.iconst 1, 1) := by decide +kernel
theorem d_N_findWay_135 : decode mi_N_findWay.2.1 135 = .ok (.ireturn, 1) := by decide +kernel
theorem d_N_findWay_136 : decode mi_N_findWay.2.1 136 = .ok (.aload_n 0, 1) := by decide +kernel
theorem d_N_findWay_137 : decode mi_N_findWay.2.1 137 = .ok (.getfield 33, 3) := by decide +kernel
theorem d_N_findWay_140 : decode mi_N_findWay.2.1 140 = .ok (.iload_n 1, 1) := by decide +kernel
theorem d_N_findWay_141 : decode mi_N_findWay.2.1 141 = .ok (.iload 5, 2) := by decide +kernel
theorem d_N_findWay_143 : decode mi_N_findWay.2.1 143 = .ok (.iastore, 1) := by decide +kernel
theorem d_N_findWay_144 : decode mi_N_findWay.2.1 144 = .ok (.iinc 1 1, 3) := by decide +kernel
theorem d_N_findWay_147 : decode mi_N_findWay.2.1 147 = .ok (.aload_n 0, 1) := by decide +kernel
theorem d_N_findWay_148 : decode mi_N_findWay.2.1 148 = .ok (.getfield 15, 3) := by decide +kernel
theorem d_N_findWay_151 : decode mi_N_findWay.2.1 151 = .ok (.iload_n 3, 1) := by decide +kernel
theorem d_N_findWay_152 : decode mi_N_findWay.2.1 152 = .ok (.iaload, 1) := by decide +kernel
theorem d_N_findWay_153 : decode mi_N_findWay.2.1 153 = .ok (.istore_n 3, 1) := by decide +kernel
theorem d_N_findWay_154 : decode mi_N_findWay.2.1 154 = .ok (.iinc 4 1, 3) := by decide +kernel
theorem d_N_findWay_157 : decode mi_N_findWay.2.1 157 = .ok (.goto (-99), 3) := by decide +kernel
theorem d_N_findWay_160 : decode mi_N_findWay.2.1 160 = .ok (.iinc 2 1, 3) := by decide +kernel
theorem d_N_findWay_163 : decode mi_N_findWay.2.1 163 = .ok (.goto (-132), 3) := by decide +kernel
theorem d_N_findWay_166 : decode mi_N_findWay.2.1 166 = .ok (.iconst 0, 1) := by decide +kernel
theorem d_N_findWay_167 : decode mi_N_findWay.2.1 167 = .ok (.ireturn, 1) := by decide +kernel
theorem d_N_isNear_0 : decode mi_N_isNear.2.1 0 = .ok (.aload_n 0, 1) := by decide +kernel
theorem d_N_isNear_1 : decode mi_N_isNear.2.1 1 = .ok (.getfield 27, 3) := by decide +kernel
theorem d_N_isNear_4 : decode mi_N_isNear.2.1 4 = .ok (.iload_n 1, 1) := by decide +kernel
theorem d_N_isNear_5 : decode mi_N_isNear.2.1 5 = .ok (.iaload, 1) := by decide +kernel
theorem d_N_isNear_6 : decode mi_N_isNear.2.1 6 = .ok (.aload_n 0, 1) := by decide +kernel
theorem d_N_isNear_7 : decode mi_N_isNear.2.1 7 = .ok (.getfield 43, 3) := by decide +kernel
theorem d_N_isNear_10 : decode mi_N_isNear.2.1 10 = .ok (.if_icmp .ne 7, 3) := by decide +kernel
theorem d_N_isNear_13 : decode mi_N_isNear.2.1 13 = .ok (.iconst 1, 1) := by decide +kernel
theorem d_N_isNear_14 : decode mi_N_isNear.2.1 14 = .ok (.goto 4, 3) := by decide +kernel
theorem d_N_isNear_17 : decode mi_N_isNear.2.1 17 = .ok (.iconst 0, 1) := by decide +kernel
theorem d_N_isNear_18 : decode mi_N_isNear.2.1 18 = .ok (.ireturn, 1) := by decide +kernel
theorem d_N_sideOf_0 : decode mi_N_sideOf.2.1 0 = .ok (.aload_n 0, 1) := by decide +kernel
theorem d_N_sideOf_1 : decode mi_N_sideOf.2.1 1 = .ok (.bipush 38, 2) := by decide +kernel
theorem d_N_sideOf_3 : decode mi_N_sideOf.2.1 3 = .ok (.iload_n 1, 1) := by decide +kernel
theorem d_N_sideOf_4 : decode mi_N_sideOf.2.1 4 = .ok (.iadd, 1) := by decide +kernel
theorem d_N_sideOf_5 : decode mi_N_sideOf.2.1 5 = .ok (.invokevirtual 109, 3) := by decide +kernel
theorem d_N_sideOf_8 : decode mi_N_sideOf.2.1 8 = .ok (.ifCond .ne 5, 3) := by decide +kernel
theorem d_N_sideOf_11 : decode mi_N_sideOf.2.1 11 = .ok (.iconst 2, 1) := by decide +kernel
theorem d_N_sideOf_12 : decode mi_N_sideOf.2.1 12 = .ok (.ireturn, 1) := by decide +kernel
theorem d_N_sideOf_13 : decode mi_N_sideOf.2.1 13 = .ok (.aload_n 0, 1) := by decide +kernel
theorem d_N_sideOf_14 : decode mi_N_sideOf.2.1 14 = .ok (.bipush 87, 2) := by decide +kernel
theorem d_N_sideOf_16 : decode mi_N_sideOf.2.1 16 = .ok (.iload_n 1, 1) := by decide +kernel
theorem d_N_sideOf_17 : decode mi_N_sideOf.2.1 17 = .ok (.iadd, 1) := by decide +kernel
theorem d_N_sideOf_18 : decode mi_N_sideOf.2.1 18 = .ok (.invokevirtual 109, 3) := by decide +kernel
theorem d_N_sideOf_21 : decode mi_N_sideOf.2.1 21 = .ok (.ifCond .eq 7, 3) := by decide +kernel
theorem d_N_sideOf_24 : decode mi_N_sideOf.2.1 24 = .ok (.iconst 0, 1) := by decide +kernel
theorem d_N_sideOf_25 : decode mi_N_sideOf.2.1 25 = .ok (.goto 4, 3) := by decide +kernel
theorem d_N_sideOf_28 : decode mi_N_sideOf.2.1 28 = .ok (.iconst 1, 1) := by decide +kernel
theorem d_N_sideOf_29 : decode mi_N_sideOf.2.1 29 = .ok (.ireturn, 1) := by decide +kernel
theorem d_N_countCutChannels_0 : decode mi_N_countCutChannels.2.1 0 = .ok (.iconst 0, 1) := by decide +kernel
theorem d_N_countCutChannels_1 : decode mi_N_countCutChannels.2.1 1 = .ok (.istore_n 1, 1) := by decide +kernel
theorem d_N_countCutChannels_2 : decode mi_N_countCutChannels.2.1 2 = .ok (.aload_n 0, 1) := by decide +kernel
theorem d_N_countCutChannels_3 : decode mi_N_countCutChannels.2.1 3 = .ok (.getfield 40, 3) := by decide +kernel
theorem d_N_countCutChannels_6 : decode mi_N_countCutChannels.2.1 6 = .ok (.istore_n 2, 1) := by decide +kernel
theorem d_N_countCutChannels_7 : decode mi_N_countCutChannels.2.1 7 = .ok (.iload_n 2, 1) := by decide +kernel
theorem d_N_countCutChannels_8 : decode mi_N_countCutChannels.2.1 8 = .ok (.iconst 3, 1) := by decide +kernel
theorem d_N_countCutChannels_9 : decode mi_N_countCutChannels.2.1 9 = .ok (.iadd, 1) := by decide +kernel
theorem d_N_countCutChannels_10 : decode mi_N_countCutChannels.2.1 10 = .ok (.aload_n 0, 1) := by decide +kernel
theorem d_N_countCutChannels_11 : decode mi_N_countCutChannels.2.1 11 = .ok (.getfield 36, 3) := by decide +kernel
theorem d_N_countCutChannels_14 : decode mi_N_countCutChannels.2.1 14 = .ok (.if_icmp .ge 30, 3) := by decide +kernel
theorem d_N_countCutChannels_17 : decode mi_N_countCutChannels.2.1 17 = .ok (.aload_n 0, 1) := by decide +kernel
theorem d_N_countCutChannels_18 : decode mi_N_countCutChannels.2.1 18 = .ok (.iload_n 2, 1) := by decide +kernel
theorem d_N_countCutChannels_19 : decode mi_N_countCutChannels.2.1 19 = .ok (.invokevirtual 113, 3) := by decide +kernel
theorem d_N_countCutChannels_22 : decode mi_N_countCutChannels.2.1 22 = .ok (.ifCond .ne 13, 3) := by decide +kernel
theorem d_N_countCutChannels_25 : decode mi_N_countCutChannels.2.1 25 = .ok (.aload_n 0, 1) := by decide +kernel
theorem d_N_countCutChannels_26 : decode mi_N_countCutChannels.2.1 26 = .ok (.iload_n 2, 1) := by decide +kernel
theorem d_N_countCutChannels_27 : decode mi_N_countCutChannels.2.1 27 = .ok (.iconst 2, 1) := by decide +kernel
theorem d_N_countCutChannels_28 : decode mi_N_countCutChannels.2.1 28 = .ok (.iadd, 1) := by decide +kernel
theorem d_N_countCutChannels_29 : decode mi_N_countCutChannels.2.1 29 = .ok (.invokevirtual 113, 3) := by decide +kernel
theorem d_N_countCutChannels_32 : decode mi_N_countCutChannels.2.1 32 = .ok (.ifCond .eq 6, 3) := by decide +kernel
theorem d_N_countCutChannels_35 : decode mi_N_countCutChannels.2.1 35 = .ok (.iinc 1 1, 3) := by decide +kernel
theorem d_N_countCutChannels_38 : decode mi_N_countCutChannels.2.1 38 = .ok (.iinc 2 4, 3) := by decide +kernel
theorem d_N_countCutChannels_41 : decode mi_N_countCutChannels.2.1 41 = .ok (.goto (-34), 3) := by decide +kernel
theorem d_N_countCutChannels_44 : decode mi_N_countCutChannels.2.1 44 = .ok (.iload_n 1, 1) := by decide +kernel
theorem d_N_countCutChannels_45 : decode mi_N_countCutChannels.2.1 45 = .ok (.ireturn, 1) := by decide +kernel
theorem d_N_leavesNearSide_0 : decode mi_N_leavesNearSide.2.1 0 = .ok (.aload_n 0, 1) := by decide +kernel
theorem d_N_leavesNearSide_1 : decode mi_N_leavesNearSide.2.1 1 = .ok (.aload_n 0, 1) := by decide +kernel
theorem d_N_leavesNearSide_2 : decode mi_N_leavesNearSide.2.1 2 = .ok (.getfield 18, 3) := by decide +kernel
theorem d_N_leavesNearSide_5 : decode mi_N_leavesNearSide.2.1 5 = .ok (.iload_n 1, 1) := by decide +kernel
theorem d_N_leavesNearSide_6 : decode mi_N_leavesNearSide.2.1 6 = .ok (.iconst 1, 1) := by decide +kernel
theorem d_N_leavesNearSide_7 : decode mi_N_leavesNearSide.2.1 7 = .ok (.ixor, 1) := by decide +kernel
theorem d_N_leavesNearSide_8 : decode mi_N_leavesNearSide.2.1 8 = .ok (.iaload, 1) := by decide +kernel
theorem d_N_leavesNearSide_9 : decode mi_N_leavesNearSide.2.1 9 = .ok (.invokevirtual 109, 3) := by decide +kernel
theorem d_N_leavesNearSide_12 : decode mi_N_leavesNearSide.2.1 12 = .ok (.ifCond .eq 20, 3) := by decide +kernel
theorem d_N_leavesNearSide_15 : decode mi_N_leavesNearSide.2.1 15 = .ok (.aload_n 0, 1) := by decide +kernel
theorem d_N_leavesNearSide_16 : decode mi_N_leavesNearSide.2.1 16 = .ok (.aload_n 0, 1) := by decide +kernel
theorem d_N_leavesNearSide_17 : decode mi_N_leavesNearSide.2.1 17 = .ok (.getfield 18, 3) := by decide +kernel
theorem d_N_leavesNearSide_20 : decode mi_N_leavesNearSide.2.1 20 = .ok (.iload_n 1, 1) := by decide +kernel
theorem d_N_leavesNearSide_21 : decode mi_N_leavesNearSide.2.1 21 = .ok (.iaload, 1) := by decide +kernel
theorem d_N_leavesNearSide_22 : decode mi_N_leavesNearSide.2.1 22 = .ok (.invokevirtual 109, 3) := by decide +kernel
theorem d_N_leavesNearSide_25 : decode mi_N_leavesNearSide.2.1 25 = .ok (.ifCond .ne 7, 3) := by decide +kernel
theorem d_N_leavesNearSide_28 : decode mi_N_leavesNearSide.2.1 28 = .ok (.iconst 1, 1) := by decide +kernel
theorem d_N_leavesNearSide_29 : decode mi_N_leavesNearSide.2.1 29 = .ok (.goto 4, 3) := by decide +kernel
theorem d_N_leavesNearSide_32 : decode mi_N_leavesNearSide.2.1 32 = .ok (.iconst 0, 1) := by decide +kernel
theorem d_N_leavesNearSide_33 : decode mi_N_leavesNearSide.2.1 33 = .ok (.ireturn, 1) := by decide +kernel
theorem d_Y_init_0 : decode mi_Y_init.2.1 0 = .ok (.aload_n 0, 1) := by decide +kernel
theorem d_Y_init_1 : decode mi_Y_init.2.1 1 = .ok (.invokespecial 3, 3) := by decide +kernel
theorem d_Y_init_4 : decode mi_Y_init.2.1 4 = .ok (.aload_n 0, 1) := by decide +kernel
theorem d_Y_init_5 : decode mi_Y_init.2.1 5 = .ok (.iload_n 1, 1) := by decide +kernel
theorem d_Y_init_6 : decode mi_Y_init.2.1 6 = .ok (.putfield 9, 3) := by decide +kernel
theorem d_Y_init_9 : decode mi_Y_init.2.1 9 = .ok (.aload_n 0, 1) := by decide +kernel
theorem d_Y_init_10 : decode mi_Y_init.2.1 10 = .ok (.bipush 36, 2) := by decide +kernel
theorem d_Y_init_12 : decode mi_Y_init.2.1 12 = .ok (.newarray .int, 2) := by decide +kernel
theorem d_Y_init_14 : decode mi_Y_init.2.1 14 = .ok (.putfield 15, 3) := by decide +kernel
theorem d_Y_init_17 : decode mi_Y_init.2.1 17 = .ok (.aload_n 0, 1) := by decide +kernel
theorem d_Y_init_18 : decode mi_Y_init.2.1 18 = .ok (.iconst 0, 1) := by decide +kernel
theorem d_Y_init_19 : decode mi_Y_init.2.1 19 = .ok (.putfield 19, 3) := by decide +kernel
theorem d_Y_init_22 : decode mi_Y_init.2.1 22 = .ok (.aload_n 0, 1) := by decide +kernel
theorem d_Y_init_23 : decode mi_Y_init.2.1 23 = .ok (.bipush 36, 2) := by decide +kernel
theorem d_Y_init_25 : decode mi_Y_init.2.1 25 = .ok (.newarray .int, 2) := by decide +kernel
theorem d_Y_init_27 : decode mi_Y_init.2.1 27 = .ok (.putfield 22, 3) := by decide +kernel
theorem d_Y_init_30 : decode mi_Y_init.2.1 30 = .ok (.aload_n 0, 1) := by decide +kernel
theorem d_Y_init_31 : decode mi_Y_init.2.1 31 = .ok (.bipush 36, 2) := by decide +kernel
theorem d_Y_init_33 : decode mi_Y_init.2.1 33 = .ok (.newarray .boolean, 2) := by decide +kernel
theorem d_Y_init_35 : decode mi_Y_init.2.1 35 = .ok (.putfield 25, 3) := by decide +kernel
theorem d_Y_init_38 : decode mi_Y_init.2.1 38 = .ok (.aload_n 0, 1) := by decide +kernel
theorem d_Y_init_39 : decode mi_Y_init.2.1 39 = .ok (.bipush 36, 2) := by decide +kernel
theorem d_Y_init_41 : decode mi_Y_init.2.1 41 = .ok (.newarray .int, 2) := by decide +kernel
theorem d_Y_init_43 : decode mi_Y_init.2.1 43 = .ok (.putfield 29, 3) := by decide +kernel
theorem d_Y_init_46 : decode mi_Y_init.2.1 46 = .ok (.aload_n 0, 1) := by decide +kernel
theorem d_Y_init_47 : decode mi_Y_init.2.1 47 = .ok (.iconst 0, 1) := by decide +kernel
theorem d_Y_init_48 : decode mi_Y_init.2.1 48 = .ok (.putfield 32, 3) := by decide +kernel
theorem d_Y_init_51 : decode mi_Y_init.2.1 51 = .ok (.aload_n 0, 1) := by decide +kernel
theorem d_Y_init_52 : decode mi_Y_init.2.1 52 = .ok (.iconst 0, 1) := by decide +kernel
theorem d_Y_init_53 : decode mi_Y_init.2.1 53 = .ok (.putfield 35, 3) := by decide +kernel
theorem d_Y_init_56 : decode mi_Y_init.2.1 56 = .ok (.aload_n 0, 1) := by decide +kernel
theorem d_Y_init_57 : decode mi_Y_init.2.1 57 = .ok (.iconst 0, 1) := by decide +kernel
theorem d_Y_init_58 : decode mi_Y_init.2.1 58 = .ok (.putfield 39, 3) := by decide +kernel
theorem d_Y_init_61 : decode mi_Y_init.2.1 61 = .ok (.return_, 1) := by decide +kernel
theorem d_Y_countOn_0 : decode mi_Y_countOn.2.1 0 = .ok (.iconst 0, 1) := by decide +kernel
theorem d_Y_countOn_1 : decode mi_Y_countOn.2.1 1 = .ok (.istore_n 2, 1) := by decide +kernel
theorem d_Y_countOn_2 : decode mi_Y_countOn.2.1 2 = .ok (.iconst 0, 1) := by decide +kernel
theorem d_Y_countOn_3 : decode mi_Y_countOn.2.1 3 = .ok (.istore_n 3, 1) := by decide +kernel
theorem d_Y_countOn_4 : decode mi_Y_countOn.2.1 4 = .ok (.iload_n 3, 1) := by decide +kernel
theorem d_Y_countOn_5 : decode mi_Y_countOn.2.1 5 = .ok (.bipush 36, 2) := by decide +kernel
theorem d_Y_countOn_7 : decode mi_Y_countOn.2.1 7 = .ok (.if_icmp .ge 22, 3) := by decide +kernel
theorem d_Y_countOn_10 : decode mi_Y_countOn.2.1 10 = .ok (.aload_n 0, 1) := by decide +kernel
theorem d_Y_countOn_11 : decode mi_Y_countOn.2.1 11 = .ok (.getfield 29, 3) := by decide +kernel
theorem d_Y_countOn_14 : decode mi_Y_countOn.2.1 14 = .ok (.iload_n 3, 1) := by decide +kernel
theorem d_Y_countOn_15 : decode mi_Y_countOn.2.1 15 = .ok (.iaload, 1) := by decide +kernel
theorem d_Y_countOn_16 : decode mi_Y_countOn.2.1 16 = .ok (.iload_n 1, 1) := by decide +kernel
theorem d_Y_countOn_17 : decode mi_Y_countOn.2.1 17 = .ok (.if_icmp .ne 6, 3) := by decide +kernel
theorem d_Y_countOn_20 : decode mi_Y_countOn.2.1 20 = .ok (.iinc 2 1, 3) := by decide +kernel
theorem d_Y_countOn_23 : decode mi_Y_countOn.2.1 23 = .ok (.iinc 3 1, 3) := by decide +kernel
theorem d_Y_countOn_26 : decode mi_Y_countOn.2.1 26 = .ok (.goto (-22), 3) := by decide +kernel
theorem d_Y_countOn_29 : decode mi_Y_countOn.2.1 29 = .ok (.iload_n 2, 1) := by decide +kernel
theorem d_Y_countOn_30 : decode mi_Y_countOn.2.1 30 = .ok (.ireturn, 1) := by decide +kernel
theorem d_Y_refresh_0 : decode mi_Y_refresh.2.1 0 = .ok (.aload_n 0, 1) := by decide +kernel
theorem d_Y_refresh_1 : decode mi_Y_refresh.2.1 1 = .ok (.getfield 39, 3) := by decide +kernel
theorem d_Y_refresh_4 : decode mi_Y_refresh.2.1 4 = .ok (.ifCond .eq 5, 3) := by decide +kernel
theorem d_Y_refresh_7 : decode mi_Y_refresh.2.1 7 = .ok (.aload_n 0, 1) := by decide +kernel
theorem d_Y_refresh_8 : decode mi_Y_refresh.2.1 8 = .ok (.areturn, 1) := by decide +kernel
theorem d_Y_refresh_9 : decode mi_Y_refresh.2.1 9 = .ok (.aload_n 0, 1) := by decide +kernel
theorem d_Y_refresh_10 : decode mi_Y_refresh.2.1 10 = .ok (.aload_n 1, 1) := by decide +kernel
theorem d_Y_refresh_11 : decode mi_Y_refresh.2.1 11 = .ok (.invokevirtual 42, 3) := by decide +kernel
theorem d_Y_refresh_14 : decode mi_Y_refresh.2.1 14 = .ok (.iconst 0, 1) := by decide +kernel
theorem d_Y_refresh_15 : decode mi_Y_refresh.2.1 15 = .ok (.istore_n 3, 1) := by decide +kernel
theorem d_Y_refresh_16 : decode mi_Y_refresh.2.1 16 = .ok (.iload_n 3, 1) := by decide +kernel
theorem d_Y_refresh_17 : decode mi_Y_refresh.2.1 17 = .ok (.bipush 36, 2) := by decide +kernel
theorem d_Y_refresh_19 : decode mi_Y_refresh.2.1 19 = .ok (.if_icmp .ge 23, 3) := by decide +kernel
theorem d_Y_refresh_22 : decode mi_Y_refresh.2.1 22 = .ok (.aload_n 0, 1) := by decide +kernel
theorem d_Y_refresh_23 : decode mi_Y_refresh.2.1 23 = .ok (.getfield 29, 3) := by decide +kernel
theorem d_Y_refresh_26 : decode mi_Y_refresh.2.1 26 = .ok (.iload_n 3, 1) := by decide +kernel
theorem d_Y_refresh_27 : decode mi_Y_refresh.2.1 27 = .ok (.iconst 0, 1) := by decide +kernel
theorem d_Y_refresh_28 : decode mi_Y_refresh.2.1 28 = .ok (.iastore, 1) := by decide +kernel
theorem d_Y_refresh_29 : decode mi_Y_refresh.2.1 29 = .ok (.aload_n 0, 1) := by decide +kernel
theorem d_Y_refresh_30 : decode mi_Y_refresh.2.1 30 = .ok (.getfield 22, 3) := by decide +kernel
theorem d_Y_refresh_33 : decode mi_Y_refresh.2.1 33 = .ok (.iload_n 3, 1) := by decide +kernel
theorem d_Y_refresh_34 : decode mi_Y_refresh.2.1 34 = .ok (.iconst 0, 1) := by decide +kernel
theorem d_Y_refresh_35 : decode mi_Y_refresh.2.1 35 = .ok (.iastore, 1) := by decide +kernel
theorem d_Y_refresh_36 : decode mi_Y_refresh.2.1 36 = .ok (.iinc 3 1, 3) := by decide +kernel
theorem d_Y_refresh_39 : decode mi_Y_refresh.2.1 39 = .ok (.goto (-23), 3) := by decide +kernel
theorem d_Y_refresh_42 : decode mi_Y_refresh.2.1 42 = .ok (.aload_n 0, 1) := by decide +kernel
theorem d_Y_refresh_43 : decode mi_Y_refresh.2.1 43 = .ok (.iconst 0, 1) := by decide +kernel
theorem d_Y_refresh_44 : decode mi_Y_refresh.2.1 44 = .ok (.putfield 32, 3) := by decide +kernel
theorem d_Y_refresh_47 : decode mi_Y_refresh.2.1 47 = .ok (.aload_n 1, 1) := by decide +kernel
theorem d_Y_refresh_48 : decode mi_Y_refresh.2.1 48 = .ok (.invokevirtual 46, 3) := by decide +kernel
theorem d_Y_refresh_51 : decode mi_Y_refresh.2.1 51 = .ok (.istore_n 3, 1) := by decide +kernel
theorem d_Y_refresh_52 : decode mi_Y_refresh.2.1 52 = .ok (.iconst 1, 1) := by decide +kernel
theorem d_Y_refresh_53 : decode mi_Y_refresh.2.1 53 = .ok (.istore 4, 2) := by decide +kernel
theorem d_Y_refresh_55 : decode mi_Y_refresh.2.1 55 = .ok (.iload 4, 2) := by decide +kernel
theorem d_Y_refresh_57 : decode mi_Y_refresh.2.1 57 = .ok (.bipush 36, 2) := by decide +kernel
theorem d_Y_refresh_59 : decode mi_Y_refresh.2.1 59 = .ok (.if_icmp .gt 42, 3) := by decide +kernel
theorem d_Y_refresh_62 : decode mi_Y_refresh.2.1 62 = .ok (.iload_n 3, 1) := by decide +kernel
theorem d_Y_refresh_63 : decode mi_Y_refresh.2.1 63 = .ok (.ifCond .le 38, 3) := by decide +kernel
theorem d_Y_refresh_66 : decode mi_Y_refresh.2.1 66 = .ok (.aload_n 0, 1) := by decide +kernel
theorem d_Y_refresh_67 : decode mi_Y_refresh.2.1 67 = .ok (.iload 4, 2) := by decide +kernel
theorem d_Y_refresh_69 : decode mi_Y_refresh.2.1 69 = .ok (.aload_n 1, 1) := by decide +kernel
theorem d_Y_refresh_70 : decode mi_Y_refresh.2.1 70 = .ok (.aload_n 2, 1) := by decide +kernel
theorem d_Y_refresh_71 : decode mi_Y_refresh.2.1 71 = .ok (.invokevirtual 52, 3) := by decide +kernel
theorem d_Y_refresh_74 : decode mi_Y_refresh.2.1 74 = .ok (.istore 5, 2) := by decide +kernel
theorem d_Y_refresh_76 : decode mi_Y_refresh.2.1 76 = .ok (.iload 5, 2) := by decide +kernel
theorem d_Y_refresh_78 : decode mi_Y_refresh.2.1 78 = .ok (.ifCond .ne 6, 3) := by decide +kernel
theorem d_Y_refresh_81 : decode mi_Y_refresh.2.1 81 = .ok (.goto 20, 3) := by decide +kernel
theorem d_Y_refresh_84 : decode mi_Y_refresh.2.1 84 = .ok (.aload_n 0, 1) := by decide +kernel
theorem d_Y_refresh_85 : decode mi_Y_refresh.2.1 85 = .ok (.iload 4, 2) := by decide +kernel
theorem d_Y_refresh_87 : decode mi_Y_refresh.2.1 87 = .ok (.putfield 32, 3) := by decide +kernel
theorem d_Y_refresh_90 : decode mi_Y_refresh.2.1 90 = .ok (.iload_n 3, 1) := by decide +kernel
theorem d_Y_refresh_91 : decode mi_Y_refresh.2.1 91 = .ok (.iload 5, 2) := by decide +kernel
theorem d_Y_refresh_93 : decode mi_Y_refresh.2.1 93 = .ok (.isub, 1) := by decide +kernel
theorem d_Y_refresh_94 : decode mi_Y_refresh.2.1 94 = .ok (.istore_n 3, 1) := by decide +kernel
theorem d_Y_refresh_95 : decode mi_Y_refresh.2.1 95 = .ok (.iinc 4 1, 3) := by decide +kernel
theorem d_Y_refresh_98 : decode mi_Y_refresh.2.1 98 = .ok (.goto (-43), 3) := by decide +kernel
theorem d_Y_refresh_101 : decode mi_Y_refresh.2.1 101 = .ok (.aload_n 0, 1) := by decide +kernel
theorem d_Y_refresh_102 : decode mi_Y_refresh.2.1 102 = .ok (.iload_n 3, 1) := by decide +kernel
theorem d_Y_refresh_103 : decode mi_Y_refresh.2.1 103 = .ok (.ifCond .ne 7, 3) := by decide +kernel
theorem d_Y_refresh_106 : decode mi_Y_refresh.2.1 106 = .ok (.iconst 1, 1) := by decide +kernel
theorem d_Y_refresh_107 : decode mi_Y_refresh.2.1 107 = .ok (.goto 4, 3) := by decide +kernel
theorem d_Y_refresh_110 : decode mi_Y_refresh.2.1 110 = .ok (.iconst 0, 1) := by decide +kernel
theorem d_Y_refresh_111 : decode mi_Y_refresh.2.1 111 = .ok (.putfield 35, 3) := by decide +kernel
theorem d_Y_refresh_114 : decode mi_Y_refresh.2.1 114 = .ok (.aload_n 0, 1) := by decide +kernel
theorem d_Y_refresh_115 : decode mi_Y_refresh.2.1 115 = .ok (.iconst 1, 1) := by decide +kernel
theorem d_Y_refresh_116 : decode mi_Y_refresh.2.1 116 = .ok (.putfield 39, 3) := by decide +kernel
theorem d_Y_refresh_119 : decode mi_Y_refresh.2.1 119 = .ok (.aload_n 0, 1) := by decide +kernel
theorem d_Y_refresh_120 : decode mi_Y_refresh.2.1 120 = .ok (.areturn, 1) := by decide +kernel
theorem d_Y_fill_0 : decode mi_Y_fill.2.1 0 = .ok (.iconst 0, 1) := by decide +kernel
theorem d_Y_fill_1 : decode mi_Y_fill.2.1 1 = .ok (.istore 4, 2) := by decide +kernel
theorem d_Y_fill_3 : decode mi_Y_fill.2.1 3 = .ok (.iload 4, 2) := by decide +kernel
theorem d_Y_fill_5 : decode mi_Y_fill.2.1 5 = .ok (.bipush 36, 2) := by decide +kernel
theorem d_Y_fill_7 : decode mi_Y_fill.2.1 7 = .ok (.if_icmp .ge 41, 3) := by decide +kernel
theorem d_Y_fill_10 : decode mi_Y_fill.2.1 10 = .ok (.aload_n 0, 1) := by decide +kernel
theorem d_Y_fill_11 : decode mi_Y_fill.2.1 11 = .ok (.getfield 25, 3) := by decide +kernel
theorem d_Y_fill_14 : decode mi_Y_fill.2.1 14 = .ok (.iload 4, 2) := by decide +kernel
theorem d_Y_fill_16 : decode mi_Y_fill.2.1 16 = .ok (.aload_n 2, 1) := by decide +kernel
theorem d_Y_fill_17 : decode mi_Y_fill.2.1 17 = .ok (.getfield 56, 3) := by decide +kernel
theorem d_Y_fill_20 : decode mi_Y_fill.2.1 20 = .ok (.iload 4, 2) := by decide +kernel
theorem d_Y_fill_22 : decode mi_Y_fill.2.1 22 = .ok (.iaload, 1) := by decide +kernel
theorem d_Y_fill_23 : decode mi_Y_fill.2.1 23 = .ok (.ifCond .eq 13, 3) := by decide +kernel
theorem d_Y_fill_26 : decode mi_Y_fill.2.1 26 = .ok (.aload_n 0, 1) := by decide +kernel
theorem d_Y_fill_27 : decode mi_Y_fill.2.1 27 = .ok (.getfield 29, 3) := by decide +kernel
theorem d_Y_fill_30 : decode mi_Y_fill.2.1 30 = .ok (.iload 4, 2) := by decide +kernel
theorem d_Y_fill_32 : decode mi_Y_fill.2.1 32 = .ok (.iaload, 1) := by decide +kernel
theorem d_Y_fill_33 : decode mi_Y_fill.2.1 33 = .ok (.ifCond .eq 7, 3) := by decide +kernel
theorem d_Y_fill_36 : decode mi_Y_fill.2.1 36 = .ok (.iconst 1, 1) := by decide +kernel
theorem d_Y_fill_37 : decode mi_Y_fill.2.1 37 = .ok (.goto 4, 3) := by decide +kernel
theorem d_Y_fill_40 : decode mi_Y_fill.2.1 40 = .ok (.iconst 0, 1) := by decide +kernel
theorem d_Y_fill_41 : decode mi_Y_fill.2.1 41 = .ok (.bastore, 1) := by decide +kernel
theorem d_Y_fill_42 : decode mi_Y_fill.2.1 42 = .ok (.iinc 4 1, 3) := by decide +kernel
theorem d_Y_fill_45 : decode mi_Y_fill.2.1 45 = .ok (.goto (-42), 3) := by decide +kernel
theorem d_Y_fill_48 : decode mi_Y_fill.2.1 48 = .ok (.aload_n 3, 1) := by decide +kernel
theorem d_Y_fill_49 : decode mi_Y_fill.2.1 49 = .ok (.aload_n 2, 1) := by decide +kernel
theorem d_Y_fill_50 : decode mi_Y_fill.2.1 50 = .ok (.aload_n 0, 1) := by decide +kernel
theorem d_Y_fill_51 : decode mi_Y_fill.2.1 51 = .ok (.getfield 25, 3) := by decide +kernel
theorem d_Y_fill_54 : decode mi_Y_fill.2.1 54 = .ok (.iconst 1, 1) := by decide +kernel
theorem d_Y_fill_55 : decode mi_Y_fill.2.1 55 = .ok (.invokevirtual 59, 3) := by decide +kernel
theorem d_Y_fill_58 : decode mi_Y_fill.2.1 58 = .ok (.iconst 0, 1) := by decide +kernel
theorem d_Y_fill_59 : decode mi_Y_fill.2.1 59 = .ok (.istore 4, 2) := by decide +kernel
theorem d_Y_fill_61 : decode mi_Y_fill.2.1 61 = .ok (.iconst 0, 1) := by decide +kernel
theorem d_Y_fill_62 : decode mi_Y_fill.2.1 62 = .ok (.istore 5, 2) := by decide +kernel
theorem d_Y_fill_64 : decode mi_Y_fill.2.1 64 = .ok (.iload 5, 2) := by decide +kernel
theorem d_Y_fill_66 : decode mi_Y_fill.2.1 66 = .ok (.aload_n 0, 1) := by decide +kernel
theorem d_Y_fill_67 : decode mi_Y_fill.2.1 67 = .ok (.getfield 19, 3) := by decide +kernel
theorem d_Y_fill_70 : decode mi_Y_fill.2.1 70 = .ok (.if_icmp .ge 82, 3) := by decide +kernel
theorem d_Y_fill_73 : decode mi_Y_fill.2.1 73 = .ok (.aload_n 0, 1) := by decide +kernel
theorem d_Y_fill_74 : decode mi_Y_fill.2.1 74 = .ok (.getfield 15, 3) := by decide +kernel
theorem d_Y_fill_77 : decode mi_Y_fill.2.1 77 = .ok (.iload 5, 2) := by decide +kernel
theorem d_Y_fill_79 : decode mi_Y_fill.2.1 79 = .ok (.iaload, 1) := by decide +kernel
theorem d_Y_fill_80 : decode mi_Y_fill.2.1 80 = .ok (.istore 6, 2) := by decide +kernel
theorem d_Y_fill_82 : decode mi_Y_fill.2.1 82 = .ok (.aload_n 2, 1) := by decide +kernel
theorem d_Y_fill_83 : decode mi_Y_fill.2.1 83 = .ok (.getfield 56, 3) := by decide +kernel
theorem d_Y_fill_86 : decode mi_Y_fill.2.1 86 = .ok (.iload 6, 2) := by decide +kernel
theorem d_Y_fill_88 : decode mi_Y_fill.2.1 88 = .ok (.iaload, 1) := by decide +kernel
theorem d_Y_fill_89 : decode mi_Y_fill.2.1 89 = .ok (.iconst 1, 1) := by decide +kernel
theorem d_Y_fill_90 : decode mi_Y_fill.2.1 90 = .ok (.if_icmp .ne 17, 3) := by decide +kernel
theorem d_Y_fill_93 : decode mi_Y_fill.2.1 93 = .ok (.aload_n 0, 1) := by decide +kernel
theorem d_Y_fill_94 : decode mi_Y_fill.2.1 94 = .ok (.getfield 29, 3) := by decide +kernel
theorem d_Y_fill_97 : decode mi_Y_fill.2.1 97 = .ok (.iload 6, 2) := by decide +kernel
theorem d_Y_fill_99 : decode mi_Y_fill.2.1 99 = .ok (.iaload, 1) := by decide +kernel
theorem d_Y_fill_100 : decode mi_Y_fill.2.1 100 = .ok (.ifCond .ne 7, 3) := by decide +kernel
theorem d_Y_fill_103 : decode mi_Y_fill.2.1 103 = .ok (.iconst 1, 1) := by decide +kernel
theorem d_Y_fill_104 : decode mi_Y_fill.2.1 104 = .ok (.goto 4, 3) := by decide +kernel
theorem d_Y_fill_107 : decode mi_Y_fill.2.1 107 = .ok (.iconst 0, 1) := by decide +kernel
theorem d_Y_fill_108 : decode mi_Y_fill.2.1 108 = .ok (.istore 7, 2) := by decide +kernel
theorem d_Y_fill_110 : decode mi_Y_fill.2.1 110 = .ok (.iload 7, 2) := by decide +kernel
theorem d_Y_fill_112 : decode mi_Y_fill.2.1 112 = .ok (.ifCond .eq 34, 3) := by decide +kernel
theorem d_Y_fill_115 : decode mi_Y_fill.2.1 115 = .ok (.aload_n 0, 1) := by decide +kernel
theorem d_Y_fill_116 : decode mi_Y_fill.2.1 116 = .ok (.getfield 22, 3) := by decide +kernel
theorem d_Y_fill_119 : decode mi_Y_fill.2.1 119 = .ok (.iload 6, 2) := by decide +kernel
theorem d_Y_fill_121 : decode mi_Y_fill.2.1 121 = .ok (.iaload, 1) := by decide +kernel
theorem d_Y_fill_122 : decode mi_Y_fill.2.1 122 = .ok (.iload_n 1, 1) := by decide +kernel
theorem d_Y_fill_123 : decode mi_Y_fill.2.1 123 = .ok (.if_icmp .eq 23, 3) := by decide +kernel
theorem d_Y_fill_126 : decode mi_Y_fill.2.1 126 = .ok (.iload 4, 2) := by decide +kernel
theorem d_Y_fill_128 : decode mi_Y_fill.2.1 128 = .ok (.aload_n 0, 1) := by decide +kernel
theorem d_Y_fill_129 : decode mi_Y_fill.2.1 129 = .ok (.iload 6, 2) := by decide +kernel
theorem d_Y_fill_131 : decode mi_Y_fill.2.1 131 = .ok (.aload_n 2, 1) := by decide +kernel
theorem d_Y_fill_132 : decode mi_Y_fill.2.1 132 = .ok (.getfield 65, 3) := by decide +kernel
theorem d_Y_fill_135 : decode mi_Y_fill.2.1 135 = .ok (.iload 6, 2) := by decide +kernel
theorem d_Y_fill_137 : decode mi_Y_fill.2.1 137 = .ok (.iaload, 1) := by decide +kernel
theorem d_Y_fill_138 : decode mi_Y_fill.2.1 138 = .ok (.iload_n 1, 1) := by decide +kernel
theorem d_Y_fill_139 : decode mi_Y_fill.2.1 139 = .ok (.aload_n 3, 1) := by decide +kernel
theorem d_Y_fill_140 : decode mi_Y_fill.2.1 140 = .ok (.invokevirtual 68, 3) := by decide +kernel
theorem d_Y_fill_143 : decode mi_Y_fill.2.1 143 = .ok (.iadd, 1) := by decide +kernel
theorem d_Y_fill_144 : decode mi_Y_fill.2.1 144 = .ok (.istore 4, 2) := by decide +kernel
theorem d_Y_fill_146 : decode mi_Y_fill.2.1 146 = .ok (.iinc 5 1, 3) := by decide +kernel
theorem d_Y_fill_149 : decode mi_Y_fill.2.1 149 = .ok (.goto (-85), 3) := by decide +kernel
theorem d_Y_fill_152 : decode mi_Y_fill.2.1 152 = .ok (.iload 4, 2) := by decide +kernel
theorem d_Y_fill_154 : decode mi_Y_fill.2.1 154 = .ok (.ireturn, 1) := by decide +kernel
theorem d_Y_consider_0 : decode mi_Y_consider.2.1 0 = .ok (.iload_n 2, 1) := by decide +kernel
theorem d_Y_consider_1 : decode mi_Y_consider.2.1 1 = .ok (.iconst (-1), 1) := by decide +kernel
theorem d_Y_consider_2 : decode mi_Y_consider.2.1 2 = .ok (.if_icmp .eq 7, 3) := by decide +kernel
theorem d_Y_consider_5 : decode mi_Y_consider.2.1 5 = .ok (.iconst 1, 1) := by decide +kernel
theorem d_Y_consider_6 : decode mi_Y_consider.2.1 6 = .ok (.goto 4, 3) := by decide +kernel
theorem d_Y_consider_9 : decode mi_Y_consider.2.1 9 = .ok (.iconst 0, 1) := by decide +kernel
theorem d_Y_consider_10 : decode mi_Y_consider.2.1 10 = .ok (.istore 5, 2) := by decide +kernel
theorem d_Y_consider_12 : decode mi_Y_consider.2.1 12 = .ok (.aload 4, 2) := by decide +kernel
theorem d_Y_consider_14 : decode mi_Y_consider.2.1 14 = .ok (.invokevirtual 72, 3) := by decide +kernel
theorem d_Y_consider_17 : decode mi_Y_consider.2.1 17 = .ok (.aload_n 0, 1) := by decide +kernel
theorem d_Y_consider_18 : decode mi_Y_consider.2.1 18 = .ok (.getfield 22, 3) := by decide +kernel
theorem d_Y_consider_21 : decode mi_Y_consider.2.1 21 = .ok (.iload_n 1, 1) := by decide +kernel
theorem d_Y_consider_22 : decode mi_Y_consider.2.1 22 = .ok (.iload_n 3, 1) := by decide +kernel
theorem d_Y_consider_23 : decode mi_Y_consider.2.1 23 = .ok (.iastore, 1) := by decide +kernel
theorem d_Y_consider_24 : decode mi_Y_consider.2.1 24 = .ok (.aload 4, 2) := by decide +kernel
theorem d_Y_consider_26 : decode mi_Y_consider.2.1 26 = .ok (.iload_n 1, 1) := by decide +kernel
theorem d_Y_consider_27 : decode mi_Y_consider.2.1 27 = .ok (.iconst 1, 1) := by decide +kernel
theorem d_Y_consider_28 : decode mi_Y_consider.2.1 28 = .ok (.invokevirtual 75, 3) := by decide +kernel
theorem d_Y_consider_31 : decode mi_Y_consider.2.1 31 = .ok (.iload 5, 2) := by decide +kernel
theorem d_Y_consider_33 : decode mi_Y_consider.2.1 33 = .ok (.ifCond .eq 17, 3) := by decide +kernel
theorem d_Y_consider_36 : decode mi_Y_consider.2.1 36 = .ok (.aload_n 0, 1) := by decide +kernel
theorem d_Y_consider_37 : decode mi_Y_consider.2.1 37 = .ok (.getfield 22, 3) := by decide +kernel
theorem d_Y_consider_40 : decode mi_Y_consider.2.1 40 = .ok (.iload_n 2, 1) := by decide +kernel
theorem d_Y_consider_41 : decode mi_Y_consider.2.1 41 = .ok (.iload_n 3, 1) := by decide +kernel
theorem d_Y_consider_42 : decode mi_Y_consider.2.1 42 = .ok (.iastore, 1) := by decide +kernel
theorem d_Y_consider_43 : decode mi_Y_consider.2.1 43 = .ok (.aload 4, 2) := by decide +kernel
theorem d_Y_consider_45 : decode mi_Y_consider.2.1 45 = .ok (.iload_n 2, 1) := by decide +kernel
theorem d_Y_consider_46 : decode mi_Y_consider.2.1 46 = .ok (.iconst 1, 1) := by decide +kernel
theorem d_Y_consider_47 : decode mi_Y_consider.2.1 47 = .ok (.invokevirtual 75, 3) := by decide +kernel
theorem d_Y_consider_50 : decode mi_Y_consider.2.1 50 = .ok (.iload 5, 2) := by decide +kernel
theorem d_Y_consider_52 : decode mi_Y_consider.2.1 52 = .ok (.ifCond .eq 7, 3) := by decide +kernel
theorem d_Y_consider_55 : decode mi_Y_consider.2.1 55 = .ok (.iconst 2, 1) := by decide +kernel
theorem d_Y_consider_56 : decode mi_Y_consider.2.1 56 = .ok (.goto 4, 3) := by decide +kernel
theorem d_Y_consider_59 : decode mi_Y_consider.2.1 59 = .ok (.iconst 1, 1) := by decide +kernel
theorem d_Y_consider_60 : decode mi_Y_consider.2.1 60 = .ok (.istore 6, 2) := by decide +kernel
theorem d_Y_consider_62 : decode mi_Y_consider.2.1 62 = .ok (.iconst 0, 1) := by decide +kernel
theorem d_Y_consider_63 : decode mi_Y_consider.2.1 63 = .ok (.istore 7, 2) := by decide +kernel
theorem d_Y_consider_65 : decode mi_Y_consider.2.1 65 = .ok (.iload 7, 2) := by decide +kernel
theorem d_Y_consider_67 : decode mi_Y_consider.2.1 67 = .ok (.iload 6, 2) := by decide +kernel
theorem d_Y_consider_69 : decode mi_Y_consider.2.1 69 = .ok (.if_icmp .ge 24, 3) := by decide +kernel
theorem d_Y_consider_72 : decode mi_Y_consider.2.1 72 = .ok (.aload 4, 2) := by decide +kernel
theorem d_Y_consider_74 : decode mi_Y_consider.2.1 74 = .ok (.invokevirtual 79, 3) := by decide +kernel
theorem d_Y_consider_77 : decode mi_Y_consider.2.1 77 = .ok (.ifCond .ne 10, 3) := by decide +kernel
theorem d_Y_consider_80 : decode mi_Y_consider.2.1 80 = .ok (.aload 4, 2) := by decide +kernel
theorem d_Y_consider_82 : decode mi_Y_consider.2.1 82 = .ok (.invokevirtual 82, 3) := by decide +kernel
theorem d_Y_consider_85 : decode mi_Y_consider.2.1 85 = .ok (.iconst 0, 1) := by decide +kernel
theorem d_Y_consider_86 : decode mi_Y_consider.2.1 86 = .ok (.ireturn, 1) := by decide +kernel
theorem d_Y_consider_87 : decode mi_Y_consider.2.1 87 = .ok (.iinc 7 1, 3) := by decide +kernel
theorem d_Y_consider_90 : decode mi_Y_consider.2.1 90 = .ok (.goto (-25), 3) := by decide +kernel
theorem d_Y_consider_93 : decode mi_Y_consider.2.1 93 = .ok (.aload_n 0, 1) := by decide +kernel
theorem d_Y_consider_94 : decode mi_Y_consider.2.1 94 = .ok (.getfield 29, 3) := by decide +kernel
theorem d_Y_consider_97 : decode mi_Y_consider.2.1 97 = .ok (.iload_n 1, 1) := by decide +kernel
theorem d_Y_consider_98 : decode mi_Y_consider.2.1 98 = .ok (.iload_n 3, 1) := by decide +kernel
theorem d_Y_consider_99 : decode mi_Y_consider.2.1 99 = .ok (.iastore, 1) := by decide +kernel
theorem d_Y_consider_100 : decode mi_Y_consider.2.1 100 = .ok (.iload 5, 2) := by decide +kernel
theorem d_Y_consider_102 : decode mi_Y_consider.2.1 102 = .ok (.ifCond .eq 10, 3) := by decide +kernel
theorem d_Y_consider_105 : decode mi_Y_consider.2.1 105 = .ok (.aload_n 0, 1) := by decide +kernel
theorem d_Y_consider_106 : decode mi_Y_consider.2.1 106 = .ok (.getfield 29, 3) := by decide +kernel
theorem d_Y_consider_109 : decode mi_Y_consider.2.1 109 = .ok (.iload_n 2, 1) := by decide +kernel
theorem d_Y_consider_110 : decode mi_Y_consider.2.1 110 = .ok (.iload_n 3, 1) := by decide +kernel
theorem d_Y_consider_111 : decode mi_Y_consider.2.1 111 = .ok (.iastore, 1) := by decide +kernel
theorem d_Y_consider_112 : decode mi_Y_consider.2.1 112 = .ok (.iload 6, 2) := by decide +kernel
theorem d_Y_consider_114 : decode mi_Y_consider.2.1 114 = .ok (.ireturn, 1) := by decide +kernel
theorem d_Y_putInOrder_0 : decode mi_Y_putInOrder.2.1 0 = .ok (.aload_n 0, 1) := by decide +kernel
theorem d_Y_putInOrder_1 : decode mi_Y_putInOrder.2.1 1 = .ok (.iconst 0, 1) := by decide +kernel
theorem d_Y_putInOrder_2 : decode mi_Y_putInOrder.2.1 2 = .ok (.putfield 19, 3) := by decide +kernel
theorem d_Y_putInOrder_5 : decode mi_Y_putInOrder.2.1 5 = .ok (.aload_n 0, 1) := by decide +kernel
theorem d_Y_putInOrder_6 : decode mi_Y_putInOrder.2.1 6 = .ok (.getfield 9, 3) := by decide +kernel
theorem d_Y_putInOrder_9 : decode mi_Y_putInOrder.2.1 9 = .ok (.ifCond .ne 11, 3) := by decide +kernel
theorem d_Y_putInOrder_12 : decode mi_Y_putInOrder.2.1 12 = .ok (.aload_n 0, 1) := by decide +kernel
theorem d_Y_putInOrder_13 : decode mi_Y_putInOrder.2.1 13 = .ok (.aload_n 1, 1) := by decide +kernel
theorem d_Y_putInOrder_14 : decode mi_Y_putInOrder.2.1 14 = .ok (.invokevirtual 85, 3) := by decide +kernel
theorem d_Y_putInOrder_17 : decode mi_Y_putInOrder.2.1 17 = .ok (.goto 52, 3) := by decide +kernel
theorem d_Y_putInOrder_20 : decode mi_Y_putInOrder.2.1 20 = .ok (.aload_n 0, 1) := by decide +kernel
theorem d_Y_putInOrder_21 : decode mi_Y_putInOrder.2.1 21 = .ok (.getfield 9, 3) := by decide +kernel
theorem d_Y_putInOrder_24 : decode mi_Y_putInOrder.2.1 24 = .ok (.iconst 1, 1) := by decide +kernel
theorem d_Y_putInOrder_25 : decode mi_Y_putInOrder.2.1 25 = .ok (.if_icmp .ne 11, 3) := by decide +kernel
theorem d_Y_putInOrder_28 : decode mi_Y_putInOrder.2.1 28 = .ok (.aload_n 0, 1) := by decide +kernel
theorem d_Y_putInOrder_29 : decode mi_Y_putInOrder.2.1 29 = .ok (.aload_n 1, 1) := by decide +kernel
theorem d_Y_putInOrder_30 : decode mi_Y_putInOrder.2.1 30 = .ok (.invokevirtual 88, 3) := by decide +kernel
theorem d_Y_putInOrder_33 : decode mi_Y_putInOrder.2.1 33 = .ok (.goto 36, 3) := by decide +kernel
theorem d_Y_putInOrder_36 : decode mi_Y_putInOrder.2.1 36 = .ok (.iconst 0, 1) := by decide +kernel
theorem d_Y_putInOrder_37 : decode mi_Y_putInOrder.2.1 37 = .ok (.istore_n 2, 1) := by decide +kernel
theorem d_Y_putInOrder_38 : decode mi_Y_putInOrder.2.1 38 = .ok (.iload_n 2, 1) := by decide +kernel
theorem d_Y_putInOrder_39 : decode mi_Y_putInOrder.2.1 39 = .ok (.iconst 2, 1) := by decide +kernel
theorem d_Y_putInOrder_40 : decode mi_Y_putInOrder.2.1 40 = .ok (.if_icmp .gt 29, 3) := by decide +kernel
theorem d_Y_putInOrder_43 : decode mi_Y_putInOrder.2.1 43 = .ok (.aload_n 0, 1) := by decide +kernel
theorem d_Y_putInOrder_44 : decode mi_Y_putInOrder.2.1 44 = .ok (.aload_n 1, 1) := by decide +kernel
theorem d_Y_putInOrder_45 : decode mi_Y_putInOrder.2.1 45 = .ok (.aload_n 0, 1) := by decide +kernel
theorem d_Y_putInOrder_46 : decode mi_Y_putInOrder.2.1 46 = .ok (.getfield 9, 3) := by decide +kernel
theorem d_Y_putInOrder_49 : decode mi_Y_putInOrder.2.1 49 = .ok (.iconst 2, 1) := by decide +kernel
theorem d_Y_putInOrder_50 : decode mi_Y_putInOrder.2.1 50 = .ok (.if_icmp .ne 7, 3) := by decide +kernel
theorem d_Y_putInOrder_53 : decode mi_Y_putInOrder.2.1 53 = .ok (.iload_n 2, 1) := by decide +kernel
theorem d_Y_putInOrder_54 : decode mi_Y_putInOrder.2.1 54 = .ok (.goto 6, 3) := by decide +kernel
theorem d_Y_putInOrder_57 : decode mi_Y_putInOrder.2.1 57 = .ok (.iconst 2, 1) := by decide +kernel
theorem d_Y_putInOrder_58 : decode mi_Y_putInOrder.2.1 58 = .ok (.iload_n 2, 1) := by decide +kernel
theorem d_Y_putInOrder_59 : decode mi_Y_putInOrder.2.1 59 = .ok (.isub, 1) := by decide +kernel
theorem d_Y_putInOrder_60 : decode mi_Y_putInOrder.2.1 60 = .ok (.invokevirtual 91, 3) := by decide +kernel
theorem d_Y_putInOrder_63 : decode mi_Y_putInOrder.2.1 63 = .ok (.iinc 2 1, 3) := by decide +kernel
theorem d_Y_putInOrder_66 : decode mi_Y_putInOrder.2.1 66 = .ok (.goto (-28), 3) := by decide +kernel
theorem d_Y_putInOrder_69 : decode mi_Y_putInOrder.2.1 69 = .ok (.return_, 1) := by decide +kernel
theorem d_Y_addByRows_0 : decode mi_Y_addByRows.2.1 0 = .ok (.iconst 0, 1) := by decide +kernel
theorem d_Y_addByRows_1 : decode mi_Y_addByRows.2.1 1 = .ok (.istore_n 2, 1) := by decide +kernel
theorem d_Y_addByRows_2 : decode mi_Y_addByRows.2.1 2 = .ok (.iload_n 2, 1) := by decide +kernel
theorem d_Y_addByRows_3 : decode mi_Y_addByRows.2.1 3 = .ok (.aload_n 1, 1) := by decide +kernel
theorem d_Y_addByRows_4 : decode mi_Y_addByRows.2.1 4 = .ok (.getfield 95, 3) := by decide +kernel
theorem d_Y_addByRows_7 : decode mi_Y_addByRows.2.1 7 = .ok (.if_icmp .ge 31, 3) := by decide +kernel
theorem d_Y_addByRows_10 : decode mi_Y_addByRows.2.1 10 = .ok (.iconst 0, 1) := by decide +kernel
theorem d_Y_addByRows_11 : decode mi_Y_addByRows.2.1 11 = .ok (.istore_n 3, 1) := by decide +kernel
theorem d_Y_addByRows_12 : decode mi_Y_addByRows.2.1 12 = .ok (.iload_n 3, 1) := by decide +kernel
theorem d_Y_addByRows_13 : decode mi_Y_addByRows.2.1 13 = .ok (.aload_n 1, 1) := by decide +kernel
theorem d_Y_addByRows_14 : decode mi_Y_addByRows.2.1 14 = .ok (.getfield 98, 3) := by decide +kernel
theorem d_Y_addByRows_17 : decode mi_Y_addByRows.2.1 17 = .ok (.if_icmp .ge 15, 3) := by decide +kernel
theorem d_Y_addByRows_20 : decode mi_Y_addByRows.2.1 20 = .ok (.aload_n 0, 1) := by decide +kernel
theorem d_Y_addByRows_21 : decode mi_Y_addByRows.2.1 21 = .ok (.iload_n 2, 1) := by decide +kernel
theorem d_Y_addByRows_22 : decode mi_Y_addByRows.2.1 22 = .ok (.iload_n 3, 1) := by decide +kernel
theorem d_Y_addByRows_23 : decode mi_Y_addByRows.2.1 23 = .ok (.invokevirtual 101, 3) := by decide +kernel
theorem d_Y_addByRows_26 : decode mi_Y_addByRows.2.1 26 = .ok (.iinc 3 1, 3) := by decide +kernel
theorem d_Y_addByRows_29 : decode mi_Y_addByRows.2.1 29 = .ok (.goto (-17), 3) := by decide +kernel
theorem d_Y_addByRows_32 : decode mi_Y_addByRows.2.1 32 = .ok (.iinc 2 1, 3) := by decide +kernel
theorem d_Y_addByRows_35 : decode mi_Y_addByRows.2.1 35 = .ok (.goto (-33), 3) := by decide +kernel
theorem d_Y_addByRows_38 : decode mi_Y_addByRows.2.1 38 = .ok (.return_, 1) := by decide +kernel
theorem d_Y_addByColumns_0 : decode mi_Y_addByColumns.2.1 0 = .ok (.iconst 0, 1) := by decide +kernel
theorem d_Y_addByColumns_1 : decode mi_Y_addByColumns.2.1 1 = .ok (.istore_n 2, 1) := by decide +kernel
theorem d_Y_addByColumns_2 : decode mi_Y_addByColumns.2.1 2 = .ok (.iload_n 2, 1) := by decide +kernel
theorem d_Y_addByColumns_3 : decode mi_Y_addByColumns.2.1 3 = .ok (.aload_n 1, 1) := by decide +kernel
theorem d_Y_addByColumns_4 : decode mi_Y_addByColumns.2.1 4 = .ok (.getfield 98, 3) := by decide +kernel
theorem d_Y_addByColumns_7 : decode mi_Y_addByColumns.2.1 7 = .ok (.if_icmp .ge 31, 3) := by decide +kernel
theorem d_Y_addByColumns_10 : decode mi_Y_addByColumns.2.1 10 = .ok (.iconst 0, 1) := by decide +kernel
theorem d_Y_addByColumns_11 : decode mi_Y_addByColumns.2.1 11 = .ok (.istore_n 3, 1) := by decide +kernel
theorem d_Y_addByColumns_12 : decode mi_Y_addByColumns.2.1 12 = .ok (.iload_n 3, 1) := by decide +kernel
theorem d_Y_addByColumns_13 : decode mi_Y_addByColumns.2.1 13 = .ok (.aload_n 1, 1) := by decide +kernel
theorem d_Y_addByColumns_14 : decode mi_Y_addByColumns.2.1 14 = .ok (.getfield 95, 3) := by decide +kernel
theorem d_Y_addByColumns_17 : decode mi_Y_addByColumns.2.1 17 = .ok (.if_icmp .ge 15, 3) := by decide +kernel
theorem d_Y_addByColumns_20 : decode mi_Y_addByColumns.2.1 20 = .ok (.aload_n 0, 1) := by decide +kernel
theorem d_Y_addByColumns_21 : decode mi_Y_addByColumns.2.1 21 = .ok (.iload_n 3, 1) := by decide +kernel
theorem d_Y_addByColumns_22 : decode mi_Y_addByColumns.2.1 22 = .ok (.iload_n 2, 1) := by decide +kernel
theorem d_Y_addByColumns_23 : decode mi_Y_addByColumns.2.1 23 = .ok (.invokevirtual 101, 3) := by decide +kernel
theorem d_Y_addByColumns_26 : decode mi_Y_addByColumns.2.1 26 = .ok (.iinc 3 1, 3) := by decide +kernel
theorem d_Y_addByColumns_29 : decode mi_Y_addByColumns.2.1 29 = .ok (.goto (-17), 3) := by decide +kernel
theorem d_Y_addByColumns_32 : decode mi_Y_addByColumns.2.1 32 = .ok (.iinc 2 1, 3) := by decide +kernel
theorem d_Y_addByColumns_35 : decode mi_Y_addByColumns.2.1 35 = .ok (.goto (-33), 3) := by decide +kernel
theorem d_Y_addByColumns_38 : decode mi_Y_addByColumns.2.1 38 = .ok (.return_, 1) := by decide +kernel
theorem d_Y_addRing_0 : decode mi_Y_addRing.2.1 0 = .ok (.iconst 0, 1) := by decide +kernel
theorem d_Y_addRing_1 : decode mi_Y_addRing.2.1 1 = .ok (.istore_n 3, 1) := by decide +kernel
theorem d_Y_addRing_2 : decode mi_Y_addRing.2.1 2 = .ok (.iload_n 3, 1) := by decide +kernel
theorem d_Y_addRing_3 : decode mi_Y_addRing.2.1 3 = .ok (.aload_n 1, 1) := by decide +kernel
theorem d_Y_addRing_4 : decode mi_Y_addRing.2.1 4 = .ok (.getfield 95, 3) := by decide +kernel
theorem d_Y_addRing_7 : decode mi_Y_addRing.2.1 7 = .ok (.if_icmp .ge 45, 3) := by decide +kernel
theorem d_Y_addRing_10 : decode mi_Y_addRing.2.1 10 = .ok (.iconst 0, 1) := by decide +kernel
theorem d_Y_addRing_11 : decode mi_Y_addRing.2.1 11 = .ok (.istore 4, 2) := by decide +kernel
theorem d_Y_addRing_13 : decode mi_Y_addRing.2.1 13 = .ok (.iload 4, 2) := by decide +kernel
theorem d_Y_addRing_15 : decode mi_Y_addRing.2.1 15 = .ok (.aload_n 1, 1) := by decide +kernel
theorem d_Y_addRing_16 : decode mi_Y_addRing.2.1 16 = .ok (.getfield 98, 3) := by decide +kernel
theorem d_Y_addRing_19 : decode mi_Y_addRing.2.1 19 = .ok (.if_icmp .ge 27, 3) := by decide +kernel
theorem d_Y_addRing_22 : decode mi_Y_addRing.2.1 22 = .ok (.aload_n 1, 1) := by decide +kernel
theorem d_Y_addRing_23 : decode mi_Y_addRing.2.1 23 = .ok (.iload_n 3, 1) := by decide +kernel
theorem d_Y_addRing_24 : decode mi_Y_addRing.2.1 24 = .ok (.iload 4, 2) := by decide +kernel
theorem d_Y_addRing_26 : decode mi_Y_addRing.2.1 26 = .ok (.invokestatic 104, 3) := by decide +kernel
theorem d_Y_addRing_29 : decode mi_Y_addRing.2.1 29 = .ok (.iload_n 2, 1) := by decide +kernel
theorem d_Y_addRing_30 : decode mi_Y_addRing.2.1 30 = .ok (.if_icmp .ne 10, 3) := by decide +kernel
theorem d_Y_addRing_33 : decode mi_Y_addRing.2.1 33 = .ok (.aload_n 0, 1) := by decide +kernel
theorem d_Y_addRing_34 : decode mi_Y_addRing.2.1 34 = .ok (.iload_n 3, 1) := by decide +kernel
theorem d_Y_addRing_35 : decode mi_Y_addRing.2.1 35 = .ok (.iload 4, 2) := by decide +kernel
theorem d_Y_addRing_37 : decode mi_Y_addRing.2.1 37 = .ok (.invokevirtual 101, 3) := by decide +kernel
theorem d_Y_addRing_40 : decode mi_Y_addRing.2.1 40 = .ok (.iinc 4 1, 3) := by decide +kernel
theorem d_Y_addRing_43 : decode mi_Y_addRing.2.1 43 = .ok (.goto (-30), 3) := by decide +kernel
theorem d_Y_addRing_46 : decode mi_Y_addRing.2.1 46 = .ok (.iinc 3 1, 3) := by decide +kernel
theorem d_Y_addRing_49 : decode mi_Y_addRing.2.1 49 = .ok (.goto (-47), 3) := by decide +kernel
theorem d_Y_addRing_52 : decode mi_Y_addRing.2.1 52 = .ok (.return_, 1) := by decide +kernel
theorem d_Y_ringOf_0 : decode mi_Y_ringOf.2.1 0 = .ok (.iload_n 1, 1) := by decide +kernel
theorem d_Y_ringOf_1 : decode mi_Y_ringOf.2.1 1 = .ok (.aload_n 0, 1) := by decide +kernel
theorem d_Y_ringOf_2 : decode mi_Y_ringOf.2.1 2 = .ok (.getfield 95, 3) := by decide +kernel
theorem d_Y_ringOf_5 : decode mi_Y_ringOf.2.1 5 = .ok (.iconst 1, 1) := by decide +kernel
theorem d_Y_ringOf_6 : decode mi_Y_ringOf.2.1 6 = .ok (.isub, 1) := by decide +kernel
theorem d_Y_ringOf_7 : decode mi_Y_ringOf.2.1 7 = .ok (.iload_n 1, 1) := by decide +kernel
theorem d_Y_ringOf_8 : decode mi_Y_ringOf.2.1 8 = .ok (.isub, 1) := by decide +kernel
theorem d_Y_ringOf_9 : decode mi_Y_ringOf.2.1 9 = .ok (.invokestatic 108, 3) := by decide +kernel
theorem d_Y_ringOf_12 : decode mi_Y_ringOf.2.1 12 = .ok (.istore_n 3, 1) := by decide +kernel
theorem d_Y_ringOf_13 : decode mi_Y_ringOf.2.1 13 = .ok (.iload_n 2, 1) := by decide +kernel
theorem d_Y_ringOf_14 : decode mi_Y_ringOf.2.1 14 = .ok (.aload_n 0, 1) := by decide +kernel
theorem d_Y_ringOf_15 : decode mi_Y_ringOf.2.1 15 = .ok (.getfield 98, 3) := by decide +kernel
theorem d_Y_ringOf_18 : decode mi_Y_ringOf.2.1 18 = .ok (.iconst 1, 1) := by decide +kernel
theorem d_Y_ringOf_19 : decode mi_Y_ringOf.2.1 19 = .ok (.isub, 1) := by decide +kernel
theorem d_Y_ringOf_20 : decode mi_Y_ringOf.2.1 20 = .ok (.iload_n 2, 1) := by decide +kernel
theorem d_Y_ringOf_21 : decode mi_Y_ringOf.2.1 21 = .ok (.isub, 1) := by decide +kernel
theorem d_Y_ringOf_22 : decode mi_Y_ringOf.2.1 22 = .ok (.invokestatic 108, 3) := by decide +kernel
theorem d_Y_ringOf_25 : decode mi_Y_ringOf.2.1 25 = .ok (.istore 4, 2) := by decide +kernel
theorem d_Y_ringOf_27 : decode mi_Y_ringOf.2.1 27 = .ok (.iload_n 3, 1) := by decide +kernel
theorem d_Y_ringOf_28 : decode mi_Y_ringOf.2.1 28 = .ok (.iload 4, 2) := by decide +kernel
theorem d_Y_ringOf_30 : decode mi_Y_ringOf.2.1 30 = .ok (.invokestatic 108, 3) := by decide +kernel
theorem d_Y_ringOf_33 : decode mi_Y_ringOf.2.1 33 = .ok (.ireturn, 1) := by decide +kernel
theorem d_Y_addPlace_0 : decode mi_Y_addPlace.2.1 0 = .ok (.aload_n 0, 1) := by decide +kernel
theorem d_Y_addPlace_1 : decode mi_Y_addPlace.2.1 1 = .ok (.getfield 19, 3) := by decide +kernel
theorem d_Y_addPlace_4 : decode mi_Y_addPlace.2.1 4 = .ok (.bipush 36, 2) := by decide +kernel
theorem d_Y_addPlace_6 : decode mi_Y_addPlace.2.1 6 = .ok (.if_icmp .ge 27, 3) := by decide +kernel
theorem d_Y_addPlace_9 : decode mi_Y_addPlace.2.1 9 = .ok (.aload_n 0, 1) := by decide +kernel
theorem d_Y_addPlace_10 : decode mi_Y_addPlace.2.1 10 = .ok (.getfield 15, 3) := by decide +kernel
theorem d_Y_addPlace_13 : decode mi_Y_addPlace.2.1 13 = .ok (.aload_n 0, 1) := by decide +kernel
theorem d_Y_addPlace_14 : decode mi_Y_addPlace.2.1 14 = .ok (.getfield 19, 3) := by decide +kernel
theorem d_Y_addPlace_17 : decode mi_Y_addPlace.2.1 17 = .ok (.iload_n 1, 1) := by decide +kernel
theorem d_Y_addPlace_18 : decode mi_Y_addPlace.2.1 18 = .ok (.iload_n 2, 1) := by decide +kernel
theorem d_Y_addPlace_19 : decode mi_Y_addPlace.2.1 19 = .ok (.invokestatic 114, 3) := by decide +kernel
theorem d_Y_addPlace_22 : decode mi_Y_addPlace.2.1 22 = .ok (.iastore, 1) := by decide +kernel
theorem d_Y_addPlace_23 : decode mi_Y_addPlace.2.1 23 = .ok (.aload_n 0, 1) := by decide +kernel
theorem d_Y_addPlace_24 : decode mi_Y_addPlace.2.1 24 = .ok (.dup, 1) := by decide +kernel
theorem d_Y_addPlace_25 : decode mi_Y_addPlace.2.1 25 = .ok (.getfield 19, 3) := by decide +kernel
theorem d_Y_addPlace_28 : decode mi_Y_addPlace.2.1 28 = .ok (.iconst 1, 1) := by decide +kernel
theorem d_Y_addPlace_29 : decode mi_Y_addPlace.2.1 29 = .ok (.iadd, 1) := by decide +kernel
theorem d_Y_addPlace_30 : decode mi_Y_addPlace.2.1 30 = .ok (.putfield 19, 3) := by decide +kernel
theorem d_Y_addPlace_33 : decode mi_Y_addPlace.2.1 33 = .ok (.return_, 1) := by decide +kernel
end
section
/-! decode rows: printed by wip/whole/gen07.py -/
theorem d_M_init_0 : decode mi_M_init.2.1 0 = .ok (.aload_n 0, 1) := by decide +kernel
theorem d_M_init_1 : decode mi_M_init.2.1 1 = .ok (.invokespecial 1, 3) := by decide +kernel
theorem d_M_init_4 : decode mi_M_init.2.1 4 = .ok (.aload_n 0, 1) := by decide +kernel
theorem d_M_init_5 : decode mi_M_init.2.1 5 = .ok (.bipush 112, 2) := by decide +kernel
theorem d_M_init_7 : decode mi_M_init.2.1 7 = .ok (.newarray .int, 2) := by decide +kernel
theorem d_M_init_9 : decode mi_M_init.2.1 9 = .ok (.putfield 7, 3) := by decide +kernel
theorem d_M_init_12 : decode mi_M_init.2.1 12 = .ok (.aload_n 0, 1) := by decide +kernel
theorem d_M_init_13 : decode mi_M_init.2.1 13 = .ok (.sipush 896, 3) := by decide +kernel
theorem d_M_init_16 : decode mi_M_init.2.1 16 = .ok (.newarray .int, 2) := by decide +kernel
theorem d_M_init_18 : decode mi_M_init.2.1 18 = .ok (.putfield 13, 3) := by decide +kernel
theorem d_M_init_21 : decode mi_M_init.2.1 21 = .ok (.aload_n 0, 1) := by decide +kernel
theorem d_M_init_22 : decode mi_M_init.2.1 22 = .ok (.bipush 60, 2) := by decide +kernel
theorem d_M_init_24 : decode mi_M_init.2.1 24 = .ok (.newarray .byte, 2) := by decide +kernel
theorem d_M_init_26 : decode mi_M_init.2.1 26 = .ok (.putfield 16, 3) := by decide +kernel
theorem d_M_init_29 : decode mi_M_init.2.1 29 = .ok (.aload_n 0, 1) := by decide +kernel
theorem d_M_init_30 : decode mi_M_init.2.1 30 = .ok (.bipush 36, 2) := by decide +kernel
theorem d_M_init_32 : decode mi_M_init.2.1 32 = .ok (.newarray .int, 2) := by decide +kernel
theorem d_M_init_34 : decode mi_M_init.2.1 34 = .ok (.putfield 20, 3) := by decide +kernel
theorem d_M_init_37 : decode mi_M_init.2.1 37 = .ok (.aload_n 0, 1) := by decide +kernel
theorem d_M_init_38 : decode mi_M_init.2.1 38 = .ok (.sipush 760, 3) := by decide +kernel
theorem d_M_init_41 : decode mi_M_init.2.1 41 = .ok (.newarray .int, 2) := by decide +kernel
theorem d_M_init_43 : decode mi_M_init.2.1 43 = .ok (.putfield 23, 3) := by decide +kernel
theorem d_M_init_46 : decode mi_M_init.2.1 46 = .ok (.aload_n 0, 1) := by decide +kernel
theorem d_M_init_47 : decode mi_M_init.2.1 47 = .ok (.sipush 760, 3) := by decide +kernel
theorem d_M_init_50 : decode mi_M_init.2.1 50 = .ok (.newarray .int, 2) := by decide +kernel
theorem d_M_init_52 : decode mi_M_init.2.1 52 = .ok (.putfield 26, 3) := by decide +kernel
theorem d_M_init_55 : decode mi_M_init.2.1 55 = .ok (.aload_n 0, 1) := by decide +kernel
theorem d_M_init_56 : decode mi_M_init.2.1 56 = .ok (.sipush 760, 3) := by decide +kernel
theorem d_M_init_59 : decode mi_M_init.2.1 59 = .ok (.newarray .int, 2) := by decide +kernel
theorem d_M_init_61 : decode mi_M_init.2.1 61 = .ok (.putfield 29, 3) := by decide +kernel
theorem d_M_init_64 : decode mi_M_init.2.1 64 = .ok (.aload_n 0, 1) := by decide +kernel
theorem d_M_init_65 : decode mi_M_init.2.1 65 = .ok (.sipush 136, 3) := by decide +kernel
theorem d_M_init_68 : decode mi_M_init.2.1 68 = .ok (.newarray .int, 2) := by decide +kernel
theorem d_M_init_70 : decode mi_M_init.2.1 70 = .ok (.putfield 32, 3) := by decide +kernel
theorem d_M_init_73 : decode mi_M_init.2.1 73 = .ok (.aload_n 0, 1) := by decide +kernel
theorem d_M_init_74 : decode mi_M_init.2.1 74 = .ok (.sipush 760, 3) := by decide +kernel
theorem d_M_init_77 : decode mi_M_init.2.1 77 = .ok (.newarray .int, 2) := by decide +kernel
theorem d_M_init_79 : decode mi_M_init.2.1 79 = .ok (.putfield 35, 3) := by decide +kernel
theorem d_M_init_82 : decode mi_M_init.2.1 82 = .ok (.aload_n 0, 1) := by decide +kernel
theorem d_M_init_83 : decode mi_M_init.2.1 83 = .ok (.bipush 36, 2) := by decide +kernel
theorem d_M_init_85 : decode mi_M_init.2.1 85 = .ok (.newarray .boolean, 2) := by decide +kernel
theorem d_M_init_87 : decode mi_M_init.2.1 87 = .ok (.putfield 38, 3) := by decide +kernel
theorem d_M_init_90 : decode mi_M_init.2.1 90 = .ok (.aload_n 0, 1) := by decide +kernel
theorem d_M_init_91 : decode mi_M_init.2.1 91 = .ok (.sipush 136, 3) := by decide +kernel
theorem d_M_init_94 : decode mi_M_init.2.1 94 = .ok (.newarray .int, 2) := by decide +kernel
theorem d_M_init_96 : decode mi_M_init.2.1 96 = .ok (.putfield 42, 3) := by decide +kernel
theorem d_M_init_99 : decode mi_M_init.2.1 99 = .ok (.aload_n 0, 1) := by decide +kernel
theorem d_M_init_100 : decode mi_M_init.2.1 100 = .ok (.sipush 136, 3) := by decide +kernel
theorem d_M_init_103 : decode mi_M_init.2.1 103 = .ok (.newarray .int, 2) := by decide +kernel
theorem d_M_init_105 : decode mi_M_init.2.1 105 = .ok (.putfield 45, 3) := by decide +kernel
theorem d_M_init_108 : decode mi_M_init.2.1 108 = .ok (.aload_n 0, 1) := by decide +kernel
theorem d_M_init_109 : decode mi_M_init.2.1 109 = .ok (.sipush 136, 3) := by decide +kernel
theorem d_M_init_112 : decode mi_M_init.2.1 112 = .ok (.newarray .boolean, 2) := by decide +kernel
theorem d_M_init_114 : decode mi_M_init.2.1 114 = .ok (.putfield 48, 3) := by decide +kernel
theorem d_M_init_117 : decode mi_M_init.2.1 117 = .ok (.aload_n 0, 1) := by decide +kernel
theorem d_M_init_118 : decode mi_M_init.2.1 118 = .ok (.bipush 36, 2) := by decide +kernel
theorem d_M_init_120 : decode mi_M_init.2.1 120 = .ok (.newarray .int, 2) := by decide +kernel
theorem d_M_init_122 : decode mi_M_init.2.1 122 = .ok (.putfield 51, 3) := by decide +kernel
theorem d_M_init_125 : decode mi_M_init.2.1 125 = .ok (.aload_n 0, 1) := by decide +kernel
theorem d_M_init_126 : decode mi_M_init.2.1 126 = .ok (.bipush 36, 2) := by decide +kernel
theorem d_M_init_128 : decode mi_M_init.2.1 128 = .ok (.newarray .int, 2) := by decide +kernel
theorem d_M_init_130 : decode mi_M_init.2.1 130 = .ok (.putfield 54, 3) := by decide +kernel
theorem d_M_init_133 : decode mi_M_init.2.1 133 = .ok (.aload_n 0, 1) := by decide +kernel
theorem d_M_init_134 : decode mi_M_init.2.1 134 = .ok (.sipush 760, 3) := by decide +kernel
theorem d_M_init_137 : decode mi_M_init.2.1 137 = .ok (.newarray .int, 2) := by decide +kernel
theorem d_M_init_139 : decode mi_M_init.2.1 139 = .ok (.putfield 57, 3) := by decide +kernel
theorem d_M_init_142 : decode mi_M_init.2.1 142 = .ok (.aload_n 0, 1) := by decide +kernel
theorem d_M_init_143 : decode mi_M_init.2.1 143 = .ok (.getfield 7, 3) := by decide +kernel
theorem d_M_init_146 : decode mi_M_init.2.1 146 = .ok (.iconst 0, 1) := by decide +kernel
theorem d_M_init_147 : decode mi_M_init.2.1 147 = .ok (.iconst 3, 1) := by decide +kernel
theorem d_M_init_148 : decode mi_M_init.2.1 148 = .ok (.iastore, 1) := by decide +kernel
theorem d_M_init_149 : decode mi_M_init.2.1 149 = .ok (.aload_n 0, 1) := by decide +kernel
theorem d_M_init_150 : decode mi_M_init.2.1 150 = .ok (.getfield 7, 3) := by decide +kernel
theorem d_M_init_153 : decode mi_M_init.2.1 153 = .ok (.iconst 1, 1) := by decide +kernel
theorem d_M_init_154 : decode mi_M_init.2.1 154 = .ok (.iconst 3, 1) := by decide +kernel
theorem d_M_init_155 : decode mi_M_init.2.1 155 = .ok (.iastore, 1) := by decide +kernel
theorem d_M_init_156 : decode mi_M_init.2.1 156 = .ok (.aload_n 0, 1) := by decide +kernel
theorem d_M_init_157 : decode mi_M_init.2.1 157 = .ok (.getfield 7, 3) := by decide +kernel
theorem d_M_init_160 : decode mi_M_init.2.1 160 = .ok (.iconst 2, 1) := by decide +kernel
theorem d_M_init_161 : decode mi_M_init.2.1 161 = .ok (.iconst 1, 1) := by decide +kernel
theorem d_M_init_162 : decode mi_M_init.2.1 162 = .ok (.iastore, 1) := by decide +kernel
theorem d_M_init_163 : decode mi_M_init.2.1 163 = .ok (.aload_n 0, 1) := by decide +kernel
theorem d_M_init_164 : decode mi_M_init.2.1 164 = .ok (.getfield 7, 3) := by decide +kernel
theorem d_M_init_167 : decode mi_M_init.2.1 167 = .ok (.iconst 3, 1) := by decide +kernel
theorem d_M_init_168 : decode mi_M_init.2.1 168 = .ok (.iconst 2, 1) := by decide +kernel
theorem d_M_init_169 : decode mi_M_init.2.1 169 = .ok (.iastore, 1) := by decide +kernel
theorem d_M_init_170 : decode mi_M_init.2.1 170 = .ok (.iconst 0, 1) := by decide +kernel
theorem d_M_init_171 : decode mi_M_init.2.1 171 = .ok (.istore_n 1, 1) := by decide +kernel
theorem d_M_init_172 : decode mi_M_init.2.1 172 = .ok (.iload_n 1, 1) := by decide +kernel
theorem d_M_init_173 : decode mi_M_init.2.1 173 = .ok (.bipush 36, 2) := by decide +kernel
theorem d_M_init_175 : decode mi_M_init.2.1 175 = .ok (.if_icmp .ge 38, 3) := by decide +kernel
theorem d_M_init_178 : decode mi_M_init.2.1 178 = .ok (.aload_n 0, 1) := by decide +kernel
theorem d_M_init_179 : decode mi_M_init.2.1 179 = .ok (.getfield 7, 3) := by decide +kernel
theorem d_M_init_182 : decode mi_M_init.2.1 182 = .ok (.iconst 4, 1) := by decide +kernel
theorem d_M_init_183 : decode mi_M_init.2.1 183 = .ok (.iload_n 1, 1) := by decide +kernel
theorem d_M_init_184 : decode mi_M_init.2.1 184 = .ok (.iadd, 1) := by decide +kernel
theorem d_M_init_185 : decode mi_M_init.2.1 185 = .ok (.iload_n 1, 1) := by decide +kernel
theorem d_M_init_186 : decode mi_M_init.2.1 186 = .ok (.bipush 6, 2) := by decide +kernel
theorem d_M_init_188 : decode mi_M_init.2.1 188 = .ok (.idiv, 1) := by decide +kernel
theorem d_M_init_189 : decode mi_M_init.2.1 189 = .ok (.iconst 3, 1) := by decide +kernel
theorem d_M_init_190 : decode mi_M_init.2.1 190 = .ok (.if_icmp .ge 15, 3) := by decide +kernel
theorem d_M_init_193 : decode mi_M_init.2.1 193 = .ok (.iload_n 1, 1) := by decide +kernel
theorem d_M_init_194 : decode mi_M_init.2.1 194 = .ok (.bipush 6, 2) := by decide +kernel
theorem d_M_init_196 : decode mi_M_init.2.1 196 = .ok (.irem, 1) := by decide +kernel
theorem d_M_init_197 : decode mi_M_init.2.1 197 = .ok (.iconst 3, 1) := by decide +kernel
theorem d_M_init_198 : decode mi_M_init.2.1 198 = .ok (.if_icmp .ge 7, 3) := by decide +kernel
theorem d_M_init_201 : decode mi_M_init.2.1 201 = .ok (.iconst 1, 1) := by decide +kernel
theorem d_M_init_202 : decode mi_M_init.2.1 202 = .ok (.goto 4, 3) := by decide +kernel
theorem d_M_init_205 : decode mi_M_init.2.1 205 = .ok (.iconst 0, 1) := by decide +kernel
theorem d_M_init_206 : decode mi_M_init.2.1 206 = .ok (.iastore, 1) := by decide +kernel
theorem d_M_init_207 : decode mi_M_init.2.1 207 = .ok (.iinc 1 1, 3) := by decide +kernel
theorem d_M_init_210 : decode mi_M_init.2.1 210 = .ok (.goto (-38), 3) := by decide +kernel
theorem d_M_init_213 : decode mi_M_init.2.1 213 = .ok (.return_, 1) := by decide +kernel
theorem d_M_in_0 : decode mi_M_in.2.1 0 = .ok (.iload_n 0, 1) := by decide +kernel
theorem d_M_in_1 : decode mi_M_in.2.1 1 = .ok (.iload_n 1, 1) := by decide +kernel
theorem d_M_in_2 : decode mi_M_in.2.1 2 = .ok (.if_icmp .lt 12, 3) := by decide +kernel
theorem d_M_in_5 : decode mi_M_in.2.1 5 = .ok (.iload_n 0, 1) := by decide +kernel
theorem d_M_in_6 : decode mi_M_in.2.1 6 = .ok (.iload_n 2, 1) := by decide +kernel
theorem d_M_in_7 : decode mi_M_in.2.1 7 = .ok (.if_icmp .gt 7, 3) := by decide +kernel
theorem d_M_in_10 : decode mi_M_in.2.1 10 = .ok (.iconst 1, 1) := by decide +kernel
theorem d_M_in_11 : decode mi_M_in.2.1 11 = .ok (.goto 4, 3) := by decide +kernel
theorem d_M_in_14 : decode mi_M_in.2.1 14 = .ok (.iconst 0, 1) := by decide +kernel
theorem d_M_in_15 : decode mi_M_in.2.1 15 = .ok (.ireturn, 1) := by decide +kernel
theorem d_M_edit_0 : decode mi_M_edit.2.1 0 = .ok (.aload_n 0, 1) := by decide +kernel
theorem d_M_edit_1 : decode mi_M_edit.2.1 1 = .ok (.getfield 60, 3) := by decide +kernel
theorem d_M_edit_4 : decode mi_M_edit.2.1 4 = .ok (.bipush 8, 2) := by decide +kernel
theorem d_M_edit_6 : decode mi_M_edit.2.1 6 = .ok (.if_icmp .ne 43, 3) := by decide +kernel
theorem d_M_edit_9 : decode mi_M_edit.2.1 9 = .ok (.iconst 0, 1) := by decide +kernel
theorem d_M_edit_10 : decode mi_M_edit.2.1 10 = .ok (.istore_n 1, 1) := by decide +kernel
theorem d_M_edit_11 : decode mi_M_edit.2.1 11 = .ok (.iload_n 1, 1) := by decide +kernel
theorem d_M_edit_12 : decode mi_M_edit.2.1 12 = .ok (.sipush 784, 3) := by decide +kernel
theorem d_M_edit_15 : decode mi_M_edit.2.1 15 = .ok (.if_icmp .ge 24, 3) := by decide +kernel
theorem d_M_edit_18 : decode mi_M_edit.2.1 18 = .ok (.aload_n 0, 1) := by decide +kernel
theorem d_M_edit_19 : decode mi_M_edit.2.1 19 = .ok (.getfield 13, 3) := by decide +kernel
theorem d_M_edit_22 : decode mi_M_edit.2.1 22 = .ok (.iload_n 1, 1) := by decide +kernel
theorem d_M_edit_23 : decode mi_M_edit.2.1 23 = .ok (.aload_n 0, 1) := by decide +kernel
theorem d_M_edit_24 : decode mi_M_edit.2.1 24 = .ok (.getfield 13, 3) := by decide +kernel
theorem d_M_edit_27 : decode mi_M_edit.2.1 27 = .ok (.iload_n 1, 1) := by decide +kernel
theorem d_M_edit_28 : decode mi_M_edit.2.1 28 = .ok (.bipush 112, 2) := by decide +kernel
theorem d_M_edit_30 : decode mi_M_edit.2.1 30 = .ok (.iadd, 1) := by decide +kernel
theorem d_M_edit_31 : decode mi_M_edit.2.1 31 = .ok (.iaload, 1) := by decide +kernel
theorem d_M_edit_32 : decode mi_M_edit.2.1 32 = .ok (.iastore, 1) := by decide +kernel
theorem d_M_edit_33 : decode mi_M_edit.2.1 33 = .ok (.iinc 1 1, 3) := by decide +kernel
theorem d_M_edit_36 : decode mi_M_edit.2.1 36 = .ok (.goto (-25), 3) := by decide +kernel
theorem d_M_edit_39 : decode mi_M_edit.2.1 39 = .ok (.aload_n 0, 1) := by decide +kernel
theorem d_M_edit_40 : decode mi_M_edit.2.1 40 = .ok (.dup, 1) := by decide +kernel
theorem d_M_edit_41 : decode mi_M_edit.2.1 41 = .ok (.getfield 60, 3) := by decide +kernel
theorem d_M_edit_44 : decode mi_M_edit.2.1 44 = .ok (.iconst 1, 1) := by decide +kernel
theorem d_M_edit_45 : decode mi_M_edit.2.1 45 = .ok (.isub, 1) := by decide +kernel
theorem d_M_edit_46 : decode mi_M_edit.2.1 46 = .ok (.putfield 60, 3) := by decide +kernel
theorem d_M_edit_49 : decode mi_M_edit.2.1 49 = .ok (.iconst 0, 1) := by decide +kernel
theorem d_M_edit_50 : decode mi_M_edit.2.1 50 = .ok (.istore_n 1, 1) := by decide +kernel
theorem d_M_edit_51 : decode mi_M_edit.2.1 51 = .ok (.iload_n 1, 1) := by decide +kernel
theorem d_M_edit_52 : decode mi_M_edit.2.1 52 = .ok (.bipush 112, 2) := by decide +kernel
theorem d_M_edit_54 : decode mi_M_edit.2.1 54 = .ok (.if_icmp .ge 29, 3) := by decide +kernel
theorem d_M_edit_57 : decode mi_M_edit.2.1 57 = .ok (.aload_n 0, 1) := by decide +kernel
theorem d_M_edit_58 : decode mi_M_edit.2.1 58 = .ok (.getfield 13, 3) := by decide +kernel
theorem d_M_edit_61 : decode mi_M_edit.2.1 61 = .ok (.bipush 112, 2) := by decide +kernel
theorem d_M_edit_63 : decode mi_M_edit.2.1 63 = .ok (.aload_n 0, 1) := by decide +kernel
theorem d_M_edit_64 : decode mi_M_edit.2.1 64 = .ok (.getfield 60, 3) := by decide +kernel
theorem d_M_edit_67 : decode mi_M_edit.2.1 67 = .ok (.imul, 1) := by decide +kernel
theorem d_M_edit_68 : decode mi_M_edit.2.1 68 = .ok (.iload_n 1, 1) := by decide +kernel
theorem d_M_edit_69 : decode mi_M_edit.2.1 69 = .ok (.iadd, 1) := by decide +kernel
theorem d_M_edit_70 : decode mi_M_edit.2.1 70 = .ok (.aload_n 0, 1) := by decide +kernel
theorem d_M_edit_71 : decode mi_M_edit.2.1 71 = .ok (.getfield 7, 3) := by decide +kernel
theorem d_M_edit_74 : decode mi_M_edit.2.1 74 = .ok (.iload_n 1, 1) := by decide +kernel
theorem d_M_edit_75 : decode mi_M_edit.2.1 75 = .ok (.iaload, 1) := by decide +kernel
theorem d_M_edit_76 : decode mi_M_edit.2.1 76 = .ok (.iastore, 1) := by decide +kernel
theorem d_M_edit_77 : decode mi_M_edit.2.1 77 = .ok (.iinc 1 1, 3) := by decide +kernel
theorem d_M_edit_80 : decode mi_M_edit.2.1 80 = .ok (.goto (-29), 3) := by decide +kernel
theorem d_M_edit_83 : decode mi_M_edit.2.1 83 = .ok (.aload_n 0, 1) := by decide +kernel
theorem d_M_edit_84 : decode mi_M_edit.2.1 84 = .ok (.dup, 1) := by decide +kernel
theorem d_M_edit_85 : decode mi_M_edit.2.1 85 = .ok (.getfield 60, 3) := by decide +kernel
theorem d_M_edit_88 : decode mi_M_edit.2.1 88 = .ok (.iconst 1, 1) := by decide +kernel
theorem d_M_edit_89 : decode mi_M_edit.2.1 89 = .ok (.iadd, 1) := by decide +kernel
theorem d_M_edit_90 : decode mi_M_edit.2.1 90 = .ok (.putfield 60, 3) := by decide +kernel
theorem d_M_edit_93 : decode mi_M_edit.2.1 93 = .ok (.return_, 1) := by decide +kernel
theorem d_M_undo_0 : decode mi_M_undo.2.1 0 = .ok (.aload_n 0, 1) := by decide +kernel
theorem d_M_undo_1 : decode mi_M_undo.2.1 1 = .ok (.getfield 60, 3) := by decide +kernel
theorem d_M_undo_4 : decode mi_M_undo.2.1 4 = .ok (.ifCond .ne 6, 3) := by decide +kernel
theorem d_M_undo_7 : decode mi_M_undo.2.1 7 = .ok (.bipush (-2), 2) := by decide +kernel
theorem d_M_undo_9 : decode mi_M_undo.2.1 9 = .ok (.ireturn, 1) := by decide +kernel
theorem d_M_undo_10 : decode mi_M_undo.2.1 10 = .ok (.aload_n 0, 1) := by decide +kernel
theorem d_M_undo_11 : decode mi_M_undo.2.1 11 = .ok (.dup, 1) := by decide +kernel
theorem d_M_undo_12 : decode mi_M_undo.2.1 12 = .ok (.getfield 60, 3) := by decide +kernel
theorem d_M_undo_15 : decode mi_M_undo.2.1 15 = .ok (.iconst 1, 1) := by decide +kernel
theorem d_M_undo_16 : decode mi_M_undo.2.1 16 = .ok (.isub, 1) := by decide +kernel
theorem d_M_undo_17 : decode mi_M_undo.2.1 17 = .ok (.putfield 60, 3) := by decide +kernel
theorem d_M_undo_20 : decode mi_M_undo.2.1 20 = .ok (.iconst 0, 1) := by decide +kernel
theorem d_M_undo_21 : decode mi_M_undo.2.1 21 = .ok (.istore_n 1, 1) := by decide +kernel
theorem d_M_undo_22 : decode mi_M_undo.2.1 22 = .ok (.iload_n 1, 1) := by decide +kernel
theorem d_M_undo_23 : decode mi_M_undo.2.1 23 = .ok (.bipush 112, 2) := by decide +kernel
theorem d_M_undo_25 : decode mi_M_undo.2.1 25 = .ok (.if_icmp .ge 29, 3) := by decide +kernel
theorem d_M_undo_28 : decode mi_M_undo.2.1 28 = .ok (.aload_n 0, 1) := by decide +kernel
theorem d_M_undo_29 : decode mi_M_undo.2.1 29 = .ok (.getfield 7, 3) := by decide +kernel
theorem d_M_undo_32 : decode mi_M_undo.2.1 32 = .ok (.iload_n 1, 1) := by decide +kernel
theorem d_M_undo_33 : decode mi_M_undo.2.1 33 = .ok (.aload_n 0, 1) := by decide +kernel
theorem d_M_undo_34 : decode mi_M_undo.2.1 34 = .ok (.getfield 13, 3) := by decide +kernel
theorem d_M_undo_37 : decode mi_M_undo.2.1 37 = .ok (.bipush 112, 2) := by decide +kernel
theorem d_M_undo_39 : decode mi_M_undo.2.1 39 = .ok (.aload_n 0, 1) := by decide +kernel
theorem d_M_undo_40 : decode mi_M_undo.2.1 40 = .ok (.getfield 60, 3) := by decide +kernel
theorem d_M_undo_43 : decode mi_M_undo.2.1 43 = .ok (.imul, 1) := by decide +kernel
theorem d_M_undo_44 : decode mi_M_undo.2.1 44 = .ok (.iload_n 1, 1) := by decide +kernel
theorem d_M_undo_45 : decode mi_M_undo.2.1 45 = .ok (.iadd, 1) := by decide +kernel
theorem d_M_undo_46 : decode mi_M_undo.2.1 46 = .ok (.iaload, 1) := by decide +kernel
theorem d_M_undo_47 : decode mi_M_undo.2.1 47 = .ok (.iastore, 1) := by decide +kernel
theorem d_M_undo_48 : decode mi_M_undo.2.1 48 = .ok (.iinc 1 1, 3) := by decide +kernel
theorem d_M_undo_51 : decode mi_M_undo.2.1 51 = .ok (.goto (-29), 3) := by decide +kernel
theorem d_M_undo_54 : decode mi_M_undo.2.1 54 = .ok (.aload_n 0, 1) := by decide +kernel
theorem d_M_undo_55 : decode mi_M_undo.2.1 55 = .ok (.getfield 60, 3) := by decide +kernel
theorem d_M_undo_58 : decode mi_M_undo.2.1 58 = .ok (.ireturn, 1) := by decide +kernel
theorem d_M_appendCharacter_0 : decode mi_M_appendCharacter.2.1 0 = .ok (.iload_n 1, 1) := by decide +kernel
theorem d_M_appendCharacter_1 : decode mi_M_appendCharacter.2.1 1 = .ok (.iconst 0, 1) := by decide +kernel
theorem d_M_appendCharacter_2 : decode mi_M_appendCharacter.2.1 2 = .ok (.sipush 255, 3) := by decide +kernel
theorem d_M_appendCharacter_5 : decode mi_M_appendCharacter.2.1 5 = .ok (.invokestatic 64, 3) := by decide +kernel
theorem d_M_appendCharacter_8 : decode mi_M_appendCharacter.2.1 8 = .ok (.ifCond .ne 5, 3) := by decide +kernel
theorem d_M_appendCharacter_11 : decode mi_M_appendCharacter.2.1 11 = .ok (.iconst (-1), 1) := by decide +kernel
theorem d_M_appendCharacter_12 : decode mi_M_appendCharacter.2.1 12 = .ok (.ireturn, 1) := by decide +kernel
theorem d_M_appendCharacter_13 : decode mi_M_appendCharacter.2.1 13 = .ok (.aload_n 0, 1) := by decide +kernel
theorem d_M_appendCharacter_14 : decode mi_M_appendCharacter.2.1 14 = .ok (.getfield 68, 3) := by decide +kernel
theorem d_M_appendCharacter_17 : decode mi_M_appendCharacter.2.1 17 = .ok (.bipush 60, 2) := by decide +kernel
theorem d_M_appendCharacter_19 : decode mi_M_appendCharacter.2.1 19 = .ok (.if_icmp .ne 6, 3) := by decide +kernel
theorem d_M_appendCharacter_22 : decode mi_M_appendCharacter.2.1 22 = .ok (.bipush (-3), 2) := by decide +kernel
theorem d_M_appendCharacter_24 : decode mi_M_appendCharacter.2.1 24 = .ok (.ireturn, 1) := by decide +kernel
theorem d_M_appendCharacter_25 : decode mi_M_appendCharacter.2.1 25 = .ok (.aload_n 0, 1) := by decide +kernel
theorem d_M_appendCharacter_26 : decode mi_M_appendCharacter.2.1 26 = .ok (.getfield 16, 3) := by decide +kernel
theorem d_M_appendCharacter_29 : decode mi_M_appendCharacter.2.1 29 = .ok (.aload_n 0, 1) := by decide +kernel
theorem d_M_appendCharacter_30 : decode mi_M_appendCharacter.2.1 30 = .ok (.getfield 68, 3) := by decide +kernel
theorem d_M_appendCharacter_33 : decode mi_M_appendCharacter.2.1 33 = .ok (.iload_n 1, 1) := by decide +kernel
theorem d_M_appendCharacter_34 : decode mi_M_appendCharacter.2.1 34 = .ok (.i2b, 1) := by decide +kernel
theorem d_M_appendCharacter_35 : decode mi_M_appendCharacter.2.1 35 = .ok (.bastore, 1) := by decide +kernel
theorem d_M_appendCharacter_36 : decode mi_M_appendCharacter.2.1 36 = .ok (.aload_n 0, 1) := by decide +kernel
theorem d_M_appendCharacter_37 : decode mi_M_appendCharacter.2.1 37 = .ok (.dup, 1) := by decide +kernel
theorem d_M_appendCharacter_38 : decode mi_M_appendCharacter.2.1 38 = .ok (.getfield 68, 3) := by decide +kernel
theorem d_M_appendCharacter_41 : decode mi_M_appendCharacter.2.1 41 = .ok (.iconst 1, 1) := by decide +kernel
theorem d_M_appendCharacter_42 : decode mi_M_appendCharacter.2.1 42 = .ok (.iadd, 1) := by decide +kernel
theorem d_M_appendCharacter_43 : decode mi_M_appendCharacter.2.1 43 = .ok (.putfield 68, 3) := by decide +kernel
theorem d_M_appendCharacter_46 : decode mi_M_appendCharacter.2.1 46 = .ok (.aload_n 0, 1) := by decide +kernel
theorem d_M_appendCharacter_47 : decode mi_M_appendCharacter.2.1 47 = .ok (.getfield 68, 3) := by decide +kernel
theorem d_M_appendCharacter_50 : decode mi_M_appendCharacter.2.1 50 = .ok (.ireturn, 1) := by decide +kernel
theorem d_M_clearText_0 : decode mi_M_clearText.2.1 0 = .ok (.aload_n 0, 1) := by decide +kernel
theorem d_M_clearText_1 : decode mi_M_clearText.2.1 1 = .ok (.getfield 68, 3) := by decide +kernel
theorem d_M_clearText_4 : decode mi_M_clearText.2.1 4 = .ok (.istore_n 1, 1) := by decide +kernel
theorem d_M_clearText_5 : decode mi_M_clearText.2.1 5 = .ok (.aload_n 0, 1) := by decide +kernel
theorem d_M_clearText_6 : decode mi_M_clearText.2.1 6 = .ok (.iconst 0, 1) := by decide +kernel
theorem d_M_clearText_7 : decode mi_M_clearText.2.1 7 = .ok (.putfield 68, 3) := by decide +kernel
theorem d_M_clearText_10 : decode mi_M_clearText.2.1 10 = .ok (.iload_n 1, 1) := by decide +kernel
theorem d_M_clearText_11 : decode mi_M_clearText.2.1 11 = .ok (.ireturn, 1) := by decide +kernel
theorem d_M_readGrid_0 : decode mi_M_readGrid.2.1 0 = .ok (.iconst 0, 1) := by decide +kernel
theorem d_M_readGrid_1 : decode mi_M_readGrid.2.1 1 = .ok (.istore_n 1, 1) := by decide +kernel
theorem d_M_readGrid_2 : decode mi_M_readGrid.2.1 2 = .ok (.iload_n 1, 1) := by decide +kernel
theorem d_M_readGrid_3 : decode mi_M_readGrid.2.1 3 = .ok (.bipush 36, 2) := by decide +kernel
theorem d_M_readGrid_5 : decode mi_M_readGrid.2.1 5 = .ok (.if_icmp .ge 16, 3) := by decide +kernel
theorem d_M_readGrid_8 : decode mi_M_readGrid.2.1 8 = .ok (.aload_n 0, 1) := by decide +kernel
theorem d_M_readGrid_9 : decode mi_M_readGrid.2.1 9 = .ok (.getfield 20, 3) := by decide +kernel
theorem d_M_readGrid_12 : decode mi_M_readGrid.2.1 12 = .ok (.iload_n 1, 1) := by decide +kernel
theorem d_M_readGrid_13 : decode mi_M_readGrid.2.1 13 = .ok (.iconst 0, 1) := by decide +kernel
theorem d_M_readGrid_14 : decode mi_M_readGrid.2.1 14 = .ok (.iastore, 1) := by decide +kernel
theorem d_M_readGrid_15 : decode mi_M_readGrid.2.1 15 = .ok (.iinc 1 1, 3) := by decide +kernel
theorem d_M_readGrid_18 : decode mi_M_readGrid.2.1 18 = .ok (.goto (-16), 3) := by decide +kernel
theorem d_M_readGrid_21 : decode mi_M_readGrid.2.1 21 = .ok (.aload_n 0, 1) := by decide +kernel
theorem d_M_readGrid_22 : decode mi_M_readGrid.2.1 22 = .ok (.iconst 0, 1) := by decide +kernel
theorem d_M_readGrid_23 : decode mi_M_readGrid.2.1 23 = .ok (.putfield 71, 3) := by decide +kernel
theorem d_M_readGrid_26 : decode mi_M_readGrid.2.1 26 = .ok (.aload_n 0, 1) := by decide +kernel
theorem d_M_readGrid_27 : decode mi_M_readGrid.2.1 27 = .ok (.iconst 0, 1) := by decide +kernel
theorem d_M_readGrid_28 : decode mi_M_readGrid.2.1 28 = .ok (.putfield 74, 3) := by decide +kernel
theorem d_M_readGrid_31 : decode mi_M_readGrid.2.1 31 = .ok (.iconst 0, 1) := by decide +kernel
theorem d_M_readGrid_32 : decode mi_M_readGrid.2.1 32 = .ok (.istore_n 1, 1) := by decide +kernel
theorem d_M_readGrid_33 : decode mi_M_readGrid.2.1 33 = .ok (.iconst 0, 1) := by decide +kernel
theorem d_M_readGrid_34 : decode mi_M_readGrid.2.1 34 = .ok (.istore_n 2, 1) := by decide +kernel
theorem d_M_readGrid_35 : decode mi_M_readGrid.2.1 35 = .ok (.iload_n 2, 1) := by decide +kernel
theorem d_M_readGrid_36 : decode mi_M_readGrid.2.1 36 = .ok (.aload_n 0, 1) := by decide +kernel
theorem d_M_readGrid_37 : decode mi_M_readGrid.2.1 37 = .ok (.getfield 68, 3) := by decide +kernel
theorem d_M_readGrid_40 : decode mi_M_readGrid.2.1 40 = .ok (.if_icmp .ge 192, 3) := by decide +kernel
theorem d_M_readGrid_43 : decode mi_M_readGrid.2.1 43 = .ok (.aload_n 0, 1) := by decide +kernel
theorem d_M_readGrid_44 : decode mi_M_readGrid.2.1 44 = .ok (.getfield 16, 3) := by decide +kernel
theorem d_M_readGrid_47 : decode mi_M_readGrid.2.1 47 = .ok (.iload_n 2, 1) := by decide +kernel
theorem d_M_readGrid_48 : decode mi_M_readGrid.2.1 48 = .ok (.baload, 1) := by decide +kernel
theorem d_M_readGrid_49 : decode mi_M_readGrid.2.1 49 = .ok (.istore_n 3, 1) := by decide +kernel
theorem d_M_readGrid_50 : decode mi_M_readGrid.2.1 50 = .ok (.aload_n 0, 1) := by decide +kernel
theorem d_M_readGrid_51 : decode mi_M_readGrid.2.1 51 = .ok (.getfield 71, 3) := by decide +kernel
theorem d_M_readGrid_54 : decode mi_M_readGrid.2.1 54 = .ok (.ifCond .ne 8, 3) := by decide +kernel
theorem d_M_readGrid_57 : decode mi_M_readGrid.2.1 57 = .ok (.bipush 6, 2) := by decide +kernel
theorem d_M_readGrid_59 : decode mi_M_readGrid.2.1 59 = .ok (.goto 7, 3) := by decide +kernel
theorem d_M_readGrid_62 : decode mi_M_readGrid.2.1 62 = .ok (.aload_n 0, 1) := by decide +kernel
theorem d_M_readGrid_63 : decode mi_M_readGrid.2.1 63 = .ok (.getfield 74, 3) := by decide +kernel
theorem d_M_readGrid_66 : decode mi_M_readGrid.2.1 66 = .ok (.istore 4, 2) := by decide +kernel
theorem d_M_readGrid_68 : decode mi_M_readGrid.2.1 68 = .ok (.iload_n 3, 1) := by decide +kernel
theorem d_M_readGrid_69 : decode mi_M_readGrid.2.1 69 = .ok (.bipush 115, 2) := by decide +kernel
theorem d_M_readGrid_71 : decode mi_M_readGrid.2.1 71 = .ok (.if_icmp .eq 15, 3) := by decide +kernel
theorem d_M_readGrid_74 : decode mi_M_readGrid.2.1 74 = .ok (.iload_n 3, 1) := by decide +kernel
theorem d_M_readGrid_75 : decode mi_M_readGrid.2.1 75 = .ok (.bipush 112, 2) := by decide +kernel
theorem d_M_readGrid_77 : decode mi_M_readGrid.2.1 77 = .ok (.if_icmp .eq 9, 3) := by decide +kernel
theorem d_M_readGrid_80 : decode mi_M_readGrid.2.1 80 = .ok (.iload_n 3, 1) := by decide +kernel
theorem d_M_readGrid_81 : decode mi_M_readGrid.2.1 81 = .ok (.bipush 46, 2) := by decide +kernel
theorem d_M_readGrid_83 : decode mi_M_readGrid.2.1 83 = .ok (.if_icmp .ne 7, 3) := by decide +kernel
theorem d_M_readGrid_86 : decode mi_M_readGrid.2.1 86 = .ok (.iconst 1, 1) := by decide +kernel
theorem d_M_readGrid_87 : decode mi_M_readGrid.2.1 87 = .ok (.goto 4, 3) := by decide +kernel
theorem d_M_readGrid_90 : decode mi_M_readGrid.2.1 90 = .ok (.iconst 0, 1) := by decide +kernel
theorem d_M_readGrid_91 : decode mi_M_readGrid.2.1 91 = .ok (.istore 5, 2) := by decide +kernel
theorem d_M_readGrid_93 : decode mi_M_readGrid.2.1 93 = .ok (.iload_n 3, 1) := by decide +kernel
theorem d_M_readGrid_94 : decode mi_M_readGrid.2.1 94 = .ok (.bipush 59, 2) := by decide +kernel
theorem d_M_readGrid_96 : decode mi_M_readGrid.2.1 96 = .ok (.if_icmp .ne 22, 3) := by decide +kernel
theorem d_M_readGrid_99 : decode mi_M_readGrid.2.1 99 = .ok (.iload_n 1, 1) := by decide +kernel
theorem d_M_readGrid_100 : decode mi_M_readGrid.2.1 100 = .ok (.ifCond .eq 55, 3) := by decide +kernel
theorem d_M_readGrid_103 : decode mi_M_readGrid.2.1 103 = .ok (.aload_n 0, 1) := by decide +kernel
theorem d_M_readGrid_104 : decode mi_M_readGrid.2.1 104 = .ok (.getfield 71, 3) := by decide +kernel
theorem d_M_readGrid_107 : decode mi_M_readGrid.2.1 107 = .ok (.ifCond .le 11, 3) := by decide +kernel
theorem d_M_readGrid_110 : decode mi_M_readGrid.2.1 110 = .ok (.iload_n 1, 1) := by decide +kernel
theorem d_M_readGrid_111 : decode mi_M_readGrid.2.1 111 = .ok (.aload_n 0, 1) := by decide +kernel
theorem d_M_readGrid_112 : decode mi_M_readGrid.2.1 112 = .ok (.getfield 74, 3) := by decide +kernel
theorem d_M_readGrid_115 : decode mi_M_readGrid.2.1 115 = .ok (.if_icmp .lt 40, 3) := by decide +kernel
theorem d_M_readGrid_118 : decode mi_M_readGrid.2.1 118 = .ok (.iload 5, 2) := by decide +kernel
theorem d_M_readGrid_120 : decode mi_M_readGrid.2.1 120 = .ok (.ifCond .eq 18, 3) := by decide +kernel
theorem d_M_readGrid_123 : decode mi_M_readGrid.2.1 123 = .ok (.aload_n 0, 1) := by decide +kernel
theorem d_M_readGrid_124 : decode mi_M_readGrid.2.1 124 = .ok (.getfield 71, 3) := by decide +kernel
theorem d_M_readGrid_127 : decode mi_M_readGrid.2.1 127 = .ok (.bipush 6, 2) := by decide +kernel
theorem d_M_readGrid_129 : decode mi_M_readGrid.2.1 129 = .ok (.if_icmp .eq 26, 3) := by decide +kernel
theorem d_M_readGrid_132 : decode mi_M_readGrid.2.1 132 = .ok (.iload_n 1, 1) := by decide +kernel
theorem d_M_readGrid_133 : decode mi_M_readGrid.2.1 133 = .ok (.iload 4, 2) := by decide +kernel
theorem d_M_readGrid_135 : decode mi_M_readGrid.2.1 135 = .ok (.if_icmp .eq 20, 3) := by decide +kernel
theorem d_M_readGrid_138 : decode mi_M_readGrid.2.1 138 = .ok (.iload 5, 2) := by decide +kernel
theorem d_M_readGrid_140 : decode mi_M_readGrid.2.1 140 = .ok (.ifCond .ne 17, 3) := by decide +kernel
theorem d_M_readGrid_143 : decode mi_M_readGrid.2.1 143 = .ok (.iload_n 3, 1) := by decide +kernel
theorem d_M_readGrid_144 : decode mi_M_readGrid.2.1 144 = .ok (.bipush 59, 2) := by decide +kernel
theorem d_M_readGrid_146 : decode mi_M_readGrid.2.1 146 = .ok (.if_icmp .eq 11, 3) := by decide +kernel
theorem d_M_readGrid_149 : decode mi_M_readGrid.2.1 149 = .ok (.iload_n 3, 1) := by decide +kernel
theorem d_M_readGrid_150 : decode mi_M_readGrid.2.1 150 = .ok (.bipush 32, 2) := by decide +kernel
theorem d_M_readGrid_152 : decode mi_M_readGrid.2.1 152 = .ok (.if_icmp .eq 5, 3) := by decide +kernel
theorem d_M_readGrid_155 : decode mi_M_readGrid.2.1 155 = .ok (.iload_n 2, 1) := by decide +kernel
theorem d_M_readGrid_156 : decode mi_M_readGrid.2.1 156 = .ok (.ireturn, 1) := by decide +kernel
theorem d_M_readGrid_157 : decode mi_M_readGrid.2.1 157 = .ok (.iload 5, 2) := by decide +kernel
theorem d_M_readGrid_159 : decode mi_M_readGrid.2.1 159 = .ok (.ifCond .eq 44, 3) := by decide +kernel
theorem d_M_readGrid_162 : decode mi_M_readGrid.2.1 162 = .ok (.aload_n 0, 1) := by decide +kernel
theorem d_M_readGrid_163 : decode mi_M_readGrid.2.1 163 = .ok (.getfield 20, 3) := by decide +kernel
theorem d_M_readGrid_166 : decode mi_M_readGrid.2.1 166 = .ok (.bipush 6, 2) := by decide +kernel
theorem d_M_readGrid_168 : decode mi_M_readGrid.2.1 168 = .ok (.aload_n 0, 1) := by decide +kernel
theorem d_M_readGrid_169 : decode mi_M_readGrid.2.1 169 = .ok (.getfield 71, 3) := by decide +kernel
theorem d_M_readGrid_172 : decode mi_M_readGrid.2.1 172 = .ok (.imul, 1) := by decide +kernel
theorem d_M_readGrid_173 : decode mi_M_readGrid.2.1 173 = .ok (.iload_n 1, 1) := by decide +kernel
theorem d_M_readGrid_174 : decode mi_M_readGrid.2.1 174 = .ok (.iadd, 1) := by decide +kernel
theorem d_M_readGrid_175 : decode mi_M_readGrid.2.1 175 = .ok (.iload_n 3, 1) := by decide +kernel
theorem d_M_readGrid_176 : decode mi_M_readGrid.2.1 176 = .ok (.bipush 115, 2) := by decide +kernel
theorem d_M_readGrid_178 : decode mi_M_readGrid.2.1 178 = .ok (.if_icmp .ne 7, 3) := by decide +kernel
theorem d_M_readGrid_181 : decode mi_M_readGrid.2.1 181 = .ok (.iconst 1, 1) := by decide +kernel
theorem d_M_readGrid_182 : decode mi_M_readGrid.2.1 182 = .ok (.goto 14, 3) := by decide +kernel
theorem d_M_readGrid_185 : decode mi_M_readGrid.2.1 185 = .ok (.iload_n 3, 1) := by decide +kernel
theorem d_M_readGrid_186 : decode mi_M_readGrid.2.1 186 = .ok (.bipush 112, 2) := by decide +kernel
theorem d_M_readGrid_188 : decode mi_M_readGrid.2.1 188 = .ok (.if_icmp .ne 7, 3) := by decide +kernel
theorem d_M_readGrid_191 : decode mi_M_readGrid.2.1 191 = .ok (.iconst 2, 1) := by decide +kernel
theorem d_M_readGrid_192 : decode mi_M_readGrid.2.1 192 = .ok (.goto 4, 3) := by decide +kernel
theorem d_M_readGrid_195 : decode mi_M_readGrid.2.1 195 = .ok (.iconst 0, 1) := by decide +kernel
theorem d_M_readGrid_196 : decode mi_M_readGrid.2.1 196 = .ok (.iastore, 1) := by decide +kernel
theorem d_M_readGrid_197 : decode mi_M_readGrid.2.1 197 = .ok (.iinc 1 1, 3) := by decide +kernel
theorem d_M_readGrid_200 : decode mi_M_readGrid.2.1 200 = .ok (.goto 26, 3) := by decide +kernel
theorem d_M_readGrid_203 : decode mi_M_readGrid.2.1 203 = .ok (.iload_n 3, 1) := by decide +kernel
theorem d_M_readGrid_204 : decode mi_M_readGrid.2.1 204 = .ok (.bipush 59, 2) := by decide +kernel
theorem d_M_readGrid_206 : decode mi_M_readGrid.2.1 206 = .ok (.if_icmp .ne 20, 3) := by decide +kernel
theorem d_M_readGrid_209 : decode mi_M_readGrid.2.1 209 = .ok (.aload_n 0, 1) := by decide +kernel
theorem d_M_readGrid_210 : decode mi_M_readGrid.2.1 210 = .ok (.iload_n 1, 1) := by decide +kernel
theorem d_M_readGrid_211 : decode mi_M_readGrid.2.1 211 = .ok (.putfield 74, 3) := by decide +kernel
theorem d_M_readGrid_214 : decode mi_M_readGrid.2.1 214 = .ok (.aload_n 0, 1) := by decide +kernel
theorem d_M_readGrid_215 : decode mi_M_readGrid.2.1 215 = .ok (.dup, 1) := by decide +kernel
theorem d_M_readGrid_216 : decode mi_M_readGrid.2.1 216 = .ok (.getfield 71, 3) := by decide +kernel
theorem d_M_readGrid_219 : decode mi_M_readGrid.2.1 219 = .ok (.iconst 1, 1) := by decide +kernel
theorem d_M_readGrid_220 : decode mi_M_readGrid.2.1 220 = .ok (.iadd, 1) := by decide +kernel
theorem d_M_readGrid_221 : decode mi_M_readGrid.2.1 221 = .ok (.putfield 71, 3) := by decide +kernel
theorem d_M_readGrid_224 : decode mi_M_readGrid.2.1 224 = .ok (.iconst 0, 1) := by decide +kernel
theorem d_M_readGrid_225 : decode mi_M_readGrid.2.1 225 = .ok (.istore_n 1, 1) := by decide +kernel
theorem d_M_readGrid_226 : decode mi_M_readGrid.2.1 226 = .ok (.iinc 2 1, 3) := by decide +kernel
theorem d_M_readGrid_229 : decode mi_M_readGrid.2.1 229 = .ok (.goto (-194), 3) := by decide +kernel
theorem d_M_readGrid_232 : decode mi_M_readGrid.2.1 232 = .ok (.iload_n 1, 1) := by decide +kernel
theorem d_M_readGrid_233 : decode mi_M_readGrid.2.1 233 = .ok (.ifCond .gt 10, 3) := by decide +kernel
theorem d_M_readGrid_236 : decode mi_M_readGrid.2.1 236 = .ok (.aload_n 0, 1) := by decide +kernel
theorem d_M_readGrid_237 : decode mi_M_readGrid.2.1 237 = .ok (.getfield 71, 3) := by decide +kernel
theorem d_M_readGrid_240 : decode mi_M_readGrid.2.1 240 = .ok (.ifCond .ne 10, 3) := by decide +kernel
theorem d_M_readGrid_243 : decode mi_M_readGrid.2.1 243 = .ok (.aload_n 0, 1) := by decide +kernel
theorem d_M_readGrid_244 : decode mi_M_readGrid.2.1 244 = .ok (.getfield 68, 3) := by decide +kernel
theorem d_M_readGrid_247 : decode mi_M_readGrid.2.1 247 = .ok (.goto 5, 3) := by decide +kernel
theorem d_M_readGrid_250 : decode mi_M_readGrid.2.1 250 = .ok (.bipush (-9), 2) := by decide +kernel
theorem d_M_readGrid_252 : decode mi_M_readGrid.2.1 252 = .ok (.ireturn, 1) := by decide +kernel
theorem d_M_loadGrid_0 : decode mi_M_loadGrid.2.1 0 = .ok (.aload_n 0, 1) := by decide +kernel
theorem d_M_loadGrid_1 : decode mi_M_loadGrid.2.1 1 = .ok (.invokevirtual 77, 3) := by decide +kernel
theorem d_M_loadGrid_4 : decode mi_M_loadGrid.2.1 4 = .ok (.istore_n 1, 1) := by decide +kernel
theorem d_M_loadGrid_5 : decode mi_M_loadGrid.2.1 5 = .ok (.iload_n 1, 1) := by decide +kernel
theorem d_M_loadGrid_6 : decode mi_M_loadGrid.2.1 6 = .ok (.bipush (-9), 2) := by decide +kernel
theorem d_M_loadGrid_8 : decode mi_M_loadGrid.2.1 8 = .ok (.if_icmp .eq 8, 3) := by decide +kernel
theorem d_M_loadGrid_11 : decode mi_M_loadGrid.2.1 11 = .ok (.bipush (-10), 2) := by decide +kernel
theorem d_M_loadGrid_13 : decode mi_M_loadGrid.2.1 13 = .ok (.iload_n 1, 1) := by decide +kernel
theorem d_M_loadGrid_14 : decode mi_M_loadGrid.2.1 14 = .ok (.isub, 1) := by decide +kernel
theorem d_M_loadGrid_15 : decode mi_M_loadGrid.2.1 15 = .ok (.ireturn, 1) := by decide +kernel
theorem d_M_loadGrid_16 : decode mi_M_loadGrid.2.1 16 = .ok (.aload_n 0, 1) := by decide +kernel
theorem d_M_loadGrid_17 : decode mi_M_loadGrid.2.1 17 = .ok (.invokevirtual 81, 3) := by decide +kernel
theorem d_M_loadGrid_20 : decode mi_M_loadGrid.2.1 20 = .ok (.aload_n 0, 1) := by decide +kernel
theorem d_M_loadGrid_21 : decode mi_M_loadGrid.2.1 21 = .ok (.getfield 7, 3) := by decide +kernel
theorem d_M_loadGrid_24 : decode mi_M_loadGrid.2.1 24 = .ok (.iconst 0, 1) := by decide +kernel
theorem d_M_loadGrid_25 : decode mi_M_loadGrid.2.1 25 = .ok (.aload_n 0, 1) := by decide +kernel
theorem d_M_loadGrid_26 : decode mi_M_loadGrid.2.1 26 = .ok (.getfield 71, 3) := by decide +kernel
theorem d_M_loadGrid_29 : decode mi_M_loadGrid.2.1 29 = .ok (.iastore, 1) := by decide +kernel
theorem d_M_loadGrid_30 : decode mi_M_loadGrid.2.1 30 = .ok (.aload_n 0, 1) := by decide +kernel
theorem d_M_loadGrid_31 : decode mi_M_loadGrid.2.1 31 = .ok (.getfield 7, 3) := by decide +kernel
theorem d_M_loadGrid_34 : decode mi_M_loadGrid.2.1 34 = .ok (.iconst 1, 1) := by decide +kernel
theorem d_M_loadGrid_35 : decode mi_M_loadGrid.2.1 35 = .ok (.aload_n 0, 1) := by decide +kernel
theorem d_M_loadGrid_36 : decode mi_M_loadGrid.2.1 36 = .ok (.getfield 74, 3) := by decide +kernel
theorem d_M_loadGrid_39 : decode mi_M_loadGrid.2.1 39 = .ok (.iastore, 1) := by decide +kernel
theorem d_M_loadGrid_40 : decode mi_M_loadGrid.2.1 40 = .ok (.iconst 0, 1) := by decide +kernel
theorem d_M_loadGrid_41 : decode mi_M_loadGrid.2.1 41 = .ok (.istore_n 2, 1) := by decide +kernel
theorem d_M_loadGrid_42 : decode mi_M_loadGrid.2.1 42 = .ok (.iload_n 2, 1) := by decide +kernel
theorem d_M_loadGrid_43 : decode mi_M_loadGrid.2.1 43 = .ok (.bipush 36, 2) := by decide +kernel
theorem d_M_loadGrid_45 : decode mi_M_loadGrid.2.1 45 = .ok (.if_icmp .ge 43, 3) := by decide +kernel
theorem d_M_loadGrid_48 : decode mi_M_loadGrid.2.1 48 = .ok (.aload_n 0, 1) := by decide +kernel
theorem d_M_loadGrid_49 : decode mi_M_loadGrid.2.1 49 = .ok (.getfield 7, 3) := by decide +kernel
theorem d_M_loadGrid_52 : decode mi_M_loadGrid.2.1 52 = .ok (.iconst 4, 1) := by decide +kernel
theorem d_M_loadGrid_53 : decode mi_M_loadGrid.2.1 53 = .ok (.iload_n 2, 1) := by decide +kernel
theorem d_M_loadGrid_54 : decode mi_M_loadGrid.2.1 54 = .ok (.iadd, 1) := by decide +kernel
theorem d_M_loadGrid_55 : decode mi_M_loadGrid.2.1 55 = .ok (.aload_n 0, 1) := by decide +kernel
theorem d_M_loadGrid_56 : decode mi_M_loadGrid.2.1 56 = .ok (.getfield 20, 3) := by decide +kernel
theorem d_M_loadGrid_59 : decode mi_M_loadGrid.2.1 59 = .ok (.iload_n 2, 1) := by decide +kernel
theorem d_M_loadGrid_60 : decode mi_M_loadGrid.2.1 60 = .ok (.iaload, 1) := by decide +kernel
theorem d_M_loadGrid_61 : decode mi_M_loadGrid.2.1 61 = .ok (.iastore, 1) := by decide +kernel
theorem d_M_loadGrid_62 : decode mi_M_loadGrid.2.1 62 = .ok (.aload_n 0, 1) := by decide +kernel
theorem d_M_loadGrid_63 : decode mi_M_loadGrid.2.1 63 = .ok (.getfield 7, 3) := by decide +kernel
theorem d_M_loadGrid_66 : decode mi_M_loadGrid.2.1 66 = .ok (.bipush 40, 2) := by decide +kernel
theorem d_M_loadGrid_68 : decode mi_M_loadGrid.2.1 68 = .ok (.iload_n 2, 1) := by decide +kernel
theorem d_M_loadGrid_69 : decode mi_M_loadGrid.2.1 69 = .ok (.iadd, 1) := by decide +kernel
theorem d_M_loadGrid_70 : decode mi_M_loadGrid.2.1 70 = .ok (.iconst 0, 1) := by decide +kernel
theorem d_M_loadGrid_71 : decode mi_M_loadGrid.2.1 71 = .ok (.iastore, 1) := by decide +kernel
theorem d_M_loadGrid_72 : decode mi_M_loadGrid.2.1 72 = .ok (.aload_n 0, 1) := by decide +kernel
theorem d_M_loadGrid_73 : decode mi_M_loadGrid.2.1 73 = .ok (.getfield 7, 3) := by decide +kernel
theorem d_M_loadGrid_76 : decode mi_M_loadGrid.2.1 76 = .ok (.bipush 76, 2) := by decide +kernel
theorem d_M_loadGrid_78 : decode mi_M_loadGrid.2.1 78 = .ok (.iload_n 2, 1) := by decide +kernel
theorem d_M_loadGrid_79 : decode mi_M_loadGrid.2.1 79 = .ok (.iadd, 1) := by decide +kernel
theorem d_M_loadGrid_80 : decode mi_M_loadGrid.2.1 80 = .ok (.iconst 0, 1) := by decide +kernel
theorem d_M_loadGrid_81 : decode mi_M_loadGrid.2.1 81 = .ok (.iastore, 1) := by decide +kernel
theorem d_M_loadGrid_82 : decode mi_M_loadGrid.2.1 82 = .ok (.iinc 2 1, 3) := by decide +kernel
theorem d_M_loadGrid_85 : decode mi_M_loadGrid.2.1 85 = .ok (.goto (-43), 3) := by decide +kernel
theorem d_M_loadGrid_88 : decode mi_M_loadGrid.2.1 88 = .ok (.aload_n 0, 1) := by decide +kernel
theorem d_M_loadGrid_89 : decode mi_M_loadGrid.2.1 89 = .ok (.iconst 0, 1) := by decide +kernel
theorem d_M_loadGrid_90 : decode mi_M_loadGrid.2.1 90 = .ok (.putfield 68, 3) := by decide +kernel
theorem d_M_loadGrid_93 : decode mi_M_loadGrid.2.1 93 = .ok (.aload_n 0, 1) := by decide +kernel
theorem d_M_loadGrid_94 : decode mi_M_loadGrid.2.1 94 = .ok (.invokevirtual 84, 3) := by decide +kernel
theorem d_M_loadGrid_97 : decode mi_M_loadGrid.2.1 97 = .ok (.ireturn, 1) := by decide +kernel
theorem d_M_isPosition_0 : decode mi_M_isPosition.2.1 0 = .ok (.iload_n 1, 1) := by decide +kernel
theorem d_M_isPosition_1 : decode mi_M_isPosition.2.1 1 = .ok (.iconst 0, 1) := by decide +kernel
theorem d_M_isPosition_2 : decode mi_M_isPosition.2.1 2 = .ok (.aload_n 0, 1) := by decide +kernel
theorem d_M_isPosition_3 : decode mi_M_isPosition.2.1 3 = .ok (.getfield 7, 3) := by decide +kernel
theorem d_M_isPosition_6 : decode mi_M_isPosition.2.1 6 = .ok (.iconst 0, 1) := by decide +kernel
theorem d_M_isPosition_7 : decode mi_M_isPosition.2.1 7 = .ok (.iaload, 1) := by decide +kernel
theorem d_M_isPosition_8 : decode mi_M_isPosition.2.1 8 = .ok (.iconst 1, 1) := by decide +kernel
theorem d_M_isPosition_9 : decode mi_M_isPosition.2.1 9 = .ok (.isub, 1) := by decide +kernel
theorem d_M_isPosition_10 : decode mi_M_isPosition.2.1 10 = .ok (.invokestatic 64, 3) := by decide +kernel
theorem d_M_isPosition_13 : decode mi_M_isPosition.2.1 13 = .ok (.ifCond .eq 23, 3) := by decide +kernel
theorem d_M_isPosition_16 : decode mi_M_isPosition.2.1 16 = .ok (.iload_n 2, 1) := by decide +kernel
theorem d_M_isPosition_17 : decode mi_M_isPosition.2.1 17 = .ok (.iconst 0, 1) := by decide +kernel
theorem d_M_isPosition_18 : decode mi_M_isPosition.2.1 18 = .ok (.aload_n 0, 1) := by decide +kernel
theorem d_M_isPosition_19 : decode mi_M_isPosition.2.1 19 = .ok (.getfield 7, 3) := by decide +kernel
theorem d_M_isPosition_22 : decode mi_M_isPosition.2.1 22 = .ok (.iconst 1, 1) := by decide +kernel
theorem d_M_isPosition_23 : decode mi_M_isPosition.2.1 23 = .ok (.iaload, 1) := by decide +kernel
theorem d_M_isPosition_24 : decode mi_M_isPosition.2.1 24 = .ok (.iconst 1, 1) := by decide +kernel
theorem d_M_isPosition_25 : decode mi_M_isPosition.2.1 25 = .ok (.isub, 1) := by decide +kernel
theorem d_M_isPosition_26 : decode mi_M_isPosition.2.1 26 = .ok (.invokestatic 64, 3) := by decide +kernel
theorem d_M_isPosition_29 : decode mi_M_isPosition.2.1 29 = .ok (.ifCond .eq 7, 3) := by decide +kernel
theorem d_M_isPosition_32 : decode mi_M_isPosition.2.1 32 = .ok (.iconst 1, 1) := by decide +kernel
theorem d_M_isPosition_33 : decode mi_M_isPosition.2.1 33 = .ok (.goto 4, 3) := by decide +kernel
theorem d_M_isPosition_36 : decode mi_M_isPosition.2.1 36 = .ok (.iconst 0, 1) := by decide +kernel
theorem d_M_isPosition_37 : decode mi_M_isPosition.2.1 37 = .ok (.ireturn, 1) := by decide +kernel
theorem d_M_signals_0 : decode mi_M_signals.2.1 0 = .ok (.iconst 0, 1) := by decide +kernel
theorem d_M_signals_1 : decode mi_M_signals.2.1 1 = .ok (.istore_n 1, 1) := by decide +kernel
theorem d_M_signals_2 : decode mi_M_signals.2.1 2 = .ok (.iconst 0, 1) := by decide +kernel
theorem d_M_signals_3 : decode mi_M_signals.2.1 3 = .ok (.istore_n 2, 1) := by decide +kernel
theorem d_M_signals_4 : decode mi_M_signals.2.1 4 = .ok (.iload_n 2, 1) := by decide +kernel
theorem d_M_signals_5 : decode mi_M_signals.2.1 5 = .ok (.bipush 36, 2) := by decide +kernel
theorem d_M_signals_7 : decode mi_M_signals.2.1 7 = .ok (.if_icmp .ge 29, 3) := by decide +kernel
theorem d_M_signals_10 : decode mi_M_signals.2.1 10 = .ok (.iload_n 1, 1) := by decide +kernel
theorem d_M_signals_11 : decode mi_M_signals.2.1 11 = .ok (.aload_n 0, 1) := by decide +kernel
theorem d_M_signals_12 : decode mi_M_signals.2.1 12 = .ok (.getfield 7, 3) := by decide +kernel
theorem d_M_signals_15 : decode mi_M_signals.2.1 15 = .ok (.iconst 4, 1) := by decide +kernel
theorem d_M_signals_16 : decode mi_M_signals.2.1 16 = .ok (.iload_n 2, 1) := by decide +kernel
theorem d_M_signals_17 : decode mi_M_signals.2.1 17 = .ok (.iadd, 1) := by decide +kernel
theorem d_M_signals_18 : decode mi_M_signals.2.1 18 = .ok (.iaload, 1) := by decide +kernel
theorem d_M_signals_19 : decode mi_M_signals.2.1 19 = .ok (.iconst 1, 1) := by decide +kernel
theorem d_M_signals_20 : decode mi_M_signals.2.1 20 = .ok (.if_icmp .ne 7, 3) := by decide +kernel
theorem d_M_signals_23 : decode mi_M_signals.2.1 23 = .ok (.iconst 1, 1) := by decide +kernel
theorem d_M_signals_24 : decode mi_M_signals.2.1 24 = .ok (.goto 4, 3) := by decide +kernel
theorem d_M_signals_27 : decode mi_M_signals.2.1 27 = .ok (.iconst 0, 1) := by decide +kernel
theorem d_M_signals_28 : decode mi_M_signals.2.1 28 = .ok (.iadd, 1) := by decide +kernel
theorem d_M_signals_29 : decode mi_M_signals.2.1 29 = .ok (.istore_n 1, 1) := by decide +kernel
theorem d_M_signals_30 : decode mi_M_signals.2.1 30 = .ok (.iinc 2 1, 3) := by decide +kernel
theorem d_M_signals_33 : decode mi_M_signals.2.1 33 = .ok (.goto (-29), 3) := by decide +kernel
theorem d_M_signals_36 : decode mi_M_signals.2.1 36 = .ok (.iload_n 1, 1) := by decide +kernel
theorem d_M_signals_37 : decode mi_M_signals.2.1 37 = .ok (.ireturn, 1) := by decide +kernel
theorem d_M_unpair_0 : decode mi_M_unpair.2.1 0 = .ok (.aload_n 0, 1) := by decide +kernel
theorem d_M_unpair_1 : decode mi_M_unpair.2.1 1 = .ok (.getfield 7, 3) := by decide +kernel
theorem d_M_unpair_4 : decode mi_M_unpair.2.1 4 = .ok (.bipush 40, 2) := by decide +kernel
theorem d_M_unpair_6 : decode mi_M_unpair.2.1 6 = .ok (.iload_n 1, 1) := by decide +kernel
theorem d_M_unpair_7 : decode mi_M_unpair.2.1 7 = .ok (.iadd, 1) := by decide +kernel
theorem d_M_unpair_8 : decode mi_M_unpair.2.1 8 = .ok (.iaload, 1) := by decide +kernel
theorem d_M_unpair_9 : decode mi_M_unpair.2.1 9 = .ok (.ifCond .le 33, 3) := by decide +kernel
theorem d_M_unpair_12 : decode mi_M_unpair.2.1 12 = .ok (.aload_n 0, 1) := by decide +kernel
theorem d_M_unpair_13 : decode mi_M_unpair.2.1 13 = .ok (.getfield 7, 3) := by decide +kernel
theorem d_M_unpair_16 : decode mi_M_unpair.2.1 16 = .ok (.bipush 40, 2) := by decide +kernel
theorem d_M_unpair_18 : decode mi_M_unpair.2.1 18 = .ok (.aload_n 0, 1) := by decide +kernel
theorem d_M_unpair_19 : decode mi_M_unpair.2.1 19 = .ok (.getfield 7, 3) := by decide +kernel
theorem d_M_unpair_22 : decode mi_M_unpair.2.1 22 = .ok (.bipush 40, 2) := by decide +kernel
theorem d_M_unpair_24 : decode mi_M_unpair.2.1 24 = .ok (.iload_n 1, 1) := by decide +kernel
theorem d_M_unpair_25 : decode mi_M_unpair.2.1 25 = .ok (.iadd, 1) := by decide +kernel
theorem d_M_unpair_26 : decode mi_M_unpair.2.1 26 = .ok (.iaload, 1) := by decide +kernel
theorem d_M_unpair_27 : decode mi_M_unpair.2.1 27 = .ok (.iadd, 1) := by decide +kernel
theorem d_M_unpair_28 : decode mi_M_unpair.2.1 28 = .ok (.iconst 1, 1) := by decide +kernel
theorem d_M_unpair_29 : decode mi_M_unpair.2.1 29 = .ok (.isub, 1) := by decide +kernel
theorem d_M_unpair_30 : decode mi_M_unpair.2.1 30 = .ok (.iconst 0, 1) := by decide +kernel
theorem d_M_unpair_31 : decode mi_M_unpair.2.1 31 = .ok (.iastore, 1) := by decide +kernel
theorem d_M_unpair_32 : decode mi_M_unpair.2.1 32 = .ok (.aload_n 0, 1) := by decide +kernel
theorem d_M_unpair_33 : decode mi_M_unpair.2.1 33 = .ok (.getfield 7, 3) := by decide +kernel
theorem d_M_unpair_36 : decode mi_M_unpair.2.1 36 = .ok (.bipush 40, 2) := by decide +kernel
theorem d_M_unpair_38 : decode mi_M_unpair.2.1 38 = .ok (.iload_n 1, 1) := by decide +kernel
theorem d_M_unpair_39 : decode mi_M_unpair.2.1 39 = .ok (.iadd, 1) := by decide +kernel
theorem d_M_unpair_40 : decode mi_M_unpair.2.1 40 = .ok (.iconst 0, 1) := by decide +kernel
theorem d_M_unpair_41 : decode mi_M_unpair.2.1 41 = .ok (.iastore, 1) := by decide +kernel
theorem d_M_unpair_42 : decode mi_M_unpair.2.1 42 = .ok (.return_, 1) := by decide +kernel
theorem d_M_setKind_0 : decode mi_M_setKind.2.1 0 = .ok (.aload_n 0, 1) := by decide +kernel
theorem d_M_setKind_1 : decode mi_M_setKind.2.1 1 = .ok (.iload_n 1, 1) := by decide +kernel
theorem d_M_setKind_2 : decode mi_M_setKind.2.1 2 = .ok (.iload_n 2, 1) := by decide +kernel
theorem d_M_setKind_3 : decode mi_M_setKind.2.1 3 = .ok (.invokevirtual 87, 3) := by decide +kernel
theorem d_M_setKind_6 : decode mi_M_setKind.2.1 6 = .ok (.ifCond .eq 12, 3) := by decide +kernel
theorem d_M_setKind_9 : decode mi_M_setKind.2.1 9 = .ok (.iload_n 3, 1) := by decide +kernel
theorem d_M_setKind_10 : decode mi_M_setKind.2.1 10 = .ok (.iconst 0, 1) := by decide +kernel
theorem d_M_setKind_11 : decode mi_M_setKind.2.1 11 = .ok (.iconst 2, 1) := by decide +kernel
theorem d_M_setKind_12 : decode mi_M_setKind.2.1 12 = .ok (.invokestatic 64, 3) := by decide +kernel
theorem d_M_setKind_15 : decode mi_M_setKind.2.1 15 = .ok (.ifCond .ne 5, 3) := by decide +kernel
theorem d_M_setKind_18 : decode mi_M_setKind.2.1 18 = .ok (.iconst (-1), 1) := by decide +kernel
theorem d_M_setKind_19 : decode mi_M_setKind.2.1 19 = .ok (.ireturn, 1) := by decide +kernel
theorem d_M_setKind_20 : decode mi_M_setKind.2.1 20 = .ok (.bipush 6, 2) := by decide +kernel
theorem d_M_setKind_22 : decode mi_M_setKind.2.1 22 = .ok (.iload_n 1, 1) := by decide +kernel
theorem d_M_setKind_23 : decode mi_M_setKind.2.1 23 = .ok (.imul, 1) := by decide +kernel
theorem d_M_setKind_24 : decode mi_M_setKind.2.1 24 = .ok (.iload_n 2, 1) := by decide +kernel
theorem d_M_setKind_25 : decode mi_M_setKind.2.1 25 = .ok (.iadd, 1) := by decide +kernel
theorem d_M_setKind_26 : decode mi_M_setKind.2.1 26 = .ok (.istore 4, 2) := by decide +kernel
theorem d_M_setKind_28 : decode mi_M_setKind.2.1 28 = .ok (.aload_n 0, 1) := by decide +kernel
theorem d_M_setKind_29 : decode mi_M_setKind.2.1 29 = .ok (.getfield 7, 3) := by decide +kernel
theorem d_M_setKind_32 : decode mi_M_setKind.2.1 32 = .ok (.iconst 4, 1) := by decide +kernel
theorem d_M_setKind_33 : decode mi_M_setKind.2.1 33 = .ok (.iload 4, 2) := by decide +kernel
theorem d_M_setKind_35 : decode mi_M_setKind.2.1 35 = .ok (.iadd, 1) := by decide +kernel
theorem d_M_setKind_36 : decode mi_M_setKind.2.1 36 = .ok (.iaload, 1) := by decide +kernel
theorem d_M_setKind_37 : decode mi_M_setKind.2.1 37 = .ok (.istore 5, 2) := by decide +kernel
theorem d_M_setKind_39 : decode mi_M_setKind.2.1 39 = .ok (.iload 5, 2) := by decide +kernel
theorem d_M_setKind_41 : decode mi_M_setKind.2.1 41 = .ok (.iload_n 3, 1) := by decide +kernel
theorem d_M_setKind_42 : decode mi_M_setKind.2.1 42 = .ok (.if_icmp .ne 6, 3) := by decide +kernel
theorem d_M_setKind_45 : decode mi_M_setKind.2.1 45 = .ok (.bipush (-2), 2) := by decide +kernel
theorem d_M_setKind_47 : decode mi_M_setKind.2.1 47 = .ok (.ireturn, 1) := by decide +kernel
theorem d_M_setKind_48 : decode mi_M_setKind.2.1 48 = .ok (.aload_n 0, 1) := by decide +kernel
theorem d_M_setKind_49 : decode mi_M_setKind.2.1 49 = .ok (.invokevirtual 81, 3) := by decide +kernel
theorem d_M_setKind_52 : decode mi_M_setKind.2.1 52 = .ok (.aload_n 0, 1) := by decide +kernel
theorem d_M_setKind_53 : decode mi_M_setKind.2.1 53 = .ok (.getfield 7, 3) := by decide +kernel
theorem d_M_setKind_56 : decode mi_M_setKind.2.1 56 = .ok (.iconst 4, 1) := by decide +kernel
theorem d_M_setKind_57 : decode mi_M_setKind.2.1 57 = .ok (.iload 4, 2) := by decide +kernel
theorem d_M_setKind_59 : decode mi_M_setKind.2.1 59 = .ok (.iadd, 1) := by decide +kernel
theorem d_M_setKind_60 : decode mi_M_setKind.2.1 60 = .ok (.iload_n 3, 1) := by decide +kernel
theorem d_M_setKind_61 : decode mi_M_setKind.2.1 61 = .ok (.iastore, 1) := by decide +kernel
theorem d_M_setKind_62 : decode mi_M_setKind.2.1 62 = .ok (.aload_n 0, 1) := by decide +kernel
theorem d_M_setKind_63 : decode mi_M_setKind.2.1 63 = .ok (.iload 4, 2) := by decide +kernel
theorem d_M_setKind_65 : decode mi_M_setKind.2.1 65 = .ok (.invokevirtual 91, 3) := by decide +kernel
theorem d_M_setKind_68 : decode mi_M_setKind.2.1 68 = .ok (.aload_n 0, 1) := by decide +kernel
theorem d_M_setKind_69 : decode mi_M_setKind.2.1 69 = .ok (.getfield 7, 3) := by decide +kernel
theorem d_M_setKind_72 : decode mi_M_setKind.2.1 72 = .ok (.bipush 76, 2) := by decide +kernel
theorem d_M_setKind_74 : decode mi_M_setKind.2.1 74 = .ok (.iload 4, 2) := by decide +kernel
theorem d_M_setKind_76 : decode mi_M_setKind.2.1 76 = .ok (.iadd, 1) := by decide +kernel
theorem d_M_setKind_77 : decode mi_M_setKind.2.1 77 = .ok (.iconst 0, 1) := by decide +kernel
theorem d_M_setKind_78 : decode mi_M_setKind.2.1 78 = .ok (.iastore, 1) := by decide +kernel
theorem d_M_setKind_79 : decode mi_M_setKind.2.1 79 = .ok (.iload 5, 2) := by decide +kernel
theorem d_M_setKind_81 : decode mi_M_setKind.2.1 81 = .ok (.ireturn, 1) := by decide +kernel
theorem d_M_setChannelCapacity_0 : decode mi_M_setChannelCapacity.2.1 0 = .ok (.iload_n 1, 1) := by decide +kernel
theorem d_M_setChannelCapacity_1 : decode mi_M_setChannelCapacity.2.1 1 = .ok (.iconst 0, 1) := by decide +kernel
theorem d_M_setChannelCapacity_2 : decode mi_M_setChannelCapacity.2.1 2 = .ok (.iconst 5, 1) := by decide +kernel
theorem d_M_setChannelCapacity_3 : decode mi_M_setChannelCapacity.2.1 3 = .ok (.invokestatic 64, 3) := by decide +kernel
theorem d_M_setChannelCapacity_6 : decode mi_M_setChannelCapacity.2.1 6 = .ok (.ifCond .ne 5, 3) := by decide +kernel
theorem d_M_setChannelCapacity_9 : decode mi_M_setChannelCapacity.2.1 9 = .ok (.iconst (-1), 1) := by decide +kernel
theorem d_M_setChannelCapacity_10 : decode mi_M_setChannelCapacity.2.1 10 = .ok (.ireturn, 1) := by decide +kernel
theorem d_M_setChannelCapacity_11 : decode mi_M_setChannelCapacity.2.1 11 = .ok (.aload_n 0, 1) := by decide +kernel
theorem d_M_setChannelCapacity_12 : decode mi_M_setChannelCapacity.2.1 12 = .ok (.invokevirtual 81, 3) := by decide +kernel
theorem d_M_setChannelCapacity_15 : decode mi_M_setChannelCapacity.2.1 15 = .ok (.aload_n 0, 1) := by decide +kernel
theorem d_M_setChannelCapacity_16 : decode mi_M_setChannelCapacity.2.1 16 = .ok (.getfield 7, 3) := by decide +kernel
theorem d_M_setChannelCapacity_19 : decode mi_M_setChannelCapacity.2.1 19 = .ok (.iconst 2, 1) := by decide +kernel
theorem d_M_setChannelCapacity_20 : decode mi_M_setChannelCapacity.2.1 20 = .ok (.iaload, 1) := by decide +kernel
theorem d_M_setChannelCapacity_21 : decode mi_M_setChannelCapacity.2.1 21 = .ok (.istore_n 2, 1) := by decide +kernel
theorem d_M_setChannelCapacity_22 : decode mi_M_setChannelCapacity.2.1 22 = .ok (.aload_n 0, 1) := by decide +kernel
theorem d_M_setChannelCapacity_23 : decode mi_M_setChannelCapacity.2.1 23 = .ok (.getfield 7, 3) := by decide +kernel
theorem d_M_setChannelCapacity_26 : decode mi_M_setChannelCapacity.2.1 26 = .ok (.iconst 2, 1) := by decide +kernel
theorem d_M_setChannelCapacity_27 : decode mi_M_setChannelCapacity.2.1 27 = .ok (.iload_n 1, 1) := by decide +kernel
theorem d_M_setChannelCapacity_28 : decode mi_M_setChannelCapacity.2.1 28 = .ok (.iastore, 1) := by decide +kernel
theorem d_M_setChannelCapacity_29 : decode mi_M_setChannelCapacity.2.1 29 = .ok (.iload_n 2, 1) := by decide +kernel
theorem d_M_setChannelCapacity_30 : decode mi_M_setChannelCapacity.2.1 30 = .ok (.ireturn, 1) := by decide +kernel
theorem d_M_setTileCapacity_0 : decode mi_M_setTileCapacity.2.1 0 = .ok (.iload_n 1, 1) := by decide +kernel
theorem d_M_setTileCapacity_1 : decode mi_M_setTileCapacity.2.1 1 = .ok (.iconst 0, 1) := by decide +kernel
theorem d_M_setTileCapacity_2 : decode mi_M_setTileCapacity.2.1 2 = .ok (.bipush 9, 2) := by decide +kernel
theorem d_M_setTileCapacity_4 : decode mi_M_setTileCapacity.2.1 4 = .ok (.invokestatic 64, 3) := by decide +kernel
theorem d_M_setTileCapacity_7 : decode mi_M_setTileCapacity.2.1 7 = .ok (.ifCond .ne 5, 3) := by decide +kernel
theorem d_M_setTileCapacity_10 : decode mi_M_setTileCapacity.2.1 10 = .ok (.iconst (-1), 1) := by decide +kernel
theorem d_M_setTileCapacity_11 : decode mi_M_setTileCapacity.2.1 11 = .ok (.ireturn, 1) := by decide +kernel
theorem d_M_setTileCapacity_12 : decode mi_M_setTileCapacity.2.1 12 = .ok (.aload_n 0, 1) := by decide +kernel
theorem d_M_setTileCapacity_13 : decode mi_M_setTileCapacity.2.1 13 = .ok (.invokevirtual 81, 3) := by decide +kernel
theorem d_M_setTileCapacity_16 : decode mi_M_setTileCapacity.2.1 16 = .ok (.aload_n 0, 1) := by decide +kernel
theorem d_M_setTileCapacity_17 : decode mi_M_setTileCapacity.2.1 17 = .ok (.getfield 7, 3) := by decide +kernel
theorem d_M_setTileCapacity_20 : decode mi_M_setTileCapacity.2.1 20 = .ok (.iconst 3, 1) := by decide +kernel
theorem d_M_setTileCapacity_21 : decode mi_M_setTileCapacity.2.1 21 = .ok (.iaload, 1) := by decide +kernel
theorem d_M_setTileCapacity_22 : decode mi_M_setTileCapacity.2.1 22 = .ok (.istore_n 2, 1) := by decide +kernel
theorem d_M_setTileCapacity_23 : decode mi_M_setTileCapacity.2.1 23 = .ok (.aload_n 0, 1) := by decide +kernel
theorem d_M_setTileCapacity_24 : decode mi_M_setTileCapacity.2.1 24 = .ok (.getfield 7, 3) := by decide +kernel
theorem d_M_setTileCapacity_27 : decode mi_M_setTileCapacity.2.1 27 = .ok (.iconst 3, 1) := by decide +kernel
theorem d_M_setTileCapacity_28 : decode mi_M_setTileCapacity.2.1 28 = .ok (.iload_n 1, 1) := by decide +kernel
theorem d_M_setTileCapacity_29 : decode mi_M_setTileCapacity.2.1 29 = .ok (.iastore, 1) := by decide +kernel
theorem d_M_setTileCapacity_30 : decode mi_M_setTileCapacity.2.1 30 = .ok (.iload_n 2, 1) := by decide +kernel
theorem d_M_setTileCapacity_31 : decode mi_M_setTileCapacity.2.1 31 = .ok (.ireturn, 1) := by decide +kernel
theorem d_M_rows_0 : decode mi_M_rows.2.1 0 = .ok (.aload_n 0, 1) := by decide +kernel
theorem d_M_rows_1 : decode mi_M_rows.2.1 1 = .ok (.getfield 7, 3) := by decide +kernel
theorem d_M_rows_4 : decode mi_M_rows.2.1 4 = .ok (.iconst 0, 1) := by decide +kernel
theorem d_M_rows_5 : decode mi_M_rows.2.1 5 = .ok (.iaload, 1) := by decide +kernel
theorem d_M_rows_6 : decode mi_M_rows.2.1 6 = .ok (.ireturn, 1) := by decide +kernel
theorem d_M_columns_0 : decode mi_M_columns.2.1 0 = .ok (.aload_n 0, 1) := by decide +kernel
theorem d_M_columns_1 : decode mi_M_columns.2.1 1 = .ok (.getfield 7, 3) := by decide +kernel
theorem d_M_columns_4 : decode mi_M_columns.2.1 4 = .ok (.iconst 1, 1) := by decide +kernel
theorem d_M_columns_5 : decode mi_M_columns.2.1 5 = .ok (.iaload, 1) := by decide +kernel
theorem d_M_columns_6 : decode mi_M_columns.2.1 6 = .ok (.ireturn, 1) := by decide +kernel
theorem d_M_kindAt_0 : decode mi_M_kindAt.2.1 0 = .ok (.aload_n 0, 1) := by decide +kernel
theorem d_M_kindAt_1 : decode mi_M_kindAt.2.1 1 = .ok (.iload_n 1, 1) := by decide +kernel
theorem d_M_kindAt_2 : decode mi_M_kindAt.2.1 2 = .ok (.iload_n 2, 1) := by decide +kernel
theorem d_M_kindAt_3 : decode mi_M_kindAt.2.1 3 = .ok (.invokevirtual 87, 3) := by decide +kernel
theorem d_M_kindAt_6 : decode mi_M_kindAt.2.1 6 = .ok (.ifCond .eq 19, 3) := by decide +kernel
theorem d_M_kindAt_9 : decode mi_M_kindAt.2.1 9 = .ok (.aload_n 0, 1) := by decide +kernel
theorem d_M_kindAt_10 : decode mi_M_kindAt.2.1 10 = .ok (.getfield 7, 3) := by decide +kernel
theorem d_M_kindAt_13 : decode mi_M_kindAt.2.1 13 = .ok (.iconst 4, 1) := by decide +kernel
theorem d_M_kindAt_14 : decode mi_M_kindAt.2.1 14 = .ok (.bipush 6, 2) := by decide +kernel
theorem d_M_kindAt_16 : decode mi_M_kindAt.2.1 16 = .ok (.iload_n 1, 1) := by decide +kernel
theorem d_M_kindAt_17 : decode mi_M_kindAt.2.1 17 = .ok (.imul, 1) := by decide +kernel
theorem d_M_kindAt_18 : decode mi_M_kindAt.2.1 18 = .ok (.iadd, 1) := by decide +kernel
theorem d_M_kindAt_19 : decode mi_M_kindAt.2.1 19 = .ok (.iload_n 2, 1) := by decide +kernel
theorem d_M_kindAt_20 : decode mi_M_kindAt.2.1 20 = .ok (.iadd, 1) := by decide +kernel
theorem d_M_kindAt_21 : decode mi_M_kindAt.2.1 21 = .ok (.iaload, 1) := by decide +kernel
theorem d_M_kindAt_22 : decode mi_M_kindAt.2.1 22 = .ok (.goto 4, 3) := by decide +kernel
theorem d_M_kindAt_25 : decode mi_M_kindAt.2.1 25 = .ok (.iconst (-1), 1) := by decide +kernel
theorem d_M_kindAt_26 : decode mi_M_kindAt.2.1 26 = .ok (.ireturn, 1) := by decide +kernel
theorem d_M_signalCount_0 : decode mi_M_signalCount.2.1 0 = .ok (.aload_n 0, 1) := by decide +kernel
theorem d_M_signalCount_1 : decode mi_M_signalCount.2.1 1 = .ok (.invokevirtual 84, 3) := by decide +kernel
theorem d_M_signalCount_4 : decode mi_M_signalCount.2.1 4 = .ok (.ireturn, 1) := by decide +kernel
theorem d_M_pairs_0 : decode mi_M_pairs.2.1 0 = .ok (.iconst 0, 1) := by decide +kernel
theorem d_M_pairs_1 : decode mi_M_pairs.2.1 1 = .ok (.istore_n 1, 1) := by decide +kernel
theorem d_M_pairs_2 : decode mi_M_pairs.2.1 2 = .ok (.iconst 0, 1) := by decide +kernel
theorem d_M_pairs_3 : decode mi_M_pairs.2.1 3 = .ok (.istore_n 2, 1) := by decide +kernel
theorem d_M_pairs_4 : decode mi_M_pairs.2.1 4 = .ok (.iload_n 2, 1) := by decide +kernel
theorem d_M_pairs_5 : decode mi_M_pairs.2.1 5 = .ok (.bipush 36, 2) := by decide +kernel
theorem d_M_pairs_7 : decode mi_M_pairs.2.1 7 = .ok (.if_icmp .ge 29, 3) := by decide +kernel
theorem d_M_pairs_10 : decode mi_M_pairs.2.1 10 = .ok (.iload_n 1, 1) := by decide +kernel
theorem d_M_pairs_11 : decode mi_M_pairs.2.1 11 = .ok (.aload_n 0, 1) := by decide +kernel
theorem d_M_pairs_12 : decode mi_M_pairs.2.1 12 = .ok (.getfield 7, 3) := by decide +kernel
theorem d_M_pairs_15 : decode mi_M_pairs.2.1 15 = .ok (.bipush 40, 2) := by decide +kernel
theorem d_M_pairs_17 : decode mi_M_pairs.2.1 17 = .ok (.iload_n 2, 1) := by decide +kernel
theorem d_M_pairs_18 : decode mi_M_pairs.2.1 18 = .ok (.iadd, 1) := by decide +kernel
theorem d_M_pairs_19 : decode mi_M_pairs.2.1 19 = .ok (.iaload, 1) := by decide +kernel
theorem d_M_pairs_20 : decode mi_M_pairs.2.1 20 = .ok (.ifCond .le 7, 3) := by decide +kernel
theorem d_M_pairs_23 : decode mi_M_pairs.2.1 23 = .ok (.iconst 1, 1) := by decide +kernel
theorem d_M_pairs_24 : decode mi_M_pairs.2.1 24 = .ok (.goto 4, 3) := by decide +kernel
theorem d_M_pairs_27 : decode mi_M_pairs.2.1 27 = .ok (.iconst 0, 1) := by decide +kernel
theorem d_M_pairs_28 : decode mi_M_pairs.2.1 28 = .ok (.iadd, 1) := by decide +kernel
theorem d_M_pairs_29 : decode mi_M_pairs.2.1 29 = .ok (.istore_n 1, 1) := by decide +kernel
theorem d_M_pairs_30 : decode mi_M_pairs.2.1 30 = .ok (.iinc 2 1, 3) := by decide +kernel
theorem d_M_pairs_33 : decode mi_M_pairs.2.1 33 = .ok (.goto (-29), 3) := by decide +kernel
theorem d_M_pairs_36 : decode mi_M_pairs.2.1 36 = .ok (.iload_n 1, 1) := by decide +kernel
theorem d_M_pairs_37 : decode mi_M_pairs.2.1 37 = .ok (.iconst 2, 1) := by decide +kernel
theorem d_M_pairs_38 : decode mi_M_pairs.2.1 38 = .ok (.idiv, 1) := by decide +kernel
theorem d_M_pairs_39 : decode mi_M_pairs.2.1 39 = .ok (.ireturn, 1) := by decide +kernel
theorem d_M_isFree_0 : decode mi_M_isFree.2.1 0 = .ok (.aload_n 0, 1) := by decide +kernel
theorem d_M_isFree_1 : decode mi_M_isFree.2.1 1 = .ok (.getfield 7, 3) := by decide +kernel
theorem d_M_isFree_4 : decode mi_M_isFree.2.1 4 = .ok (.iconst 4, 1) := by decide +kernel
theorem d_M_isFree_5 : decode mi_M_isFree.2.1 5 = .ok (.iload_n 1, 1) := by decide +kernel
theorem d_M_isFree_6 : decode mi_M_isFree.2.1 6 = .ok (.iadd, 1) := by decide +kernel
theorem d_M_isFree_7 : decode mi_M_isFree.2.1 7 = .ok (.iaload, 1) := by decide +kernel
theorem d_M_isFree_8 : decode mi_M_isFree.2.1 8 = .ok (.iconst 1, 1) := by decide +kernel
theorem d_M_isFree_9 : decode mi_M_isFree.2.1 9 = .ok (.if_icmp .ne 19, 3) := by decide +kernel
theorem d_M_isFree_12 : decode mi_M_isFree.2.1 12 = .ok (.aload_n 0, 1) := by decide +kernel
theorem d_M_isFree_13 : decode mi_M_isFree.2.1 13 = .ok (.getfield 7, 3) := by decide +kernel
theorem d_M_isFree_16 : decode mi_M_isFree.2.1 16 = .ok (.bipush 40, 2) := by decide +kernel
theorem d_M_isFree_18 : decode mi_M_isFree.2.1 18 = .ok (.iload_n 1, 1) := by decide +kernel
theorem d_M_isFree_19 : decode mi_M_isFree.2.1 19 = .ok (.iadd, 1) := by decide +kernel
theorem d_M_isFree_20 : decode mi_M_isFree.2.1 20 = .ok (.iaload, 1) := by decide +kernel
theorem d_M_isFree_21 : decode mi_M_isFree.2.1 21 = .ok (.ifCond .ne 7, 3) := by decide +kernel
theorem d_M_isFree_24 : decode mi_M_isFree.2.1 24 = .ok (.iconst 1, 1) := by decide +kernel
theorem d_M_isFree_25 : decode mi_M_isFree.2.1 25 = .ok (.goto 4, 3) := by decide +kernel
theorem d_M_isFree_28 : decode mi_M_isFree.2.1 28 = .ok (.iconst 0, 1) := by decide +kernel
theorem d_M_isFree_29 : decode mi_M_isFree.2.1 29 = .ok (.ireturn, 1) := by decide +kernel
theorem d_M_makePair_0 : decode mi_M_makePair.2.1 0 = .ok (.aload_n 0, 1) := by decide +kernel
theorem d_M_makePair_1 : decode mi_M_makePair.2.1 1 = .ok (.iload_n 1, 1) := by decide +kernel
theorem d_M_makePair_2 : decode mi_M_makePair.2.1 2 = .ok (.iload_n 2, 1) := by decide +kernel
theorem d_M_makePair_3 : decode mi_M_makePair.2.1 3 = .ok (.invokevirtual 87, 3) := by decide +kernel
theorem d_M_makePair_6 : decode mi_M_makePair.2.1 6 = .ok (.ifCond .eq 13, 3) := by decide +kernel
theorem d_M_makePair_9 : decode mi_M_makePair.2.1 9 = .ok (.aload_n 0, 1) := by decide +kernel
theorem d_M_makePair_10 : decode mi_M_makePair.2.1 10 = .ok (.iload_n 3, 1) := by decide +kernel
theorem d_M_makePair_11 : decode mi_M_makePair.2.1 11 = .ok (.iload 4, 2) := by decide +kernel
theorem d_M_makePair_13 : decode mi_M_makePair.2.1 13 = .ok (.invokevirtual 87, 3) := by decide +kernel
theorem d_M_makePair_16 : decode mi_M_makePair.2.1 16 = .ok (.ifCond .ne 5, 3) := by decide +kernel
theorem d_M_makePair_19 : decode mi_M_makePair.2.1 19 = .ok (.iconst (-1), 1) := by decide +kernel
theorem d_M_makePair_20 : decode mi_M_makePair.2.1 20 = .ok (.ireturn, 1) := by decide +kernel
theorem d_M_makePair_21 : decode mi_M_makePair.2.1 21 = .ok (.iload_n 1, 1) := by decide +kernel
theorem d_M_makePair_22 : decode mi_M_makePair.2.1 22 = .ok (.iload_n 3, 1) := by decide +kernel
theorem d_M_makePair_23 : decode mi_M_makePair.2.1 23 = .ok (.isub, 1) := by decide +kernel
theorem d_M_makePair_24 : decode mi_M_makePair.2.1 24 = .ok (.istore 5, 2) := by decide +kernel
theorem d_M_makePair_26 : decode mi_M_makePair.2.1 26 = .ok (.iload_n 2, 1) := by decide +kernel
theorem d_M_makePair_27 : decode mi_M_makePair.2.1 27 = .ok (.iload 4, 2) := by decide +kernel
theorem d_M_makePair_29 : decode mi_M_makePair.2.1 29 = .ok (.isub, 1) := by decide +kernel
theorem d_M_makePair_30 : decode mi_M_makePair.2.1 30 = .ok (.istore 6, 2) := by decide +kernel
theorem d_M_makePair_32 : decode mi_M_makePair.2.1 32 = .ok (.iload 5, 2) := by decide +kernel
theorem d_M_makePair_34 : decode mi_M_makePair.2.1 34 = .ok (.iload 5, 2) := by decide +kernel
theorem d_M_makePair_36 : decode mi_M_makePair.2.1 36 = .ok (.imul, 1) := by decide +kernel
theorem d_M_makePair_37 : decode mi_M_makePair.2.1 37 = .ok (.iload 6, 2) := by decide +kernel
theorem d_M_makePair_39 : decode mi_M_makePair.2.1 39 = .ok (.iload 6, 2) := by decide +kernel
theorem d_M_makePair_41 : decode mi_M_makePair.2.1 41 = .ok (.imul, 1) := by decide +kernel
theorem d_M_makePair_42 : decode mi_M_makePair.2.1 42 = .ok (.iadd, 1) := by decide +kernel
theorem d_M_makePair_43 : decode mi_M_makePair.2.1 43 = .ok (.iconst 1, 1) := by decide +kernel
theorem d_M_makePair_44 : decode mi_M_makePair.2.1 44 = .ok (.if_icmp .eq 5, 3) := by decide +kernel
theorem d_M_makePair_47 : decode mi_M_makePair.2.1 47 = .ok (.iconst (-1), 1) := by decide +kernel
theorem d_M_makePair_48 : decode mi_M_makePair.2.1 48 = .ok (.ireturn, 1) := by decide +kernel
theorem d_M_makePair_49 : decode mi_M_makePair.2.1 49 = .ok (.bipush 6, 2) := by decide +kernel
theorem d_M_makePair_51 : decode mi_M_makePair.2.1 51 = .ok (.iload_n 1, 1) := by decide +kernel
theorem d_M_makePair_52 : decode mi_M_makePair.2.1 52 = .ok (.imul, 1) := by decide +kernel
theorem d_M_makePair_53 : decode mi_M_makePair.2.1 53 = .ok (.iload_n 2, 1) := by decide +kernel
theorem d_M_makePair_54 : decode mi_M_makePair.2.1 54 = .ok (.iadd, 1) := by decide +kernel
theorem d_M_makePair_55 : decode mi_M_makePair.2.1 55 = .ok (.istore 7, 2) := by decide +kernel
theorem d_M_makePair_57 : decode mi_M_makePair.2.1 57 = .ok (.bipush 6, 2) := by decide +kernel
theorem d_M_makePair_59 : decode mi_M_makePair.2.1 59 = .ok (.iload_n 3, 1) := by decide +kernel
theorem d_M_makePair_60 : decode mi_M_makePair.2.1 60 = .ok (.imul, 1) := by decide +kernel
theorem d_M_makePair_61 : decode mi_M_makePair.2.1 61 = .ok (.iload 4, 2) := by decide +kernel
theorem d_M_makePair_63 : decode mi_M_makePair.2.1 63 = .ok (.iadd, 1) := by decide +kernel
theorem d_M_makePair_64 : decode mi_M_makePair.2.1 64 = .ok (.istore 8, 2) := by decide +kernel
theorem d_M_makePair_66 : decode mi_M_makePair.2.1 66 = .ok (.aload_n 0, 1) := by decide +kernel
theorem d_M_makePair_67 : decode mi_M_makePair.2.1 67 = .ok (.iload 7, 2) := by decide +kernel
theorem d_M_makePair_69 : decode mi_M_makePair.2.1 69 = .ok (.invokevirtual 95, 3) := by decide +kernel
theorem d_M_makePair_72 : decode mi_M_makePair.2.1 72 = .ok (.ifCond .eq 12, 3) := by decide +kernel
theorem d_M_makePair_75 : decode mi_M_makePair.2.1 75 = .ok (.aload_n 0, 1) := by decide +kernel
theorem d_M_makePair_76 : decode mi_M_makePair.2.1 76 = .ok (.iload 8, 2) := by decide +kernel
theorem d_M_makePair_78 : decode mi_M_makePair.2.1 78 = .ok (.invokevirtual 95, 3) := by decide +kernel
theorem d_M_makePair_81 : decode mi_M_makePair.2.1 81 = .ok (.ifCond .ne 6, 3) := by decide +kernel
theorem d_M_makePair_84 : decode mi_M_makePair.2.1 84 = .ok (.bipush (-2), 2) := by decide +kernel
theorem d_M_makePair_86 : decode mi_M_makePair.2.1 86 = .ok (.ireturn, 1) := by decide +kernel
theorem d_M_makePair_87 : decode mi_M_makePair.2.1 87 = .ok (.aload_n 0, 1) := by decide +kernel
theorem d_M_makePair_88 : decode mi_M_makePair.2.1 88 = .ok (.invokevirtual 81, 3) := by decide +kernel
theorem d_M_makePair_91 : decode mi_M_makePair.2.1 91 = .ok (.aload_n 0, 1) := by decide +kernel
theorem d_M_makePair_92 : decode mi_M_makePair.2.1 92 = .ok (.getfield 7, 3) := by decide +kernel
theorem d_M_makePair_95 : decode mi_M_makePair.2.1 95 = .ok (.bipush 40, 2) := by decide +kernel
theorem d_M_makePair_97 : decode mi_M_makePair.2.1 97 = .ok (.iload 7, 2) := by decide +kernel
theorem d_M_makePair_99 : decode mi_M_makePair.2.1 99 = .ok (.iadd, 1) := by decide +kernel
theorem d_M_makePair_100 : decode mi_M_makePair.2.1 100 = .ok (.iload 8, 2) := by decide +kernel
theorem d_M_makePair_102 : decode mi_M_makePair.2.1 102 = .ok (.iconst 1, 1) := by decide +kernel
theorem d_M_makePair_103 : decode mi_M_makePair.2.1 103 = .ok (.iadd, 1) := by decide +kernel
theorem d_M_makePair_104 : decode mi_M_makePair.2.1 104 = .ok (.iastore, 1) := by decide +kernel
theorem d_M_makePair_105 : decode mi_M_makePair.2.1 105 = .ok (.aload_n 0, 1) := by decide +kernel
theorem d_M_makePair_106 : decode mi_M_makePair.2.1 106 = .ok (.getfield 7, 3) := by decide +kernel
theorem d_M_makePair_109 : decode mi_M_makePair.2.1 109 = .ok (.bipush 40, 2) := by decide +kernel
theorem d_M_makePair_111 : decode mi_M_makePair.2.1 111 = .ok (.iload 8, 2) := by decide +kernel
theorem d_M_makePair_113 : decode mi_M_makePair.2.1 113 = .ok (.iadd, 1) := by decide +kernel
theorem d_M_makePair_114 : decode mi_M_makePair.2.1 114 = .ok (.iload 7, 2) := by decide +kernel
theorem d_M_makePair_116 : decode mi_M_makePair.2.1 116 = .ok (.iconst 1, 1) := by decide +kernel
theorem d_M_makePair_117 : decode mi_M_makePair.2.1 117 = .ok (.iadd, 1) := by decide +kernel
theorem d_M_makePair_118 : decode mi_M_makePair.2.1 118 = .ok (.iastore, 1) := by decide +kernel
theorem d_M_makePair_119 : decode mi_M_makePair.2.1 119 = .ok (.aload_n 0, 1) := by decide +kernel
theorem d_M_makePair_120 : decode mi_M_makePair.2.1 120 = .ok (.invokevirtual 99, 3) := by decide +kernel
theorem d_M_makePair_123 : decode mi_M_makePair.2.1 123 = .ok (.ireturn, 1) := by decide +kernel
theorem d_M_breakPair_0 : decode mi_M_breakPair.2.1 0 = .ok (.aload_n 0, 1) := by decide +kernel
theorem d_M_breakPair_1 : decode mi_M_breakPair.2.1 1 = .ok (.iload_n 1, 1) := by decide +kernel
theorem d_M_breakPair_2 : decode mi_M_breakPair.2.1 2 = .ok (.iload_n 2, 1) := by decide +kernel
theorem d_M_breakPair_3 : decode mi_M_breakPair.2.1 3 = .ok (.invokevirtual 87, 3) := by decide +kernel
theorem d_M_breakPair_6 : decode mi_M_breakPair.2.1 6 = .ok (.ifCond .ne 5, 3) := by decide +kernel
theorem d_M_breakPair_9 : decode mi_M_breakPair.2.1 9 = .ok (.iconst (-1), 1) := by decide +kernel
theorem d_M_breakPair_10 : decode mi_M_breakPair.2.1 10 = .ok (.ireturn, 1) := by decide +kernel
theorem d_M_breakPair_11 : decode mi_M_breakPair.2.1 11 = .ok (.aload_n 0, 1) := by decide +kernel
theorem d_M_breakPair_12 : decode mi_M_breakPair.2.1 12 = .ok (.getfield 7, 3) := by decide +kernel
theorem d_M_breakPair_15 : decode mi_M_breakPair.2.1 15 = .ok (.bipush 40, 2) := by decide +kernel
theorem d_M_breakPair_17 : decode mi_M_breakPair.2.1 17 = .ok (.bipush 6, 2) := by decide +kernel
theorem d_M_breakPair_19 : decode mi_M_breakPair.2.1 19 = .ok (.iload_n 1, 1) := by decide +kernel
theorem d_M_breakPair_20 : decode mi_M_breakPair.2.1 20 = .ok (.imul, 1) := by decide +kernel
theorem d_M_breakPair_21 : decode mi_M_breakPair.2.1 21 = .ok (.iadd, 1) := by decide +kernel
theorem d_M_breakPair_22 : decode mi_M_breakPair.2.1 22 = .ok (.iload_n 2, 1) := by decide +kernel
theorem d_M_breakPair_23 : decode mi_M_breakPair.2.1 23 = .ok (.iadd, 1) := by decide +kernel
theorem d_M_breakPair_24 : decode mi_M_breakPair.2.1 24 = .ok (.iaload, 1) := by decide +kernel
theorem d_M_breakPair_25 : decode mi_M_breakPair.2.1 25 = .ok (.ifCond .ne 6, 3) := by decide +kernel
theorem d_M_breakPair_28 : decode mi_M_breakPair.2.1 28 = .ok (.bipush (-2), 2) := by decide +kernel
theorem d_M_breakPair_30 : decode mi_M_breakPair.2.1 30 = .ok (.ireturn, 1) := by decide +kernel
theorem d_M_breakPair_31 : decode mi_M_breakPair.2.1 31 = .ok (.aload_n 0, 1) := by decide +kernel
theorem d_M_breakPair_32 : decode mi_M_breakPair.2.1 32 = .ok (.invokevirtual 81, 3) := by decide +kernel
theorem d_M_breakPair_35 : decode mi_M_breakPair.2.1 35 = .ok (.aload_n 0, 1) := by decide +kernel
theorem d_M_breakPair_36 : decode mi_M_breakPair.2.1 36 = .ok (.bipush 6, 2) := by decide +kernel
theorem d_M_breakPair_38 : decode mi_M_breakPair.2.1 38 = .ok (.iload_n 1, 1) := by decide +kernel
theorem d_M_breakPair_39 : decode mi_M_breakPair.2.1 39 = .ok (.imul, 1) := by decide +kernel
theorem d_M_breakPair_40 : decode mi_M_breakPair.2.1 40 = .ok (.iload_n 2, 1) := by decide +kernel
theorem d_M_breakPair_41 : decode mi_M_breakPair.2.1 41 = .ok (.iadd, 1) := by decide +kernel
theorem d_M_breakPair_42 : decode mi_M_breakPair.2.1 42 = .ok (.invokevirtual 91, 3) := by decide +kernel
theorem d_M_breakPair_45 : decode mi_M_breakPair.2.1 45 = .ok (.aload_n 0, 1) := by decide +kernel
theorem d_M_breakPair_46 : decode mi_M_breakPair.2.1 46 = .ok (.invokevirtual 99, 3) := by decide +kernel
theorem d_M_breakPair_49 : decode mi_M_breakPair.2.1 49 = .ok (.ireturn, 1) := by decide +kernel
theorem d_M_partnerOf_0 : decode mi_M_partnerOf.2.1 0 = .ok (.aload_n 0, 1) := by decide +kernel
theorem d_M_partnerOf_1 : decode mi_M_partnerOf.2.1 1 = .ok (.iload_n 1, 1) := by decide +kernel
theorem d_M_partnerOf_2 : decode mi_M_partnerOf.2.1 2 = .ok (.iload_n 2, 1) := by decide +kernel
theorem d_M_partnerOf_3 : decode mi_M_partnerOf.2.1 3 = .ok (.invokevirtual 87, 3) := by decide +kernel
theorem d_M_partnerOf_6 : decode mi_M_partnerOf.2.1 6 = .ok (.ifCond .ne 5, 3) := by decide +kernel
theorem d_M_partnerOf_9 : decode mi_M_partnerOf.2.1 9 = .ok (.iconst (-1), 1) := by decide +kernel
theorem d_M_partnerOf_10 : decode mi_M_partnerOf.2.1 10 = .ok (.ireturn, 1) := by decide +kernel
theorem d_M_partnerOf_11 : decode mi_M_partnerOf.2.1 11 = .ok (.aload_n 0, 1) := by decide +kernel
theorem d_M_partnerOf_12 : decode mi_M_partnerOf.2.1 12 = .ok (.getfield 7, 3) := by decide +kernel
theorem d_M_partnerOf_15 : decode mi_M_partnerOf.2.1 15 = .ok (.bipush 40, 2) := by decide +kernel
theorem d_M_partnerOf_17 : decode mi_M_partnerOf.2.1 17 = .ok (.bipush 6, 2) := by decide +kernel
theorem d_M_partnerOf_19 : decode mi_M_partnerOf.2.1 19 = .ok (.iload_n 1, 1) := by decide +kernel
theorem d_M_partnerOf_20 : decode mi_M_partnerOf.2.1 20 = .ok (.imul, 1) := by decide +kernel
theorem d_M_partnerOf_21 : decode mi_M_partnerOf.2.1 21 = .ok (.iadd, 1) := by decide +kernel
theorem d_M_partnerOf_22 : decode mi_M_partnerOf.2.1 22 = .ok (.iload_n 2, 1) := by decide +kernel
theorem d_M_partnerOf_23 : decode mi_M_partnerOf.2.1 23 = .ok (.iadd, 1) := by decide +kernel
theorem d_M_partnerOf_24 : decode mi_M_partnerOf.2.1 24 = .ok (.iaload, 1) := by decide +kernel
theorem d_M_partnerOf_25 : decode mi_M_partnerOf.2.1 25 = .ok (.iconst 1, 1) := by decide +kernel
theorem d_M_partnerOf_26 : decode mi_M_partnerOf.2.1 26 = .ok (.isub, 1) := by decide +kernel
theorem d_M_partnerOf_27 : decode mi_M_partnerOf.2.1 27 = .ok (.istore_n 3, 1) := by decide +kernel
theorem d_M_partnerOf_28 : decode mi_M_partnerOf.2.1 28 = .ok (.iload_n 3, 1) := by decide +kernel
theorem d_M_partnerOf_29 : decode mi_M_partnerOf.2.1 29 = .ok (.ifCond .ge 8, 3) := by decide +kernel
theorem d_M_partnerOf_32 : decode mi_M_partnerOf.2.1 32 = .ok (.bipush (-9), 2) := by decide +kernel
theorem d_M_partnerOf_34 : decode mi_M_partnerOf.2.1 34 = .ok (.goto 15, 3) := by decide +kernel
theorem d_M_partnerOf_37 : decode mi_M_partnerOf.2.1 37 = .ok (.bipush 10, 2) := by decide +kernel
theorem d_M_partnerOf_39 : decode mi_M_partnerOf.2.1 39 = .ok (.iload_n 3, 1) := by decide +kernel
theorem d_M_partnerOf_40 : decode mi_M_partnerOf.2.1 40 = .ok (.bipush 6, 2) := by decide +kernel
theorem d_M_partnerOf_42 : decode mi_M_partnerOf.2.1 42 = .ok (.idiv, 1) := by decide +kernel
theorem d_M_partnerOf_43 : decode mi_M_partnerOf.2.1 43 = .ok (.imul, 1) := by decide +kernel
theorem d_M_partnerOf_44 : decode mi_M_partnerOf.2.1 44 = .ok (.iload_n 3, 1) := by decide +kernel
theorem d_M_partnerOf_45 : decode mi_M_partnerOf.2.1 45 = .ok (.bipush 6, 2) := by decide +kernel
theorem d_M_partnerOf_47 : decode mi_M_partnerOf.2.1 47 = .ok (.irem, 1) := by decide +kernel
theorem d_M_partnerOf_48 : decode mi_M_partnerOf.2.1 48 = .ok (.iadd, 1) := by decide +kernel
theorem d_M_partnerOf_49 : decode mi_M_partnerOf.2.1 49 = .ok (.ireturn, 1) := by decide +kernel
theorem d_M_selected_0 : decode mi_M_selected.2.1 0 = .ok (.iconst 0, 1) := by decide +kernel
theorem d_M_selected_1 : decode mi_M_selected.2.1 1 = .ok (.istore_n 1, 1) := by decide +kernel
theorem d_M_selected_2 : decode mi_M_selected.2.1 2 = .ok (.iconst 0, 1) := by decide +kernel
theorem d_M_selected_3 : decode mi_M_selected.2.1 3 = .ok (.istore_n 2, 1) := by decide +kernel
theorem d_M_selected_4 : decode mi_M_selected.2.1 4 = .ok (.iload_n 2, 1) := by decide +kernel
theorem d_M_selected_5 : decode mi_M_selected.2.1 5 = .ok (.bipush 36, 2) := by decide +kernel
theorem d_M_selected_7 : decode mi_M_selected.2.1 7 = .ok (.if_icmp .ge 21, 3) := by decide +kernel
theorem d_M_selected_10 : decode mi_M_selected.2.1 10 = .ok (.iload_n 1, 1) := by decide +kernel
theorem d_M_selected_11 : decode mi_M_selected.2.1 11 = .ok (.aload_n 0, 1) := by decide +kernel
theorem d_M_selected_12 : decode mi_M_selected.2.1 12 = .ok (.getfield 7, 3) := by decide +kernel
theorem d_M_selected_15 : decode mi_M_selected.2.1 15 = .ok (.bipush 76, 2) := by decide +kernel
theorem d_M_selected_17 : decode mi_M_selected.2.1 17 = .ok (.iload_n 2, 1) := by decide +kernel
theorem d_M_selected_18 : decode mi_M_selected.2.1 18 = .ok (.iadd, 1) := by decide +kernel
theorem d_M_selected_19 : decode mi_M_selected.2.1 19 = .ok (.iaload, 1) := by decide +kernel
theorem d_M_selected_20 : decode mi_M_selected.2.1 20 = .ok (.iadd, 1) := by decide +kernel
theorem d_M_selected_21 : decode mi_M_selected.2.1 21 = .ok (.istore_n 1, 1) := by decide +kernel
theorem d_M_selected_22 : decode mi_M_selected.2.1 22 = .ok (.iinc 2 1, 3) := by decide +kernel
theorem d_M_selected_25 : decode mi_M_selected.2.1 25 = .ok (.goto (-21), 3) := by decide +kernel
theorem d_M_selected_28 : decode mi_M_selected.2.1 28 = .ok (.iload_n 1, 1) := by decide +kernel
theorem d_M_selected_29 : decode mi_M_selected.2.1 29 = .ok (.ireturn, 1) := by decide +kernel
theorem d_M_select_0 : decode mi_M_select.2.1 0 = .ok (.aload_n 0, 1) := by decide +kernel
theorem d_M_select_1 : decode mi_M_select.2.1 1 = .ok (.iload_n 1, 1) := by decide +kernel
theorem d_M_select_2 : decode mi_M_select.2.1 2 = .ok (.iload_n 2, 1) := by decide +kernel
theorem d_M_select_3 : decode mi_M_select.2.1 3 = .ok (.invokevirtual 87, 3) := by decide +kernel
theorem d_M_select_6 : decode mi_M_select.2.1 6 = .ok (.ifCond .ne 5, 3) := by decide +kernel
theorem d_M_select_9 : decode mi_M_select.2.1 9 = .ok (.iconst (-1), 1) := by decide +kernel
theorem d_M_select_10 : decode mi_M_select.2.1 10 = .ok (.ireturn, 1) := by decide +kernel
theorem d_M_select_11 : decode mi_M_select.2.1 11 = .ok (.bipush 6, 2) := by decide +kernel
theorem d_M_select_13 : decode mi_M_select.2.1 13 = .ok (.iload_n 1, 1) := by decide +kernel
theorem d_M_select_14 : decode mi_M_select.2.1 14 = .ok (.imul, 1) := by decide +kernel
theorem d_M_select_15 : decode mi_M_select.2.1 15 = .ok (.iload_n 2, 1) := by decide +kernel
theorem d_M_select_16 : decode mi_M_select.2.1 16 = .ok (.iadd, 1) := by decide +kernel
theorem d_M_select_17 : decode mi_M_select.2.1 17 = .ok (.istore_n 3, 1) := by decide +kernel
theorem d_M_select_18 : decode mi_M_select.2.1 18 = .ok (.aload_n 0, 1) := by decide +kernel
theorem d_M_select_19 : decode mi_M_select.2.1 19 = .ok (.getfield 7, 3) := by decide +kernel
theorem d_M_select_22 : decode mi_M_select.2.1 22 = .ok (.iconst 4, 1) := by decide +kernel
theorem d_M_select_23 : decode mi_M_select.2.1 23 = .ok (.iload_n 3, 1) := by decide +kernel
theorem d_M_select_24 : decode mi_M_select.2.1 24 = .ok (.iadd, 1) := by decide +kernel
theorem d_M_select_25 : decode mi_M_select.2.1 25 = .ok (.iaload, 1) := by decide +kernel
theorem d_M_select_26 : decode mi_M_select.2.1 26 = .ok (.iconst 1, 1) := by decide +kernel
theorem d_M_select_27 : decode mi_M_select.2.1 27 = .ok (.if_icmp .ne 16, 3) := by decide +kernel
theorem d_M_select_30 : decode mi_M_select.2.1 30 = .ok (.aload_n 0, 1) := by decide +kernel
theorem d_M_select_31 : decode mi_M_select.2.1 31 = .ok (.getfield 7, 3) := by decide +kernel
theorem d_M_select_34 : decode mi_M_select.2.1 34 = .ok (.bipush 76, 2) := by decide +kernel
theorem d_M_select_36 : decode mi_M_select.2.1 36 = .ok (.iload_n 3, 1) := by decide +kernel
theorem d_M_select_37 : decode mi_M_select.2.1 37 = .ok (.iadd, 1) := by decide +kernel
theorem d_M_select_38 : decode mi_M_select.2.1 38 = .ok (.iaload, 1) := by decide +kernel
theorem d_M_select_39 : decode mi_M_select.2.1 39 = .ok (.iconst 1, 1) := by decide +kernel
theorem d_M_select_40 : decode mi_M_select.2.1 40 = .ok (.if_icmp .ne 6, 3) := by decide +kernel
theorem d_M_select_43 : decode mi_M_select.2.1 43 = .ok (.bipush (-2), 2) := by decide +kernel
theorem d_M_select_45 : decode mi_M_select.2.1 45 = .ok (.ireturn, 1) := by decide +kernel
theorem d_M_select_46 : decode mi_M_select.2.1 46 = .ok (.aload_n 0, 1) := by decide +kernel
theorem d_M_select_47 : decode mi_M_select.2.1 47 = .ok (.invokevirtual 81, 3) := by decide +kernel
theorem d_M_select_50 : decode mi_M_select.2.1 50 = .ok (.aload_n 0, 1) := by decide +kernel
theorem d_M_select_51 : decode mi_M_select.2.1 51 = .ok (.getfield 7, 3) := by decide +kernel
theorem d_M_select_54 : decode mi_M_select.2.1 54 = .ok (.bipush 76, 2) := by decide +kernel
theorem d_M_select_56 : decode mi_M_select.2.1 56 = .ok (.iload_n 3, 1) := by decide +kernel
theorem d_M_select_57 : decode mi_M_select.2.1 57 = .ok (.iadd, 1) := by decide +kernel
theorem d_M_select_58 : decode mi_M_select.2.1 58 = .ok (.iconst 1, 1) := by decide +kernel
theorem d_M_select_59 : decode mi_M_select.2.1 59 = .ok (.iastore, 1) := by decide +kernel
theorem d_M_select_60 : decode mi_M_select.2.1 60 = .ok (.aload_n 0, 1) := by decide +kernel
theorem d_M_select_61 : decode mi_M_select.2.1 61 = .ok (.invokevirtual 102, 3) := by decide +kernel
theorem d_M_select_64 : decode mi_M_select.2.1 64 = .ok (.ireturn, 1) := by decide +kernel
theorem d_M_deselect_0 : decode mi_M_deselect.2.1 0 = .ok (.aload_n 0, 1) := by decide +kernel
theorem d_M_deselect_1 : decode mi_M_deselect.2.1 1 = .ok (.iload_n 1, 1) := by decide +kernel
theorem d_M_deselect_2 : decode mi_M_deselect.2.1 2 = .ok (.iload_n 2, 1) := by decide +kernel
theorem d_M_deselect_3 : decode mi_M_deselect.2.1 3 = .ok (.invokevirtual 87, 3) := by decide +kernel
theorem d_M_deselect_6 : decode mi_M_deselect.2.1 6 = .ok (.ifCond .ne 5, 3) := by decide +kernel
theorem d_M_deselect_9 : decode mi_M_deselect.2.1 9 = .ok (.iconst (-1), 1) := by decide +kernel
theorem d_M_deselect_10 : decode mi_M_deselect.2.1 10 = .ok (.ireturn, 1) := by decide +kernel
theorem d_M_deselect_11 : decode mi_M_deselect.2.1 11 = .ok (.bipush 6, 2) := by decide +kernel
theorem d_M_deselect_13 : decode mi_M_deselect.2.1 13 = .ok (.iload_n 1, 1) := by decide +kernel
theorem d_M_deselect_14 : decode mi_M_deselect.2.1 14 = .ok (.imul, 1) := by decide +kernel
theorem d_M_deselect_15 : decode mi_M_deselect.2.1 15 = .ok (.iload_n 2, 1) := by decide +kernel
theorem d_M_deselect_16 : decode mi_M_deselect.2.1 16 = .ok (.iadd, 1) := by decide +kernel
theorem d_M_deselect_17 : decode mi_M_deselect.2.1 17 = .ok (.istore_n 3, 1) := by decide +kernel
theorem d_M_deselect_18 : decode mi_M_deselect.2.1 18 = .ok (.aload_n 0, 1) := by decide +kernel
theorem d_M_deselect_19 : decode mi_M_deselect.2.1 19 = .ok (.getfield 7, 3) := by decide +kernel
theorem d_M_deselect_22 : decode mi_M_deselect.2.1 22 = .ok (.bipush 76, 2) := by decide +kernel
theorem d_M_deselect_24 : decode mi_M_deselect.2.1 24 = .ok (.iload_n 3, 1) := by decide +kernel
theorem d_M_deselect_25 : decode mi_M_deselect.2.1 25 = .ok (.iadd, 1) := by decide +kernel
theorem d_M_deselect_26 : decode mi_M_deselect.2.1 26 = .ok (.iaload, 1) := by decide +kernel
theorem d_M_deselect_27 : decode mi_M_deselect.2.1 27 = .ok (.ifCond .ne 6, 3) := by decide +kernel
theorem d_M_deselect_30 : decode mi_M_deselect.2.1 30 = .ok (.bipush (-2), 2) := by decide +kernel
theorem d_M_deselect_32 : decode mi_M_deselect.2.1 32 = .ok (.ireturn, 1) := by decide +kernel
theorem d_M_deselect_33 : decode mi_M_deselect.2.1 33 = .ok (.aload_n 0, 1) := by decide +kernel
theorem d_M_deselect_34 : decode mi_M_deselect.2.1 34 = .ok (.invokevirtual 81, 3) := by decide +kernel
theorem d_M_deselect_37 : decode mi_M_deselect.2.1 37 = .ok (.aload_n 0, 1) := by decide +kernel
theorem d_M_deselect_38 : decode mi_M_deselect.2.1 38 = .ok (.getfield 7, 3) := by decide +kernel
theorem d_M_deselect_41 : decode mi_M_deselect.2.1 41 = .ok (.bipush 76, 2) := by decide +kernel
theorem d_M_deselect_43 : decode mi_M_deselect.2.1 43 = .ok (.iload_n 3, 1) := by decide +kernel
theorem d_M_deselect_44 : decode mi_M_deselect.2.1 44 = .ok (.iadd, 1) := by decide +kernel
theorem d_M_deselect_45 : decode mi_M_deselect.2.1 45 = .ok (.iconst 0, 1) := by decide +kernel
theorem d_M_deselect_46 : decode mi_M_deselect.2.1 46 = .ok (.iastore, 1) := by decide +kernel
theorem d_M_deselect_47 : decode mi_M_deselect.2.1 47 = .ok (.aload_n 0, 1) := by decide +kernel
theorem d_M_deselect_48 : decode mi_M_deselect.2.1 48 = .ok (.invokevirtual 102, 3) := by decide +kernel
theorem d_M_deselect_51 : decode mi_M_deselect.2.1 51 = .ok (.ireturn, 1) := by decide +kernel
theorem d_M_clearSelection_0 : decode mi_M_clearSelection.2.1 0 = .ok (.aload_n 0, 1) := by decide +kernel
theorem d_M_clearSelection_1 : decode mi_M_clearSelection.2.1 1 = .ok (.invokevirtual 102, 3) := by decide +kernel
theorem d_M_clearSelection_4 : decode mi_M_clearSelection.2.1 4 = .ok (.istore_n 1, 1) := by decide +kernel
theorem d_M_clearSelection_5 : decode mi_M_clearSelection.2.1 5 = .ok (.iload_n 1, 1) := by decide +kernel
theorem d_M_clearSelection_6 : decode mi_M_clearSelection.2.1 6 = .ok (.ifCond .ne 6, 3) := by decide +kernel
theorem d_M_clearSelection_9 : decode mi_M_clearSelection.2.1 9 = .ok (.bipush (-2), 2) := by decide +kernel
theorem d_M_clearSelection_11 : decode mi_M_clearSelection.2.1 11 = .ok (.ireturn, 1) := by decide +kernel
theorem d_M_clearSelection_12 : decode mi_M_clearSelection.2.1 12 = .ok (.aload_n 0, 1) := by decide +kernel
theorem d_M_clearSelection_13 : decode mi_M_clearSelection.2.1 13 = .ok (.invokevirtual 81, 3) := by decide +kernel
theorem d_M_clearSelection_16 : decode mi_M_clearSelection.2.1 16 = .ok (.iconst 0, 1) := by decide +kernel
theorem d_M_clearSelection_17 : decode mi_M_clearSelection.2.1 17 = .ok (.istore_n 2, 1) := by decide +kernel
theorem d_M_clearSelection_18 : decode mi_M_clearSelection.2.1 18 = .ok (.iload_n 2, 1) := by decide +kernel
theorem d_M_clearSelection_19 : decode mi_M_clearSelection.2.1 19 = .ok (.bipush 36, 2) := by decide +kernel
theorem d_M_clearSelection_21 : decode mi_M_clearSelection.2.1 21 = .ok (.if_icmp .ge 19, 3) := by decide +kernel
theorem d_M_clearSelection_24 : decode mi_M_clearSelection.2.1 24 = .ok (.aload_n 0, 1) := by decide +kernel
theorem d_M_clearSelection_25 : decode mi_M_clearSelection.2.1 25 = .ok (.getfield 7, 3) := by decide +kernel
theorem d_M_clearSelection_28 : decode mi_M_clearSelection.2.1 28 = .ok (.bipush 76, 2) := by decide +kernel
theorem d_M_clearSelection_30 : decode mi_M_clearSelection.2.1 30 = .ok (.iload_n 2, 1) := by decide +kernel
theorem d_M_clearSelection_31 : decode mi_M_clearSelection.2.1 31 = .ok (.iadd, 1) := by decide +kernel
theorem d_M_clearSelection_32 : decode mi_M_clearSelection.2.1 32 = .ok (.iconst 0, 1) := by decide +kernel
theorem d_M_clearSelection_33 : decode mi_M_clearSelection.2.1 33 = .ok (.iastore, 1) := by decide +kernel
theorem d_M_clearSelection_34 : decode mi_M_clearSelection.2.1 34 = .ok (.iinc 2 1, 3) := by decide +kernel
theorem d_M_clearSelection_37 : decode mi_M_clearSelection.2.1 37 = .ok (.goto (-19), 3) := by decide +kernel
theorem d_M_clearSelection_40 : decode mi_M_clearSelection.2.1 40 = .ok (.iload_n 1, 1) := by decide +kernel
theorem d_M_clearSelection_41 : decode mi_M_clearSelection.2.1 41 = .ok (.ireturn, 1) := by decide +kernel
theorem d_M_lead_0 : decode mi_M_lead.2.1 0 = .ok (.aload_n 0, 1) := by decide +kernel
theorem d_M_lead_1 : decode mi_M_lead.2.1 1 = .ok (.getfield 23, 3) := by decide +kernel
theorem d_M_lead_4 : decode mi_M_lead.2.1 4 = .ok (.aload_n 0, 1) := by decide +kernel
theorem d_M_lead_5 : decode mi_M_lead.2.1 5 = .ok (.getfield 105, 3) := by decide +kernel
theorem d_M_lead_8 : decode mi_M_lead.2.1 8 = .ok (.iload_n 1, 1) := by decide +kernel
theorem d_M_lead_9 : decode mi_M_lead.2.1 9 = .ok (.iastore, 1) := by decide +kernel
theorem d_M_lead_10 : decode mi_M_lead.2.1 10 = .ok (.aload_n 0, 1) := by decide +kernel
theorem d_M_lead_11 : decode mi_M_lead.2.1 11 = .ok (.getfield 26, 3) := by decide +kernel
theorem d_M_lead_14 : decode mi_M_lead.2.1 14 = .ok (.aload_n 0, 1) := by decide +kernel
theorem d_M_lead_15 : decode mi_M_lead.2.1 15 = .ok (.getfield 105, 3) := by decide +kernel
theorem d_M_lead_18 : decode mi_M_lead.2.1 18 = .ok (.iload_n 2, 1) := by decide +kernel
theorem d_M_lead_19 : decode mi_M_lead.2.1 19 = .ok (.iastore, 1) := by decide +kernel
theorem d_M_lead_20 : decode mi_M_lead.2.1 20 = .ok (.aload_n 0, 1) := by decide +kernel
theorem d_M_lead_21 : decode mi_M_lead.2.1 21 = .ok (.getfield 29, 3) := by decide +kernel
theorem d_M_lead_24 : decode mi_M_lead.2.1 24 = .ok (.aload_n 0, 1) := by decide +kernel
theorem d_M_lead_25 : decode mi_M_lead.2.1 25 = .ok (.getfield 105, 3) := by decide +kernel
theorem d_M_lead_28 : decode mi_M_lead.2.1 28 = .ok (.iload_n 3, 1) := by decide +kernel
theorem d_M_lead_29 : decode mi_M_lead.2.1 29 = .ok (.iastore, 1) := by decide +kernel
theorem d_M_lead_30 : decode mi_M_lead.2.1 30 = .ok (.aload_n 0, 1) := by decide +kernel
theorem d_M_lead_31 : decode mi_M_lead.2.1 31 = .ok (.getfield 35, 3) := by decide +kernel
theorem d_M_lead_34 : decode mi_M_lead.2.1 34 = .ok (.aload_n 0, 1) := by decide +kernel
theorem d_M_lead_35 : decode mi_M_lead.2.1 35 = .ok (.getfield 105, 3) := by decide +kernel
theorem d_M_lead_38 : decode mi_M_lead.2.1 38 = .ok (.aload_n 0, 1) := by decide +kernel
theorem d_M_lead_39 : decode mi_M_lead.2.1 39 = .ok (.getfield 32, 3) := by decide +kernel
theorem d_M_lead_42 : decode mi_M_lead.2.1 42 = .ok (.iload_n 1, 1) := by decide +kernel
theorem d_M_lead_43 : decode mi_M_lead.2.1 43 = .ok (.iaload, 1) := by decide +kernel
theorem d_M_lead_44 : decode mi_M_lead.2.1 44 = .ok (.iastore, 1) := by decide +kernel
theorem d_M_lead_45 : decode mi_M_lead.2.1 45 = .ok (.aload_n 0, 1) := by decide +kernel
theorem d_M_lead_46 : decode mi_M_lead.2.1 46 = .ok (.getfield 32, 3) := by decide +kernel
theorem d_M_lead_49 : decode mi_M_lead.2.1 49 = .ok (.iload_n 1, 1) := by decide +kernel
theorem d_M_lead_50 : decode mi_M_lead.2.1 50 = .ok (.aload_n 0, 1) := by decide +kernel
theorem d_M_lead_51 : decode mi_M_lead.2.1 51 = .ok (.getfield 105, 3) := by decide +kernel
theorem d_M_lead_54 : decode mi_M_lead.2.1 54 = .ok (.iastore, 1) := by decide +kernel
theorem d_M_lead_55 : decode mi_M_lead.2.1 55 = .ok (.aload_n 0, 1) := by decide +kernel
theorem d_M_lead_56 : decode mi_M_lead.2.1 56 = .ok (.dup, 1) := by decide +kernel
theorem d_M_lead_57 : decode mi_M_lead.2.1 57 = .ok (.getfield 105, 3) := by decide +kernel
theorem d_M_lead_60 : decode mi_M_lead.2.1 60 = .ok (.iconst 1, 1) := by decide +kernel
theorem d_M_lead_61 : decode mi_M_lead.2.1 61 = .ok (.iadd, 1) := by decide +kernel
theorem d_M_lead_62 : decode mi_M_lead.2.1 62 = .ok (.putfield 105, 3) := by decide +kernel
theorem d_M_lead_65 : decode mi_M_lead.2.1 65 = .ok (.return_, 1) := by decide +kernel
theorem d_M_join_0 : decode mi_M_join.2.1 0 = .ok (.aload_n 0, 1) := by decide +kernel
theorem d_M_join_1 : decode mi_M_join.2.1 1 = .ok (.iload_n 1, 1) := by decide +kernel
theorem d_M_join_2 : decode mi_M_join.2.1 2 = .ok (.iload_n 2, 1) := by decide +kernel
theorem d_M_join_3 : decode mi_M_join.2.1 3 = .ok (.iload_n 3, 1) := by decide +kernel
theorem d_M_join_4 : decode mi_M_join.2.1 4 = .ok (.invokevirtual 108, 3) := by decide +kernel
theorem d_M_join_7 : decode mi_M_join.2.1 7 = .ok (.aload_n 0, 1) := by decide +kernel
theorem d_M_join_8 : decode mi_M_join.2.1 8 = .ok (.iload_n 2, 1) := by decide +kernel
theorem d_M_join_9 : decode mi_M_join.2.1 9 = .ok (.iload_n 1, 1) := by decide +kernel
theorem d_M_join_10 : decode mi_M_join.2.1 10 = .ok (.iconst 0, 1) := by decide +kernel
theorem d_M_join_11 : decode mi_M_join.2.1 11 = .ok (.invokevirtual 108, 3) := by decide +kernel
theorem d_M_join_14 : decode mi_M_join.2.1 14 = .ok (.return_, 1) := by decide +kernel
theorem d_M_cutBack_0 : decode mi_M_cutBack.2.1 0 = .ok (.aload_n 0, 1) := by decide +kernel
theorem d_M_cutBack_1 : decode mi_M_cutBack.2.1 1 = .ok (.getfield 105, 3) := by decide +kernel
theorem d_M_cutBack_4 : decode mi_M_cutBack.2.1 4 = .ok (.iload_n 1, 1) := by decide +kernel
theorem d_M_cutBack_5 : decode mi_M_cutBack.2.1 5 = .ok (.if_icmp .le 39, 3) := by decide +kernel
theorem d_M_cutBack_8 : decode mi_M_cutBack.2.1 8 = .ok (.aload_n 0, 1) := by decide +kernel
theorem d_M_cutBack_9 : decode mi_M_cutBack.2.1 9 = .ok (.dup, 1) := by decide +kernel
theorem d_M_cutBack_10 : decode mi_M_cutBack.2.1 10 = .ok (.getfield 105, 3) := by decide +kernel
theorem d_M_cutBack_13 : decode mi_M_cutBack.2.1 13 = .ok (.iconst 1, 1) := by decide +kernel
theorem d_M_cutBack_14 : decode mi_M_cutBack.2.1 14 = .ok (.isub, 1) := by decide +kernel
theorem d_M_cutBack_15 : decode mi_M_cutBack.2.1 15 = .ok (.putfield 105, 3) := by decide +kernel
theorem d_M_cutBack_18 : decode mi_M_cutBack.2.1 18 = .ok (.aload_n 0, 1) := by decide +kernel
theorem d_M_cutBack_19 : decode mi_M_cutBack.2.1 19 = .ok (.getfield 32, 3) := by decide +kernel
theorem d_M_cutBack_22 : decode mi_M_cutBack.2.1 22 = .ok (.aload_n 0, 1) := by decide +kernel
theorem d_M_cutBack_23 : decode mi_M_cutBack.2.1 23 = .ok (.getfield 23, 3) := by decide +kernel
theorem d_M_cutBack_26 : decode mi_M_cutBack.2.1 26 = .ok (.aload_n 0, 1) := by decide +kernel
theorem d_M_cutBack_27 : decode mi_M_cutBack.2.1 27 = .ok (.getfield 105, 3) := by decide +kernel
theorem d_M_cutBack_30 : decode mi_M_cutBack.2.1 30 = .ok (.iaload, 1) := by decide +kernel
theorem d_M_cutBack_31 : decode mi_M_cutBack.2.1 31 = .ok (.aload_n 0, 1) := by decide +kernel
theorem d_M_cutBack_32 : decode mi_M_cutBack.2.1 32 = .ok (.getfield 35, 3) := by decide +kernel
theorem d_M_cutBack_35 : decode mi_M_cutBack.2.1 35 = .ok (.aload_n 0, 1) := by decide +kernel
theorem d_M_cutBack_36 : decode mi_M_cutBack.2.1 36 = .ok (.getfield 105, 3) := by decide +kernel
theorem d_M_cutBack_39 : decode mi_M_cutBack.2.1 39 = .ok (.iaload, 1) := by decide +kernel
theorem d_M_cutBack_40 : decode mi_M_cutBack.2.1 40 = .ok (.iastore, 1) := by decide +kernel
theorem d_M_cutBack_41 : decode mi_M_cutBack.2.1 41 = .ok (.goto (-41), 3) := by decide +kernel
theorem d_M_cutBack_44 : decode mi_M_cutBack.2.1 44 = .ok (.return_, 1) := by decide +kernel
theorem d_M_tile_0 : decode mi_M_tile.2.1 0 = .ok (.bipush 7, 2) := by decide +kernel
theorem d_M_tile_2 : decode mi_M_tile.2.1 2 = .ok (.iload_n 0, 1) := by decide +kernel
theorem d_M_tile_3 : decode mi_M_tile.2.1 3 = .ok (.imul, 1) := by decide +kernel
theorem d_M_tile_4 : decode mi_M_tile.2.1 4 = .ok (.iload_n 1, 1) := by decide +kernel
theorem d_M_tile_5 : decode mi_M_tile.2.1 5 = .ok (.iadd, 1) := by decide +kernel
theorem d_M_tile_6 : decode mi_M_tile.2.1 6 = .ok (.ireturn, 1) := by decide +kernel
theorem d_M_joinTiles_0 : decode mi_M_joinTiles.2.1 0 = .ok (.aload_n 0, 1) := by decide +kernel
theorem d_M_joinTiles_1 : decode mi_M_joinTiles.2.1 1 = .ok (.getfield 7, 3) := by decide +kernel
theorem d_M_joinTiles_4 : decode mi_M_joinTiles.2.1 4 = .ok (.iconst 2, 1) := by decide +kernel
theorem d_M_joinTiles_5 : decode mi_M_joinTiles.2.1 5 = .ok (.iaload, 1) := by decide +kernel
theorem d_M_joinTiles_6 : decode mi_M_joinTiles.2.1 6 = .ok (.aload_n 0, 1) := by decide +kernel
theorem d_M_joinTiles_7 : decode mi_M_joinTiles.2.1 7 = .ok (.getfield 38, 3) := by decide +kernel
theorem d_M_joinTiles_10 : decode mi_M_joinTiles.2.1 10 = .ok (.iload_n 1, 1) := by decide +kernel
theorem d_M_joinTiles_11 : decode mi_M_joinTiles.2.1 11 = .ok (.baload, 1) := by decide +kernel
theorem d_M_joinTiles_12 : decode mi_M_joinTiles.2.1 12 = .ok (.ifCond .eq 7, 3) := by decide +kernel
theorem d_M_joinTiles_15 : decode mi_M_joinTiles.2.1 15 = .ok (.iconst 1, 1) := by decide +kernel
theorem d_M_joinTiles_16 : decode mi_M_joinTiles.2.1 16 = .ok (.goto 4, 3) := by decide +kernel
theorem d_M_joinTiles_19 : decode mi_M_joinTiles.2.1 19 = .ok (.iconst 0, 1) := by decide +kernel
theorem d_M_joinTiles_20 : decode mi_M_joinTiles.2.1 20 = .ok (.iadd, 1) := by decide +kernel
theorem d_M_joinTiles_21 : decode mi_M_joinTiles.2.1 21 = .ok (.aload_n 0, 1) := by decide +kernel
theorem d_M_joinTiles_22 : decode mi_M_joinTiles.2.1 22 = .ok (.getfield 38, 3) := by decide +kernel
theorem d_M_joinTiles_25 : decode mi_M_joinTiles.2.1 25 = .ok (.iload_n 2, 1) := by decide +kernel
theorem d_M_joinTiles_26 : decode mi_M_joinTiles.2.1 26 = .ok (.baload, 1) := by decide +kernel
theorem d_M_joinTiles_27 : decode mi_M_joinTiles.2.1 27 = .ok (.ifCond .eq 7, 3) := by decide +kernel
theorem d_M_joinTiles_30 : decode mi_M_joinTiles.2.1 30 = .ok (.iconst 1, 1) := by decide +kernel
theorem d_M_joinTiles_31 : decode mi_M_joinTiles.2.1 31 = .ok (.goto 4, 3) := by decide +kernel
theorem d_M_joinTiles_34 : decode mi_M_joinTiles.2.1 34 = .ok (.iconst 0, 1) := by decide +kernel
theorem d_M_joinTiles_35 : decode mi_M_joinTiles.2.1 35 = .ok (.iadd, 1) := by decide +kernel
theorem d_M_joinTiles_36 : decode mi_M_joinTiles.2.1 36 = .ok (.istore 5, 2) := by decide +kernel
theorem d_M_joinTiles_38 : decode mi_M_joinTiles.2.1 38 = .ok (.aload_n 0, 1) := by decide +kernel
theorem d_M_joinTiles_39 : decode mi_M_joinTiles.2.1 39 = .ok (.bipush 87, 2) := by decide +kernel
theorem d_M_joinTiles_41 : decode mi_M_joinTiles.2.1 41 = .ok (.iload_n 3, 1) := by decide +kernel
theorem d_M_joinTiles_42 : decode mi_M_joinTiles.2.1 42 = .ok (.iadd, 1) := by decide +kernel
theorem d_M_joinTiles_43 : decode mi_M_joinTiles.2.1 43 = .ok (.bipush 38, 2) := by decide +kernel
theorem d_M_joinTiles_45 : decode mi_M_joinTiles.2.1 45 = .ok (.iload 4, 2) := by decide +kernel
theorem d_M_joinTiles_47 : decode mi_M_joinTiles.2.1 47 = .ok (.iadd, 1) := by decide +kernel
theorem d_M_joinTiles_48 : decode mi_M_joinTiles.2.1 48 = .ok (.iload 5, 2) := by decide +kernel
theorem d_M_joinTiles_50 : decode mi_M_joinTiles.2.1 50 = .ok (.invokevirtual 112, 3) := by decide +kernel
theorem d_M_joinTiles_53 : decode mi_M_joinTiles.2.1 53 = .ok (.aload_n 0, 1) := by decide +kernel
theorem d_M_joinTiles_54 : decode mi_M_joinTiles.2.1 54 = .ok (.bipush 87, 2) := by decide +kernel
theorem d_M_joinTiles_56 : decode mi_M_joinTiles.2.1 56 = .ok (.iload 4, 2) := by decide +kernel
theorem d_M_joinTiles_58 : decode mi_M_joinTiles.2.1 58 = .ok (.iadd, 1) := by decide +kernel
theorem d_M_joinTiles_59 : decode mi_M_joinTiles.2.1 59 = .ok (.bipush 38, 2) := by decide +kernel
theorem d_M_joinTiles_61 : decode mi_M_joinTiles.2.1 61 = .ok (.iload_n 3, 1) := by decide +kernel
theorem d_M_joinTiles_62 : decode mi_M_joinTiles.2.1 62 = .ok (.iadd, 1) := by decide +kernel
theorem d_M_joinTiles_63 : decode mi_M_joinTiles.2.1 63 = .ok (.iload 5, 2) := by decide +kernel
theorem d_M_joinTiles_65 : decode mi_M_joinTiles.2.1 65 = .ok (.invokevirtual 112, 3) := by decide +kernel
theorem d_M_joinTiles_68 : decode mi_M_joinTiles.2.1 68 = .ok (.return_, 1) := by decide +kernel
theorem d_M_isRim_0 : decode mi_M_isRim.2.1 0 = .ok (.iload_n 1, 1) := by decide +kernel
theorem d_M_isRim_1 : decode mi_M_isRim.2.1 1 = .ok (.ifCond .eq 27, 3) := by decide +kernel
theorem d_M_isRim_4 : decode mi_M_isRim.2.1 4 = .ok (.iload_n 1, 1) := by decide +kernel
theorem d_M_isRim_5 : decode mi_M_isRim.2.1 5 = .ok (.aload_n 0, 1) := by decide +kernel
theorem d_M_isRim_6 : decode mi_M_isRim.2.1 6 = .ok (.getfield 7, 3) := by decide +kernel
theorem d_M_isRim_9 : decode mi_M_isRim.2.1 9 = .ok (.iconst 0, 1) := by decide +kernel
theorem d_M_isRim_10 : decode mi_M_isRim.2.1 10 = .ok (.iaload, 1) := by decide +kernel
theorem d_M_isRim_11 : decode mi_M_isRim.2.1 11 = .ok (.if_icmp .eq 17, 3) := by decide +kernel
theorem d_M_isRim_14 : decode mi_M_isRim.2.1 14 = .ok (.iload_n 2, 1) := by decide +kernel
theorem d_M_isRim_15 : decode mi_M_isRim.2.1 15 = .ok (.ifCond .eq 13, 3) := by decide +kernel
theorem d_M_isRim_18 : decode mi_M_isRim.2.1 18 = .ok (.iload_n 2, 1) := by decide +kernel
theorem d_M_isRim_19 : decode mi_M_isRim.2.1 19 = .ok (.aload_n 0, 1) := by decide +kernel
theorem d_M_isRim_20 : decode mi_M_isRim.2.1 20 = .ok (.getfield 7, 3) := by decide +kernel
theorem d_M_isRim_23 : decode mi_M_isRim.2.1 23 = .ok (.iconst 1, 1) := by decide +kernel
theorem d_M_isRim_24 : decode mi_M_isRim.2.1 24 = .ok (.iaload, 1) := by decide +kernel
theorem d_M_isRim_25 : decode mi_M_isRim.2.1 25 = .ok (.if_icmp .ne 7, 3) := by decide +kernel
theorem d_M_isRim_28 : decode mi_M_isRim.2.1 28 = .ok (.iconst 1, 1) := by decide +kernel
theorem d_M_isRim_29 : decode mi_M_isRim.2.1 29 = .ok (.goto 4, 3) := by decide +kernel
theorem d_M_isRim_32 : decode mi_M_isRim.2.1 32 = .ok (.iconst 0, 1) := by decide +kernel
theorem d_M_isRim_33 : decode mi_M_isRim.2.1 33 = .ok (.ireturn, 1) := by decide +kernel
theorem d_M_lay_0 : decode mi_M_lay.2.1 0 = .ok (.aload_n 0, 1) := by decide +kernel
theorem d_M_lay_1 : decode mi_M_lay.2.1 1 = .ok (.iconst 0, 1) := by decide +kernel
theorem d_M_lay_2 : decode mi_M_lay.2.1 2 = .ok (.putfield 105, 3) := by decide +kernel
theorem d_M_lay_5 : decode mi_M_lay.2.1 5 = .ok (.iconst 0, 1) := by decide +kernel
theorem d_M_lay_6 : decode mi_M_lay.2.1 6 = .ok (.istore_n 1, 1) := by decide +kernel
theorem d_M_lay_7 : decode mi_M_lay.2.1 7 = .ok (.iload_n 1, 1) := by decide +kernel
theorem d_M_lay_8 : decode mi_M_lay.2.1 8 = .ok (.sipush 136, 3) := by decide +kernel
theorem d_M_lay_11 : decode mi_M_lay.2.1 11 = .ok (.if_icmp .ge 17, 3) := by decide +kernel
theorem d_M_lay_14 : decode mi_M_lay.2.1 14 = .ok (.aload_n 0, 1) := by decide +kernel
theorem d_M_lay_15 : decode mi_M_lay.2.1 15 = .ok (.getfield 32, 3) := by decide +kernel
theorem d_M_lay_18 : decode mi_M_lay.2.1 18 = .ok (.iload_n 1, 1) := by decide +kernel
theorem d_M_lay_19 : decode mi_M_lay.2.1 19 = .ok (.bipush (-9), 2) := by decide +kernel
theorem d_M_lay_21 : decode mi_M_lay.2.1 21 = .ok (.iastore, 1) := by decide +kernel
theorem d_M_lay_22 : decode mi_M_lay.2.1 22 = .ok (.iinc 1 1, 3) := by decide +kernel
theorem d_M_lay_25 : decode mi_M_lay.2.1 25 = .ok (.goto (-18), 3) := by decide +kernel
theorem d_M_lay_28 : decode mi_M_lay.2.1 28 = .ok (.iconst 0, 1) := by decide +kernel
theorem d_M_lay_29 : decode mi_M_lay.2.1 29 = .ok (.istore_n 1, 1) := by decide +kernel
theorem d_M_lay_30 : decode mi_M_lay.2.1 30 = .ok (.iload_n 1, 1) := by decide +kernel
theorem d_M_lay_31 : decode mi_M_lay.2.1 31 = .ok (.aload_n 0, 1) := by decide +kernel
theorem d_M_lay_32 : decode mi_M_lay.2.1 32 = .ok (.getfield 7, 3) := by decide +kernel
theorem d_M_lay_35 : decode mi_M_lay.2.1 35 = .ok (.iconst 0, 1) := by decide +kernel
theorem d_M_lay_36 : decode mi_M_lay.2.1 36 = .ok (.iaload, 1) := by decide +kernel
theorem d_M_lay_37 : decode mi_M_lay.2.1 37 = .ok (.if_icmp .gt 77, 3) := by decide +kernel
theorem d_M_lay_40 : decode mi_M_lay.2.1 40 = .ok (.iconst 0, 1) := by decide +kernel
theorem d_M_lay_41 : decode mi_M_lay.2.1 41 = .ok (.istore_n 2, 1) := by decide +kernel
theorem d_M_lay_42 : decode mi_M_lay.2.1 42 = .ok (.iload_n 2, 1) := by decide +kernel
theorem d_M_lay_43 : decode mi_M_lay.2.1 43 = .ok (.aload_n 0, 1) := by decide +kernel
theorem d_M_lay_44 : decode mi_M_lay.2.1 44 = .ok (.getfield 7, 3) := by decide +kernel
theorem d_M_lay_47 : decode mi_M_lay.2.1 47 = .ok (.iconst 1, 1) := by decide +kernel
theorem d_M_lay_48 : decode mi_M_lay.2.1 48 = .ok (.iaload, 1) := by decide +kernel
theorem d_M_lay_49 : decode mi_M_lay.2.1 49 = .ok (.if_icmp .gt 59, 3) := by decide +kernel
theorem d_M_lay_52 : decode mi_M_lay.2.1 52 = .ok (.aload_n 0, 1) := by decide +kernel
theorem d_M_lay_53 : decode mi_M_lay.2.1 53 = .ok (.bipush 38, 2) := by decide +kernel
theorem d_M_lay_55 : decode mi_M_lay.2.1 55 = .ok (.iload_n 1, 1) := by decide +kernel
theorem d_M_lay_56 : decode mi_M_lay.2.1 56 = .ok (.iload_n 2, 1) := by decide +kernel
theorem d_M_lay_57 : decode mi_M_lay.2.1 57 = .ok (.invokestatic 115, 3) := by decide +kernel
theorem d_M_lay_60 : decode mi_M_lay.2.1 60 = .ok (.iadd, 1) := by decide +kernel
theorem d_M_lay_61 : decode mi_M_lay.2.1 61 = .ok (.bipush 87, 2) := by decide +kernel
theorem d_M_lay_63 : decode mi_M_lay.2.1 63 = .ok (.iload_n 1, 1) := by decide +kernel
theorem d_M_lay_64 : decode mi_M_lay.2.1 64 = .ok (.iload_n 2, 1) := by decide +kernel
theorem d_M_lay_65 : decode mi_M_lay.2.1 65 = .ok (.invokestatic 115, 3) := by decide +kernel
theorem d_M_lay_68 : decode mi_M_lay.2.1 68 = .ok (.iadd, 1) := by decide +kernel
theorem d_M_lay_69 : decode mi_M_lay.2.1 69 = .ok (.aload_n 0, 1) := by decide +kernel
theorem d_M_lay_70 : decode mi_M_lay.2.1 70 = .ok (.getfield 7, 3) := by decide +kernel
theorem d_M_lay_73 : decode mi_M_lay.2.1 73 = .ok (.iconst 3, 1) := by decide +kernel
theorem d_M_lay_74 : decode mi_M_lay.2.1 74 = .ok (.iaload, 1) := by decide +kernel
theorem d_M_lay_75 : decode mi_M_lay.2.1 75 = .ok (.invokevirtual 112, 3) := by decide +kernel
theorem d_M_lay_78 : decode mi_M_lay.2.1 78 = .ok (.aload_n 0, 1) := by decide +kernel
theorem d_M_lay_79 : decode mi_M_lay.2.1 79 = .ok (.iload_n 1, 1) := by decide +kernel
theorem d_M_lay_80 : decode mi_M_lay.2.1 80 = .ok (.iload_n 2, 1) := by decide +kernel
theorem d_M_lay_81 : decode mi_M_lay.2.1 81 = .ok (.invokevirtual 119, 3) := by decide +kernel
theorem d_M_lay_84 : decode mi_M_lay.2.1 84 = .ok (.ifCond .eq 18, 3) := by decide +kernel
theorem d_M_lay_87 : decode mi_M_lay.2.1 87 = .ok (.aload_n 0, 1) := by decide +kernel
theorem d_M_lay_88 : decode mi_M_lay.2.1 88 = .ok (.bipush 87, 2) := by decide +kernel
theorem d_M_lay_90 : decode mi_M_lay.2.1 90 = .ok (.iload_n 1, 1) := by decide +kernel
theorem d_M_lay_91 : decode mi_M_lay.2.1 91 = .ok (.iload_n 2, 1) := by decide +kernel
theorem d_M_lay_92 : decode mi_M_lay.2.1 92 = .ok (.invokestatic 115, 3) := by decide +kernel
theorem d_M_lay_95 : decode mi_M_lay.2.1 95 = .ok (.iadd, 1) := by decide +kernel
theorem d_M_lay_96 : decode mi_M_lay.2.1 96 = .ok (.iconst 1, 1) := by decide +kernel
theorem d_M_lay_97 : decode mi_M_lay.2.1 97 = .ok (.ldc 122, 2) := by decide +kernel
theorem d_M_lay_99 : decode mi_M_lay.2.1 99 = .ok (.invokevirtual 112, 3) := by decide +kernel
theorem d_M_lay_102 : decode mi_M_lay.2.1 102 = .ok (.iinc 2 1, 3) := by decide +kernel
theorem d_M_lay_105 : decode mi_M_lay.2.1 105 = .ok (.goto (-63), 3) := by decide +kernel
theorem d_M_lay_108 : decode mi_M_lay.2.1 108 = .ok (.iinc 1 1, 3) := by decide +kernel
theorem d_M_lay_111 : decode mi_M_lay.2.1 111 = .ok (.goto (-81), 3) := by decide +kernel
theorem d_M_lay_114 : decode mi_M_lay.2.1 114 = .ok (.iconst 0, 1) := by decide +kernel
theorem d_M_lay_115 : decode mi_M_lay.2.1 115 = .ok (.istore_n 1, 1) := by decide +kernel
theorem d_M_lay_116 : decode mi_M_lay.2.1 116 = .ok (.iload_n 1, 1) := by decide +kernel
theorem d_M_lay_117 : decode mi_M_lay.2.1 117 = .ok (.aload_n 0, 1) := by decide +kernel
theorem d_M_lay_118 : decode mi_M_lay.2.1 118 = .ok (.getfield 7, 3) := by decide +kernel
theorem d_M_lay_121 : decode mi_M_lay.2.1 121 = .ok (.iconst 0, 1) := by decide +kernel
theorem d_M_lay_122 : decode mi_M_lay.2.1 122 = .ok (.iaload, 1) := by decide +kernel
theorem d_M_lay_123 : decode mi_M_lay.2.1 123 = .ok (.if_icmp .ge 107, 3) := by decide +kernel
theorem d_M_lay_126 : decode mi_M_lay.2.1 126 = .ok (.iconst 0, 1) := by decide +kernel
theorem d_M_lay_127 : decode mi_M_lay.2.1 127 = .ok (.istore_n 2, 1) := by decide +kernel
theorem d_M_lay_128 : decode mi_M_lay.2.1 128 = .ok (.iload_n 2, 1) := by decide +kernel
theorem d_M_lay_129 : decode mi_M_lay.2.1 129 = .ok (.aload_n 0, 1) := by decide +kernel
theorem d_M_lay_130 : decode mi_M_lay.2.1 130 = .ok (.getfield 7, 3) := by decide +kernel
theorem d_M_lay_133 : decode mi_M_lay.2.1 133 = .ok (.iconst 1, 1) := by decide +kernel
theorem d_M_lay_134 : decode mi_M_lay.2.1 134 = .ok (.iaload, 1) := by decide +kernel
theorem d_M_lay_135 : decode mi_M_lay.2.1 135 = .ok (.if_icmp .ge 89, 3) := by decide +kernel
theorem d_M_lay_138 : decode mi_M_lay.2.1 138 = .ok (.bipush 6, 2) := by decide +kernel
theorem d_M_lay_140 : decode mi_M_lay.2.1 140 = .ok (.iload_n 1, 1) := by decide +kernel
theorem d_M_lay_141 : decode mi_M_lay.2.1 141 = .ok (.imul, 1) := by decide +kernel
theorem d_M_lay_142 : decode mi_M_lay.2.1 142 = .ok (.iload_n 2, 1) := by decide +kernel
theorem d_M_lay_143 : decode mi_M_lay.2.1 143 = .ok (.iadd, 1) := by decide +kernel
theorem d_M_lay_144 : decode mi_M_lay.2.1 144 = .ok (.istore_n 3, 1) := by decide +kernel
theorem d_M_lay_145 : decode mi_M_lay.2.1 145 = .ok (.iload_n 2, 1) := by decide +kernel
theorem d_M_lay_146 : decode mi_M_lay.2.1 146 = .ok (.iconst 1, 1) := by decide +kernel
theorem d_M_lay_147 : decode mi_M_lay.2.1 147 = .ok (.iadd, 1) := by decide +kernel
theorem d_M_lay_148 : decode mi_M_lay.2.1 148 = .ok (.aload_n 0, 1) := by decide +kernel
theorem d_M_lay_149 : decode mi_M_lay.2.1 149 = .ok (.getfield 7, 3) := by decide +kernel
theorem d_M_lay_152 : decode mi_M_lay.2.1 152 = .ok (.iconst 1, 1) := by decide +kernel
theorem d_M_lay_153 : decode mi_M_lay.2.1 153 = .ok (.iaload, 1) := by decide +kernel
theorem d_M_lay_154 : decode mi_M_lay.2.1 154 = .ok (.if_icmp .ge 27, 3) := by decide +kernel
theorem d_M_lay_157 : decode mi_M_lay.2.1 157 = .ok (.aload_n 0, 1) := by decide +kernel
theorem d_M_lay_158 : decode mi_M_lay.2.1 158 = .ok (.iload_n 3, 1) := by decide +kernel
theorem d_M_lay_159 : decode mi_M_lay.2.1 159 = .ok (.iload_n 3, 1) := by decide +kernel
theorem d_M_lay_160 : decode mi_M_lay.2.1 160 = .ok (.iconst 1, 1) := by decide +kernel
theorem d_M_lay_161 : decode mi_M_lay.2.1 161 = .ok (.iadd, 1) := by decide +kernel
theorem d_M_lay_162 : decode mi_M_lay.2.1 162 = .ok (.iload_n 1, 1) := by decide +kernel
theorem d_M_lay_163 : decode mi_M_lay.2.1 163 = .ok (.iload_n 2, 1) := by decide +kernel
theorem d_M_lay_164 : decode mi_M_lay.2.1 164 = .ok (.iconst 1, 1) := by decide +kernel
theorem d_M_lay_165 : decode mi_M_lay.2.1 165 = .ok (.iadd, 1) := by decide +kernel
theorem d_M_lay_166 : decode mi_M_lay.2.1 166 = .ok (.invokestatic 115, 3) := by decide +kernel
theorem d_M_lay_169 : decode mi_M_lay.2.1 169 = .ok (.iload_n 1, 1) := by decide +kernel
theorem d_M_lay_170 : decode mi_M_lay.2.1 170 = .ok (.iconst 1, 1) := by decide +kernel
theorem d_M_lay_171 : decode mi_M_lay.2.1 171 = .ok (.iadd, 1) := by decide +kernel
theorem d_M_lay_172 : decode mi_M_lay.2.1 172 = .ok (.iload_n 2, 1) := by decide +kernel
theorem d_M_lay_173 : decode mi_M_lay.2.1 173 = .ok (.iconst 1, 1) := by decide +kernel
theorem d_M_lay_174 : decode mi_M_lay.2.1 174 = .ok (.iadd, 1) := by decide +kernel
theorem d_M_lay_175 : decode mi_M_lay.2.1 175 = .ok (.invokestatic 115, 3) := by decide +kernel
theorem d_M_lay_178 : decode mi_M_lay.2.1 178 = .ok (.invokevirtual 123, 3) := by decide +kernel
theorem d_M_lay_181 : decode mi_M_lay.2.1 181 = .ok (.iload_n 1, 1) := by decide +kernel
theorem d_M_lay_182 : decode mi_M_lay.2.1 182 = .ok (.iconst 1, 1) := by decide +kernel
theorem d_M_lay_183 : decode mi_M_lay.2.1 183 = .ok (.iadd, 1) := by decide +kernel
theorem d_M_lay_184 : decode mi_M_lay.2.1 184 = .ok (.aload_n 0, 1) := by decide +kernel
theorem d_M_lay_185 : decode mi_M_lay.2.1 185 = .ok (.getfield 7, 3) := by decide +kernel
theorem d_M_lay_188 : decode mi_M_lay.2.1 188 = .ok (.iconst 0, 1) := by decide +kernel
theorem d_M_lay_189 : decode mi_M_lay.2.1 189 = .ok (.iaload, 1) := by decide +kernel
theorem d_M_lay_190 : decode mi_M_lay.2.1 190 = .ok (.if_icmp .ge 28, 3) := by decide +kernel
theorem d_M_lay_193 : decode mi_M_lay.2.1 193 = .ok (.aload_n 0, 1) := by decide +kernel
theorem d_M_lay_194 : decode mi_M_lay.2.1 194 = .ok (.iload_n 3, 1) := by decide +kernel
theorem d_M_lay_195 : decode mi_M_lay.2.1 195 = .ok (.iload_n 3, 1) := by decide +kernel
theorem d_M_lay_196 : decode mi_M_lay.2.1 196 = .ok (.bipush 6, 2) := by decide +kernel
theorem d_M_lay_198 : decode mi_M_lay.2.1 198 = .ok (.iadd, 1) := by decide +kernel
theorem d_M_lay_199 : decode mi_M_lay.2.1 199 = .ok (.iload_n 1, 1) := by decide +kernel
theorem d_M_lay_200 : decode mi_M_lay.2.1 200 = .ok (.iconst 1, 1) := by decide +kernel
theorem d_M_lay_201 : decode mi_M_lay.2.1 201 = .ok (.iadd, 1) := by decide +kernel
theorem d_M_lay_202 : decode mi_M_lay.2.1 202 = .ok (.iload_n 2, 1) := by decide +kernel
theorem d_M_lay_203 : decode mi_M_lay.2.1 203 = .ok (.invokestatic 115, 3) := by decide +kernel
theorem d_M_lay_206 : decode mi_M_lay.2.1 206 = .ok (.iload_n 1, 1) := by decide +kernel
theorem d_M_lay_207 : decode mi_M_lay.2.1 207 = .ok (.iconst 1, 1) := by decide +kernel
theorem d_M_lay_208 : decode mi_M_lay.2.1 208 = .ok (.iadd, 1) := by decide +kernel
theorem d_M_lay_209 : decode mi_M_lay.2.1 209 = .ok (.iload_n 2, 1) := by decide +kernel
theorem d_M_lay_210 : decode mi_M_lay.2.1 210 = .ok (.iconst 1, 1) := by decide +kernel
theorem d_M_lay_211 : decode mi_M_lay.2.1 211 = .ok (.iadd, 1) := by decide +kernel
theorem d_M_lay_212 : decode mi_M_lay.2.1 212 = .ok (.invokestatic 115, 3) := by decide +kernel
theorem d_M_lay_215 : decode mi_M_lay.2.1 215 = .ok (.invokevirtual 123, 3) := by decide +kernel
theorem d_M_lay_218 : decode mi_M_lay.2.1 218 = .ok (.iinc 2 1, 3) := by decide +kernel
theorem d_M_lay_221 : decode mi_M_lay.2.1 221 = .ok (.goto (-93), 3) := by decide +kernel
theorem d_M_lay_224 : decode mi_M_lay.2.1 224 = .ok (.iinc 1 1, 3) := by decide +kernel
theorem d_M_lay_227 : decode mi_M_lay.2.1 227 = .ok (.goto (-111), 3) := by decide +kernel
theorem d_M_lay_230 : decode mi_M_lay.2.1 230 = .ok (.return_, 1) := by decide +kernel
theorem d_M_layPin_0 : decode mi_M_layPin.2.1 0 = .ok (.aload_n 0, 1) := by decide +kernel
theorem d_M_layPin_1 : decode mi_M_layPin.2.1 1 = .ok (.iconst 0, 1) := by decide +kernel
theorem d_M_layPin_2 : decode mi_M_layPin.2.1 2 = .ok (.iconst 2, 1) := by decide +kernel
theorem d_M_layPin_3 : decode mi_M_layPin.2.1 3 = .ok (.iload_n 1, 1) := by decide +kernel
theorem d_M_layPin_4 : decode mi_M_layPin.2.1 4 = .ok (.iadd, 1) := by decide +kernel
theorem d_M_layPin_5 : decode mi_M_layPin.2.1 5 = .ok (.iload_n 2, 1) := by decide +kernel
theorem d_M_layPin_6 : decode mi_M_layPin.2.1 6 = .ok (.invokevirtual 112, 3) := by decide +kernel
theorem d_M_layPin_9 : decode mi_M_layPin.2.1 9 = .ok (.iconst 0, 1) := by decide +kernel
theorem d_M_layPin_10 : decode mi_M_layPin.2.1 10 = .ok (.istore_n 3, 1) := by decide +kernel
theorem d_M_layPin_11 : decode mi_M_layPin.2.1 11 = .ok (.iload_n 3, 1) := by decide +kernel
theorem d_M_layPin_12 : decode mi_M_layPin.2.1 12 = .ok (.iconst 4, 1) := by decide +kernel
theorem d_M_layPin_13 : decode mi_M_layPin.2.1 13 = .ok (.if_icmp .ge 39, 3) := by decide +kernel
theorem d_M_layPin_16 : decode mi_M_layPin.2.1 16 = .ok (.aload_n 0, 1) := by decide +kernel
theorem d_M_layPin_17 : decode mi_M_layPin.2.1 17 = .ok (.iconst 2, 1) := by decide +kernel
theorem d_M_layPin_18 : decode mi_M_layPin.2.1 18 = .ok (.iload_n 1, 1) := by decide +kernel
theorem d_M_layPin_19 : decode mi_M_layPin.2.1 19 = .ok (.iadd, 1) := by decide +kernel
theorem d_M_layPin_20 : decode mi_M_layPin.2.1 20 = .ok (.bipush 38, 2) := by decide +kernel
theorem d_M_layPin_22 : decode mi_M_layPin.2.1 22 = .ok (.iload_n 1, 1) := by decide +kernel
theorem d_M_layPin_23 : decode mi_M_layPin.2.1 23 = .ok (.bipush 6, 2) := by decide +kernel
theorem d_M_layPin_25 : decode mi_M_layPin.2.1 25 = .ok (.idiv, 1) := by decide +kernel
theorem d_M_layPin_26 : decode mi_M_layPin.2.1 26 = .ok (.iload_n 3, 1) := by decide +kernel
theorem d_M_layPin_27 : decode mi_M_layPin.2.1 27 = .ok (.iconst 2, 1) := by decide +kernel
theorem d_M_layPin_28 : decode mi_M_layPin.2.1 28 = .ok (.idiv, 1) := by decide +kernel
theorem d_M_layPin_29 : decode mi_M_layPin.2.1 29 = .ok (.iadd, 1) := by decide +kernel
theorem d_M_layPin_30 : decode mi_M_layPin.2.1 30 = .ok (.iload_n 1, 1) := by decide +kernel
theorem d_M_layPin_31 : decode mi_M_layPin.2.1 31 = .ok (.bipush 6, 2) := by decide +kernel
theorem d_M_layPin_33 : decode mi_M_layPin.2.1 33 = .ok (.irem, 1) := by decide +kernel
theorem d_M_layPin_34 : decode mi_M_layPin.2.1 34 = .ok (.iload_n 3, 1) := by decide +kernel
theorem d_M_layPin_35 : decode mi_M_layPin.2.1 35 = .ok (.iconst 2, 1) := by decide +kernel
theorem d_M_layPin_36 : decode mi_M_layPin.2.1 36 = .ok (.irem, 1) := by decide +kernel
theorem d_M_layPin_37 : decode mi_M_layPin.2.1 37 = .ok (.iadd, 1) := by decide +kernel
theorem d_M_layPin_38 : decode mi_M_layPin.2.1 38 = .ok (.invokestatic 115, 3) := by decide +kernel
theorem d_M_layPin_41 : decode mi_M_layPin.2.1 41 = .ok (.iadd, 1) := by decide +kernel
theorem d_M_layPin_42 : decode mi_M_layPin.2.1 42 = .ok (.iload_n 2, 1) := by decide +kernel
theorem d_M_layPin_43 : decode mi_M_layPin.2.1 43 = .ok (.invokevirtual 112, 3) := by decide +kernel
theorem d_M_layPin_46 : decode mi_M_layPin.2.1 46 = .ok (.iinc 3 1, 3) := by decide +kernel
theorem d_M_layPin_49 : decode mi_M_layPin.2.1 49 = .ok (.goto (-38), 3) := by decide +kernel
theorem d_M_layPin_52 : decode mi_M_layPin.2.1 52 = .ok (.return_, 1) := by decide +kernel
theorem d_M_reach_0 : decode mi_M_reach.2.1 0 = .ok (.iconst 0, 1) := by decide +kernel
theorem d_M_reach_1 : decode mi_M_reach.2.1 1 = .ok (.istore_n 1, 1) := by decide +kernel
theorem d_M_reach_2 : decode mi_M_reach.2.1 2 = .ok (.iload_n 1, 1) := by decide +kernel
theorem d_M_reach_3 : decode mi_M_reach.2.1 3 = .ok (.sipush 136, 3) := by decide +kernel
theorem d_M_reach_6 : decode mi_M_reach.2.1 6 = .ok (.if_icmp .ge 16, 3) := by decide +kernel
theorem d_M_reach_9 : decode mi_M_reach.2.1 9 = .ok (.aload_n 0, 1) := by decide +kernel
theorem d_M_reach_10 : decode mi_M_reach.2.1 10 = .ok (.getfield 48, 3) := by decide +kernel
theorem d_M_reach_13 : decode mi_M_reach.2.1 13 = .ok (.iload_n 1, 1) := by decide +kernel
theorem d_M_reach_14 : decode mi_M_reach.2.1 14 = .ok (.iconst 0, 1) := by decide +kernel
theorem d_M_reach_15 : decode mi_M_reach.2.1 15 = .ok (.bastore, 1) := by decide +kernel
theorem d_M_reach_16 : decode mi_M_reach.2.1 16 = .ok (.iinc 1 1, 3) := by decide +kernel
theorem d_M_reach_19 : decode mi_M_reach.2.1 19 = .ok (.goto (-17), 3) := by decide +kernel
theorem d_M_reach_22 : decode mi_M_reach.2.1 22 = .ok (.aload_n 0, 1) := by decide +kernel
theorem d_M_reach_23 : decode mi_M_reach.2.1 23 = .ok (.getfield 48, 3) := by decide +kernel
theorem d_M_reach_26 : decode mi_M_reach.2.1 26 = .ok (.iconst 0, 1) := by decide +kernel
theorem d_M_reach_27 : decode mi_M_reach.2.1 27 = .ok (.iconst 1, 1) := by decide +kernel
theorem d_M_reach_28 : decode mi_M_reach.2.1 28 = .ok (.bastore, 1) := by decide +kernel
theorem d_M_reach_29 : decode mi_M_reach.2.1 29 = .ok (.aload_n 0, 1) := by decide +kernel
theorem d_M_reach_30 : decode mi_M_reach.2.1 30 = .ok (.getfield 42, 3) := by decide +kernel
theorem d_M_reach_33 : decode mi_M_reach.2.1 33 = .ok (.iconst 0, 1) := by decide +kernel
theorem d_M_reach_34 : decode mi_M_reach.2.1 34 = .ok (.iconst 0, 1) := by decide +kernel
theorem d_M_reach_35 : decode mi_M_reach.2.1 35 = .ok (.iastore, 1) := by decide +kernel
theorem d_M_reach_36 : decode mi_M_reach.2.1 36 = .ok (.iconst 1, 1) := by decide +kernel
theorem d_M_reach_37 : decode mi_M_reach.2.1 37 = .ok (.istore_n 1, 1) := by decide +kernel
theorem d_M_reach_38 : decode mi_M_reach.2.1 38 = .ok (.iconst 0, 1) := by decide +kernel
theorem d_M_reach_39 : decode mi_M_reach.2.1 39 = .ok (.istore_n 2, 1) := by decide +kernel
theorem d_M_reach_40 : decode mi_M_reach.2.1 40 = .ok (.iload_n 2, 1) := by decide +kernel
theorem d_M_reach_41 : decode mi_M_reach.2.1 41 = .ok (.iload_n 1, 1) := by decide +kernel
theorem d_M_reach_42 : decode mi_M_reach.2.1 42 = .ok (.if_icmp .ge 99, 3) := by decide +kernel
theorem d_M_reach_45 : decode mi_M_reach.2.1 45 = .ok (.aload_n 0, 1) := by decide +kernel
theorem d_M_reach_46 : decode mi_M_reach.2.1 46 = .ok (.getfield 32, 3) := by decide +kernel
theorem d_M_reach_49 : decode mi_M_reach.2.1 49 = .ok (.aload_n 0, 1) := by decide +kernel
theorem d_M_reach_50 : decode mi_M_reach.2.1 50 = .ok (.getfield 42, 3) := by decide +kernel
theorem d_M_reach_53 : decode mi_M_reach.2.1 53 = .ok (.iload_n 2, 1) := by decide +kernel
theorem d_M_reach_54 : decode mi_M_reach.2.1 54 = .ok (.iaload, 1) := by decide +kernel
theorem d_M_reach_55 : decode mi_M_reach.2.1 55 = .ok (.iaload, 1) := by decide +kernel
theorem d_M_reach_56 : decode mi_M_reach.2.1 56 = .ok (.istore_n 3, 1) := by decide +kernel
theorem d_M_reach_57 : decode mi_M_reach.2.1 57 = .ok (.iload_n 3, 1) := by decide +kernel
theorem d_M_reach_58 : decode mi_M_reach.2.1 58 = .ok (.bipush (-9), 2) := by decide +kernel
theorem d_M_reach_60 : decode mi_M_reach.2.1 60 = .ok (.if_icmp .eq 75, 3) := by decide +kernel
theorem d_M_reach_63 : decode mi_M_reach.2.1 63 = .ok (.aload_n 0, 1) := by decide +kernel
theorem d_M_reach_64 : decode mi_M_reach.2.1 64 = .ok (.getfield 29, 3) := by decide +kernel
theorem d_M_reach_67 : decode mi_M_reach.2.1 67 = .ok (.iload_n 3, 1) := by decide +kernel
theorem d_M_reach_68 : decode mi_M_reach.2.1 68 = .ok (.iaload, 1) := by decide +kernel
theorem d_M_reach_69 : decode mi_M_reach.2.1 69 = .ok (.ifCond .le 56, 3) := by decide +kernel
theorem d_M_reach_72 : decode mi_M_reach.2.1 72 = .ok (.aload_n 0, 1) := by decide +kernel
theorem d_M_reach_73 : decode mi_M_reach.2.1 73 = .ok (.getfield 48, 3) := by decide +kernel
theorem d_M_reach_76 : decode mi_M_reach.2.1 76 = .ok (.aload_n 0, 1) := by decide +kernel
theorem d_M_reach_77 : decode mi_M_reach.2.1 77 = .ok (.getfield 26, 3) := by decide +kernel
theorem d_M_reach_80 : decode mi_M_reach.2.1 80 = .ok (.iload_n 3, 1) := by decide +kernel
theorem d_M_reach_81 : decode mi_M_reach.2.1 81 = .ok (.iaload, 1) := by decide +kernel
theorem d_M_reach_82 : decode mi_M_reach.2.1 82 = .ok (.baload, 1) := by decide +kernel
theorem d_M_reach_83 : decode mi_M_reach.2.1 83 = .ok (.ifCond .ne 42, 3) := by decide +kernel
theorem d_M_reach_86 : decode mi_M_reach.2.1 86 = .ok (.aload_n 0, 1) := by decide +kernel
theorem d_M_reach_87 : decode mi_M_reach.2.1 87 = .ok (.getfield 48, 3) := by decide +kernel
theorem d_M_reach_90 : decode mi_M_reach.2.1 90 = .ok (.aload_n 0, 1) := by decide +kernel
theorem d_M_reach_91 : decode mi_M_reach.2.1 91 = .ok (.getfield 26, 3) := by decide +kernel
theorem d_M_reach_94 : decode mi_M_reach.2.1 94 = .ok (.iload_n 3, 1) := by decide +kernel
theorem d_M_reach_95 : decode mi_M_reach.2.1 95 = .ok (.iaload, 1) := by decide +kernel
theorem d_M_reach_96 : decode mi_M_reach.2.1 96 = .ok (.iconst 1, 1) := by decide +kernel
theorem d_M_reach_97 : decode mi_M_reach.2.1 97 = .ok (.bastore, 1) := by decide +kernel
theorem d_M_reach_98 : decode mi_M_reach.2.1 98 = .ok (.aload_n 0, 1) := by decide +kernel
theorem d_M_reach_99 : decode mi_M_reach.2.1 99 = .ok (.getfield 45, 3) := by decide +kernel
theorem d_M_reach_102 : decode mi_M_reach.2.1 102 = .ok (.aload_n 0, 1) := by decide +kernel
theorem d_M_reach_103 : decode mi_M_reach.2.1 103 = .ok (.getfield 26, 3) := by decide +kernel
theorem d_M_reach_106 : decode mi_M_reach.2.1 106 = .ok (.iload_n 3, 1) := by decide +kernel
theorem d_M_reach_107 : decode mi_M_reach.2.1 107 = .ok (.iaload, 1) := by decide +kernel
theorem d_M_reach_108 : decode mi_M_reach.2.1 108 = .ok (.iload_n 3, 1) := by decide +kernel
theorem d_M_reach_109 : decode mi_M_reach.2.1 109 = .ok (.iastore, 1) := by decide +kernel
theorem d_M_reach_110 : decode mi_M_reach.2.1 110 = .ok (.aload_n 0, 1) := by decide +kernel
theorem d_M_reach_111 : decode mi_M_reach.2.1 111 = .ok (.getfield 42, 3) := by decide +kernel
theorem d_M_reach_114 : decode mi_M_reach.2.1 114 = .ok (.iload_n 1, 1) := by decide +kernel
theorem d_M_reach_115 : decode mi_M_reach.2.1 115 = .ok (.aload_n 0, 1) := by decide +kernel
theorem d_M_reach_116 : decode mi_M_reach.2.1 116 = .ok (.getfield 26, 3) := by decide +kernel
theorem d_M_reach_119 : decode mi_M_reach.2.1 119 = .ok (.iload_n 3, 1) := by decide +kernel
theorem d_M_reach_120 : decode mi_M_reach.2.1 120 = .ok (.iaload, 1) := by decide +kernel
theorem d_M_reach_121 : decode mi_M_reach.2.1 121 = .ok (.iastore, 1) := by decide +kernel
theorem d_M_reach_122 : decode mi_M_reach.2.1 122 = .ok (.iinc 1 1, 3) := by decide +kernel
theorem d_M_reach_125 : decode mi_M_reach.2.1 125 = .ok (.aload_n 0, 1) := by decide +kernel
theorem d_M_reach_126 : decode mi_M_reach.2.1 126 = .ok (.getfield 35, 3) := by decide +kernel
theorem d_M_reach_129 : decode mi_M_reach.2.1 129 = .ok (.iload_n 3, 1) := by decide +kernel
theorem d_M_reach_130 : decode mi_M_reach.2.1 130 = .ok (.iaload, 1) := by decide +kernel
theorem d_M_reach_131 : decode mi_M_reach.2.1 131 = .ok (.istore_n 3, 1) := by decide +kernel
theorem d_M_reach_132 : decode mi_M_reach.2.1 132 = .ok (.goto (-75), 3) := by decide +kernel
theorem d_M_reach_135 : decode mi_M_reach.2.1 135 = .ok (.iinc 2 1, 3) := by decide +kernel
theorem d_M_reach_138 : decode mi_M_reach.2.1 138 = .ok (.goto (-98), 3) := by decide +kernel
theorem d_M_reach_141 : decode mi_M_reach.2.1 141 = .ok (.return_, 1) := by decide +kernel
theorem d_M_augment_0 : decode mi_M_augment.2.1 0 = .ok (.aload_n 0, 1) := by decide +kernel
theorem d_M_augment_1 : decode mi_M_augment.2.1 1 = .ok (.invokevirtual 127, 3) := by decide +kernel
theorem d_M_augment_4 : decode mi_M_augment.2.1 4 = .ok (.aload_n 0, 1) := by decide +kernel
theorem d_M_augment_5 : decode mi_M_augment.2.1 5 = .ok (.getfield 48, 3) := by decide +kernel
theorem d_M_augment_8 : decode mi_M_augment.2.1 8 = .ok (.iconst 1, 1) := by decide +kernel
theorem d_M_augment_9 : decode mi_M_augment.2.1 9 = .ok (.baload, 1) := by decide +kernel
theorem d_M_augment_10 : decode mi_M_augment.2.1 10 = .ok (.ifCond .ne 5, 3) := by decide +kernel
theorem d_M_augment_13 : decode mi_M_augment.2.1 13 = .ok (.iconst 0, 1) := by decide +kernel
theorem d_M_augment_14 : decode mi_M_augment.2.1 14 = .ok (.ireturn, 1) := by decide +kernel
theorem d_M_augment_15 : decode mi_M_augment.2.1 15 = .ok (.ldc 122, 2) := by decide +kernel
theorem d_M_augment_17 : decode mi_M_augment.2.1 17 = .ok (.istore_n 1, 1) := by decide +kernel
theorem d_M_augment_18 : decode mi_M_augment.2.1 18 = .ok (.iconst 1, 1) := by decide +kernel
theorem d_M_augment_19 : decode mi_M_augment.2.1 19 = .ok (.istore_n 2, 1) := by decide +kernel
theorem d_M_augment_20 : decode mi_M_augment.2.1 20 = .ok (.iload_n 2, 1) := by decide +kernel
theorem d_M_augment_21 : decode mi_M_augment.2.1 21 = .ok (.ifCond .eq 49, 3) := by decide +kernel
theorem d_M_augment_24 : decode mi_M_augment.2.1 24 = .ok (.aload_n 0, 1) := by decide +kernel
theorem d_M_augment_25 : decode mi_M_augment.2.1 25 = .ok (.getfield 29, 3) := by decide +kernel
theorem d_M_augment_28 : decode mi_M_augment.2.1 28 = .ok (.aload_n 0, 1) := by decide +kernel
theorem d_M_augment_29 : decode mi_M_augment.2.1 29 = .ok (.getfield 45, 3) := by decide +kernel
theorem d_M_augment_32 : decode mi_M_augment.2.1 32 = .ok (.iload_n 2, 1) := by decide +kernel
theorem d_M_augment_33 : decode mi_M_augment.2.1 33 = .ok (.iaload, 1) := by decide +kernel
theorem d_M_augment_34 : decode mi_M_augment.2.1 34 = .ok (.iaload, 1) := by decide +kernel
theorem d_M_augment_35 : decode mi_M_augment.2.1 35 = .ok (.iload_n 1, 1) := by decide +kernel
theorem d_M_augment_36 : decode mi_M_augment.2.1 36 = .ok (.if_icmp .ge 17, 3) := by decide +kernel
theorem d_M_augment_39 : decode mi_M_augment.2.1 39 = .ok (.aload_n 0, 1) := by decide +kernel
theorem d_M_augment_40 : decode mi_M_augment.2.1 40 = .ok (.getfield 29, 3) := by decide +kernel
theorem d_M_augment_43 : decode mi_M_augment.2.1 43 = .ok (.aload_n 0, 1) := by decide +kernel
theorem d_M_augment_44 : decode mi_M_augment.2.1 44 = .ok (.getfield 45, 3) := by decide +kernel
theorem d_M_augment_47 : decode mi_M_augment.2.1 47 = .ok (.iload_n 2, 1) := by decide +kernel
theorem d_M_augment_48 : decode mi_M_augment.2.1 48 = .ok (.iaload, 1) := by decide +kernel
theorem d_M_augment_49 : decode mi_M_augment.2.1 49 = .ok (.iaload, 1) := by decide +kernel
theorem d_M_augment_50 : decode mi_M_augment.2.1 50 = .ok (.goto 4, 3) := by decide +kernel
theorem d_M_augment_53 : decode mi_M_augment.2.1 53 = .ok (.iload_n 1, 1) := by decide +kernel
theorem d_M_augment_54 : decode mi_M_augment.2.1 54 = .ok (.istore_n 1, 1) := by decide +kernel
theorem d_M_augment_55 : decode mi_M_augment.2.1 55 = .ok (.aload_n 0, 1) := by decide +kernel
theorem d_M_augment_56 : decode mi_M_augment.2.1 56 = .ok (.getfield 23, 3) := by decide +kernel
theorem d_M_augment_59 : decode mi_M_augment.2.1 59 = .ok (.aload_n 0, 1) := by decide +kernel
theorem d_M_augment_60 : decode mi_M_augment.2.1 60 = .ok (.getfield 45, 3) := by decide +kernel
theorem d_M_augment_63 : decode mi_M_augment.2.1 63 = .ok (.iload_n 2, 1) := by decide +kernel
theorem d_M_augment_64 : decode mi_M_augment.2.1 64 = .ok (.iaload, 1) := by decide +kernel
theorem d_M_augment_65 : decode mi_M_augment.2.1 65 = .ok (.iaload, 1) := by decide +kernel
theorem d_M_augment_66 : decode mi_M_augment.2.1 66 = .ok (.istore_n 2, 1) := by decide +kernel
theorem d_M_augment_67 : decode mi_M_augment.2.1 67 = .ok (.goto (-47), 3) := by decide +kernel
theorem d_M_augment_70 : decode mi_M_augment.2.1 70 = .ok (.iconst 1, 1) := by decide +kernel
theorem d_M_augment_71 : decode mi_M_augment.2.1 71 = .ok (.istore_n 2, 1) := by decide +kernel
theorem d_M_augment_72 : decode mi_M_augment.2.1 72 = .ok (.iload_n 2, 1) := by decide +kernel
theorem d_M_augment_73 : decode mi_M_augment.2.1 73 = .ok (.ifCond .eq 74, 3) := by decide +kernel
theorem d_M_augment_76 : decode mi_M_augment.2.1 76 = .ok (.aload_n 0, 1) := by decide +kernel
theorem d_M_augment_77 : decode mi_M_augment.2.1 77 = .ok (.getfield 29, 3) := by decide +kernel
theorem d_M_augment_80 : decode mi_M_augment.2.1 80 = .ok (.aload_n 0, 1) := by decide +kernel
theorem d_M_augment_81 : decode mi_M_augment.2.1 81 = .ok (.getfield 45, 3) := by decide +kernel
theorem d_M_augment_84 : decode mi_M_augment.2.1 84 = .ok (.iload_n 2, 1) := by decide +kernel
theorem d_M_augment_85 : decode mi_M_augment.2.1 85 = .ok (.iaload, 1) := by decide +kernel
theorem d_M_augment_86 : decode mi_M_augment.2.1 86 = .ok (.dup2, 1) := by decide +kernel
theorem d_M_augment_87 : decode mi_M_augment.2.1 87 = .ok (.iaload, 1) := by decide +kernel
theorem d_M_augment_88 : decode mi_M_augment.2.1 88 = .ok (.iload_n 1, 1) := by decide +kernel
theorem d_M_augment_89 : decode mi_M_augment.2.1 89 = .ok (.isub, 1) := by decide +kernel
theorem d_M_augment_90 : decode mi_M_augment.2.1 90 = .ok (.iastore, 1) := by decide +kernel
theorem d_M_augment_91 : decode mi_M_augment.2.1 91 = .ok (.aload_n 0, 1) := by decide +kernel
theorem d_M_augment_92 : decode mi_M_augment.2.1 92 = .ok (.getfield 45, 3) := by decide +kernel
theorem d_M_augment_95 : decode mi_M_augment.2.1 95 = .ok (.iload_n 2, 1) := by decide +kernel
theorem d_M_augment_96 : decode mi_M_augment.2.1 96 = .ok (.iaload, 1) := by decide +kernel
theorem d_M_augment_97 : decode mi_M_augment.2.1 97 = .ok (.iconst 2, 1) := by decide +kernel
theorem d_M_augment_98 : decode mi_M_augment.2.1 98 = .ok (.irem, 1) := by decide +kernel
theorem d_M_augment_99 : decode mi_M_augment.2.1 99 = .ok (.ifCond .ne 14, 3) := by decide +kernel
theorem d_M_augment_102 : decode mi_M_augment.2.1 102 = .ok (.aload_n 0, 1) := by decide +kernel
theorem d_M_augment_103 : decode mi_M_augment.2.1 103 = .ok (.getfield 45, 3) := by decide +kernel
theorem d_M_augment_106 : decode mi_M_augment.2.1 106 = .ok (.iload_n 2, 1) := by decide +kernel
theorem d_M_augment_107 : decode mi_M_augment.2.1 107 = .ok (.iaload, 1) := by decide +kernel
theorem d_M_augment_108 : decode mi_M_augment.2.1 108 = .ok (.iconst 1, 1) := by decide +kernel
theorem d_M_augment_109 : decode mi_M_augment.2.1 109 = .ok (.iadd, 1) := by decide +kernel
theorem d_M_augment_110 : decode mi_M_augment.2.1 110 = .ok (.goto 11, 3) := by decide +kernel
theorem d_M_augment_113 : decode mi_M_augment.2.1 113 = .ok (.aload_n 0, 1) := by decide +kernel
theorem d_M_augment_114 : decode mi_M_augment.2.1 114 = .ok (.getfield 45, 3) := by decide +kernel
theorem d_M_augment_117 : decode mi_M_augment.2.1 117 = .ok (.iload_n 2, 1) := by decide +kernel
theorem d_M_augment_118 : decode mi_M_augment.2.1 118 = .ok (.iaload, 1) := by decide +kernel
theorem d_M_augment_119 : decode mi_M_augment.2.1 119 = .ok (.iconst 1, 1) := by decide +kernel
theorem d_M_augment_120 : decode mi_M_augment.2.1 120 = .ok (.isub, 1) := by decide +kernel
theorem d_M_augment_121 : decode mi_M_augment.2.1 121 = .ok (.istore_n 3, 1) := by decide +kernel
theorem d_M_augment_122 : decode mi_M_augment.2.1 122 = .ok (.aload_n 0, 1) := by decide +kernel
theorem d_M_augment_123 : decode mi_M_augment.2.1 123 = .ok (.getfield 29, 3) := by decide +kernel
theorem d_M_augment_126 : decode mi_M_augment.2.1 126 = .ok (.iload_n 3, 1) := by decide +kernel
theorem d_M_augment_127 : decode mi_M_augment.2.1 127 = .ok (.dup2, 1) := by decide +kernel
theorem d_M_augment_128 : decode mi_M_augment.2.1 128 = .ok (.iaload, 1) := by decide +kernel
theorem d_M_augment_129 : decode mi_M_augment.2.1 129 = .ok (.iload_n 1, 1) := by decide +kernel
theorem d_M_augment_130 : decode mi_M_augment.2.1 130 = .ok (.iadd, 1) := by decide +kernel
theorem d_M_augment_131 : decode mi_M_augment.2.1 131 = .ok (.iastore, 1) := by decide +kernel
theorem d_M_augment_132 : decode mi_M_augment.2.1 132 = .ok (.aload_n 0, 1) := by decide +kernel
theorem d_M_augment_133 : decode mi_M_augment.2.1 133 = .ok (.getfield 23, 3) := by decide +kernel
theorem d_M_augment_136 : decode mi_M_augment.2.1 136 = .ok (.aload_n 0, 1) := by decide +kernel
theorem d_M_augment_137 : decode mi_M_augment.2.1 137 = .ok (.getfield 45, 3) := by decide +kernel
theorem d_M_augment_140 : decode mi_M_augment.2.1 140 = .ok (.iload_n 2, 1) := by decide +kernel
theorem d_M_augment_141 : decode mi_M_augment.2.1 141 = .ok (.iaload, 1) := by decide +kernel
theorem d_M_augment_142 : decode mi_M_augment.2.1 142 = .ok (.iaload, 1) := by decide +kernel
theorem d_M_augment_143 : decode mi_M_augment.2.1 143 = .ok (.istore_n 2, 1) := by decide +kernel
theorem d_M_augment_144 : decode mi_M_augment.2.1 144 = .ok (.goto (-72), 3) := by decide +kernel
theorem d_M_augment_147 : decode mi_M_augment.2.1 147 = .ok (.iload_n 1, 1) := by decide +kernel
theorem d_M_augment_148 : decode mi_M_augment.2.1 148 = .ok (.ireturn, 1) := by decide +kernel
theorem d_M_augmentAll_0 : decode mi_M_augmentAll.2.1 0 = .ok (.iconst 0, 1) := by decide +kernel
theorem d_M_augmentAll_1 : decode mi_M_augmentAll.2.1 1 = .ok (.istore_n 1, 1) := by decide +kernel
theorem d_M_augmentAll_2 : decode mi_M_augmentAll.2.1 2 = .ok (.aload_n 0, 1) := by decide +kernel
theorem d_M_augmentAll_3 : decode mi_M_augmentAll.2.1 3 = .ok (.invokevirtual 130, 3) := by decide +kernel
theorem d_M_augmentAll_6 : decode mi_M_augmentAll.2.1 6 = .ok (.istore_n 2, 1) := by decide +kernel
theorem d_M_augmentAll_7 : decode mi_M_augmentAll.2.1 7 = .ok (.iload_n 2, 1) := by decide +kernel
theorem d_M_augmentAll_8 : decode mi_M_augmentAll.2.1 8 = .ok (.ifCond .le 15, 3) := by decide +kernel
theorem d_M_augmentAll_11 : decode mi_M_augmentAll.2.1 11 = .ok (.iload_n 1, 1) := by decide +kernel
theorem d_M_augmentAll_12 : decode mi_M_augmentAll.2.1 12 = .ok (.iload_n 2, 1) := by decide +kernel
theorem d_M_augmentAll_13 : decode mi_M_augmentAll.2.1 13 = .ok (.iadd, 1) := by decide +kernel
theorem d_M_augmentAll_14 : decode mi_M_augmentAll.2.1 14 = .ok (.istore_n 1, 1) := by decide +kernel
theorem d_M_augmentAll_15 : decode mi_M_augmentAll.2.1 15 = .ok (.aload_n 0, 1) := by decide +kernel
theorem d_M_augmentAll_16 : decode mi_M_augmentAll.2.1 16 = .ok (.invokevirtual 130, 3) := by decide +kernel
theorem d_M_augmentAll_19 : decode mi_M_augmentAll.2.1 19 = .ok (.istore_n 2, 1) := by decide +kernel
theorem d_M_augmentAll_20 : decode mi_M_augmentAll.2.1 20 = .ok (.goto (-13), 3) := by decide +kernel
theorem d_M_augmentAll_23 : decode mi_M_augmentAll.2.1 23 = .ok (.iload_n 1, 1) := by decide +kernel
theorem d_M_augmentAll_24 : decode mi_M_augmentAll.2.1 24 = .ok (.ireturn, 1) := by decide +kernel
theorem d_M_openNone_0 : decode mi_M_openNone.2.1 0 = .ok (.iconst 0, 1) := by decide +kernel
theorem d_M_openNone_1 : decode mi_M_openNone.2.1 1 = .ok (.istore_n 1, 1) := by decide +kernel
theorem d_M_openNone_2 : decode mi_M_openNone.2.1 2 = .ok (.iload_n 1, 1) := by decide +kernel
theorem d_M_openNone_3 : decode mi_M_openNone.2.1 3 = .ok (.bipush 36, 2) := by decide +kernel
theorem d_M_openNone_5 : decode mi_M_openNone.2.1 5 = .ok (.if_icmp .ge 31, 3) := by decide +kernel
theorem d_M_openNone_8 : decode mi_M_openNone.2.1 8 = .ok (.aload_n 0, 1) := by decide +kernel
theorem d_M_openNone_9 : decode mi_M_openNone.2.1 9 = .ok (.getfield 38, 3) := by decide +kernel
theorem d_M_openNone_12 : decode mi_M_openNone.2.1 12 = .ok (.iload_n 1, 1) := by decide +kernel
theorem d_M_openNone_13 : decode mi_M_openNone.2.1 13 = .ok (.aload_n 0, 1) := by decide +kernel
theorem d_M_openNone_14 : decode mi_M_openNone.2.1 14 = .ok (.getfield 7, 3) := by decide +kernel
theorem d_M_openNone_17 : decode mi_M_openNone.2.1 17 = .ok (.iconst 4, 1) := by decide +kernel
theorem d_M_openNone_18 : decode mi_M_openNone.2.1 18 = .ok (.iload_n 1, 1) := by decide +kernel
theorem d_M_openNone_19 : decode mi_M_openNone.2.1 19 = .ok (.iadd, 1) := by decide +kernel
theorem d_M_openNone_20 : decode mi_M_openNone.2.1 20 = .ok (.iaload, 1) := by decide +kernel
theorem d_M_openNone_21 : decode mi_M_openNone.2.1 21 = .ok (.ifCond .ne 7, 3) := by decide +kernel
theorem d_M_openNone_24 : decode mi_M_openNone.2.1 24 = .ok (.iconst 1, 1) := by decide +kernel
theorem d_M_openNone_25 : decode mi_M_openNone.2.1 25 = .ok (.goto 4, 3) := by decide +kernel
theorem d_M_openNone_28 : decode mi_M_openNone.2.1 28 = .ok (.iconst 0, 1) := by decide +kernel
theorem d_M_openNone_29 : decode mi_M_openNone.2.1 29 = .ok (.bastore, 1) := by decide +kernel
theorem d_M_openNone_30 : decode mi_M_openNone.2.1 30 = .ok (.iinc 1 1, 3) := by decide +kernel
theorem d_M_openNone_33 : decode mi_M_openNone.2.1 33 = .ok (.goto (-31), 3) := by decide +kernel
theorem d_M_openNone_36 : decode mi_M_openNone.2.1 36 = .ok (.return_, 1) := by decide +kernel
theorem d_M_escape_0 : decode mi_M_escape.2.1 0 = .ok (.aload_n 0, 1) := by decide +kernel
theorem d_M_escape_1 : decode mi_M_escape.2.1 1 = .ok (.invokevirtual 133, 3) := by decide +kernel
theorem d_M_escape_4 : decode mi_M_escape.2.1 4 = .ok (.aload_n 0, 1) := by decide +kernel
theorem d_M_escape_5 : decode mi_M_escape.2.1 5 = .ok (.invokevirtual 136, 3) := by decide +kernel
theorem d_M_escape_8 : decode mi_M_escape.2.1 8 = .ok (.iconst 0, 1) := by decide +kernel
theorem d_M_escape_9 : decode mi_M_escape.2.1 9 = .ok (.istore_n 1, 1) := by decide +kernel
theorem d_M_escape_10 : decode mi_M_escape.2.1 10 = .ok (.iload_n 1, 1) := by decide +kernel
theorem d_M_escape_11 : decode mi_M_escape.2.1 11 = .ok (.bipush 36, 2) := by decide +kernel
theorem d_M_escape_13 : decode mi_M_escape.2.1 13 = .ok (.if_icmp .ge 28, 3) := by decide +kernel
theorem d_M_escape_16 : decode mi_M_escape.2.1 16 = .ok (.aload_n 0, 1) := by decide +kernel
theorem d_M_escape_17 : decode mi_M_escape.2.1 17 = .ok (.getfield 7, 3) := by decide +kernel
theorem d_M_escape_20 : decode mi_M_escape.2.1 20 = .ok (.bipush 76, 2) := by decide +kernel
theorem d_M_escape_22 : decode mi_M_escape.2.1 22 = .ok (.iload_n 1, 1) := by decide +kernel
theorem d_M_escape_23 : decode mi_M_escape.2.1 23 = .ok (.iadd, 1) := by decide +kernel
theorem d_M_escape_24 : decode mi_M_escape.2.1 24 = .ok (.iaload, 1) := by decide +kernel
theorem d_M_escape_25 : decode mi_M_escape.2.1 25 = .ok (.iconst 1, 1) := by decide +kernel
theorem d_M_escape_26 : decode mi_M_escape.2.1 26 = .ok (.if_icmp .ne 9, 3) := by decide +kernel
theorem d_M_escape_29 : decode mi_M_escape.2.1 29 = .ok (.aload_n 0, 1) := by decide +kernel
theorem d_M_escape_30 : decode mi_M_escape.2.1 30 = .ok (.iload_n 1, 1) := by decide +kernel
theorem d_M_escape_31 : decode mi_M_escape.2.1 31 = .ok (.iconst 1, 1) := by decide +kernel
theorem d_M_escape_32 : decode mi_M_escape.2.1 32 = .ok (.invokevirtual 139, 3) := by decide +kernel
theorem d_M_escape_35 : decode mi_M_escape.2.1 35 = .ok (.iinc 1 1, 3) := by decide +kernel
theorem d_M_escape_38 : decode mi_M_escape.2.1 38 = .ok (.goto (-28), 3) := by decide +kernel
theorem d_M_escape_41 : decode mi_M_escape.2.1 41 = .ok (.aload_n 0, 1) := by decide +kernel
theorem d_M_escape_42 : decode mi_M_escape.2.1 42 = .ok (.invokevirtual 143, 3) := by decide +kernel
theorem d_M_escape_45 : decode mi_M_escape.2.1 45 = .ok (.ireturn, 1) := by decide +kernel
theorem d_M_escapeCount_0 : decode mi_M_escapeCount.2.1 0 = .ok (.aload_n 0, 1) := by decide +kernel
theorem d_M_escapeCount_1 : decode mi_M_escapeCount.2.1 1 = .ok (.invokevirtual 146, 3) := by decide +kernel
theorem d_M_escapeCount_4 : decode mi_M_escapeCount.2.1 4 = .ok (.ireturn, 1) := by decide +kernel
theorem d_M_tileSide_0 : decode mi_M_tileSide.2.1 0 = .ok (.iload_n 1, 1) := by decide +kernel
theorem d_M_tileSide_1 : decode mi_M_tileSide.2.1 1 = .ok (.iconst 0, 1) := by decide +kernel
theorem d_M_tileSide_2 : decode mi_M_tileSide.2.1 2 = .ok (.aload_n 0, 1) := by decide +kernel
theorem d_M_tileSide_3 : decode mi_M_tileSide.2.1 3 = .ok (.getfield 7, 3) := by decide +kernel
theorem d_M_tileSide_6 : decode mi_M_tileSide.2.1 6 = .ok (.iconst 0, 1) := by decide +kernel
theorem d_M_tileSide_7 : decode mi_M_tileSide.2.1 7 = .ok (.iaload, 1) := by decide +kernel
theorem d_M_tileSide_8 : decode mi_M_tileSide.2.1 8 = .ok (.invokestatic 64, 3) := by decide +kernel
theorem d_M_tileSide_11 : decode mi_M_tileSide.2.1 11 = .ok (.ifCond .eq 17, 3) := by decide +kernel
theorem d_M_tileSide_14 : decode mi_M_tileSide.2.1 14 = .ok (.iload_n 2, 1) := by decide +kernel
theorem d_M_tileSide_15 : decode mi_M_tileSide.2.1 15 = .ok (.iconst 0, 1) := by decide +kernel
theorem d_M_tileSide_16 : decode mi_M_tileSide.2.1 16 = .ok (.aload_n 0, 1) := by decide +kernel
theorem d_M_tileSide_17 : decode mi_M_tileSide.2.1 17 = .ok (.getfield 7, 3) := by decide +kernel
theorem d_M_tileSide_20 : decode mi_M_tileSide.2.1 20 = .ok (.iconst 1, 1) := by decide +kernel
theorem d_M_tileSide_21 : decode mi_M_tileSide.2.1 21 = .ok (.iaload, 1) := by decide +kernel
theorem d_M_tileSide_22 : decode mi_M_tileSide.2.1 22 = .ok (.invokestatic 64, 3) := by decide +kernel
theorem d_M_tileSide_25 : decode mi_M_tileSide.2.1 25 = .ok (.ifCond .ne 5, 3) := by decide +kernel
theorem d_M_tileSide_28 : decode mi_M_tileSide.2.1 28 = .ok (.iconst (-1), 1) := by decide +kernel
theorem d_M_tileSide_29 : decode mi_M_tileSide.2.1 29 = .ok (.ireturn, 1) := by decide +kernel
theorem d_M_tileSide_30 : decode mi_M_tileSide.2.1 30 = .ok (.aload_n 0, 1) := by decide +kernel
theorem d_M_tileSide_31 : decode mi_M_tileSide.2.1 31 = .ok (.invokevirtual 146, 3) := by decide +kernel
theorem d_M_tileSide_34 : decode mi_M_tileSide.2.1 34 = .ok (.pop, 1) := by decide +kernel
theorem d_M_tileSide_35 : decode mi_M_tileSide.2.1 35 = .ok (.iload_n 1, 1) := by decide +kernel
theorem d_M_tileSide_36 : decode mi_M_tileSide.2.1 36 = .ok (.iload_n 2, 1) := by decide +kernel
theorem d_M_tileSide_37 : decode mi_M_tileSide.2.1 37 = .ok (.invokestatic 115, 3) := by decide +kernel
theorem d_M_tileSide_40 : decode mi_M_tileSide.2.1 40 = .ok (.istore_n 3, 1) := by decide +kernel
theorem d_M_tileSide_41 : decode mi_M_tileSide.2.1 41 = .ok (.aload_n 0, 1) := by decide +kernel
theorem d_M_tileSide_42 : decode mi_M_tileSide.2.1 42 = .ok (.getfield 48, 3) := by decide +kernel
theorem d_M_tileSide_45 : decode mi_M_tileSide.2.1 45 = .ok (.bipush 38, 2) := by decide +kernel
theorem d_M_tileSide_47 : decode mi_M_tileSide.2.1 47 = .ok (.iload_n 3, 1) := by decide +kernel
theorem d_M_tileSide_48 : decode mi_M_tileSide.2.1 48 = .ok (.iadd, 1) := by decide +kernel
theorem d_M_tileSide_49 : decode mi_M_tileSide.2.1 49 = .ok (.baload, 1) := by decide +kernel
theorem d_M_tileSide_50 : decode mi_M_tileSide.2.1 50 = .ok (.ifCond .ne 7, 3) := by decide +kernel
theorem d_M_tileSide_53 : decode mi_M_tileSide.2.1 53 = .ok (.iconst 2, 1) := by decide +kernel
theorem d_M_tileSide_54 : decode mi_M_tileSide.2.1 54 = .ok (.goto 20, 3) := by decide +kernel
theorem d_M_tileSide_57 : decode mi_M_tileSide.2.1 57 = .ok (.aload_n 0, 1) := by decide +kernel
theorem d_M_tileSide_58 : decode mi_M_tileSide.2.1 58 = .ok (.getfield 48, 3) := by decide +kernel
theorem d_M_tileSide_61 : decode mi_M_tileSide.2.1 61 = .ok (.bipush 87, 2) := by decide +kernel
theorem d_M_tileSide_63 : decode mi_M_tileSide.2.1 63 = .ok (.iload_n 3, 1) := by decide +kernel
theorem d_M_tileSide_64 : decode mi_M_tileSide.2.1 64 = .ok (.iadd, 1) := by decide +kernel
theorem d_M_tileSide_65 : decode mi_M_tileSide.2.1 65 = .ok (.baload, 1) := by decide +kernel
theorem d_M_tileSide_66 : decode mi_M_tileSide.2.1 66 = .ok (.ifCond .eq 7, 3) := by decide +kernel
theorem d_M_tileSide_69 : decode mi_M_tileSide.2.1 69 = .ok (.iconst 0, 1) := by decide +kernel
theorem d_M_tileSide_70 : decode mi_M_tileSide.2.1 70 = .ok (.goto 4, 3) := by decide +kernel
theorem d_M_tileSide_73 : decode mi_M_tileSide.2.1 73 = .ok (.iconst 1, 1) := by decide +kernel
theorem d_M_tileSide_74 : decode mi_M_tileSide.2.1 74 = .ok (.ireturn, 1) := by decide +kernel
theorem d_M_isCut_0 : decode mi_M_isCut.2.1 0 = .ok (.aload_n 0, 1) := by decide +kernel
theorem d_M_isCut_1 : decode mi_M_isCut.2.1 1 = .ok (.getfield 48, 3) := by decide +kernel
theorem d_M_isCut_4 : decode mi_M_isCut.2.1 4 = .ok (.bipush 87, 2) := by decide +kernel
theorem d_M_isCut_6 : decode mi_M_isCut.2.1 6 = .ok (.iload_n 1, 1) := by decide +kernel
theorem d_M_isCut_7 : decode mi_M_isCut.2.1 7 = .ok (.iadd, 1) := by decide +kernel
theorem d_M_isCut_8 : decode mi_M_isCut.2.1 8 = .ok (.baload, 1) := by decide +kernel
theorem d_M_isCut_9 : decode mi_M_isCut.2.1 9 = .ok (.ifCond .eq 15, 3) := by decide +kernel
theorem d_M_isCut_12 : decode mi_M_isCut.2.1 12 = .ok (.aload_n 0, 1) := by decide +kernel
theorem d_M_isCut_13 : decode mi_M_isCut.2.1 13 = .ok (.getfield 48, 3) := by decide +kernel
theorem d_M_isCut_16 : decode mi_M_isCut.2.1 16 = .ok (.bipush 38, 2) := by decide +kernel
theorem d_M_isCut_18 : decode mi_M_isCut.2.1 18 = .ok (.iload_n 2, 1) := by decide +kernel
theorem d_M_isCut_19 : decode mi_M_isCut.2.1 19 = .ok (.iadd, 1) := by decide +kernel
theorem d_M_isCut_20 : decode mi_M_isCut.2.1 20 = .ok (.baload, 1) := by decide +kernel
theorem d_M_isCut_21 : decode mi_M_isCut.2.1 21 = .ok (.ifCond .eq 27, 3) := by decide +kernel
theorem d_M_isCut_24 : decode mi_M_isCut.2.1 24 = .ok (.aload_n 0, 1) := by decide +kernel
theorem d_M_isCut_25 : decode mi_M_isCut.2.1 25 = .ok (.getfield 48, 3) := by decide +kernel
theorem d_M_isCut_28 : decode mi_M_isCut.2.1 28 = .ok (.bipush 87, 2) := by decide +kernel
theorem d_M_isCut_30 : decode mi_M_isCut.2.1 30 = .ok (.iload_n 2, 1) := by decide +kernel
theorem d_M_isCut_31 : decode mi_M_isCut.2.1 31 = .ok (.iadd, 1) := by decide +kernel
theorem d_M_isCut_32 : decode mi_M_isCut.2.1 32 = .ok (.baload, 1) := by decide +kernel
theorem d_M_isCut_33 : decode mi_M_isCut.2.1 33 = .ok (.ifCond .eq 19, 3) := by decide +kernel
theorem d_M_isCut_36 : decode mi_M_isCut.2.1 36 = .ok (.aload_n 0, 1) := by decide +kernel
theorem d_M_isCut_37 : decode mi_M_isCut.2.1 37 = .ok (.getfield 48, 3) := by decide +kernel
theorem d_M_isCut_40 : decode mi_M_isCut.2.1 40 = .ok (.bipush 38, 2) := by decide +kernel
theorem d_M_isCut_42 : decode mi_M_isCut.2.1 42 = .ok (.iload_n 1, 1) := by decide +kernel
theorem d_M_isCut_43 : decode mi_M_isCut.2.1 43 = .ok (.iadd, 1) := by decide +kernel
theorem d_M_isCut_44 : decode mi_M_isCut.2.1 44 = .ok (.baload, 1) := by decide +kernel
theorem d_M_isCut_45 : decode mi_M_isCut.2.1 45 = .ok (.ifCond .ne 7, 3) := by decide +kernel
theorem d_M_isCut_48 : decode mi_M_isCut.2.1 48 = .ok (.iconst 1, 1) := by decide +kernel
theorem d_M_isCut_49 : decode mi_M_isCut.2.1 49 = .ok (.goto 4, 3) := by decide +kernel
theorem d_M_isCut_52 : decode mi_M_isCut.2.1 52 = .ok (.iconst 0, 1) := by decide +kernel
theorem d_M_isCut_53 : decode mi_M_isCut.2.1 53 = .ok (.ireturn, 1) := by decide +kernel
theorem d_M_cutChannels_0 : decode mi_M_cutChannels.2.1 0 = .ok (.aload_n 0, 1) := by decide +kernel
theorem d_M_cutChannels_1 : decode mi_M_cutChannels.2.1 1 = .ok (.invokevirtual 146, 3) := by decide +kernel
theorem d_M_cutChannels_4 : decode mi_M_cutChannels.2.1 4 = .ok (.pop, 1) := by decide +kernel
theorem d_M_cutChannels_5 : decode mi_M_cutChannels.2.1 5 = .ok (.iconst 0, 1) := by decide +kernel
theorem d_M_cutChannels_6 : decode mi_M_cutChannels.2.1 6 = .ok (.istore_n 1, 1) := by decide +kernel
theorem d_M_cutChannels_7 : decode mi_M_cutChannels.2.1 7 = .ok (.iconst 0, 1) := by decide +kernel
theorem d_M_cutChannels_8 : decode mi_M_cutChannels.2.1 8 = .ok (.istore_n 2, 1) := by decide +kernel
theorem d_M_cutChannels_9 : decode mi_M_cutChannels.2.1 9 = .ok (.iload_n 2, 1) := by decide +kernel
theorem d_M_cutChannels_10 : decode mi_M_cutChannels.2.1 10 = .ok (.aload_n 0, 1) := by decide +kernel
theorem d_M_cutChannels_11 : decode mi_M_cutChannels.2.1 11 = .ok (.getfield 7, 3) := by decide +kernel
theorem d_M_cutChannels_14 : decode mi_M_cutChannels.2.1 14 = .ok (.iconst 0, 1) := by decide +kernel
theorem d_M_cutChannels_15 : decode mi_M_cutChannels.2.1 15 = .ok (.iaload, 1) := by decide +kernel
theorem d_M_cutChannels_16 : decode mi_M_cutChannels.2.1 16 = .ok (.if_icmp .ge 105, 3) := by decide +kernel
theorem d_M_cutChannels_19 : decode mi_M_cutChannels.2.1 19 = .ok (.iconst 0, 1) := by decide +kernel
theorem d_M_cutChannels_20 : decode mi_M_cutChannels.2.1 20 = .ok (.istore_n 3, 1) := by decide +kernel
theorem d_M_cutChannels_21 : decode mi_M_cutChannels.2.1 21 = .ok (.iload_n 3, 1) := by decide +kernel
theorem d_M_cutChannels_22 : decode mi_M_cutChannels.2.1 22 = .ok (.aload_n 0, 1) := by decide +kernel
theorem d_M_cutChannels_23 : decode mi_M_cutChannels.2.1 23 = .ok (.getfield 7, 3) := by decide +kernel
theorem d_M_cutChannels_26 : decode mi_M_cutChannels.2.1 26 = .ok (.iconst 1, 1) := by decide +kernel
theorem d_M_cutChannels_27 : decode mi_M_cutChannels.2.1 27 = .ok (.iaload, 1) := by decide +kernel
theorem d_M_cutChannels_28 : decode mi_M_cutChannels.2.1 28 = .ok (.if_icmp .ge 87, 3) := by decide +kernel
theorem d_M_cutChannels_31 : decode mi_M_cutChannels.2.1 31 = .ok (.iload_n 1, 1) := by decide +kernel
theorem d_M_cutChannels_32 : decode mi_M_cutChannels.2.1 32 = .ok (.iload_n 3, 1) := by decide +kernel
theorem d_M_cutChannels_33 : decode mi_M_cutChannels.2.1 33 = .ok (.iconst 1, 1) := by decide +kernel
theorem d_M_cutChannels_34 : decode mi_M_cutChannels.2.1 34 = .ok (.iadd, 1) := by decide +kernel
theorem d_M_cutChannels_35 : decode mi_M_cutChannels.2.1 35 = .ok (.aload_n 0, 1) := by decide +kernel
theorem d_M_cutChannels_36 : decode mi_M_cutChannels.2.1 36 = .ok (.getfield 7, 3) := by decide +kernel
theorem d_M_cutChannels_39 : decode mi_M_cutChannels.2.1 39 = .ok (.iconst 1, 1) := by decide +kernel
theorem d_M_cutChannels_40 : decode mi_M_cutChannels.2.1 40 = .ok (.iaload, 1) := by decide +kernel
theorem d_M_cutChannels_41 : decode mi_M_cutChannels.2.1 41 = .ok (.if_icmp .ge 26, 3) := by decide +kernel
theorem d_M_cutChannels_44 : decode mi_M_cutChannels.2.1 44 = .ok (.aload_n 0, 1) := by decide +kernel
theorem d_M_cutChannels_45 : decode mi_M_cutChannels.2.1 45 = .ok (.iload_n 2, 1) := by decide +kernel
theorem d_M_cutChannels_46 : decode mi_M_cutChannels.2.1 46 = .ok (.iload_n 3, 1) := by decide +kernel
theorem d_M_cutChannels_47 : decode mi_M_cutChannels.2.1 47 = .ok (.iconst 1, 1) := by decide +kernel
theorem d_M_cutChannels_48 : decode mi_M_cutChannels.2.1 48 = .ok (.iadd, 1) := by decide +kernel
theorem d_M_cutChannels_49 : decode mi_M_cutChannels.2.1 49 = .ok (.invokestatic 115, 3) := by decide +kernel
theorem d_M_cutChannels_52 : decode mi_M_cutChannels.2.1 52 = .ok (.iload_n 2, 1) := by decide +kernel
theorem d_M_cutChannels_53 : decode mi_M_cutChannels.2.1 53 = .ok (.iconst 1, 1) := by decide +kernel
theorem d_M_cutChannels_54 : decode mi_M_cutChannels.2.1 54 = .ok (.iadd, 1) := by decide +kernel
theorem d_M_cutChannels_55 : decode mi_M_cutChannels.2.1 55 = .ok (.iload_n 3, 1) := by decide +kernel
theorem d_M_cutChannels_56 : decode mi_M_cutChannels.2.1 56 = .ok (.iconst 1, 1) := by decide +kernel
theorem d_M_cutChannels_57 : decode mi_M_cutChannels.2.1 57 = .ok (.iadd, 1) := by decide +kernel
theorem d_M_cutChannels_58 : decode mi_M_cutChannels.2.1 58 = .ok (.invokestatic 115, 3) := by decide +kernel
theorem d_M_cutChannels_61 : decode mi_M_cutChannels.2.1 61 = .ok (.invokevirtual 149, 3) := by decide +kernel
theorem d_M_cutChannels_64 : decode mi_M_cutChannels.2.1 64 = .ok (.goto 4, 3) := by decide +kernel
theorem d_M_cutChannels_67 : decode mi_M_cutChannels.2.1 67 = .ok (.iconst 0, 1) := by decide +kernel
theorem d_M_cutChannels_68 : decode mi_M_cutChannels.2.1 68 = .ok (.iadd, 1) := by decide +kernel
theorem d_M_cutChannels_69 : decode mi_M_cutChannels.2.1 69 = .ok (.istore_n 1, 1) := by decide +kernel
theorem d_M_cutChannels_70 : decode mi_M_cutChannels.2.1 70 = .ok (.iload_n 1, 1) := by decide +kernel
theorem d_M_cutChannels_71 : decode mi_M_cutChannels.2.1 71 = .ok (.iload_n 2, 1) := by decide +kernel
theorem d_M_cutChannels_72 : decode mi_M_cutChannels.2.1 72 = .ok (.iconst 1, 1) := by decide +kernel
theorem d_M_cutChannels_73 : decode mi_M_cutChannels.2.1 73 = .ok (.iadd, 1) := by decide +kernel
theorem d_M_cutChannels_74 : decode mi_M_cutChannels.2.1 74 = .ok (.aload_n 0, 1) := by decide +kernel
theorem d_M_cutChannels_75 : decode mi_M_cutChannels.2.1 75 = .ok (.getfield 7, 3) := by decide +kernel
theorem d_M_cutChannels_78 : decode mi_M_cutChannels.2.1 78 = .ok (.iconst 0, 1) := by decide +kernel
theorem d_M_cutChannels_79 : decode mi_M_cutChannels.2.1 79 = .ok (.iaload, 1) := by decide +kernel
theorem d_M_cutChannels_80 : decode mi_M_cutChannels.2.1 80 = .ok (.if_icmp .ge 26, 3) := by decide +kernel
theorem d_M_cutChannels_83 : decode mi_M_cutChannels.2.1 83 = .ok (.aload_n 0, 1) := by decide +kernel
theorem d_M_cutChannels_84 : decode mi_M_cutChannels.2.1 84 = .ok (.iload_n 2, 1) := by decide +kernel
theorem d_M_cutChannels_85 : decode mi_M_cutChannels.2.1 85 = .ok (.iconst 1, 1) := by decide +kernel
theorem d_M_cutChannels_86 : decode mi_M_cutChannels.2.1 86 = .ok (.iadd, 1) := by decide +kernel
theorem d_M_cutChannels_87 : decode mi_M_cutChannels.2.1 87 = .ok (.iload_n 3, 1) := by decide +kernel
theorem d_M_cutChannels_88 : decode mi_M_cutChannels.2.1 88 = .ok (.invokestatic 115, 3) := by decide +kernel
theorem d_M_cutChannels_91 : decode mi_M_cutChannels.2.1 91 = .ok (.iload_n 2, 1) := by decide +kernel
theorem d_M_cutChannels_92 : decode mi_M_cutChannels.2.1 92 = .ok (.iconst 1, 1) := by decide +kernel
theorem d_M_cutChannels_93 : decode mi_M_cutChannels.2.1 93 = .ok (.iadd, 1) := by decide +kernel
theorem d_M_cutChannels_94 : decode mi_M_cutChannels.2.1 94 = .ok (.iload_n 3, 1) := by decide +kernel
theorem d_M_cutChannels_95 : decode mi_M_cutChannels.2.1 95 = .ok (.iconst 1, 1) := by decide +kernel
theorem d_M_cutChannels_96 : decode mi_M_cutChannels.2.1 96 = .ok (.iadd, 1) := by decide +kernel
theorem d_M_cutChannels_97 : decode mi_M_cutChannels.2.1 97 = .ok (.invokestatic 115, 3) := by decide +kernel
theorem d_M_cutChannels_100 : decode mi_M_cutChannels.2.1 100 = .ok (.invokevirtual 149, 3) := by decide +kernel
theorem d_M_cutChannels_103 : decode mi_M_cutChannels.2.1 103 = .ok (.goto 4, 3) := by decide +kernel
theorem d_M_cutChannels_106 : decode mi_M_cutChannels.2.1 106 = .ok (.iconst 0, 1) := by decide +kernel
theorem d_M_cutChannels_107 : decode mi_M_cutChannels.2.1 107 = .ok (.iadd, 1) := by decide +kernel
theorem d_M_cutChannels_108 : decode mi_M_cutChannels.2.1 108 = .ok (.istore_n 1, 1) := by decide +kernel
theorem d_M_cutChannels_109 : decode mi_M_cutChannels.2.1 109 = .ok (.iinc 3 1, 3) := by decide +kernel
theorem d_M_cutChannels_112 : decode mi_M_cutChannels.2.1 112 = .ok (.goto (-91), 3) := by decide +kernel
theorem d_M_cutChannels_115 : decode mi_M_cutChannels.2.1 115 = .ok (.iinc 2 1, 3) := by decide +kernel
theorem d_M_cutChannels_118 : decode mi_M_cutChannels.2.1 118 = .ok (.goto (-109), 3) := by decide +kernel
theorem d_M_cutChannels_121 : decode mi_M_cutChannels.2.1 121 = .ok (.iload_n 1, 1) := by decide +kernel
theorem d_M_cutChannels_122 : decode mi_M_cutChannels.2.1 122 = .ok (.ireturn, 1) := by decide +kernel
theorem d_M_ring_0 : decode mi_M_ring.2.1 0 = .ok (.iload_n 1, 1) := by decide +kernel
theorem d_M_ring_1 : decode mi_M_ring.2.1 1 = .ok (.bipush 6, 2) := by decide +kernel
theorem d_M_ring_3 : decode mi_M_ring.2.1 3 = .ok (.idiv, 1) := by decide +kernel
theorem d_M_ring_4 : decode mi_M_ring.2.1 4 = .ok (.istore_n 2, 1) := by decide +kernel
theorem d_M_ring_5 : decode mi_M_ring.2.1 5 = .ok (.iload_n 1, 1) := by decide +kernel
theorem d_M_ring_6 : decode mi_M_ring.2.1 6 = .ok (.bipush 6, 2) := by decide +kernel
theorem d_M_ring_8 : decode mi_M_ring.2.1 8 = .ok (.irem, 1) := by decide +kernel
theorem d_M_ring_9 : decode mi_M_ring.2.1 9 = .ok (.istore_n 3, 1) := by decide +kernel
theorem d_M_ring_10 : decode mi_M_ring.2.1 10 = .ok (.iload_n 2, 1) := by decide +kernel
theorem d_M_ring_11 : decode mi_M_ring.2.1 11 = .ok (.iload_n 3, 1) := by decide +kernel
theorem d_M_ring_12 : decode mi_M_ring.2.1 12 = .ok (.if_icmp .ge 7, 3) := by decide +kernel
theorem d_M_ring_15 : decode mi_M_ring.2.1 15 = .ok (.iload_n 2, 1) := by decide +kernel
theorem d_M_ring_16 : decode mi_M_ring.2.1 16 = .ok (.goto 4, 3) := by decide +kernel
theorem d_M_ring_19 : decode mi_M_ring.2.1 19 = .ok (.iload_n 3, 1) := by decide +kernel
theorem d_M_ring_20 : decode mi_M_ring.2.1 20 = .ok (.istore 4, 2) := by decide +kernel
theorem d_M_ring_22 : decode mi_M_ring.2.1 22 = .ok (.aload_n 0, 1) := by decide +kernel
theorem d_M_ring_23 : decode mi_M_ring.2.1 23 = .ok (.getfield 7, 3) := by decide +kernel
theorem d_M_ring_26 : decode mi_M_ring.2.1 26 = .ok (.iconst 0, 1) := by decide +kernel
theorem d_M_ring_27 : decode mi_M_ring.2.1 27 = .ok (.iaload, 1) := by decide +kernel
theorem d_M_ring_28 : decode mi_M_ring.2.1 28 = .ok (.iconst 1, 1) := by decide +kernel
theorem d_M_ring_29 : decode mi_M_ring.2.1 29 = .ok (.isub, 1) := by decide +kernel
theorem d_M_ring_30 : decode mi_M_ring.2.1 30 = .ok (.iload_n 2, 1) := by decide +kernel
theorem d_M_ring_31 : decode mi_M_ring.2.1 31 = .ok (.isub, 1) := by decide +kernel
theorem d_M_ring_32 : decode mi_M_ring.2.1 32 = .ok (.iload 4, 2) := by decide +kernel
theorem d_M_ring_34 : decode mi_M_ring.2.1 34 = .ok (.if_icmp .ge 16, 3) := by decide +kernel
theorem d_M_ring_37 : decode mi_M_ring.2.1 37 = .ok (.aload_n 0, 1) := by decide +kernel
theorem d_M_ring_38 : decode mi_M_ring.2.1 38 = .ok (.getfield 7, 3) := by decide +kernel
theorem d_M_ring_41 : decode mi_M_ring.2.1 41 = .ok (.iconst 0, 1) := by decide +kernel
theorem d_M_ring_42 : decode mi_M_ring.2.1 42 = .ok (.iaload, 1) := by decide +kernel
theorem d_M_ring_43 : decode mi_M_ring.2.1 43 = .ok (.iconst 1, 1) := by decide +kernel
theorem d_M_ring_44 : decode mi_M_ring.2.1 44 = .ok (.isub, 1) := by decide +kernel
theorem d_M_ring_45 : decode mi_M_ring.2.1 45 = .ok (.iload_n 2, 1) := by decide +kernel
theorem d_M_ring_46 : decode mi_M_ring.2.1 46 = .ok (.isub, 1) := by decide +kernel
theorem d_M_ring_47 : decode mi_M_ring.2.1 47 = .ok (.goto 5, 3) := by decide +kernel
theorem d_M_ring_50 : decode mi_M_ring.2.1 50 = .ok (.iload 4, 2) := by decide +kernel
theorem d_M_ring_52 : decode mi_M_ring.2.1 52 = .ok (.istore 4, 2) := by decide +kernel
theorem d_M_ring_54 : decode mi_M_ring.2.1 54 = .ok (.aload_n 0, 1) := by decide +kernel
theorem d_M_ring_55 : decode mi_M_ring.2.1 55 = .ok (.getfield 7, 3) := by decide +kernel
theorem d_M_ring_58 : decode mi_M_ring.2.1 58 = .ok (.iconst 1, 1) := by decide +kernel
theorem d_M_ring_59 : decode mi_M_ring.2.1 59 = .ok (.iaload, 1) := by decide +kernel
theorem d_M_ring_60 : decode mi_M_ring.2.1 60 = .ok (.iconst 1, 1) := by decide +kernel
theorem d_M_ring_61 : decode mi_M_ring.2.1 61 = .ok (.isub, 1) := by decide +kernel
theorem d_M_ring_62 : decode mi_M_ring.2.1 62 = .ok (.iload_n 3, 1) := by decide +kernel
theorem d_M_ring_63 : decode mi_M_ring.2.1 63 = .ok (.isub, 1) := by decide +kernel
theorem d_M_ring_64 : decode mi_M_ring.2.1 64 = .ok (.iload 4, 2) := by decide +kernel
theorem d_M_ring_66 : decode mi_M_ring.2.1 66 = .ok (.if_icmp .ge 16, 3) := by decide +kernel
theorem d_M_ring_69 : decode mi_M_ring.2.1 69 = .ok (.aload_n 0, 1) := by decide +kernel
theorem d_M_ring_70 : decode mi_M_ring.2.1 70 = .ok (.getfield 7, 3) := by decide +kernel
theorem d_M_ring_73 : decode mi_M_ring.2.1 73 = .ok (.iconst 1, 1) := by decide +kernel
theorem d_M_ring_74 : decode mi_M_ring.2.1 74 = .ok (.iaload, 1) := by decide +kernel
theorem d_M_ring_75 : decode mi_M_ring.2.1 75 = .ok (.iconst 1, 1) := by decide +kernel
theorem d_M_ring_76 : decode mi_M_ring.2.1 76 = .ok (.isub, 1) := by decide +kernel
theorem d_M_ring_77 : decode mi_M_ring.2.1 77 = .ok (.iload_n 3, 1) := by decide +kernel
theorem d_M_ring_78 : decode mi_M_ring.2.1 78 = .ok (.isub, 1) := by decide +kernel
theorem d_M_ring_79 : decode mi_M_ring.2.1 79 = .ok (.goto 5, 3) := by decide +kernel
theorem d_M_ring_82 : decode mi_M_ring.2.1 82 = .ok (.iload 4, 2) := by decide +kernel
theorem d_M_ring_84 : decode mi_M_ring.2.1 84 = .ok (.ireturn, 1) := by decide +kernel
theorem d_M_rank_0 : decode mi_M_rank.2.1 0 = .ok (.iload_n 1, 1) := by decide +kernel
theorem d_M_rank_1 : decode mi_M_rank.2.1 1 = .ok (.tableswitch 53 0 2 #[27, 29, 42], 27) := by decide +kernel
theorem d_M_rank_28 : decode mi_M_rank.2.1 28 = .ok (.iload_n 2, 1) := by decide +kernel
theorem d_M_rank_29 : decode mi_M_rank.2.1 29 = .ok (.ireturn, 1) := by decide +kernel
theorem d_M_rank_30 : decode mi_M_rank.2.1 30 = .ok (.bipush 6, 2) := by decide +kernel
theorem d_M_rank_32 : decode mi_M_rank.2.1 32 = .ok (.iload_n 2, 1) := by decide +kernel
theorem d_M_rank_33 : decode mi_M_rank.2.1 33 = .ok (.bipush 6, 2) := by decide +kernel
theorem d_M_rank_35 : decode mi_M_rank.2.1 35 = .ok (.irem, 1) := by decide +kernel
theorem d_M_rank_36 : decode mi_M_rank.2.1 36 = .ok (.imul, 1) := by decide +kernel
theorem d_M_rank_37 : decode mi_M_rank.2.1 37 = .ok (.iload_n 2, 1) := by decide +kernel
theorem d_M_rank_38 : decode mi_M_rank.2.1 38 = .ok (.bipush 6, 2) := by decide +kernel
theorem d_M_rank_40 : decode mi_M_rank.2.1 40 = .ok (.idiv, 1) := by decide +kernel
theorem d_M_rank_41 : decode mi_M_rank.2.1 41 = .ok (.iadd, 1) := by decide +kernel
theorem d_M_rank_42 : decode mi_M_rank.2.1 42 = .ok (.ireturn, 1) := by decide +kernel
theorem d_M_rank_43 : decode mi_M_rank.2.1 43 = .ok (.bipush 36, 2) := by decide +kernel
theorem d_M_rank_45 : decode mi_M_rank.2.1 45 = .ok (.aload_n 0, 1) := by decide +kernel
theorem d_M_rank_46 : decode mi_M_rank.2.1 46 = .ok (.iload_n 2, 1) := by decide +kernel
theorem d_M_rank_47 : decode mi_M_rank.2.1 47 = .ok (.invokevirtual 152, 3) := by decide +kernel
theorem d_M_rank_50 : decode mi_M_rank.2.1 50 = .ok (.imul, 1) := by decide +kernel
theorem d_M_rank_51 : decode mi_M_rank.2.1 51 = .ok (.iload_n 2, 1) := by decide +kernel
theorem d_M_rank_52 : decode mi_M_rank.2.1 52 = .ok (.iadd, 1) := by decide +kernel
theorem d_M_rank_53 : decode mi_M_rank.2.1 53 = .ok (.ireturn, 1) := by decide +kernel
theorem d_M_rank_54 : decode mi_M_rank.2.1 54 = .ok (.bipush 36, 2) := by decide +kernel
theorem d_M_rank_56 : decode mi_M_rank.2.1 56 = .ok (.iconst 5, 1) := by decide +kernel
theorem d_M_rank_57 : decode mi_M_rank.2.1 57 = .ok (.aload_n 0, 1) := by decide +kernel
theorem d_M_rank_58 : decode mi_M_rank.2.1 58 = .ok (.iload_n 2, 1) := by decide +kernel
theorem d_M_rank_59 : decode mi_M_rank.2.1 59 = .ok (.invokevirtual 152, 3) := by decide +kernel
theorem d_M_rank_62 : decode mi_M_rank.2.1 62 = .ok (.isub, 1) := by decide +kernel
theorem d_M_rank_63 : decode mi_M_rank.2.1 63 = .ok (.imul, 1) := by decide +kernel
theorem d_M_rank_64 : decode mi_M_rank.2.1 64 = .ok (.iload_n 2, 1) := by decide +kernel
theorem d_M_rank_65 : decode mi_M_rank.2.1 65 = .ok (.iadd, 1) := by decide +kernel
theorem d_M_rank_66 : decode mi_M_rank.2.1 66 = .ok (.ireturn, 1) := by decide +kernel
theorem d_M_sort_0 : decode mi_M_sort.2.1 0 = .ok (.aload_n 0, 1) := by decide +kernel
theorem d_M_sort_1 : decode mi_M_sort.2.1 1 = .ok (.iconst 0, 1) := by decide +kernel
theorem d_M_sort_2 : decode mi_M_sort.2.1 2 = .ok (.putfield 156, 3) := by decide +kernel
theorem d_M_sort_5 : decode mi_M_sort.2.1 5 = .ok (.iconst 0, 1) := by decide +kernel
theorem d_M_sort_6 : decode mi_M_sort.2.1 6 = .ok (.istore_n 2, 1) := by decide +kernel
theorem d_M_sort_7 : decode mi_M_sort.2.1 7 = .ok (.iload_n 2, 1) := by decide +kernel
theorem d_M_sort_8 : decode mi_M_sort.2.1 8 = .ok (.bipush 36, 2) := by decide +kernel
theorem d_M_sort_10 : decode mi_M_sort.2.1 10 = .ok (.if_icmp .ge 89, 3) := by decide +kernel
theorem d_M_sort_13 : decode mi_M_sort.2.1 13 = .ok (.aload_n 0, 1) := by decide +kernel
theorem d_M_sort_14 : decode mi_M_sort.2.1 14 = .ok (.getfield 7, 3) := by decide +kernel
theorem d_M_sort_17 : decode mi_M_sort.2.1 17 = .ok (.iconst 4, 1) := by decide +kernel
theorem d_M_sort_18 : decode mi_M_sort.2.1 18 = .ok (.iload_n 2, 1) := by decide +kernel
theorem d_M_sort_19 : decode mi_M_sort.2.1 19 = .ok (.iadd, 1) := by decide +kernel
theorem d_M_sort_20 : decode mi_M_sort.2.1 20 = .ok (.iaload, 1) := by decide +kernel
theorem d_M_sort_21 : decode mi_M_sort.2.1 21 = .ok (.iconst 1, 1) := by decide +kernel
theorem d_M_sort_22 : decode mi_M_sort.2.1 22 = .ok (.if_icmp .ne 71, 3) := by decide +kernel
theorem d_M_sort_25 : decode mi_M_sort.2.1 25 = .ok (.aload_n 0, 1) := by decide +kernel
theorem d_M_sort_26 : decode mi_M_sort.2.1 26 = .ok (.getfield 156, 3) := by decide +kernel
theorem d_M_sort_29 : decode mi_M_sort.2.1 29 = .ok (.istore_n 3, 1) := by decide +kernel
theorem d_M_sort_30 : decode mi_M_sort.2.1 30 = .ok (.iload_n 3, 1) := by decide +kernel
theorem d_M_sort_31 : decode mi_M_sort.2.1 31 = .ok (.ifCond .le 45, 3) := by decide +kernel
theorem d_M_sort_34 : decode mi_M_sort.2.1 34 = .ok (.aload_n 0, 1) := by decide +kernel
theorem d_M_sort_35 : decode mi_M_sort.2.1 35 = .ok (.iload_n 1, 1) := by decide +kernel
theorem d_M_sort_36 : decode mi_M_sort.2.1 36 = .ok (.aload_n 0, 1) := by decide +kernel
theorem d_M_sort_37 : decode mi_M_sort.2.1 37 = .ok (.getfield 54, 3) := by decide +kernel
theorem d_M_sort_40 : decode mi_M_sort.2.1 40 = .ok (.iload_n 3, 1) := by decide +kernel
theorem d_M_sort_41 : decode mi_M_sort.2.1 41 = .ok (.iconst 1, 1) := by decide +kernel
theorem d_M_sort_42 : decode mi_M_sort.2.1 42 = .ok (.isub, 1) := by decide +kernel
theorem d_M_sort_43 : decode mi_M_sort.2.1 43 = .ok (.iaload, 1) := by decide +kernel
theorem d_M_sort_44 : decode mi_M_sort.2.1 44 = .ok (.invokevirtual 159, 3) := by decide +kernel
theorem d_M_sort_47 : decode mi_M_sort.2.1 47 = .ok (.aload_n 0, 1) := by decide +kernel
theorem d_M_sort_48 : decode mi_M_sort.2.1 48 = .ok (.iload_n 1, 1) := by decide +kernel
theorem d_M_sort_49 : decode mi_M_sort.2.1 49 = .ok (.iload_n 2, 1) := by decide +kernel
theorem d_M_sort_50 : decode mi_M_sort.2.1 50 = .ok (.invokevirtual 159, 3) := by decide +kernel
theorem d_M_sort_53 : decode mi_M_sort.2.1 53 = .ok (.if_icmp .le 23, 3) := by decide +kernel
theorem d_M_sort_56 : decode mi_M_sort.2.1 56 = .ok (.aload_n 0, 1) := by decide +kernel
theorem d_M_sort_57 : decode mi_M_sort.2.1 57 = .ok (.getfield 54, 3) := by decide +kernel
theorem d_M_sort_60 : decode mi_M_sort.2.1 60 = .ok (.iload_n 3, 1) := by decide +kernel
theorem d_M_sort_61 : decode mi_M_sort.2.1 61 = .ok (.aload_n 0, 1) := by decide +kernel
theorem d_M_sort_62 : decode mi_M_sort.2.1 62 = .ok (.getfield 54, 3) := by decide +kernel
theorem d_M_sort_65 : decode mi_M_sort.2.1 65 = .ok (.iload_n 3, 1) := by decide +kernel
theorem d_M_sort_66 : decode mi_M_sort.2.1 66 = .ok (.iconst 1, 1) := by decide +kernel
theorem d_M_sort_67 : decode mi_M_sort.2.1 67 = .ok (.isub, 1) := by decide +kernel
theorem d_M_sort_68 : decode mi_M_sort.2.1 68 = .ok (.iaload, 1) := by decide +kernel
theorem d_M_sort_69 : decode mi_M_sort.2.1 69 = .ok (.iastore, 1) := by decide +kernel
theorem d_M_sort_70 : decode mi_M_sort.2.1 70 = .ok (.iinc 3 (-1), 3) := by decide +kernel
theorem d_M_sort_73 : decode mi_M_sort.2.1 73 = .ok (.goto (-43), 3) := by decide +kernel
theorem d_M_sort_76 : decode mi_M_sort.2.1 76 = .ok (.aload_n 0, 1) := by decide +kernel
theorem d_M_sort_77 : decode mi_M_sort.2.1 77 = .ok (.getfield 54, 3) := by decide +kernel
theorem d_M_sort_80 : decode mi_M_sort.2.1 80 = .ok (.iload_n 3, 1) := by decide +kernel
theorem d_M_sort_81 : decode mi_M_sort.2.1 81 = .ok (.iload_n 2, 1) := by decide +kernel
theorem d_M_sort_82 : decode mi_M_sort.2.1 82 = .ok (.iastore, 1) := by decide +kernel
theorem d_M_sort_83 : decode mi_M_sort.2.1 83 = .ok (.aload_n 0, 1) := by decide +kernel
theorem d_M_sort_84 : decode mi_M_sort.2.1 84 = .ok (.dup, 1) := by decide +kernel
theorem d_M_sort_85 : decode mi_M_sort.2.1 85 = .ok (.getfield 156, 3) := by decide +kernel
theorem d_M_sort_88 : decode mi_M_sort.2.1 88 = .ok (.iconst 1, 1) := by decide +kernel
theorem d_M_sort_89 : decode mi_M_sort.2.1 89 = .ok (.iadd, 1) := by decide +kernel
theorem d_M_sort_90 : decode mi_M_sort.2.1 90 = .ok (.putfield 156, 3) := by decide +kernel
theorem d_M_sort_93 : decode mi_M_sort.2.1 93 = .ok (.iinc 2 1, 3) := by decide +kernel
theorem d_M_sort_96 : decode mi_M_sort.2.1 96 = .ok (.goto (-89), 3) := by decide +kernel
theorem d_M_sort_99 : decode mi_M_sort.2.1 99 = .ok (.return_, 1) := by decide +kernel
theorem d_M_puts_0 : decode mi_M_puts.2.1 0 = .ok (.aload_n 0, 1) := by decide +kernel
theorem d_M_puts_1 : decode mi_M_puts.2.1 1 = .ok (.getfield 7, 3) := by decide +kernel
theorem d_M_puts_4 : decode mi_M_puts.2.1 4 = .ok (.bipush 40, 2) := by decide +kernel
theorem d_M_puts_6 : decode mi_M_puts.2.1 6 = .ok (.iload_n 1, 1) := by decide +kernel
theorem d_M_puts_7 : decode mi_M_puts.2.1 7 = .ok (.iadd, 1) := by decide +kernel
theorem d_M_puts_8 : decode mi_M_puts.2.1 8 = .ok (.iaload, 1) := by decide +kernel
theorem d_M_puts_9 : decode mi_M_puts.2.1 9 = .ok (.iconst 1, 1) := by decide +kernel
theorem d_M_puts_10 : decode mi_M_puts.2.1 10 = .ok (.isub, 1) := by decide +kernel
theorem d_M_puts_11 : decode mi_M_puts.2.1 11 = .ok (.istore_n 3, 1) := by decide +kernel
theorem d_M_puts_12 : decode mi_M_puts.2.1 12 = .ok (.aload_n 0, 1) := by decide +kernel
theorem d_M_puts_13 : decode mi_M_puts.2.1 13 = .ok (.getfield 105, 3) := by decide +kernel
theorem d_M_puts_16 : decode mi_M_puts.2.1 16 = .ok (.istore 4, 2) := by decide +kernel
theorem d_M_puts_18 : decode mi_M_puts.2.1 18 = .ok (.iconst 0, 1) := by decide +kernel
theorem d_M_puts_19 : decode mi_M_puts.2.1 19 = .ok (.istore 5, 2) := by decide +kernel
theorem d_M_puts_21 : decode mi_M_puts.2.1 21 = .ok (.iload 5, 2) := by decide +kernel
theorem d_M_puts_23 : decode mi_M_puts.2.1 23 = .ok (.aload_n 0, 1) := by decide +kernel
theorem d_M_puts_24 : decode mi_M_puts.2.1 24 = .ok (.getfield 105, 3) := by decide +kernel
theorem d_M_puts_27 : decode mi_M_puts.2.1 27 = .ok (.if_icmp .ge 23, 3) := by decide +kernel
theorem d_M_puts_30 : decode mi_M_puts.2.1 30 = .ok (.aload_n 0, 1) := by decide +kernel
theorem d_M_puts_31 : decode mi_M_puts.2.1 31 = .ok (.getfield 57, 3) := by decide +kernel
theorem d_M_puts_34 : decode mi_M_puts.2.1 34 = .ok (.iload 5, 2) := by decide +kernel
theorem d_M_puts_36 : decode mi_M_puts.2.1 36 = .ok (.aload_n 0, 1) := by decide +kernel
theorem d_M_puts_37 : decode mi_M_puts.2.1 37 = .ok (.getfield 29, 3) := by decide +kernel
theorem d_M_puts_40 : decode mi_M_puts.2.1 40 = .ok (.iload 5, 2) := by decide +kernel
theorem d_M_puts_42 : decode mi_M_puts.2.1 42 = .ok (.iaload, 1) := by decide +kernel
theorem d_M_puts_43 : decode mi_M_puts.2.1 43 = .ok (.iastore, 1) := by decide +kernel
theorem d_M_puts_44 : decode mi_M_puts.2.1 44 = .ok (.iinc 5 1, 3) := by decide +kernel
theorem d_M_puts_47 : decode mi_M_puts.2.1 47 = .ok (.goto (-26), 3) := by decide +kernel
theorem d_M_puts_50 : decode mi_M_puts.2.1 50 = .ok (.aload_n 0, 1) := by decide +kernel
theorem d_M_puts_51 : decode mi_M_puts.2.1 51 = .ok (.iload_n 1, 1) := by decide +kernel
theorem d_M_puts_52 : decode mi_M_puts.2.1 52 = .ok (.iconst 1, 1) := by decide +kernel
theorem d_M_puts_53 : decode mi_M_puts.2.1 53 = .ok (.invokevirtual 139, 3) := by decide +kernel
theorem d_M_puts_56 : decode mi_M_puts.2.1 56 = .ok (.iload_n 3, 1) := by decide +kernel
theorem d_M_puts_57 : decode mi_M_puts.2.1 57 = .ok (.ifCond .lt 9, 3) := by decide +kernel
theorem d_M_puts_60 : decode mi_M_puts.2.1 60 = .ok (.aload_n 0, 1) := by decide +kernel
theorem d_M_puts_61 : decode mi_M_puts.2.1 61 = .ok (.iload_n 3, 1) := by decide +kernel
theorem d_M_puts_62 : decode mi_M_puts.2.1 62 = .ok (.iconst 1, 1) := by decide +kernel
theorem d_M_puts_63 : decode mi_M_puts.2.1 63 = .ok (.invokevirtual 139, 3) := by decide +kernel
theorem d_M_puts_66 : decode mi_M_puts.2.1 66 = .ok (.aload_n 0, 1) := by decide +kernel
theorem d_M_puts_67 : decode mi_M_puts.2.1 67 = .ok (.invokevirtual 143, 3) := by decide +kernel
theorem d_M_puts_70 : decode mi_M_puts.2.1 70 = .ok (.iload_n 3, 1) := by decide +kernel
theorem d_M_puts_71 : decode mi_M_puts.2.1 71 = .ok (.ifCond .lt 7, 3) := by decide +kernel
theorem d_M_puts_74 : decode mi_M_puts.2.1 74 = .ok (.iconst 2, 1) := by decide +kernel
theorem d_M_puts_75 : decode mi_M_puts.2.1 75 = .ok (.goto 4, 3) := by decide +kernel
theorem d_M_puts_78 : decode mi_M_puts.2.1 78 = .ok (.iconst 1, 1) := by decide +kernel
theorem d_M_puts_79 : decode mi_M_puts.2.1 79 = .ok (.if_icmp .ne 23, 3) := by decide +kernel
theorem d_M_puts_82 : decode mi_M_puts.2.1 82 = .ok (.aload_n 0, 1) := by decide +kernel
theorem d_M_puts_83 : decode mi_M_puts.2.1 83 = .ok (.getfield 51, 3) := by decide +kernel
theorem d_M_puts_86 : decode mi_M_puts.2.1 86 = .ok (.iload_n 1, 1) := by decide +kernel
theorem d_M_puts_87 : decode mi_M_puts.2.1 87 = .ok (.iload_n 2, 1) := by decide +kernel
theorem d_M_puts_88 : decode mi_M_puts.2.1 88 = .ok (.iastore, 1) := by decide +kernel
theorem d_M_puts_89 : decode mi_M_puts.2.1 89 = .ok (.iload_n 3, 1) := by decide +kernel
theorem d_M_puts_90 : decode mi_M_puts.2.1 90 = .ok (.ifCond .lt 10, 3) := by decide +kernel
theorem d_M_puts_93 : decode mi_M_puts.2.1 93 = .ok (.aload_n 0, 1) := by decide +kernel
theorem d_M_puts_94 : decode mi_M_puts.2.1 94 = .ok (.getfield 51, 3) := by decide +kernel
theorem d_M_puts_97 : decode mi_M_puts.2.1 97 = .ok (.iload_n 3, 1) := by decide +kernel
theorem d_M_puts_98 : decode mi_M_puts.2.1 98 = .ok (.iload_n 2, 1) := by decide +kernel
theorem d_M_puts_99 : decode mi_M_puts.2.1 99 = .ok (.iastore, 1) := by decide +kernel
theorem d_M_puts_100 : decode mi_M_puts.2.1 100 = .ok (.iconst 1, 1) := by decide +kernel
theorem d_M_puts_101 : decode mi_M_puts.2.1 101 = .ok (.ireturn, 1) := by decide +kernel
theorem d_M_puts_102 : decode mi_M_puts.2.1 102 = .ok (.aload_n 0, 1) := by decide +kernel
theorem d_M_puts_103 : decode mi_M_puts.2.1 103 = .ok (.iload 4, 2) := by decide +kernel
theorem d_M_puts_105 : decode mi_M_puts.2.1 105 = .ok (.invokevirtual 162, 3) := by decide +kernel
theorem d_M_puts_108 : decode mi_M_puts.2.1 108 = .ok (.iconst 0, 1) := by decide +kernel
theorem d_M_puts_109 : decode mi_M_puts.2.1 109 = .ok (.istore 5, 2) := by decide +kernel
theorem d_M_puts_111 : decode mi_M_puts.2.1 111 = .ok (.iload 5, 2) := by decide +kernel
theorem d_M_puts_113 : decode mi_M_puts.2.1 113 = .ok (.aload_n 0, 1) := by decide +kernel
theorem d_M_puts_114 : decode mi_M_puts.2.1 114 = .ok (.getfield 105, 3) := by decide +kernel
theorem d_M_puts_117 : decode mi_M_puts.2.1 117 = .ok (.if_icmp .ge 23, 3) := by decide +kernel
theorem d_M_puts_120 : decode mi_M_puts.2.1 120 = .ok (.aload_n 0, 1) := by decide +kernel
theorem d_M_puts_121 : decode mi_M_puts.2.1 121 = .ok (.getfield 29, 3) := by decide +kernel
theorem d_M_puts_124 : decode mi_M_puts.2.1 124 = .ok (.iload 5, 2) := by decide +kernel
theorem d_M_puts_126 : decode mi_M_puts.2.1 126 = .ok (.aload_n 0, 1) := by decide +kernel
theorem d_M_puts_127 : decode mi_M_puts.2.1 127 = .ok (.getfield 57, 3) := by decide +kernel
theorem d_M_puts_130 : decode mi_M_puts.2.1 130 = .ok (.iload 5, 2) := by decide +kernel
theorem d_M_puts_132 : decode mi_M_puts.2.1 132 = .ok (.iaload, 1) := by decide +kernel
theorem d_M_puts_133 : decode mi_M_puts.2.1 133 = .ok (.iastore, 1) := by decide +kernel
theorem d_M_puts_134 : decode mi_M_puts.2.1 134 = .ok (.iinc 5 1, 3) := by decide +kernel
theorem d_M_puts_137 : decode mi_M_puts.2.1 137 = .ok (.goto (-26), 3) := by decide +kernel
theorem d_M_puts_140 : decode mi_M_puts.2.1 140 = .ok (.iconst 0, 1) := by decide +kernel
theorem d_M_puts_141 : decode mi_M_puts.2.1 141 = .ok (.ireturn, 1) := by decide +kernel
theorem d_M_layering_0 : decode mi_M_layering.2.1 0 = .ok (.aload_n 0, 1) := by decide +kernel
theorem d_M_layering_1 : decode mi_M_layering.2.1 1 = .ok (.iload_n 1, 1) := by decide +kernel
theorem d_M_layering_2 : decode mi_M_layering.2.1 2 = .ok (.invokevirtual 165, 3) := by decide +kernel
theorem d_M_layering_5 : decode mi_M_layering.2.1 5 = .ok (.iconst 0, 1) := by decide +kernel
theorem d_M_layering_6 : decode mi_M_layering.2.1 6 = .ok (.istore_n 2, 1) := by decide +kernel
theorem d_M_layering_7 : decode mi_M_layering.2.1 7 = .ok (.iload_n 2, 1) := by decide +kernel
theorem d_M_layering_8 : decode mi_M_layering.2.1 8 = .ok (.bipush 36, 2) := by decide +kernel
theorem d_M_layering_10 : decode mi_M_layering.2.1 10 = .ok (.if_icmp .ge 17, 3) := by decide +kernel
theorem d_M_layering_13 : decode mi_M_layering.2.1 13 = .ok (.aload_n 0, 1) := by decide +kernel
theorem d_M_layering_14 : decode mi_M_layering.2.1 14 = .ok (.getfield 51, 3) := by decide +kernel
theorem d_M_layering_17 : decode mi_M_layering.2.1 17 = .ok (.iload_n 2, 1) := by decide +kernel
theorem d_M_layering_18 : decode mi_M_layering.2.1 18 = .ok (.bipush (-9), 2) := by decide +kernel
theorem d_M_layering_20 : decode mi_M_layering.2.1 20 = .ok (.iastore, 1) := by decide +kernel
theorem d_M_layering_21 : decode mi_M_layering.2.1 21 = .ok (.iinc 2 1, 3) := by decide +kernel
theorem d_M_layering_24 : decode mi_M_layering.2.1 24 = .ok (.goto (-17), 3) := by decide +kernel
theorem d_M_layering_27 : decode mi_M_layering.2.1 27 = .ok (.aload_n 0, 1) := by decide +kernel
theorem d_M_layering_28 : decode mi_M_layering.2.1 28 = .ok (.getfield 156, 3) := by decide +kernel
theorem d_M_layering_31 : decode mi_M_layering.2.1 31 = .ok (.istore_n 2, 1) := by decide +kernel
theorem d_M_layering_32 : decode mi_M_layering.2.1 32 = .ok (.iconst 0, 1) := by decide +kernel
theorem d_M_layering_33 : decode mi_M_layering.2.1 33 = .ok (.istore_n 3, 1) := by decide +kernel
theorem d_M_layering_34 : decode mi_M_layering.2.1 34 = .ok (.iload_n 2, 1) := by decide +kernel
theorem d_M_layering_35 : decode mi_M_layering.2.1 35 = .ok (.ifCond .le 170, 3) := by decide +kernel
theorem d_M_layering_38 : decode mi_M_layering.2.1 38 = .ok (.iinc 3 1, 3) := by decide +kernel
theorem d_M_layering_41 : decode mi_M_layering.2.1 41 = .ok (.iconst 0, 1) := by decide +kernel
theorem d_M_layering_42 : decode mi_M_layering.2.1 42 = .ok (.istore 4, 2) := by decide +kernel
theorem d_M_layering_44 : decode mi_M_layering.2.1 44 = .ok (.iload 4, 2) := by decide +kernel
theorem d_M_layering_46 : decode mi_M_layering.2.1 46 = .ok (.bipush 36, 2) := by decide +kernel
theorem d_M_layering_48 : decode mi_M_layering.2.1 48 = .ok (.if_icmp .ge 45, 3) := by decide +kernel
theorem d_M_layering_51 : decode mi_M_layering.2.1 51 = .ok (.aload_n 0, 1) := by decide +kernel
theorem d_M_layering_52 : decode mi_M_layering.2.1 52 = .ok (.getfield 38, 3) := by decide +kernel
theorem d_M_layering_55 : decode mi_M_layering.2.1 55 = .ok (.iload 4, 2) := by decide +kernel
theorem d_M_layering_57 : decode mi_M_layering.2.1 57 = .ok (.aload_n 0, 1) := by decide +kernel
theorem d_M_layering_58 : decode mi_M_layering.2.1 58 = .ok (.getfield 7, 3) := by decide +kernel
theorem d_M_layering_61 : decode mi_M_layering.2.1 61 = .ok (.iconst 4, 1) := by decide +kernel
theorem d_M_layering_62 : decode mi_M_layering.2.1 62 = .ok (.iload 4, 2) := by decide +kernel
theorem d_M_layering_64 : decode mi_M_layering.2.1 64 = .ok (.iadd, 1) := by decide +kernel
theorem d_M_layering_65 : decode mi_M_layering.2.1 65 = .ok (.iaload, 1) := by decide +kernel
theorem d_M_layering_66 : decode mi_M_layering.2.1 66 = .ok (.ifCond .eq 15, 3) := by decide +kernel
theorem d_M_layering_69 : decode mi_M_layering.2.1 69 = .ok (.aload_n 0, 1) := by decide +kernel
theorem d_M_layering_70 : decode mi_M_layering.2.1 70 = .ok (.getfield 51, 3) := by decide +kernel
theorem d_M_layering_73 : decode mi_M_layering.2.1 73 = .ok (.iload 4, 2) := by decide +kernel
theorem d_M_layering_75 : decode mi_M_layering.2.1 75 = .ok (.iaload, 1) := by decide +kernel
theorem d_M_layering_76 : decode mi_M_layering.2.1 76 = .ok (.bipush (-9), 2) := by decide +kernel
theorem d_M_layering_78 : decode mi_M_layering.2.1 78 = .ok (.if_icmp .eq 7, 3) := by decide +kernel
theorem d_M_layering_81 : decode mi_M_layering.2.1 81 = .ok (.iconst 1, 1) := by decide +kernel
theorem d_M_layering_82 : decode mi_M_layering.2.1 82 = .ok (.goto 4, 3) := by decide +kernel
theorem d_M_layering_85 : decode mi_M_layering.2.1 85 = .ok (.iconst 0, 1) := by decide +kernel
theorem d_M_layering_86 : decode mi_M_layering.2.1 86 = .ok (.bastore, 1) := by decide +kernel
theorem d_M_layering_87 : decode mi_M_layering.2.1 87 = .ok (.iinc 4 1, 3) := by decide +kernel
theorem d_M_layering_90 : decode mi_M_layering.2.1 90 = .ok (.goto (-46), 3) := by decide +kernel
theorem d_M_layering_93 : decode mi_M_layering.2.1 93 = .ok (.aload_n 0, 1) := by decide +kernel
theorem d_M_layering_94 : decode mi_M_layering.2.1 94 = .ok (.invokevirtual 136, 3) := by decide +kernel
theorem d_M_layering_97 : decode mi_M_layering.2.1 97 = .ok (.iload_n 2, 1) := by decide +kernel
theorem d_M_layering_98 : decode mi_M_layering.2.1 98 = .ok (.istore 4, 2) := by decide +kernel
theorem d_M_layering_100 : decode mi_M_layering.2.1 100 = .ok (.iconst 0, 1) := by decide +kernel
theorem d_M_layering_101 : decode mi_M_layering.2.1 101 = .ok (.istore 5, 2) := by decide +kernel
theorem d_M_layering_103 : decode mi_M_layering.2.1 103 = .ok (.iload 5, 2) := by decide +kernel
theorem d_M_layering_105 : decode mi_M_layering.2.1 105 = .ok (.aload_n 0, 1) := by decide +kernel
theorem d_M_layering_106 : decode mi_M_layering.2.1 106 = .ok (.getfield 156, 3) := by decide +kernel
theorem d_M_layering_109 : decode mi_M_layering.2.1 109 = .ok (.if_icmp .ge 84, 3) := by decide +kernel
theorem d_M_layering_112 : decode mi_M_layering.2.1 112 = .ok (.aload_n 0, 1) := by decide +kernel
theorem d_M_layering_113 : decode mi_M_layering.2.1 113 = .ok (.getfield 54, 3) := by decide +kernel
theorem d_M_layering_116 : decode mi_M_layering.2.1 116 = .ok (.iload 5, 2) := by decide +kernel
theorem d_M_layering_118 : decode mi_M_layering.2.1 118 = .ok (.iaload, 1) := by decide +kernel
theorem d_M_layering_119 : decode mi_M_layering.2.1 119 = .ok (.istore 6, 2) := by decide +kernel
theorem d_M_layering_121 : decode mi_M_layering.2.1 121 = .ok (.aload_n 0, 1) := by decide +kernel
theorem d_M_layering_122 : decode mi_M_layering.2.1 122 = .ok (.getfield 51, 3) := by decide +kernel
theorem d_M_layering_125 : decode mi_M_layering.2.1 125 = .ok (.iload 6, 2) := by decide +kernel
theorem d_M_layering_127 : decode mi_M_layering.2.1 127 = .ok (.iaload, 1) := by decide +kernel
theorem d_M_layering_128 : decode mi_M_layering.2.1 128 = .ok (.bipush (-9), 2) := by decide +kernel
theorem d_M_layering_130 : decode mi_M_layering.2.1 130 = .ok (.if_icmp .ne 18, 3) := by decide +kernel
theorem d_M_layering_133 : decode mi_M_layering.2.1 133 = .ok (.aload_n 0, 1) := by decide +kernel
theorem d_M_layering_134 : decode mi_M_layering.2.1 134 = .ok (.iload 6, 2) := by decide +kernel
theorem d_M_layering_136 : decode mi_M_layering.2.1 136 = .ok (.iload 5, 2) := by decide +kernel
theorem d_M_layering_138 : decode mi_M_layering.2.1 138 = .ok (.invokevirtual 168, 3) := by decide +kernel
theorem d_M_layering_141 : decode mi_M_layering.2.1 141 = .ok (.ifCond .eq 7, 3) := by decide +kernel
theorem d_M_layering_144 : decode mi_M_layering.2.1 144 = .ok (.iconst 1, 1) := by decide +kernel
theorem d_M_layering_145 : decode mi_M_layering.2.1 145 = .ok (.goto 4, 3) := by decide +kernel
theorem d_M_layering_148 : decode mi_M_layering.2.1 148 = .ok (.iconst 0, 1) := by decide +kernel
theorem d_M_layering_149 : decode mi_M_layering.2.1 149 = .ok (.istore 7, 2) := by decide +kernel
theorem d_M_layering_151 : decode mi_M_layering.2.1 151 = .ok (.iload 7, 2) := by decide +kernel
theorem d_M_layering_153 : decode mi_M_layering.2.1 153 = .ok (.ifCond .eq 34, 3) := by decide +kernel
theorem d_M_layering_156 : decode mi_M_layering.2.1 156 = .ok (.aload_n 0, 1) := by decide +kernel
theorem d_M_layering_157 : decode mi_M_layering.2.1 157 = .ok (.iload 6, 2) := by decide +kernel
theorem d_M_layering_159 : decode mi_M_layering.2.1 159 = .ok (.iload_n 3, 1) := by decide +kernel
theorem d_M_layering_160 : decode mi_M_layering.2.1 160 = .ok (.invokevirtual 171, 3) := by decide +kernel
theorem d_M_layering_163 : decode mi_M_layering.2.1 163 = .ok (.ifCond .eq 24, 3) := by decide +kernel
theorem d_M_layering_166 : decode mi_M_layering.2.1 166 = .ok (.iload_n 2, 1) := by decide +kernel
theorem d_M_layering_167 : decode mi_M_layering.2.1 167 = .ok (.aload_n 0, 1) := by decide +kernel
theorem d_M_layering_168 : decode mi_M_layering.2.1 168 = .ok (.getfield 7, 3) := by decide +kernel
theorem d_M_layering_171 : decode mi_M_layering.2.1 171 = .ok (.bipush 40, 2) := by decide +kernel
theorem d_M_layering_173 : decode mi_M_layering.2.1 173 = .ok (.iload 6, 2) := by decide +kernel
theorem d_M_layering_175 : decode mi_M_layering.2.1 175 = .ok (.iadd, 1) := by decide +kernel
theorem d_M_layering_176 : decode mi_M_layering.2.1 176 = .ok (.iaload, 1) := by decide +kernel
theorem d_M_layering_177 : decode mi_M_layering.2.1 177 = .ok (.ifCond .le 7, 3) := by decide +kernel
theorem d_M_layering_180 : decode mi_M_layering.2.1 180 = .ok (.iconst 2, 1) := by decide +kernel
theorem d_M_layering_181 : decode mi_M_layering.2.1 181 = .ok (.goto 4, 3) := by decide +kernel
theorem d_M_layering_184 : decode mi_M_layering.2.1 184 = .ok (.iconst 1, 1) := by decide +kernel
theorem d_M_layering_185 : decode mi_M_layering.2.1 185 = .ok (.isub, 1) := by decide +kernel
theorem d_M_layering_186 : decode mi_M_layering.2.1 186 = .ok (.istore_n 2, 1) := by decide +kernel
theorem d_M_layering_187 : decode mi_M_layering.2.1 187 = .ok (.iinc 5 1, 3) := by decide +kernel
theorem d_M_layering_190 : decode mi_M_layering.2.1 190 = .ok (.goto (-87), 3) := by decide +kernel
theorem d_M_layering_193 : decode mi_M_layering.2.1 193 = .ok (.iload_n 2, 1) := by decide +kernel
theorem d_M_layering_194 : decode mi_M_layering.2.1 194 = .ok (.iload 4, 2) := by decide +kernel
theorem d_M_layering_196 : decode mi_M_layering.2.1 196 = .ok (.if_icmp .ne 6, 3) := by decide +kernel
theorem d_M_layering_199 : decode mi_M_layering.2.1 199 = .ok (.bipush (-9), 2) := by decide +kernel
theorem d_M_layering_201 : decode mi_M_layering.2.1 201 = .ok (.ireturn, 1) := by decide +kernel
theorem d_M_layering_202 : decode mi_M_layering.2.1 202 = .ok (.goto (-168), 3) := by decide +kernel
theorem d_M_layering_205 : decode mi_M_layering.2.1 205 = .ok (.iload_n 3, 1) := by decide +kernel
theorem d_M_layering_206 : decode mi_M_layering.2.1 206 = .ok (.ireturn, 1) := by decide +kernel
theorem d_M_isFirst_0 : decode mi_M_isFirst.2.1 0 = .ok (.iconst 1, 1) := by decide +kernel
theorem d_M_isFirst_1 : decode mi_M_isFirst.2.1 1 = .ok (.istore_n 3, 1) := by decide +kernel
theorem d_M_isFirst_2 : decode mi_M_isFirst.2.1 2 = .ok (.iconst 0, 1) := by decide +kernel
theorem d_M_isFirst_3 : decode mi_M_isFirst.2.1 3 = .ok (.istore 4, 2) := by decide +kernel
theorem d_M_isFirst_5 : decode mi_M_isFirst.2.1 5 = .ok (.iload 4, 2) := by decide +kernel
theorem d_M_isFirst_7 : decode mi_M_isFirst.2.1 7 = .ok (.iload_n 2, 1) := by decide +kernel
theorem d_M_isFirst_8 : decode mi_M_isFirst.2.1 8 = .ok (.if_icmp .ge 40, 3) := by decide +kernel
theorem d_M_isFirst_11 : decode mi_M_isFirst.2.1 11 = .ok (.iload_n 3, 1) := by decide +kernel
theorem d_M_isFirst_12 : decode mi_M_isFirst.2.1 12 = .ok (.ifCond .eq 28, 3) := by decide +kernel
theorem d_M_isFirst_15 : decode mi_M_isFirst.2.1 15 = .ok (.aload_n 0, 1) := by decide +kernel
theorem d_M_isFirst_16 : decode mi_M_isFirst.2.1 16 = .ok (.getfield 54, 3) := by decide +kernel
theorem d_M_isFirst_19 : decode mi_M_isFirst.2.1 19 = .ok (.iload 4, 2) := by decide +kernel
theorem d_M_isFirst_21 : decode mi_M_isFirst.2.1 21 = .ok (.iaload, 1) := by decide +kernel
theorem d_M_isFirst_22 : decode mi_M_isFirst.2.1 22 = .ok (.aload_n 0, 1) := by decide +kernel
theorem d_M_isFirst_23 : decode mi_M_isFirst.2.1 23 = .ok (.getfield 7, 3) := by decide +kernel
theorem d_M_isFirst_26 : decode mi_M_isFirst.2.1 26 = .ok (.bipush 40, 2) := by decide +kernel
theorem d_M_isFirst_28 : decode mi_M_isFirst.2.1 28 = .ok (.iload_n 1, 1) := by decide +kernel
theorem d_M_isFirst_29 : decode mi_M_isFirst.2.1 29 = .ok (.iadd, 1) := by decide +kernel
theorem d_M_isFirst_30 : decode mi_M_isFirst.2.1 30 = .ok (.iaload, 1) := by decide +kernel
theorem d_M_isFirst_31 : decode mi_M_isFirst.2.1 31 = .ok (.iconst 1, 1) := by decide +kernel
theorem d_M_isFirst_32 : decode mi_M_isFirst.2.1 32 = .ok (.isub, 1) := by decide +kernel
theorem d_M_isFirst_33 : decode mi_M_isFirst.2.1 33 = .ok (.if_icmp .eq 7, 3) := by decide +kernel
theorem d_M_isFirst_36 : decode mi_M_isFirst.2.1 36 = .ok (.iconst 1, 1) := by decide +kernel
theorem d_M_isFirst_37 : decode mi_M_isFirst.2.1 37 = .ok (.goto 4, 3) := by decide +kernel
theorem d_M_isFirst_40 : decode mi_M_isFirst.2.1 40 = .ok (.iconst 0, 1) := by decide +kernel
theorem d_M_isFirst_41 : decode mi_M_isFirst.2.1 41 = .ok (.istore_n 3, 1) := by decide +kernel
theorem d_M_isFirst_42 : decode mi_M_isFirst.2.1 42 = .ok (.iinc 4 1, 3) := by decide +kernel
theorem d_M_isFirst_45 : decode mi_M_isFirst.2.1 45 = .ok (.goto (-40), 3) := by decide +kernel
theorem d_M_isFirst_48 : decode mi_M_isFirst.2.1 48 = .ok (.iload_n 3, 1) := by decide +kernel
theorem d_M_isFirst_49 : decode mi_M_isFirst.2.1 49 = .ok (.ireturn, 1) := by decide +kernel
theorem d_M_isStrategy_0 : decode mi_M_isStrategy.2.1 0 = .ok (.iload_n 0, 1) := by decide +kernel
theorem d_M_isStrategy_1 : decode mi_M_isStrategy.2.1 1 = .ok (.iconst 0, 1) := by decide +kernel
theorem d_M_isStrategy_2 : decode mi_M_isStrategy.2.1 2 = .ok (.iconst 3, 1) := by decide +kernel
theorem d_M_isStrategy_3 : decode mi_M_isStrategy.2.1 3 = .ok (.invokestatic 64, 3) := by decide +kernel
theorem d_M_isStrategy_6 : decode mi_M_isStrategy.2.1 6 = .ok (.ireturn, 1) := by decide +kernel
theorem d_M_layerCount_0 : decode mi_M_layerCount.2.1 0 = .ok (.iload_n 1, 1) := by decide +kernel
theorem d_M_layerCount_1 : decode mi_M_layerCount.2.1 1 = .ok (.invokestatic 174, 3) := by decide +kernel
theorem d_M_layerCount_4 : decode mi_M_layerCount.2.1 4 = .ok (.ifCond .eq 11, 3) := by decide +kernel
theorem d_M_layerCount_7 : decode mi_M_layerCount.2.1 7 = .ok (.aload_n 0, 1) := by decide +kernel
theorem d_M_layerCount_8 : decode mi_M_layerCount.2.1 8 = .ok (.iload_n 1, 1) := by decide +kernel
theorem d_M_layerCount_9 : decode mi_M_layerCount.2.1 9 = .ok (.invokevirtual 177, 3) := by decide +kernel
theorem d_M_layerCount_12 : decode mi_M_layerCount.2.1 12 = .ok (.goto 4, 3) := by decide +kernel
theorem d_M_layerCount_15 : decode mi_M_layerCount.2.1 15 = .ok (.iconst (-1), 1) := by decide +kernel
theorem d_M_layerCount_16 : decode mi_M_layerCount.2.1 16 = .ok (.ireturn, 1) := by decide +kernel
theorem d_M_layerOf_0 : decode mi_M_layerOf.2.1 0 = .ok (.iload_n 1, 1) := by decide +kernel
theorem d_M_layerOf_1 : decode mi_M_layerOf.2.1 1 = .ok (.invokestatic 174, 3) := by decide +kernel
theorem d_M_layerOf_4 : decode mi_M_layerOf.2.1 4 = .ok (.ifCond .eq 12, 3) := by decide +kernel
theorem d_M_layerOf_7 : decode mi_M_layerOf.2.1 7 = .ok (.aload_n 0, 1) := by decide +kernel
theorem d_M_layerOf_8 : decode mi_M_layerOf.2.1 8 = .ok (.iload_n 2, 1) := by decide +kernel
theorem d_M_layerOf_9 : decode mi_M_layerOf.2.1 9 = .ok (.iload_n 3, 1) := by decide +kernel
theorem d_M_layerOf_10 : decode mi_M_layerOf.2.1 10 = .ok (.invokevirtual 87, 3) := by decide +kernel
theorem d_M_layerOf_13 : decode mi_M_layerOf.2.1 13 = .ok (.ifCond .ne 5, 3) := by decide +kernel
theorem d_M_layerOf_16 : decode mi_M_layerOf.2.1 16 = .ok (.iconst (-1), 1) := by decide +kernel
theorem d_M_layerOf_17 : decode mi_M_layerOf.2.1 17 = .ok (.ireturn, 1) := by decide +kernel
theorem d_M_layerOf_18 : decode mi_M_layerOf.2.1 18 = .ok (.aload_n 0, 1) := by decide +kernel
theorem d_M_layerOf_19 : decode mi_M_layerOf.2.1 19 = .ok (.iload_n 1, 1) := by decide +kernel
theorem d_M_layerOf_20 : decode mi_M_layerOf.2.1 20 = .ok (.invokevirtual 177, 3) := by decide +kernel
theorem d_M_layerOf_23 : decode mi_M_layerOf.2.1 23 = .ok (.pop, 1) := by decide +kernel
theorem d_M_layerOf_24 : decode mi_M_layerOf.2.1 24 = .ok (.aload_n 0, 1) := by decide +kernel
theorem d_M_layerOf_25 : decode mi_M_layerOf.2.1 25 = .ok (.getfield 51, 3) := by decide +kernel
theorem d_M_layerOf_28 : decode mi_M_layerOf.2.1 28 = .ok (.bipush 6, 2) := by decide +kernel
theorem d_M_layerOf_30 : decode mi_M_layerOf.2.1 30 = .ok (.iload_n 2, 1) := by decide +kernel
theorem d_M_layerOf_31 : decode mi_M_layerOf.2.1 31 = .ok (.imul, 1) := by decide +kernel
theorem d_M_layerOf_32 : decode mi_M_layerOf.2.1 32 = .ok (.iload_n 3, 1) := by decide +kernel
theorem d_M_layerOf_33 : decode mi_M_layerOf.2.1 33 = .ok (.iadd, 1) := by decide +kernel
theorem d_M_layerOf_34 : decode mi_M_layerOf.2.1 34 = .ok (.iaload, 1) := by decide +kernel
theorem d_M_layerOf_35 : decode mi_M_layerOf.2.1 35 = .ok (.ireturn, 1) := by decide +kernel
theorem d_M_layerLoad_0 : decode mi_M_layerLoad.2.1 0 = .ok (.iload_n 1, 1) := by decide +kernel
theorem d_M_layerLoad_1 : decode mi_M_layerLoad.2.1 1 = .ok (.invokestatic 174, 3) := by decide +kernel
theorem d_M_layerLoad_4 : decode mi_M_layerLoad.2.1 4 = .ok (.ifCond .eq 8, 3) := by decide +kernel
theorem d_M_layerLoad_7 : decode mi_M_layerLoad.2.1 7 = .ok (.iload_n 2, 1) := by decide +kernel
theorem d_M_layerLoad_8 : decode mi_M_layerLoad.2.1 8 = .ok (.iconst 1, 1) := by decide +kernel
theorem d_M_layerLoad_9 : decode mi_M_layerLoad.2.1 9 = .ok (.if_icmp .ge 5, 3) := by decide +kernel
theorem d_M_layerLoad_12 : decode mi_M_layerLoad.2.1 12 = .ok (.iconst (-1), 1) := by decide +kernel
theorem d_M_layerLoad_13 : decode mi_M_layerLoad.2.1 13 = .ok (.ireturn, 1) := by decide +kernel
theorem d_M_layerLoad_14 : decode mi_M_layerLoad.2.1 14 = .ok (.aload_n 0, 1) := by decide +kernel
theorem d_M_layerLoad_15 : decode mi_M_layerLoad.2.1 15 = .ok (.iload_n 1, 1) := by decide +kernel
theorem d_M_layerLoad_16 : decode mi_M_layerLoad.2.1 16 = .ok (.invokevirtual 177, 3) := by decide +kernel
theorem d_M_layerLoad_19 : decode mi_M_layerLoad.2.1 19 = .ok (.pop, 1) := by decide +kernel
theorem d_M_layerLoad_20 : decode mi_M_layerLoad.2.1 20 = .ok (.iconst 0, 1) := by decide +kernel
theorem d_M_layerLoad_21 : decode mi_M_layerLoad.2.1 21 = .ok (.istore_n 3, 1) := by decide +kernel
theorem d_M_layerLoad_22 : decode mi_M_layerLoad.2.1 22 = .ok (.iconst 0, 1) := by decide +kernel
theorem d_M_layerLoad_23 : decode mi_M_layerLoad.2.1 23 = .ok (.istore 4, 2) := by decide +kernel
theorem d_M_layerLoad_25 : decode mi_M_layerLoad.2.1 25 = .ok (.iload 4, 2) := by decide +kernel
theorem d_M_layerLoad_27 : decode mi_M_layerLoad.2.1 27 = .ok (.bipush 36, 2) := by decide +kernel
theorem d_M_layerLoad_29 : decode mi_M_layerLoad.2.1 29 = .ok (.if_icmp .ge 28, 3) := by decide +kernel
theorem d_M_layerLoad_32 : decode mi_M_layerLoad.2.1 32 = .ok (.iload_n 3, 1) := by decide +kernel
theorem d_M_layerLoad_33 : decode mi_M_layerLoad.2.1 33 = .ok (.aload_n 0, 1) := by decide +kernel
theorem d_M_layerLoad_34 : decode mi_M_layerLoad.2.1 34 = .ok (.getfield 51, 3) := by decide +kernel
theorem d_M_layerLoad_37 : decode mi_M_layerLoad.2.1 37 = .ok (.iload 4, 2) := by decide +kernel
theorem d_M_layerLoad_39 : decode mi_M_layerLoad.2.1 39 = .ok (.iaload, 1) := by decide +kernel
theorem d_M_layerLoad_40 : decode mi_M_layerLoad.2.1 40 = .ok (.iload_n 2, 1) := by decide +kernel
theorem d_M_layerLoad_41 : decode mi_M_layerLoad.2.1 41 = .ok (.if_icmp .ne 7, 3) := by decide +kernel
theorem d_M_layerLoad_44 : decode mi_M_layerLoad.2.1 44 = .ok (.iconst 1, 1) := by decide +kernel
theorem d_M_layerLoad_45 : decode mi_M_layerLoad.2.1 45 = .ok (.goto 4, 3) := by decide +kernel
theorem d_M_layerLoad_48 : decode mi_M_layerLoad.2.1 48 = .ok (.iconst 0, 1) := by decide +kernel
theorem d_M_layerLoad_49 : decode mi_M_layerLoad.2.1 49 = .ok (.iadd, 1) := by decide +kernel
theorem d_M_layerLoad_50 : decode mi_M_layerLoad.2.1 50 = .ok (.istore_n 3, 1) := by decide +kernel
theorem d_M_layerLoad_51 : decode mi_M_layerLoad.2.1 51 = .ok (.iinc 4 1, 3) := by decide +kernel
theorem d_M_layerLoad_54 : decode mi_M_layerLoad.2.1 54 = .ok (.goto (-29), 3) := by decide +kernel
theorem d_M_layerLoad_57 : decode mi_M_layerLoad.2.1 57 = .ok (.iload_n 3, 1) := by decide +kernel
theorem d_M_layerLoad_58 : decode mi_M_layerLoad.2.1 58 = .ok (.ireturn, 1) := by decide +kernel
theorem d_M_bestStrategy_0 : decode mi_M_bestStrategy.2.1 0 = .ok (.bipush (-9), 2) := by decide +kernel
theorem d_M_bestStrategy_2 : decode mi_M_bestStrategy.2.1 2 = .ok (.istore_n 1, 1) := by decide +kernel
theorem d_M_bestStrategy_3 : decode mi_M_bestStrategy.2.1 3 = .ok (.ldc 122, 2) := by decide +kernel
theorem d_M_bestStrategy_5 : decode mi_M_bestStrategy.2.1 5 = .ok (.istore_n 2, 1) := by decide +kernel
theorem d_M_bestStrategy_6 : decode mi_M_bestStrategy.2.1 6 = .ok (.iconst 0, 1) := by decide +kernel
theorem d_M_bestStrategy_7 : decode mi_M_bestStrategy.2.1 7 = .ok (.istore_n 3, 1) := by decide +kernel
theorem d_M_bestStrategy_8 : decode mi_M_bestStrategy.2.1 8 = .ok (.iload_n 3, 1) := by decide +kernel
theorem d_M_bestStrategy_9 : decode mi_M_bestStrategy.2.1 9 = .ok (.iconst 4, 1) := by decide +kernel
theorem d_M_bestStrategy_10 : decode mi_M_bestStrategy.2.1 10 = .ok (.if_icmp .ge 34, 3) := by decide +kernel
theorem d_M_bestStrategy_13 : decode mi_M_bestStrategy.2.1 13 = .ok (.aload_n 0, 1) := by decide +kernel
theorem d_M_bestStrategy_14 : decode mi_M_bestStrategy.2.1 14 = .ok (.iload_n 3, 1) := by decide +kernel
theorem d_M_bestStrategy_15 : decode mi_M_bestStrategy.2.1 15 = .ok (.invokevirtual 177, 3) := by decide +kernel
theorem d_M_bestStrategy_18 : decode mi_M_bestStrategy.2.1 18 = .ok (.istore 4, 2) := by decide +kernel
theorem d_M_bestStrategy_20 : decode mi_M_bestStrategy.2.1 20 = .ok (.iload 4, 2) := by decide +kernel
theorem d_M_bestStrategy_22 : decode mi_M_bestStrategy.2.1 22 = .ok (.bipush (-9), 2) := by decide +kernel
theorem d_M_bestStrategy_24 : decode mi_M_bestStrategy.2.1 24 = .ok (.if_icmp .eq 14, 3) := by decide +kernel
theorem d_M_bestStrategy_27 : decode mi_M_bestStrategy.2.1 27 = .ok (.iload 4, 2) := by decide +kernel
theorem d_M_bestStrategy_29 : decode mi_M_bestStrategy.2.1 29 = .ok (.iload_n 2, 1) := by decide +kernel
theorem d_M_bestStrategy_30 : decode mi_M_bestStrategy.2.1 30 = .ok (.if_icmp .ge 8, 3) := by decide +kernel
theorem d_M_bestStrategy_33 : decode mi_M_bestStrategy.2.1 33 = .ok (.iload_n 3, 1) := by decide +kernel
theorem d_M_bestStrategy_34 : decode mi_M_bestStrategy.2.1 34 = .ok (.istore_n 1, 1) := by decide +kernel
theorem d_M_bestStrategy_35 : decode mi_M_bestStrategy.2.1 35 = .ok (.iload 4, 2) := by decide +kernel
theorem d_M_bestStrategy_37 : decode mi_M_bestStrategy.2.1 37 = .ok (.istore_n 2, 1) := by decide +kernel
theorem d_M_bestStrategy_38 : decode mi_M_bestStrategy.2.1 38 = .ok (.iinc 3 1, 3) := by decide +kernel
theorem d_M_bestStrategy_41 : decode mi_M_bestStrategy.2.1 41 = .ok (.goto (-33), 3) := by decide +kernel
theorem d_M_bestStrategy_44 : decode mi_M_bestStrategy.2.1 44 = .ok (.iload_n 1, 1) := by decide +kernel
theorem d_M_bestStrategy_45 : decode mi_M_bestStrategy.2.1 45 = .ok (.ireturn, 1) := by decide +kernel
theorem d_M_most_0 : decode mi_M_most.2.1 0 = .ok (.iconst 0, 1) := by decide +kernel
theorem d_M_most_1 : decode mi_M_most.2.1 1 = .ok (.istore_n 1, 1) := by decide +kernel
theorem d_M_most_2 : decode mi_M_most.2.1 2 = .ok (.iload_n 1, 1) := by decide +kernel
theorem d_M_most_3 : decode mi_M_most.2.1 3 = .ok (.bipush 36, 2) := by decide +kernel
theorem d_M_most_5 : decode mi_M_most.2.1 5 = .ok (.if_icmp .ge 32, 3) := by decide +kernel
theorem d_M_most_8 : decode mi_M_most.2.1 8 = .ok (.aload_n 0, 1) := by decide +kernel
theorem d_M_most_9 : decode mi_M_most.2.1 9 = .ok (.getfield 38, 3) := by decide +kernel
theorem d_M_most_12 : decode mi_M_most.2.1 12 = .ok (.iload_n 1, 1) := by decide +kernel
theorem d_M_most_13 : decode mi_M_most.2.1 13 = .ok (.aload_n 0, 1) := by decide +kernel
theorem d_M_most_14 : decode mi_M_most.2.1 14 = .ok (.getfield 7, 3) := by decide +kernel
theorem d_M_most_17 : decode mi_M_most.2.1 17 = .ok (.iconst 4, 1) := by decide +kernel
theorem d_M_most_18 : decode mi_M_most.2.1 18 = .ok (.iload_n 1, 1) := by decide +kernel
theorem d_M_most_19 : decode mi_M_most.2.1 19 = .ok (.iadd, 1) := by decide +kernel
theorem d_M_most_20 : decode mi_M_most.2.1 20 = .ok (.iaload, 1) := by decide +kernel
theorem d_M_most_21 : decode mi_M_most.2.1 21 = .ok (.iconst 2, 1) := by decide +kernel
theorem d_M_most_22 : decode mi_M_most.2.1 22 = .ok (.if_icmp .eq 7, 3) := by decide +kernel
theorem d_M_most_25 : decode mi_M_most.2.1 25 = .ok (.iconst 1, 1) := by decide +kernel
theorem d_M_most_26 : decode mi_M_most.2.1 26 = .ok (.goto 4, 3) := by decide +kernel
theorem d_M_most_29 : decode mi_M_most.2.1 29 = .ok (.iconst 0, 1) := by decide +kernel
theorem d_M_most_30 : decode mi_M_most.2.1 30 = .ok (.bastore, 1) := by decide +kernel
theorem d_M_most_31 : decode mi_M_most.2.1 31 = .ok (.iinc 1 1, 3) := by decide +kernel
theorem d_M_most_34 : decode mi_M_most.2.1 34 = .ok (.goto (-32), 3) := by decide +kernel
theorem d_M_most_37 : decode mi_M_most.2.1 37 = .ok (.aload_n 0, 1) := by decide +kernel
theorem d_M_most_38 : decode mi_M_most.2.1 38 = .ok (.invokevirtual 136, 3) := by decide +kernel
theorem d_M_most_41 : decode mi_M_most.2.1 41 = .ok (.iconst 0, 1) := by decide +kernel
theorem d_M_most_42 : decode mi_M_most.2.1 42 = .ok (.istore_n 1, 1) := by decide +kernel
theorem d_M_most_43 : decode mi_M_most.2.1 43 = .ok (.iload_n 1, 1) := by decide +kernel
theorem d_M_most_44 : decode mi_M_most.2.1 44 = .ok (.bipush 36, 2) := by decide +kernel
theorem d_M_most_46 : decode mi_M_most.2.1 46 = .ok (.if_icmp .ge 28, 3) := by decide +kernel
theorem d_M_most_49 : decode mi_M_most.2.1 49 = .ok (.aload_n 0, 1) := by decide +kernel
theorem d_M_most_50 : decode mi_M_most.2.1 50 = .ok (.getfield 7, 3) := by decide +kernel
theorem d_M_most_53 : decode mi_M_most.2.1 53 = .ok (.iconst 4, 1) := by decide +kernel
theorem d_M_most_54 : decode mi_M_most.2.1 54 = .ok (.iload_n 1, 1) := by decide +kernel
theorem d_M_most_55 : decode mi_M_most.2.1 55 = .ok (.iadd, 1) := by decide +kernel
theorem d_M_most_56 : decode mi_M_most.2.1 56 = .ok (.iaload, 1) := by decide +kernel
theorem d_M_most_57 : decode mi_M_most.2.1 57 = .ok (.iconst 1, 1) := by decide +kernel
theorem d_M_most_58 : decode mi_M_most.2.1 58 = .ok (.if_icmp .ne 10, 3) := by decide +kernel
theorem d_M_most_61 : decode mi_M_most.2.1 61 = .ok (.aload_n 0, 1) := by decide +kernel
theorem d_M_most_62 : decode mi_M_most.2.1 62 = .ok (.iload_n 1, 1) := by decide +kernel
theorem d_M_most_63 : decode mi_M_most.2.1 63 = .ok (.ldc 122, 2) := by decide +kernel
theorem d_M_most_65 : decode mi_M_most.2.1 65 = .ok (.invokevirtual 139, 3) := by decide +kernel
theorem d_M_most_68 : decode mi_M_most.2.1 68 = .ok (.iinc 1 1, 3) := by decide +kernel
theorem d_M_most_71 : decode mi_M_most.2.1 71 = .ok (.goto (-28), 3) := by decide +kernel
theorem d_M_most_74 : decode mi_M_most.2.1 74 = .ok (.aload_n 0, 1) := by decide +kernel
theorem d_M_most_75 : decode mi_M_most.2.1 75 = .ok (.invokevirtual 143, 3) := by decide +kernel
theorem d_M_most_78 : decode mi_M_most.2.1 78 = .ok (.ireturn, 1) := by decide +kernel
theorem d_M_throughput_0 : decode mi_M_throughput.2.1 0 = .ok (.aload_n 0, 1) := by decide +kernel
theorem d_M_throughput_1 : decode mi_M_throughput.2.1 1 = .ok (.invokevirtual 180, 3) := by decide +kernel
theorem d_M_throughput_4 : decode mi_M_throughput.2.1 4 = .ok (.ireturn, 1) := by decide +kernel
theorem d_M_lowerBound_0 : decode mi_M_lowerBound.2.1 0 = .ok (.aload_n 0, 1) := by decide +kernel
theorem d_M_lowerBound_1 : decode mi_M_lowerBound.2.1 1 = .ok (.invokevirtual 84, 3) := by decide +kernel
theorem d_M_lowerBound_4 : decode mi_M_lowerBound.2.1 4 = .ok (.istore_n 1, 1) := by decide +kernel
theorem d_M_lowerBound_5 : decode mi_M_lowerBound.2.1 5 = .ok (.aload_n 0, 1) := by decide +kernel
theorem d_M_lowerBound_6 : decode mi_M_lowerBound.2.1 6 = .ok (.invokevirtual 180, 3) := by decide +kernel
theorem d_M_lowerBound_9 : decode mi_M_lowerBound.2.1 9 = .ok (.istore_n 2, 1) := by decide +kernel
theorem d_M_lowerBound_10 : decode mi_M_lowerBound.2.1 10 = .ok (.iload_n 1, 1) := by decide +kernel
theorem d_M_lowerBound_11 : decode mi_M_lowerBound.2.1 11 = .ok (.ifCond .ne 7, 3) := by decide +kernel
theorem d_M_lowerBound_14 : decode mi_M_lowerBound.2.1 14 = .ok (.iconst 0, 1) := by decide +kernel
theorem d_M_lowerBound_15 : decode mi_M_lowerBound.2.1 15 = .ok (.goto 19, 3) := by decide +kernel
theorem d_M_lowerBound_18 : decode mi_M_lowerBound.2.1 18 = .ok (.iload_n 2, 1) := by decide +kernel
theorem d_M_lowerBound_19 : decode mi_M_lowerBound.2.1 19 = .ok (.ifCond .ne 8, 3) := by decide +kernel
theorem d_M_lowerBound_22 : decode mi_M_lowerBound.2.1 22 = .ok (.bipush (-9), 2) := by decide +kernel
theorem d_M_lowerBound_24 : decode mi_M_lowerBound.2.1 24 = .ok (.goto 10, 3) := by decide +kernel
theorem d_M_lowerBound_27 : decode mi_M_lowerBound.2.1 27 = .ok (.iload_n 1, 1) := by decide +kernel
theorem d_M_lowerBound_28 : decode mi_M_lowerBound.2.1 28 = .ok (.iload_n 2, 1) := by decide +kernel
theorem d_M_lowerBound_29 : decode mi_M_lowerBound.2.1 29 = .ok (.iadd, 1) := by decide +kernel
theorem d_M_lowerBound_30 : decode mi_M_lowerBound.2.1 30 = .ok (.iconst 1, 1) := by decide +kernel
theorem d_M_lowerBound_31 : decode mi_M_lowerBound.2.1 31 = .ok (.isub, 1) := by decide +kernel
theorem d_M_lowerBound_32 : decode mi_M_lowerBound.2.1 32 = .ok (.iload_n 2, 1) := by decide +kernel
theorem d_M_lowerBound_33 : decode mi_M_lowerBound.2.1 33 = .ok (.idiv, 1) := by decide +kernel
theorem d_M_lowerBound_34 : decode mi_M_lowerBound.2.1 34 = .ok (.ireturn, 1) := by decide +kernel
end
section
/-! the fixed shape: printed by wip/whole/gen12.py -/
def er_SH : er_Sh := [(5 + 5, 10, [some 2, some 6, some 40, some 43, some 52, some 61, some 82, none, none, none]), (0 + 5, 7, [none, none, none, none, some 3, some 4, some 5]), (0, 36, []), (0, 36, []), (1, 36, []), (3 + 5, 2, [some 7, none]), (3, 8, []), (0 + 5, 7, [none, none, none, none, some 9, some 10, some 11]), (0, 36, []), (0, 36, []), (1, 36, []), (0 + 5, 7, [none, none, none, none, some 13, some 14, some 15]), (0, 36, []), (0, 36, []), (1, 36, []), (0 + 5, 7, [none, none, none, none, some 17, some 18, some 19]), (0, 36, []), (0, 36, []), (1, 36, []), (0 + 5, 7, [none, none, none, none, some 21, some 22, some 23]), (0, 36, []), (0, 36, []), (1, 36, []), (0 + 5, 7, [none, none, none, none, some 25, some 26, some 27]), (0, 36, []), (0, 36, []), (1, 36, []), (0 + 5, 7, [none, none, none, none, some 29, some 30, some 31]), (0, 36, []), (0, 36, []), (1, 36, []), (0 + 5, 7, [none, none, none, none, some 33, some 34, some 35]), (0, 36, []), (0, 36, []), (1, 36, []), (0 + 5, 7, [none, none, none, none, some 37, some 38, some 39]), (0, 36, []), (0, 36, []), (1, 36, []), (2 + 5, 5, [some 41, none, none, none, some 42]), (0, 60, []), (0, 36, []), (1 + 5, 11, [some 44, some 45, some 46, some 47, some 48, some 49, some 50, some 51, none, none, none]), (0, 136, []), (0, 746, []), (0, 746, []), (0, 746, []), (0, 746, []), (0, 136, []), (0, 136, []), (0, 136, []), (1 + 5, 11, [some 53, some 54, some 55, some 56, some 57, some 58, some 59, some 60, none, none, none]), (0, 136, []), (0, 746, []), (0, 746, []), (0, 746, []), (0, 746, []), (0, 136, []), (0, 136, []), (0, 136, []), (4, 4, []), (4 + 5, 9, [none, some 63, none, some 64, some 65, some 66, none, none, none]), (0, 36, []), (0, 36, []), (1, 36, []), (0, 36, []), (4 + 5, 9, [none, some 68, none, some 69, some 70, some 71, none, none, none]), (0, 36, []), (0, 36, []), (1, 36, []), (0, 36, []), (4 + 5, 9, [none, some 73, none, some 74, some 75, some 76, none, none, none]), (0, 36, []), (0, 36, []), (1, 36, []), (0, 36, []), (4 + 5, 9, [none, some 78, none, some 79, some 80, some 81, none, none, none]), (0, 36, []), (0, 36, []), (1, 36, []), (0, 36, []), (1, 36, []), (6 + 5, 22, [some 84, some 85, none, some 86, none, some 87, none, none, some 88, some 89, some 90, some 91, some 92, none, some 93, some 94, some 95, some 96, some 97, some 98, none, some 99]), (0, 112, []), (0, 896, []), (2, 60, []), (0, 36, []), (0, 760, []), (0, 760, []), (0, 760, []), (0, 136, []), (0, 760, []), (1, 36, []), (0, 136, []), (0, 136, []), (1, 136, []), (0, 36, []), (0, 36, []), (0, 760, [])]
theorem sh_1 : er_at er_SH 1 = some (5 + 5, 10, [some 2, some 6, some 40, some 43, some 52, some 61, some 82, none, none, none]) := rfl
theorem sh_2 : er_at er_SH 2 = some (0 + 5, 7, [none, none, none, none, some 3, some 4, some 5]) := rfl
theorem sh_3 : er_at er_SH 3 = some (0, 36, []) := rfl
theorem sh_4 : er_at er_SH 4 = some (0, 36, []) := rfl
theorem sh_5 : er_at er_SH 5 = some (1, 36, []) := rfl
theorem sh_6 : er_at er_SH 6 = some (3 + 5, 2, [some 7, none]) := rfl
theorem sh_7 : er_at er_SH 7 = some (3, 8, []) := rfl
theorem sh_8 : er_at er_SH 8 = some (0 + 5, 7, [none, none, none, none, some 9, some 10, some 11]) := rfl
theorem sh_9 : er_at er_SH 9 = some (0, 36, []) := rfl
theorem sh_10 : er_at er_SH 10 = some (0, 36, []) := rfl
theorem sh_11 : er_at er_SH 11 = some (1, 36, []) := rfl
theorem sh_12 : er_at er_SH 12 = some (0 + 5, 7, [none, none, none, none, some 13, some 14, some 15]) := rfl
theorem sh_13 : er_at er_SH 13 = some (0, 36, []) := rfl
theorem sh_14 : er_at er_SH 14 = some (0, 36, []) := rfl
theorem sh_15 : er_at er_SH 15 = some (1, 36, []) := rfl
theorem sh_16 : er_at er_SH 16 = some (0 + 5, 7, [none, none, none, none, some 17, some 18, some 19]) := rfl
theorem sh_17 : er_at er_SH 17 = some (0, 36, []) := rfl
theorem sh_18 : er_at er_SH 18 = some (0, 36, []) := rfl
theorem sh_19 : er_at er_SH 19 = some (1, 36, []) := rfl
theorem sh_20 : er_at er_SH 20 = some (0 + 5, 7, [none, none, none, none, some 21, some 22, some 23]) := rfl
theorem sh_21 : er_at er_SH 21 = some (0, 36, []) := rfl
theorem sh_22 : er_at er_SH 22 = some (0, 36, []) := rfl
theorem sh_23 : er_at er_SH 23 = some (1, 36, []) := rfl
theorem sh_24 : er_at er_SH 24 = some (0 + 5, 7, [none, none, none, none, some 25, some 26, some 27]) := rfl
theorem sh_25 : er_at er_SH 25 = some (0, 36, []) := rfl
theorem sh_26 : er_at er_SH 26 = some (0, 36, []) := rfl
theorem sh_27 : er_at er_SH 27 = some (1, 36, []) := rfl
theorem sh_28 : er_at er_SH 28 = some (0 + 5, 7, [none, none, none, none, some 29, some 30, some 31]) := rfl
theorem sh_29 : er_at er_SH 29 = some (0, 36, []) := rfl
theorem sh_30 : er_at er_SH 30 = some (0, 36, []) := rfl
theorem sh_31 : er_at er_SH 31 = some (1, 36, []) := rfl
theorem sh_32 : er_at er_SH 32 = some (0 + 5, 7, [none, none, none, none, some 33, some 34, some 35]) := rfl
theorem sh_33 : er_at er_SH 33 = some (0, 36, []) := rfl
theorem sh_34 : er_at er_SH 34 = some (0, 36, []) := rfl
theorem sh_35 : er_at er_SH 35 = some (1, 36, []) := rfl
theorem sh_36 : er_at er_SH 36 = some (0 + 5, 7, [none, none, none, none, some 37, some 38, some 39]) := rfl
theorem sh_37 : er_at er_SH 37 = some (0, 36, []) := rfl
theorem sh_38 : er_at er_SH 38 = some (0, 36, []) := rfl
theorem sh_39 : er_at er_SH 39 = some (1, 36, []) := rfl
theorem sh_40 : er_at er_SH 40 = some (2 + 5, 5, [some 41, none, none, none, some 42]) := rfl
theorem sh_41 : er_at er_SH 41 = some (0, 60, []) := rfl
theorem sh_42 : er_at er_SH 42 = some (0, 36, []) := rfl
theorem sh_43 : er_at er_SH 43 = some (1 + 5, 11, [some 44, some 45, some 46, some 47, some 48, some 49, some 50, some 51, none, none, none]) := rfl
theorem sh_44 : er_at er_SH 44 = some (0, 136, []) := rfl
theorem sh_45 : er_at er_SH 45 = some (0, 746, []) := rfl
theorem sh_46 : er_at er_SH 46 = some (0, 746, []) := rfl
theorem sh_47 : er_at er_SH 47 = some (0, 746, []) := rfl
theorem sh_48 : er_at er_SH 48 = some (0, 746, []) := rfl
theorem sh_49 : er_at er_SH 49 = some (0, 136, []) := rfl
theorem sh_50 : er_at er_SH 50 = some (0, 136, []) := rfl
theorem sh_51 : er_at er_SH 51 = some (0, 136, []) := rfl
theorem sh_52 : er_at er_SH 52 = some (1 + 5, 11, [some 53, some 54, some 55, some 56, some 57, some 58, some 59, some 60, none, none, none]) := rfl
theorem sh_53 : er_at er_SH 53 = some (0, 136, []) := rfl
theorem sh_54 : er_at er_SH 54 = some (0, 746, []) := rfl
theorem sh_55 : er_at er_SH 55 = some (0, 746, []) := rfl
theorem sh_56 : er_at er_SH 56 = some (0, 746, []) := rfl
theorem sh_57 : er_at er_SH 57 = some (0, 746, []) := rfl
theorem sh_58 : er_at er_SH 58 = some (0, 136, []) := rfl
theorem sh_59 : er_at er_SH 59 = some (0, 136, []) := rfl
theorem sh_60 : er_at er_SH 60 = some (0, 136, []) := rfl
theorem sh_61 : er_at er_SH 61 = some (4, 4, []) := rfl
theorem sh_62 : er_at er_SH 62 = some (4 + 5, 9, [none, some 63, none, some 64, some 65, some 66, none, none, none]) := rfl
theorem sh_63 : er_at er_SH 63 = some (0, 36, []) := rfl
theorem sh_64 : er_at er_SH 64 = some (0, 36, []) := rfl
theorem sh_65 : er_at er_SH 65 = some (1, 36, []) := rfl
theorem sh_66 : er_at er_SH 66 = some (0, 36, []) := rfl
theorem sh_67 : er_at er_SH 67 = some (4 + 5, 9, [none, some 68, none, some 69, some 70, some 71, none, none, none]) := rfl
theorem sh_68 : er_at er_SH 68 = some (0, 36, []) := rfl
theorem sh_69 : er_at er_SH 69 = some (0, 36, []) := rfl
theorem sh_70 : er_at er_SH 70 = some (1, 36, []) := rfl
theorem sh_71 : er_at er_SH 71 = some (0, 36, []) := rfl
theorem sh_72 : er_at er_SH 72 = some (4 + 5, 9, [none, some 73, none, some 74, some 75, some 76, none, none, none]) := rfl
theorem sh_73 : er_at er_SH 73 = some (0, 36, []) := rfl
theorem sh_74 : er_at er_SH 74 = some (0, 36, []) := rfl
theorem sh_75 : er_at er_SH 75 = some (1, 36, []) := rfl
theorem sh_76 : er_at er_SH 76 = some (0, 36, []) := rfl
theorem sh_77 : er_at er_SH 77 = some (4 + 5, 9, [none, some 78, none, some 79, some 80, some 81, none, none, none]) := rfl
theorem sh_78 : er_at er_SH 78 = some (0, 36, []) := rfl
theorem sh_79 : er_at er_SH 79 = some (0, 36, []) := rfl
theorem sh_80 : er_at er_SH 80 = some (1, 36, []) := rfl
theorem sh_81 : er_at er_SH 81 = some (0, 36, []) := rfl
theorem sh_82 : er_at er_SH 82 = some (1, 36, []) := rfl
theorem sh_83 : er_at er_SH 83 = some (6 + 5, 22, [some 84, some 85, none, some 86, none, some 87, none, none, some 88, some 89, some 90, some 91, some 92, none, some 93, some 94, some 95, some 96, some 97, some 98, none, some 99]) := rfl
theorem sh_84 : er_at er_SH 84 = some (0, 112, []) := rfl
theorem sh_85 : er_at er_SH 85 = some (0, 896, []) := rfl
theorem sh_86 : er_at er_SH 86 = some (2, 60, []) := rfl
theorem sh_87 : er_at er_SH 87 = some (0, 36, []) := rfl
theorem sh_88 : er_at er_SH 88 = some (0, 760, []) := rfl
theorem sh_89 : er_at er_SH 89 = some (0, 760, []) := rfl
theorem sh_90 : er_at er_SH 90 = some (0, 760, []) := rfl
theorem sh_91 : er_at er_SH 91 = some (0, 136, []) := rfl
theorem sh_92 : er_at er_SH 92 = some (0, 760, []) := rfl
theorem sh_93 : er_at er_SH 93 = some (1, 36, []) := rfl
theorem sh_94 : er_at er_SH 94 = some (0, 136, []) := rfl
theorem sh_95 : er_at er_SH 95 = some (0, 136, []) := rfl
theorem sh_96 : er_at er_SH 96 = some (1, 136, []) := rfl
theorem sh_97 : er_at er_SH 97 = some (0, 36, []) := rfl
theorem sh_98 : er_at er_SH 98 = some (0, 36, []) := rfl
theorem sh_99 : er_at er_SH 99 = some (0, 760, []) := rfl
def er_isN (n : Nat) : Prop := n = 43 ∨ n = 52
theorem shN_0 {n : Nat} (h : er_isN n) : er_at er_SH n = some (1 + 5, 11, [some (n + 1), some (n + 2), some (n + 3), some (n + 4), some (n + 5), some (n + 6), some (n + 7), some (n + 8), none, none, none]) := by
  rcases h with rfl | rfl <;> rfl
theorem shN_1 {n : Nat} (h : er_isN n) : er_at er_SH (n + 1) = some (0, 136, []) := by
  rcases h with rfl | rfl <;> rfl
theorem shN_2 {n : Nat} (h : er_isN n) : er_at er_SH (n + 2) = some (0, 746, []) := by
  rcases h with rfl | rfl <;> rfl
theorem shN_3 {n : Nat} (h : er_isN n) : er_at er_SH (n + 3) = some (0, 746, []) := by
  rcases h with rfl | rfl <;> rfl
theorem shN_4 {n : Nat} (h : er_isN n) : er_at er_SH (n + 4) = some (0, 746, []) := by
  rcases h with rfl | rfl <;> rfl
theorem shN_5 {n : Nat} (h : er_isN n) : er_at er_SH (n + 5) = some (0, 746, []) := by
  rcases h with rfl | rfl <;> rfl
theorem shN_6 {n : Nat} (h : er_isN n) : er_at er_SH (n + 6) = some (0, 136, []) := by
  rcases h with rfl | rfl <;> rfl
theorem shN_7 {n : Nat} (h : er_isN n) : er_at er_SH (n + 7) = some (0, 136, []) := by
  rcases h with rfl | rfl <;> rfl
theorem shN_8 {n : Nat} (h : er_isN n) : er_at er_SH (n + 8) = some (0, 136, []) := by
  rcases h with rfl | rfl <;> rfl
theorem shN_ne {n : Nat} (h : er_isN n) : n ≠ 0 := by
  rcases h with rfl | rfl <;> decide
def er_isY (y : Nat) : Prop := y = 62 ∨ y = 67 ∨ y = 72 ∨ y = 77
theorem shY_0 {y : Nat} (h : er_isY y) : er_at er_SH y = some (4 + 5, 9, [none, some (y + 1), none, some (y + 2), some (y + 3), some (y + 4), none, none, none]) := by
  rcases h with rfl | rfl | rfl | rfl <;> rfl
theorem shY_1 {y : Nat} (h : er_isY y) : er_at er_SH (y + 1) = some (0, 36, []) := by
  rcases h with rfl | rfl | rfl | rfl <;> rfl
theorem shY_2 {y : Nat} (h : er_isY y) : er_at er_SH (y + 2) = some (0, 36, []) := by
  rcases h with rfl | rfl | rfl | rfl <;> rfl
theorem shY_3 {y : Nat} (h : er_isY y) : er_at er_SH (y + 3) = some (1, 36, []) := by
  rcases h with rfl | rfl | rfl | rfl <;> rfl
theorem shY_4 {y : Nat} (h : er_isY y) : er_at er_SH (y + 4) = some (0, 36, []) := by
  rcases h with rfl | rfl | rfl | rfl <;> rfl
theorem shY_ne {y : Nat} (h : er_isY y) : y ≠ 0 := by
  rcases h with rfl | rfl | rfl | rfl <;> decide
def er_isB (b : Nat) : Prop := b = 2 ∨ b = 8 ∨ b = 12 ∨ b = 16 ∨ b = 20 ∨ b = 24 ∨ b = 28 ∨ b = 32 ∨ b = 36
theorem shB_0 {b : Nat} (h : er_isB b) : er_at er_SH b = some (0 + 5, 7, [none, none, none, none, some (b + 1), some (b + 2), some (b + 3)]) := by
  rcases h with rfl | rfl | rfl | rfl | rfl | rfl | rfl | rfl | rfl <;> rfl
theorem shB_1 {b : Nat} (h : er_isB b) : er_at er_SH (b + 1) = some (0, 36, []) := by
  rcases h with rfl | rfl | rfl | rfl | rfl | rfl | rfl | rfl | rfl <;> rfl
theorem shB_2 {b : Nat} (h : er_isB b) : er_at er_SH (b + 2) = some (0, 36, []) := by
  rcases h with rfl | rfl | rfl | rfl | rfl | rfl | rfl | rfl | rfl <;> rfl
theorem shB_3 {b : Nat} (h : er_isB b) : er_at er_SH (b + 3) = some (1, 36, []) := by
  rcases h with rfl | rfl | rfl | rfl | rfl | rfl | rfl | rfl | rfl <;> rfl
theorem shB_ne {b : Nat} (h : er_isB b) : b ≠ 0 := by
  rcases h with rfl | rfl | rfl | rfl | rfl | rfl | rfl | rfl | rfl <;> decide
def er_isO (o : Nat) : Prop := er_at er_SH o = some (1, 36, [])
/-- answers over the fixed shape -/
def er_PI (Q : Int → er_M → Prop) : er_Post := fun v sh m => sh = er_SH ∧ ∃ x : Int, v = some (.inl x) ∧ Q x m
def er_PV (Q : er_M → Prop) : er_Post := fun v sh m => sh = er_SH ∧ v = none ∧ Q m
def er_PR (Q : Nat → er_M → Prop) : er_Post := fun v sh m => sh = er_SH ∧ ∃ x : Nat, v = some (.inr x) ∧ Q x m
def er_SI (K : er_K) (i : er_I) (as : List er_V) (m : er_M) (Q : Int → er_M → Prop) : Prop := er_Spec K i as er_SH m (er_PI Q)
def er_SV (K : er_K) (i : er_I) (as : List er_V) (m : er_M) (Q : er_M → Prop) : Prop := er_Spec K i as er_SH m (er_PV Q)
def er_SR (K : er_K) (i : er_I) (as : List er_V) (m : er_M) (Q : Nat → er_M → Prop) : Prop := er_Spec K i as er_SH m (er_PR Q)
section ER5
variable {K : er_K} {i j : er_I} {m : er_M} {pc : Nat} {ls : List (Option er_V)} {st : List er_V} {Z : List Frame → Array Value → State → State → Prop}
def er_z (j : er_I) : Prop := j.2.2.2.2.cells = 0 ∧ j.2.2.2.2.slots = 0
theorem er_z_f {i j : er_I} (h : er_z j) : 0 + j.2.2.2.2.cells ≤ i.2.2.2.2.cells ∧ 0 + j.2.2.2.2.slots ≤ i.2.2.2.2.slots := by rw [h.1, h.2]; exact ⟨Nat.zero_le _, Nat.zero_le _⟩
theorem er_z_k {i j : er_I} {sh : er_Sh} (h : er_z j) (k : er_WP K i 0 0 sh m pc ls st Z) : er_WP K i (0 + j.2.2.2.2.cells) (0 + j.2.2.2.2.slots) sh m pc ls st Z := by rw [h.1, h.2]; exact k
theorem er_cVI {idx n b ci N : Nat} {As : List er_V} {rs : List (Option Nat)} {stk : List er_V} {Q : Int → er_M → Prop} (hM : Cond.methodLink i.1.cls idx j.1 ∈ er_tb ∧ Cond.instanceMethod j.1 ∈ er_tb ∧ Cond.selects j.1.cls j.1 j.1 ∈ er_tb) (hw : er_MW j) (hm : er_MD j n) (hz : er_z j) (hn : As.length = n) (h8 : st.length ≤ 8) (hb : er_at er_SH b = some (ci + 5, N, rs)) (hcl : (er_cl[ci]?).map (fun q => q.1) = some j.1.cls) (hR : er_fits i j) (hst : stk = As.reverse ++ .inr b :: st) (hd : decode i.2.1 pc = .ok (.invokevirtual idx, 3)) (hS : er_SI K j (.inr b :: As) m Q) (kk : ∀ (x : Int) (m1 : er_M), Q x m1 → er_WP K i 0 0 er_SH m1 (pc + 3) ls (.inl x :: st) Z) : er_WP K i 0 0 er_SH m pc ls stk Z := by
  refine er_callV hM hw hm hst hn h8 hb hcl hR (er_z_f hz) hd hS (fun v sh1 m1 hq => er_z_k hz ?_)
  obtain ⟨rfl, x, rfl, hq⟩ := hq
  exact kk x m1 hq
theorem er_cVV {idx n b ci N : Nat} {As : List er_V} {rs : List (Option Nat)} {stk : List er_V} {Q : er_M → Prop} (hM : Cond.methodLink i.1.cls idx j.1 ∈ er_tb ∧ Cond.instanceMethod j.1 ∈ er_tb ∧ Cond.selects j.1.cls j.1 j.1 ∈ er_tb) (hw : er_MW j) (hm : er_MD j n) (hz : er_z j) (hn : As.length = n) (h8 : st.length ≤ 8) (hb : er_at er_SH b = some (ci + 5, N, rs)) (hcl : (er_cl[ci]?).map (fun q => q.1) = some j.1.cls) (hR : er_fits i j) (hst : stk = As.reverse ++ .inr b :: st) (hd : decode i.2.1 pc = .ok (.invokevirtual idx, 3)) (hS : er_SV K j (.inr b :: As) m Q) (kk : ∀ (m1 : er_M), Q m1 → er_WP K i 0 0 er_SH m1 (pc + 3) ls (st) Z) : er_WP K i 0 0 er_SH m pc ls stk Z := by
  refine er_callV hM hw hm hst hn h8 hb hcl hR (er_z_f hz) hd hS (fun v sh1 m1 hq => er_z_k hz ?_)
  obtain ⟨rfl, rfl, hq⟩ := hq
  exact kk m1 hq
theorem er_cVR {idx n b ci N : Nat} {As : List er_V} {rs : List (Option Nat)} {stk : List er_V} {Q : Nat → er_M → Prop} (hM : Cond.methodLink i.1.cls idx j.1 ∈ er_tb ∧ Cond.instanceMethod j.1 ∈ er_tb ∧ Cond.selects j.1.cls j.1 j.1 ∈ er_tb) (hw : er_MW j) (hm : er_MD j n) (hz : er_z j) (hn : As.length = n) (h8 : st.length ≤ 8) (hb : er_at er_SH b = some (ci + 5, N, rs)) (hcl : (er_cl[ci]?).map (fun q => q.1) = some j.1.cls) (hR : er_fits i j) (hst : stk = As.reverse ++ .inr b :: st) (hd : decode i.2.1 pc = .ok (.invokevirtual idx, 3)) (hS : er_SR K j (.inr b :: As) m Q) (kk : ∀ (x : Nat) (m1 : er_M), Q x m1 → er_WP K i 0 0 er_SH m1 (pc + 3) ls (.inr x :: st) Z) : er_WP K i 0 0 er_SH m pc ls stk Z := by
  refine er_callV hM hw hm hst hn h8 hb hcl hR (er_z_f hz) hd hS (fun v sh1 m1 hq => er_z_k hz ?_)
  obtain ⟨rfl, x, rfl, hq⟩ := hq
  exact kk x m1 hq
theorem er_cS {idx n : Nat} {As : List er_V} {stk : List er_V} {Q : Int → er_M → Prop} (hM : Cond.methodLink i.1.cls idx j.1 ∈ er_tb ∧ Cond.static j.1 ∈ er_tb) (hown : j.1.cls = i.1.cls) (hw : er_MW j) (hm : er_MD j n) (hz : er_z j) (hn : As.length = n) (h8 : st.length ≤ 8) (hR : er_fits i j) (hst : stk = As.reverse ++ st) (hd : decode i.2.1 pc = .ok (.invokestatic idx, 3)) (hS : er_SI K j As m Q) (kk : ∀ (x : Int) (m1 : er_M), Q x m1 → er_WP K i 0 0 er_SH m1 (pc + 3) ls (.inl x :: st) Z) : er_WP K i 0 0 er_SH m pc ls stk Z := by
  refine er_callS hM hown hw hm hst hn h8 hR (er_z_f hz) hd hS (fun v sh1 m1 hq => er_z_k hz ?_)
  obtain ⟨rfl, x, rfl, hq⟩ := hq
  exact kk x m1 hq
theorem er_cN {idx n : Nat} {host : String} {As : List er_V} {stk : List er_V} {Q : Int → er_M → Prop} (hM : (i.1.cls, idx, j.1, host) ∈ er_nw ∧ Cond.static j.1 ∈ er_tb) (hw : er_MW j) (hm : er_MD j n) (hz : er_z j) (hn : As.length = n) (h8 : st.length ≤ 8) (hR : er_fits i j) (hst : stk = As.reverse ++ st) (hd : decode i.2.1 pc = .ok (.invokestatic idx, 3)) (hS : er_SI K j As m Q) (kk : ∀ (x : Int) (m1 : er_M), Q x m1 → er_WP K i 0 0 er_SH m1 (pc + 3) ls (.inl x :: st) Z) : er_WP K i 0 0 er_SH m pc ls stk Z := by
  refine er_callN hM hw hm hst hn h8 hR (er_z_f hz) hd hS (fun v sh1 m1 hq => er_z_k hz ?_)
  obtain ⟨rfl, x, rfl, hq⟩ := hq
  exact kk x m1 hq
theorem er_istE {n : Nat} {x : Int} {ls2 : List (Option er_V)} (k : Fin 4) (hkn : (k : Nat) = n) (hn : n < i.2.2.1) (hl : ls.set n (some (.inl x)) = ls2) (hd : decode i.2.1 pc = .ok (.istore_n k, 1)) (kk : er_WP K i 0 0 er_SH m (pc + 1) ls2 st Z) : er_WP K i 0 0 er_SH m pc ls (.inl x :: st) Z := er_istore_n hkn hn hd (hl ▸ kk)
theorem er_istF {n : Nat} {x : Int} {ls2 : List (Option er_V)} (hn : n < i.2.2.1) (hl : ls.set n (some (.inl x)) = ls2) (hd : decode i.2.1 pc = .ok (.istore n, 2)) (kk : er_WP K i 0 0 er_SH m (pc + 2) ls2 st Z) : er_WP K i 0 0 er_SH m pc ls (.inl x :: st) Z := er_istore hn hd (hl ▸ kk)
theorem er_astE {n : Nat} {x : Nat} {ls2 : List (Option er_V)} (k : Fin 4) (hkn : (k : Nat) = n) (hn : n < i.2.2.1) (hl : ls.set n (some (.inr x)) = ls2) (hd : decode i.2.1 pc = .ok (.astore_n k, 1)) (kk : er_WP K i 0 0 er_SH m (pc + 1) ls2 st Z) : er_WP K i 0 0 er_SH m pc ls (.inr x :: st) Z := er_astore_n hkn hn hd (hl ▸ kk)
theorem er_astF {n : Nat} {x : Nat} {ls2 : List (Option er_V)} (hn : n < i.2.2.1) (hl : ls.set n (some (.inr x)) = ls2) (hd : decode i.2.1 pc = .ok (.astore n, 2)) (kk : er_WP K i 0 0 er_SH m (pc + 2) ls2 st Z) : er_WP K i 0 0 er_SH m pc ls (.inr x :: st) Z := er_astore hn hd (hl ▸ kk)
theorem er_incE {n : Nat} {d x : Int} {ls2 : List (Option er_V)} (hl : ls[n]? = some (some (.inl x))) (hn : n < i.2.2.1) (hs : ls.set n (some (.inl (x + d))) = ls2) (hd : decode i.2.1 pc = .ok (.iinc n d, 3)) (kk : er_WP K i 0 0 er_SH m (pc + 3) ls2 st Z) : er_WP K i 0 0 er_SH m pc ls st Z := er_iinc hl hn hd (hs ▸ kk)
theorem er_iastE {c n : Nat} {rs : List (Option Nat)} {j x : Int} (hc : er_at er_SH c = some (0, n, rs)) (hn : n ≤ 2147483648) (h0 : 0 ≤ j) (h1 : j < n) (hd : decode i.2.1 pc = .ok (.iastore, 1)) (kk : ∀ m1, m1 = er_st m c j x → er_WP K i 0 0 er_SH m1 (pc + 1) ls st Z) : er_WP K i 0 0 er_SH m pc ls (.inl x :: .inl j :: .inr c :: st) Z := er_iast hc hn h0 h1 hd (kk _ rfl)
theorem er_zastE {c n : Nat} {rs : List (Option Nat)} {j x : Int} (hc : er_at er_SH c = some (1, n, rs)) (hn : n ≤ 2147483648) (h0 : 0 ≤ j) (h1 : j < n) (hx : x = 0 ∨ x = 1) (hd : decode i.2.1 pc = .ok (.bastore, 1)) (kk : ∀ m1, m1 = er_st m c j x → er_WP K i 0 0 er_SH m1 (pc + 1) ls st Z) : er_WP K i 0 0 er_SH m pc ls (.inl x :: .inl j :: .inr c :: st) Z := er_zast hc hn h0 h1 hx hd (kk _ rfl)
theorem er_bastE {c n : Nat} {rs : List (Option Nat)} {j x : Int} (hc : er_at er_SH c = some (2, n, rs)) (hn : n ≤ 2147483648) (h0 : 0 ≤ j) (h1 : j < n) (hx : -128 ≤ x) (hx1 : x < 128) (hd : decode i.2.1 pc = .ok (.bastore, 1)) (kk : ∀ m1, m1 = er_st m c j x → er_WP K i 0 0 er_SH m1 (pc + 1) ls st Z) : er_WP K i 0 0 er_SH m pc ls (.inl x :: .inl j :: .inr c :: st) Z := er_bast hc hn h0 h1 hx hx1 hd (kk _ rfl)
theorem er_aastE {c k n r N ci : Nat} {rs rs2 : List (Option Nat)} {j : Int} (hc : er_at er_SH c = some (k, n, rs)) (hk : k = 3 ∧ ci = 0 ∨ k = 4 ∧ ci = 4) (hn : n ≤ 2147483648) (h0 : 0 ≤ j) (h1 : j < n) (hr : er_at er_SH r = some (ci + 5, N, rs2)) (hd : decode i.2.1 pc = .ok (.aastore, 1)) (kk : ∀ m1, m1 = er_st m c j r → er_WP K i 0 0 er_SH m1 (pc + 1) ls st Z) : er_WP K i 0 0 er_SH m pc ls (.inr r :: .inl j :: .inr c :: st) Z := er_aast hc hk hn h0 h1 hr hd (kk _ rfl)
theorem er_getIE (kz : Int) {index ci k n c : Nat} {rs : List (Option Nat)} {fin : Bool} {ty : FieldType} (hkz : ((k : Nat) : Int) = kz) (hf : er_FL i.1.cls index ci k fin ty) (hc : er_at er_SH c = some (ci + 5, n, rs)) (hk : k < n) (hr : rs.getD k none = none) (hd : decode i.2.1 pc = .ok (.getfield index, 3)) (kk : er_WP K i 0 0 er_SH m (pc + 3) ls (.inl (m c kz) :: st) Z) : er_WP K i 0 0 er_SH m pc ls (.inr c :: st) Z := er_getI hf hc hk hr hd (by subst hkz; exact kk)
theorem er_putIE (kz : Int) {index ci k n c : Nat} {rs : List (Option Nat)} {x : Int} (hkz : ((k : Nat) : Int) = kz) (hf : er_FL i.1.cls index ci k false .int) (hc : er_at er_SH c = some (ci + 5, n, rs)) (hk : k < n) (hr : rs.getD k none = none) (hd : decode i.2.1 pc = .ok (.putfield index, 3)) (kk : ∀ m1, m1 = er_st m c kz x → er_WP K i 0 0 er_SH m1 (pc + 3) ls st Z) : er_WP K i 0 0 er_SH m pc ls (.inl x :: .inr c :: st) Z := er_putI hf hc hk hr hd (kk _ (by rw [hkz]))
theorem er_putZE (kz : Int) {index ci k n c : Nat} {rs : List (Option Nat)} {x : Int} (hkz : ((k : Nat) : Int) = kz) (hf : er_FL i.1.cls index ci k false .boolean) (hc : er_at er_SH c = some (ci + 5, n, rs)) (hk : k < n) (hr : rs.getD k none = none) (hx : x = 0 ∨ x = 1) (hd : decode i.2.1 pc = .ok (.putfield index, 3)) (kk : ∀ m1, m1 = er_st m c kz x → er_WP K i 0 0 er_SH m1 (pc + 3) ls st Z) : er_WP K i 0 0 er_SH m pc ls (.inl x :: .inr c :: st) Z := er_putZ hf hc hk hr hx hd (kk _ (by rw [hkz]))
theorem er_copyE {idx k na nb a b : Nat} {ra rb : List (Option Nat)} {n : Int} (hM : Cond.methodLink i.1.cls idx arraycopyName ∈ er_tb ∧ Cond.native arraycopyName ∈ er_tb ∧ Cond.static arraycopyName ∈ er_tb ∧ Cond.initialized "java/lang/System" ∈ er_tb) (hk : k < 2) (ha : er_at er_SH a = some (k, na, ra)) (hb : er_at er_SH b = some (k, nb, rb)) (h0 : 0 ≤ n) (h1 : n ≤ na) (h2 : n ≤ nb) (h3 : n < 2147483648) (hfit : k = 1 → ∀ j : Int, 0 ≤ j → j < n → m a j = 0 ∨ m a j = 1) (h8 : st.length ≤ 8) (hR : 1 ≤ i.2.2.2.2.frames ∧ 26 ≤ i.2.2.2.2.locals) (hd : decode i.2.1 pc = .ok (.invokestatic idx, 3)) (kk : ∀ m1, m1 = er_cpy m a b n → er_WP K i 0 0 er_SH m1 (pc + 3) ls st Z) : er_WP K i 0 0 er_SH m pc ls (.inl n :: .inl 0 :: .inr b :: .inl 0 :: .inr a :: st) Z := er_copy hM hk ha hb h0 h1 h2 h3 hfit h8 hR hd (kk _ rfl)
theorem er_iretE {x : Int} {Q : Int → er_M → Prop} (hret : i.2.2.2.1 = some .int) (hz : 0 = i.2.2.2.2.cells) (hd : decode i.2.1 pc = .ok (.ireturn, 1)) (hq : Q x m) : er_WP K i 0 0 er_SH m pc ls [.inl x] (er_Z K i (er_PI Q)) := er_iret hret hz (Nat.zero_le _) hd ⟨rfl, x, rfl, hq⟩
theorem er_zretE {x : Int} {Q : Int → er_M → Prop} (hret : i.2.2.2.1 = some .boolean) (hx : x = 0 ∨ x = 1) (hz : 0 = i.2.2.2.2.cells) (hd : decode i.2.1 pc = .ok (.ireturn, 1)) (hq : Q x m) : er_WP K i 0 0 er_SH m pc ls [.inl x] (er_Z K i (er_PI Q)) := er_zret hret hx hz (Nat.zero_le _) hd ⟨rfl, x, rfl, hq⟩
theorem er_vretE {Q : er_M → Prop} (hret : i.2.2.2.1 = none) (hz : 0 = i.2.2.2.2.cells) (hd : decode i.2.1 pc = .ok (.return_, 1)) (hq : Q m) : er_WP K i 0 0 er_SH m pc ls [] (er_Z K i (er_PV Q)) := er_vret hret hz (Nat.zero_le _) hd ⟨rfl, rfl, hq⟩
theorem er_aretE {r : Nat} {nm : String} {Q : Nat → er_M → Prop} (hret : i.2.2.2.1 = some (.object nm)) (hz : 0 = i.2.2.2.2.cells) (hd : decode i.2.1 pc = .ok (.areturn, 1)) (hq : Q r m) : er_WP K i 0 0 er_SH m pc ls [.inr r] (er_Z K i (er_PR Q)) := er_aret hret hz (Nat.zero_le _) hd ⟨rfl, r, rfl, hq⟩
end ER5
end
section
/-! sums, cuts, flows: no machine here -/
def er_sum : Nat → (Nat → Int) → Int
  | 0, _ => 0
  | n + 1, g => er_sum n g + g n
theorem er_sum_congr {n : Nat} {f g : Nat → Int} (h : ∀ i, i < n → f i = g i) : er_sum n f = er_sum n g := by
  induction n with
  | zero => rfl
  | succ n ih => simp only [er_sum]; rw [ih (fun i hi => h i (by omega)), h n (by omega)]
theorem er_sum_add {n : Nat} {f g : Nat → Int} : er_sum n (fun i => f i + g i) = er_sum n f + er_sum n g := by
  induction n with
  | zero => rfl
  | succ n ih => simp only [er_sum]; rw [ih]; omega
theorem er_sum_sub {n : Nat} {f g : Nat → Int} : er_sum n (fun i => f i - g i) = er_sum n f - er_sum n g := by
  induction n with
  | zero => rfl
  | succ n ih => simp only [er_sum]; rw [ih]; omega
theorem er_sum_mul {n : Nat} {f : Nat → Int} (c : Int) : er_sum n (fun i => c * f i) = c * er_sum n f := by
  induction n with
  | zero => simp [er_sum]
  | succ n ih => simp only [er_sum]; rw [ih, Int.mul_add]
theorem er_sum_zero {n : Nat} {f : Nat → Int} (h : ∀ i, i < n → f i = 0) : er_sum n f = 0 := by
  induction n with
  | zero => rfl
  | succ n ih => simp only [er_sum]; rw [ih (fun i hi => h i (by omega)), h n (by omega)]; rfl
theorem er_sum_le {n : Nat} {f g : Nat → Int} (h : ∀ i, i < n → f i ≤ g i) : er_sum n f ≤ er_sum n g := by
  induction n with
  | zero => exact Int.le_refl _
  | succ n ih => simp only [er_sum]; have := ih (fun i hi => h i (by omega)); have := h n (by omega); omega
theorem er_sum_nonneg {n : Nat} {f : Nat → Int} (h : ∀ i, i < n → 0 ≤ f i) : 0 ≤ er_sum n f := by
  have := er_sum_le (n := n) (f := fun _ => 0) (g := f) h
  rwa [er_sum_zero (fun _ _ => rfl)] at this
theorem er_sum_comm {n k : Nat} {f : Nat → Nat → Int} : er_sum n (fun i => er_sum k (fun j => f i j)) = er_sum k (fun j => er_sum n (fun i => f i j)) := by
  induction n with
  | zero => simp only [er_sum]; exact (er_sum_zero (fun _ _ => rfl)).symm
  | succ n ih => simp only [er_sum]; rw [ih, ← er_sum_add]
theorem er_sum_one {n k : Nat} {f g : Nat → Int} (hk : k < n) (h : ∀ i, i < n → i ≠ k → f i = g i) : er_sum n f = er_sum n g + (f k - g k) := by
  induction n with
  | zero => omega
  | succ n ih =>
    simp only [er_sum]
    by_cases hn : k = n
    · subst hn
      rw [er_sum_congr (g := g) (fun i hi => h i (by omega) (by omega))]
      omega
    · rw [ih (by omega) (fun i hi hk => h i (by omega) hk), h n (by omega) (by omega)]
      omega
theorem er_sum_eq_le {n : Nat} {f g : Nat → Int} (h : ∀ i, i < n → f i ≤ g i) (e : er_sum n f = er_sum n g) : ∀ i, i < n → f i = g i := by
  induction n with
  | zero => intro i hi; omega
  | succ n ih =>
    simp only [er_sum] at e
    have h1 := er_sum_le (n := n) (fun i hi => h i (by omega))
    have h2 := h n (by omega)
    intro i hi
    by_cases hn : i = n
    · subst hn; omega
    · exact ih (fun i hi => h i (by omega)) (by omega) i (by omega)
/-- 1 where p holds, else 0 -/
noncomputable def er_ic (p : Prop) : Int := @ite Int p (Classical.propDecidable p) 1 0
theorem er_ic_t {p : Prop} (h : p) : er_ic p = 1 := by unfold er_ic; rw [if_pos h]
theorem er_ic_f {p : Prop} (h : ¬ p) : er_ic p = 0 := by unfold er_ic; rw [if_neg h]
theorem er_ic_01 (p : Prop) : er_ic p = 0 ∨ er_ic p = 1 := by
  by_cases h : p
  · exact Or.inr (er_ic_t h)
  · exact Or.inl (er_ic_f h)
theorem er_ic_nn (p : Prop) : 0 ≤ er_ic p := by rcases er_ic_01 p with h | h <;> omega
theorem er_ic_iff {p q : Prop} (h : p ↔ q) : er_ic p = er_ic q := by rw [propext h]
def er_dl (x v : Int) : Int := if x = v then 1 else 0
theorem er_dl_t (x : Int) : er_dl x x = 1 := by unfold er_dl; rw [if_pos rfl]
theorem er_dl_f {x v : Int} (h : x ≠ v) : er_dl x v = 0 := by unfold er_dl; rw [if_neg h]
theorem er_sum_dl {n : Nat} {g : Nat → Int} {a : Int} (h0 : 0 ≤ a) (h1 : a < n) : er_sum n (fun v => g v * er_dl a v) = g a.toNat := by
  have hk : a.toNat < n := by omega
  rw [er_sum_one (g := fun _ => 0) hk (fun i _ hi => by rw [er_dl_f (by omega)]; simp), er_sum_zero (fun _ _ => rfl)]
  have : er_dl a (a.toNat : Int) = 1 := by rw [show (a.toNat : Int) = a by omega]; exact er_dl_t a
  rw [this]
  omega
/-- an edge: from, to, capacity; edge 2i of the network and its reverse 2i+1 are the i-th of the list -/
abbrev er_Ed : Type := Int × Int × Int
def er_g (L : List er_Ed) (i : Nat) : er_Ed := L.getD i (0, 0, 0)
theorem er_g_app1 {L M : List er_Ed} {i : Nat} (h : i < L.length) : er_g (L ++ M) i = er_g L i := by
  unfold er_g
  rw [List.getD_eq_getElem?_getD, List.getD_eq_getElem?_getD, List.getElem?_append_left h]
theorem er_g_app2 {L : List er_Ed} {t : er_Ed} : er_g (L ++ [t]) L.length = t := by
  unfold er_g
  rw [List.getD_eq_getElem?_getD, List.getElem?_append_right (Nat.le_refl _), Nat.sub_self]
  rfl
/-- the capacity of what leaves S -/
noncomputable def er_cut (S : Int → Prop) : List er_Ed → Int
  | [] => 0
  | t :: l => t.2.2 * er_ic (S t.1 ∧ ¬ S t.2.1) + er_cut S l
theorem er_cut_app (S : Int → Prop) (L M : List er_Ed) : er_cut S (L ++ M) = er_cut S L + er_cut S M := by
  induction L with
  | nil => simp [er_cut]
  | cons t l ih => simp only [List.cons_append, er_cut]; rw [ih]; omega
theorem er_sum_shift {n : Nat} {f : Nat → Int} : er_sum (n + 1) f = f 0 + er_sum n (fun i => f (i + 1)) := by
  induction n with
  | zero => simp [er_sum]
  | succ n ih =>
    rw [show er_sum (n + 1 + 1) f = er_sum (n + 1) f + f (n + 1) from rfl, ih]
    simp only [er_sum]
    omega
theorem er_cut_sum (S : Int → Prop) (L : List er_Ed) : er_cut S L = er_sum L.length (fun i => (er_g L i).2.2 * er_ic (S (er_g L i).1 ∧ ¬ S (er_g L i).2.1)) := by
  induction L with
  | nil => rfl
  | cons t l ih =>
    rw [List.length_cons, er_sum_shift]
    simp only [er_cut]
    rw [ih]
    rfl
/-- what flows out of v beyond what flows in; the flow on the i-th edge is the room of its reverse -/
def er_exc (L : List er_Ed) (rm : Int → Int) (v : Int) : Int := er_sum L.length (fun i => rm (2 * (i : Int) + 1) * (er_dl (er_g L i).1 v - er_dl (er_g L i).2.1 v))
/-- rooms of a flow from 0 to 1 -/
def er_FO (L : List er_Ed) (rm : Int → Int) : Prop := (∀ i : Nat, i < L.length → 0 ≤ rm (2 * (i : Int)) ∧ 0 ≤ rm (2 * (i : Int) + 1) ∧ rm (2 * (i : Int)) + rm (2 * (i : Int) + 1) = (er_g L i).2.2 ∧ 0 ≤ (er_g L i).1 ∧ (er_g L i).1 < 136 ∧ 0 ≤ (er_g L i).2.1 ∧ (er_g L i).2.1 < 136) ∧ ∀ v : Int, v ≠ 0 → v ≠ 1 → er_exc L rm v = 0
theorem er_across {L : List er_Ed} {rm : Int → Int} (h : er_FO L rm) {S : Int → Prop} (h0 : S 0) (h1 : ¬ S 1) : er_exc L rm 0 = er_sum L.length (fun i => rm (2 * (i : Int) + 1) * (er_ic (S (er_g L i).1) - er_ic (S (er_g L i).2.1))) := by
  have e1 : er_sum 136 (fun v => er_ic (S (v : Int)) * er_exc L rm (v : Int)) = er_exc L rm 0 := by
    rw [er_sum_one (k := 0) (g := fun _ => 0) (by omega) (fun i _ hi => ?_), er_sum_zero (fun _ _ => rfl)]
    · rw [show er_ic (S ((0 : Nat) : Int)) = 1 from er_ic_t h0]
      simp
    · by_cases hi1 : i = 1
      · subst hi1
        rw [show er_ic (S ((1 : Nat) : Int)) = 0 from er_ic_f h1]
        simp
      · rw [h.2 (i : Int) (by omega) (by omega)]
        simp
  rw [← e1]
  unfold er_exc
  have e2 : er_sum 136 (fun v => er_ic (S (v : Int)) * er_sum L.length (fun i => rm (2 * (i : Int) + 1) * (er_dl (er_g L i).1 v - er_dl (er_g L i).2.1 v))) = er_sum 136 (fun v => er_sum L.length (fun i => rm (2 * (i : Int) + 1) * (er_ic (S (v : Int)) * er_dl (er_g L i).1 v - er_ic (S (v : Int)) * er_dl (er_g L i).2.1 v))) := by
    apply er_sum_congr
    intro v _
    rw [← er_sum_mul]
    apply er_sum_congr
    intro i _
    rw [← Int.mul_sub, ← Int.mul_assoc, ← Int.mul_assoc, Int.mul_comm (er_ic _)]
  rw [e2, er_sum_comm]
  apply er_sum_congr
  intro i hi
  obtain ⟨-, -, -, g1, g2, g3, g4⟩ := h.1 i hi
  rw [er_sum_mul, er_sum_sub, er_sum_dl (g := fun v => er_ic (S (v : Int))) g1 g2, er_sum_dl (g := fun v => er_ic (S (v : Int))) g3 g4]
  rw [show (((er_g L i).1.toNat : Nat) : Int) = (er_g L i).1 by omega, show (((er_g L i).2.1.toNat : Nat) : Int) = (er_g L i).2.1 by omega]
theorem er_term {f c a0 b0 : Int} {p q : Prop} (h0 : 0 ≤ a0) (h1 : 0 ≤ b0) (h : a0 + b0 = c) (e : f = b0) : f * (er_ic p - er_ic q) ≤ c * er_ic (p ∧ ¬ q) ∧ (f * (er_ic p - er_ic q) = c * er_ic (p ∧ ¬ q) ↔ (p → ¬ q → a0 = 0) ∧ (q → ¬ p → b0 = 0)) := by
  subst e
  by_cases hp : p <;> by_cases hq : q
  · rw [er_ic_t hp, er_ic_t hq, er_ic_f (fun z => z.2 hq)]
    exact ⟨by omega, by constructor <;> intro _ <;> first | exact ⟨fun _ z => absurd hq z, fun _ z => absurd hp z⟩ | omega⟩
  · rw [er_ic_t hp, er_ic_f hq, er_ic_t ⟨hp, hq⟩]
    refine ⟨by omega, ⟨fun z => ⟨fun _ _ => by omega, fun z => absurd z hq⟩, fun z => by have := z.1 hp hq; omega⟩⟩
  · rw [er_ic_f hp, er_ic_t hq, er_ic_f (fun z => hp z.1)]
    refine ⟨by omega, ⟨fun z => ⟨fun z => absurd z hp, fun _ _ => by omega⟩, fun z => by have := z.2 hq hp; omega⟩⟩
  · rw [er_ic_f hp, er_ic_f hq, er_ic_f (fun z => hp z.1)]
    exact ⟨by omega, by constructor <;> intro _ <;> first | exact ⟨fun z => absurd z hp, fun z => absurd z hq⟩ | omega⟩
/-- S is closed under the edges that have room -/
def er_clo (L : List er_Ed) (rm : Int → Int) (S : Int → Prop) : Prop := ∀ i : Nat, i < L.length → (0 < rm (2 * (i : Int)) → S (er_g L i).1 → S (er_g L i).2.1) ∧ (0 < rm (2 * (i : Int) + 1) → S (er_g L i).2.1 → S (er_g L i).1)
/-- reached from the source by edges that have room -/
def er_near (L : List er_Ed) (rm : Int → Int) (v : Int) : Prop := ∀ S : Int → Prop, S 0 → er_clo L rm S → S v
theorem er_near_0 (L : List er_Ed) (rm : Int → Int) : er_near L rm 0 := fun _ h _ => h
theorem er_near_clo (L : List er_Ed) (rm : Int → Int) : er_clo L rm (er_near L rm) := fun i hi => ⟨fun h g S h0 hc => (hc i hi).1 h (g S h0 hc), fun h g S h0 hc => (hc i hi).2 h (g S h0 hc)⟩
theorem er_weak {L : List er_Ed} {rm : Int → Int} (h : er_FO L rm) {S : Int → Prop} (h0 : S 0) (h1 : ¬ S 1) : er_exc L rm 0 ≤ er_cut S L := by
  rw [er_across h h0 h1, er_cut_sum]
  refine er_sum_le (fun i hi => ?_)
  obtain ⟨g0, g1, g2, -⟩ := h.1 i hi
  exact (er_term g0 g1 g2 rfl).1
theorem er_tight {L : List er_Ed} {rm : Int → Int} (h : er_FO L rm) {S : Int → Prop} (h0 : S 0) (h1 : ¬ S 1) : er_exc L rm 0 = er_cut S L ↔ er_clo L rm S := by
  rw [er_across h h0 h1, er_cut_sum]
  constructor
  · intro e i hi
    have hle : ∀ i, i < L.length → _ := fun i hi => (er_term (p := S (er_g L i).1) (q := S (er_g L i).2.1) (h.1 i hi).1 (h.1 i hi).2.1 (h.1 i hi).2.2.1 rfl).1
    have h2 := er_sum_eq_le hle e i hi
    have h3 := (er_term (p := S (er_g L i).1) (q := S (er_g L i).2.1) (h.1 i hi).1 (h.1 i hi).2.1 (h.1 i hi).2.2.1 rfl).2.mp h2
    refine ⟨fun hr hs => Classical.byContradiction (fun hn => ?_), fun hr hs => Classical.byContradiction (fun hn => ?_)⟩
    · have := h3.1 hs hn; omega
    · have := h3.2 hs hn; omega
  · intro hc
    refine er_sum_congr (fun i hi => ?_)
    obtain ⟨g0, g1, g2, -⟩ := h.1 i hi
    refine (er_term g0 g1 g2 rfl).2.mpr ⟨fun hp hq => ?_, fun hq hp => ?_⟩
    · exact Classical.byContradiction (fun z => hq ((hc i hi).1 (by omega) hp))
    · exact Classical.byContradiction (fun z => hp ((hc i hi).2 (by omega) hq))
/-- a greatest flow's value -/
def er_max (L : List er_Ed) (rm : Int → Int) (x : Int) : Prop := er_FO L rm ∧ ¬ er_near L rm 1 ∧ er_exc L rm 0 = x
theorem er_max_cut {L : List er_Ed} {rm : Int → Int} {x : Int} (h : er_max L rm x) : x = er_cut (er_near L rm) L := by
  obtain ⟨h1, h2, rfl⟩ := h
  exact (er_tight h1 (er_near_0 _ _) h2).mpr (er_near_clo _ _)
/-- two networks: same greatest value, same near side -/
theorem er_same {L1 L2 : List er_Ed} {r1 r2 : Int → Int} {x1 x2 : Int} (h1 : er_max L1 r1 x1) (h2 : er_max L2 r2 x2) (c1 : er_cut (er_near L1 r1) L2 ≤ er_cut (er_near L1 r1) L1) (c2 : er_cut (er_near L2 r2) L1 ≤ er_cut (er_near L2 r2) L2) : x1 = x2 ∧ ∀ v, er_near L1 r1 v ↔ er_near L2 r2 v := by
  have e1 := er_max_cut h1
  have e2 := er_max_cut h2
  have w1 := er_weak h1.1 (er_near_0 L2 r2) h2.2.1
  have w2 := er_weak h2.1 (er_near_0 L1 r1) h1.2.1
  have v1 := h1.2.2
  have v2 := h2.2.2
  have k1 := (er_tight h1.1 (er_near_0 L2 r2) h2.2.1).mp (by omega)
  have k2 := (er_tight h2.1 (er_near_0 L1 r1) h1.2.1).mp (by omega)
  exact ⟨by omega, fun v => ⟨fun z => z _ (er_near_0 _ _) k1, fun z => z _ (er_near_0 _ _) k2⟩⟩
/-- the reverse of an edge -/
def er_px (e : Int) : Int := e + 1 - 2 * (e % 2)
/-- an edge's ends -/
def er_fr (L : List er_Ed) (e : Int) : Int := if e % 2 = 0 then (er_g L (e / 2).toNat).1 else (er_g L (e / 2).toNat).2.1
def er_to (L : List er_Ed) (e : Int) : Int := if e % 2 = 0 then (er_g L (e / 2).toNat).2.1 else (er_g L (e / 2).toNat).1
/-- d more along e -/
def er_up (rm : Int → Int) (e d : Int) : Int → Int := fun k => if k = e then rm e - d else if k = er_px e then rm (er_px e) + d else rm k
theorem er_exc_up {L : List er_Ed} {rm : Int → Int} {e d : Int} (h0 : 0 ≤ e) (h1 : e < 2 * L.length) (v : Int) : er_exc L (er_up rm e d) v = er_exc L rm v + d * (er_dl (er_fr L e) v - er_dl (er_to L e) v) := by
  have hk : (e / 2).toNat < L.length := by omega
  unfold er_exc
  rw [er_sum_one (k := (e / 2).toNat) (g := fun i => rm (2 * (i : Int) + 1) * (er_dl (er_g L i).1 v - er_dl (er_g L i).2.1 v)) hk (fun i _ hi => ?_)]
  · have hc : (((e / 2).toNat : Nat) : Int) = e / 2 := by omega
    rw [hc]
    rcases (by omega : e % 2 = 0 ∨ e % 2 = 1) with hp | hp
    · have e1 : er_up rm e d (2 * (e / 2) + 1) = rm (2 * (e / 2) + 1) + d := by
        unfold er_up er_px
        rw [if_neg (by omega), if_pos (by omega)]
        congr 2
        omega
      rw [e1]
      unfold er_fr er_to
      rw [if_pos hp, if_pos hp, Int.add_mul]
      omega
    · have e1 : er_up rm e d (2 * (e / 2) + 1) = rm (2 * (e / 2) + 1) - d := by
        unfold er_up
        rw [if_pos (by omega)]
        congr 2
        omega
      rw [e1]
      unfold er_fr er_to
      rw [if_neg (by omega), if_neg (by omega), Int.sub_mul, Int.mul_sub, Int.mul_sub, Int.mul_sub]
      omega
  · have e1 : er_up rm e d (2 * (i : Int) + 1) = rm (2 * (i : Int) + 1) := by
      unfold er_up er_px
      rw [if_neg (by omega), if_neg (by omega)]
    rw [e1]
theorem er_exc_same {L : List er_Ed} {r1 r2 : Int → Int} (h : ∀ i : Nat, i < L.length → r1 (2 * (i : Int) + 1) = r2 (2 * (i : Int) + 1)) (v : Int) : er_exc L r1 v = er_exc L r2 v := by
  unfold er_exc
  exact er_sum_congr (fun i hi => by rw [h i hi])
end
