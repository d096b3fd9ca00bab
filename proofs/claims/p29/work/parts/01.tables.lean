/-! PART A of the skeleton (the tables' words), then this claim's classes, methods and rooms: printed by wip/whole/gen01.py -/
-- ===== PART A: goes FIRST, ahead of the names: the tables' words, and 'selects' of the private methods out of them =====
/-- a private method of a class that the tables say can be made, by its rows of tables_1 -/
def lw_okq (q : MethodName × Nat) : Prop := (q.1.cls ≠ "java/lang/invoke/MethodHandle" ∧ q.1.cls ≠ "java/lang/invoke/VarHandle") ∧ Cond.instantiable q.1.cls q.2 ∈ tables_1 ∧ Cond.privateMethod q.1 ∈ tables_1 ∧ Cond.instanceMethod q.1 ∈ tables_1
theorem lw_p0 : lw_okq (⟨"EscapeRouter$GridText", "isAllowed", "(II)Z"⟩, 5) := ⟨⟨by decide +kernel, by decide +kernel⟩, List.mem_of_getElem? (i := 84) (by decide +kernel), List.mem_of_getElem? (i := 239) (by decide +kernel), List.mem_of_getElem? (i := 240) (by decide +kernel)⟩
theorem lw_p1 : lw_okq (⟨"EscapeRouter", "beginEdit", "()V"⟩, 10) := ⟨⟨by decide +kernel, by decide +kernel⟩, List.mem_of_getElem? (i := 10) (by decide +kernel), List.mem_of_getElem? (i := 247) (by decide +kernel), List.mem_of_getElem? (i := 248) (by decide +kernel)⟩
theorem lw_p2 : lw_okq (⟨"EscapeRouter$History", "dropOldest", "()V"⟩, 2) := ⟨⟨by decide +kernel, by decide +kernel⟩, List.mem_of_getElem? (i := 67) (by decide +kernel), List.mem_of_getElem? (i := 255) (by decide +kernel), List.mem_of_getElem? (i := 256) (by decide +kernel)⟩
theorem lw_p3 : lw_okq (⟨"EscapeRouter", "forgetResults", "()V"⟩, 10) := ⟨⟨by decide +kernel, by decide +kernel⟩, List.mem_of_getElem? (i := 10) (by decide +kernel), List.mem_of_getElem? (i := 266) (by decide +kernel), List.mem_of_getElem? (i := 267) (by decide +kernel)⟩
theorem lw_p4 : lw_okq (⟨"EscapeRouter$Layering", "putInOrder", "(LEscapeRouter$Board;)V"⟩, 9) := ⟨⟨by decide +kernel, by decide +kernel⟩, List.mem_of_getElem? (i := 151) (by decide +kernel), List.mem_of_getElem? (i := 301) (by decide +kernel), List.mem_of_getElem? (i := 302) (by decide +kernel)⟩
theorem lw_p5 : lw_okq (⟨"EscapeRouter$Layering", "addByRows", "(LEscapeRouter$Board;)V"⟩, 9) := ⟨⟨by decide +kernel, by decide +kernel⟩, List.mem_of_getElem? (i := 151) (by decide +kernel), List.mem_of_getElem? (i := 305) (by decide +kernel), List.mem_of_getElem? (i := 306) (by decide +kernel)⟩
theorem lw_p6 : lw_okq (⟨"EscapeRouter$Layering", "addPlace", "(II)V"⟩, 9) := ⟨⟨by decide +kernel, by decide +kernel⟩, List.mem_of_getElem? (i := 151) (by decide +kernel), List.mem_of_getElem? (i := 309) (by decide +kernel), List.mem_of_getElem? (i := 310) (by decide +kernel)⟩
theorem lw_p7 : lw_okq (⟨"EscapeRouter$Layering", "addByColumns", "(LEscapeRouter$Board;)V"⟩, 9) := ⟨⟨by decide +kernel, by decide +kernel⟩, List.mem_of_getElem? (i := 151) (by decide +kernel), List.mem_of_getElem? (i := 314) (by decide +kernel), List.mem_of_getElem? (i := 315) (by decide +kernel)⟩
theorem lw_p8 : lw_okq (⟨"EscapeRouter$Layering", "addRing", "(LEscapeRouter$Board;I)V"⟩, 9) := ⟨⟨by decide +kernel, by decide +kernel⟩, List.mem_of_getElem? (i := 151) (by decide +kernel), List.mem_of_getElem? (i := 318) (by decide +kernel), List.mem_of_getElem? (i := 319) (by decide +kernel)⟩
theorem lw_p9 : lw_okq (⟨"EscapeRouter$Layering", "fill", "(ILEscapeRouter$Board;LEscapeRouter$FlowNetwork;)I"⟩, 9) := ⟨⟨by decide +kernel, by decide +kernel⟩, List.mem_of_getElem? (i := 151) (by decide +kernel), List.mem_of_getElem? (i := 329) (by decide +kernel), List.mem_of_getElem? (i := 330) (by decide +kernel)⟩
theorem lw_p10 : lw_okq (⟨"EscapeRouter$FlowNetwork", "connect", "(III)V"⟩, 11) := ⟨⟨by decide +kernel, by decide +kernel⟩, List.mem_of_getElem? (i := 110) (by decide +kernel), List.mem_of_getElem? (i := 337) (by decide +kernel), List.mem_of_getElem? (i := 338) (by decide +kernel)⟩
theorem lw_p11 : lw_okq (⟨"EscapeRouter$FlowNetwork", "connectPins", "(LEscapeRouter$Board;I)V"⟩, 11) := ⟨⟨by decide +kernel, by decide +kernel⟩, List.mem_of_getElem? (i := 110) (by decide +kernel), List.mem_of_getElem? (i := 341) (by decide +kernel), List.mem_of_getElem? (i := 342) (by decide +kernel)⟩
theorem lw_p12 : lw_okq (⟨"EscapeRouter$FlowNetwork", "connectTiles", "(LEscapeRouter$Board;)V"⟩, 11) := ⟨⟨by decide +kernel, by decide +kernel⟩, List.mem_of_getElem? (i := 110) (by decide +kernel), List.mem_of_getElem? (i := 349) (by decide +kernel), List.mem_of_getElem? (i := 350) (by decide +kernel)⟩
theorem lw_p13 : lw_okq (⟨"EscapeRouter$FlowNetwork", "connectChannels", "(LEscapeRouter$Board;[Z)V"⟩, 11) := ⟨⟨by decide +kernel, by decide +kernel⟩, List.mem_of_getElem? (i := 110) (by decide +kernel), List.mem_of_getElem? (i := 354) (by decide +kernel), List.mem_of_getElem? (i := 355) (by decide +kernel)⟩
theorem lw_p14 : lw_okq (⟨"EscapeRouter$FlowNetwork", "connectBothWays", "(III)V"⟩, 11) := ⟨⟨by decide +kernel, by decide +kernel⟩, List.mem_of_getElem? (i := 110) (by decide +kernel), List.mem_of_getElem? (i := 358) (by decide +kernel), List.mem_of_getElem? (i := 359) (by decide +kernel)⟩
theorem lw_p15 : lw_okq (⟨"EscapeRouter$Layering", "consider", "(IIILEscapeRouter$FlowNetwork;)I"⟩, 9) := ⟨⟨by decide +kernel, by decide +kernel⟩, List.mem_of_getElem? (i := 151) (by decide +kernel), List.mem_of_getElem? (i := 362) (by decide +kernel), List.mem_of_getElem? (i := 363) (by decide +kernel)⟩
def lw_privs_1 : List (MethodName × Nat) := [(⟨"EscapeRouter$GridText", "isAllowed", "(II)Z"⟩, 5), (⟨"EscapeRouter", "beginEdit", "()V"⟩, 10), (⟨"EscapeRouter$History", "dropOldest", "()V"⟩, 2), (⟨"EscapeRouter", "forgetResults", "()V"⟩, 10), (⟨"EscapeRouter$Layering", "putInOrder", "(LEscapeRouter$Board;)V"⟩, 9), (⟨"EscapeRouter$Layering", "addByRows", "(LEscapeRouter$Board;)V"⟩, 9), (⟨"EscapeRouter$Layering", "addPlace", "(II)V"⟩, 9), (⟨"EscapeRouter$Layering", "addByColumns", "(LEscapeRouter$Board;)V"⟩, 9), (⟨"EscapeRouter$Layering", "addRing", "(LEscapeRouter$Board;I)V"⟩, 9), (⟨"EscapeRouter$Layering", "fill", "(ILEscapeRouter$Board;LEscapeRouter$FlowNetwork;)I"⟩, 9), (⟨"EscapeRouter$FlowNetwork", "connect", "(III)V"⟩, 11), (⟨"EscapeRouter$FlowNetwork", "connectPins", "(LEscapeRouter$Board;I)V"⟩, 11), (⟨"EscapeRouter$FlowNetwork", "connectTiles", "(LEscapeRouter$Board;)V"⟩, 11), (⟨"EscapeRouter$FlowNetwork", "connectChannels", "(LEscapeRouter$Board;[Z)V"⟩, 11), (⟨"EscapeRouter$FlowNetwork", "connectBothWays", "(III)V"⟩, 11), (⟨"EscapeRouter$Layering", "consider", "(IIILEscapeRouter$FlowNetwork;)I"⟩, 9)]
theorem lw_r1 : ∀ q ∈ lw_privs_1, lw_okq q := List.forall_mem_cons.mpr ⟨lw_p0, List.forall_mem_cons.mpr ⟨lw_p1, List.forall_mem_cons.mpr ⟨lw_p2, List.forall_mem_cons.mpr ⟨lw_p3, List.forall_mem_cons.mpr ⟨lw_p4, List.forall_mem_cons.mpr ⟨lw_p5, List.forall_mem_cons.mpr ⟨lw_p6, List.forall_mem_cons.mpr ⟨lw_p7, List.forall_mem_cons.mpr ⟨lw_p8, List.forall_mem_cons.mpr ⟨lw_p9, List.forall_mem_cons.mpr ⟨lw_p10, List.forall_mem_cons.mpr ⟨lw_p11, List.forall_mem_cons.mpr ⟨lw_p12, List.forall_mem_cons.mpr ⟨lw_p13, List.forall_mem_cons.mpr ⟨lw_p14, List.forall_mem_cons.mpr ⟨lw_p15, fun _ h => absurd h List.not_mem_nil⟩⟩⟩⟩⟩⟩⟩⟩⟩⟩⟩⟩⟩⟩⟩⟩
theorem lw_p16 : lw_okq (⟨"EscapeRouter$FlowNetwork", "findWay", "()Z"⟩, 11) := ⟨⟨by decide +kernel, by decide +kernel⟩, List.mem_of_getElem? (i := 110) (by decide +kernel), List.mem_of_getElem? (i := 379) (by decide +kernel), List.mem_of_getElem? (i := 380) (by decide +kernel)⟩
theorem lw_p17 : lw_okq (⟨"EscapeRouter", "solveSelection", "()V"⟩, 10) := ⟨⟨by decide +kernel, by decide +kernel⟩, List.mem_of_getElem? (i := 10) (by decide +kernel), List.mem_of_getElem? (i := 442) (by decide +kernel), List.mem_of_getElem? (i := 443) (by decide +kernel)⟩
theorem lw_p18 : lw_okq (⟨"EscapeRouter$FlowNetwork", "isNear", "(I)Z"⟩, 11) := ⟨⟨by decide +kernel, by decide +kernel⟩, List.mem_of_getElem? (i := 110) (by decide +kernel), List.mem_of_getElem? (i := 458) (by decide +kernel), List.mem_of_getElem? (i := 459) (by decide +kernel)⟩
theorem lw_p19 : lw_okq (⟨"EscapeRouter$FlowNetwork", "leavesNearSide", "(I)Z"⟩, 11) := ⟨⟨by decide +kernel, by decide +kernel⟩, List.mem_of_getElem? (i := 110) (by decide +kernel), List.mem_of_getElem? (i := 476) (by decide +kernel), List.mem_of_getElem? (i := 477) (by decide +kernel)⟩
def lw_privs_2 : List (MethodName × Nat) := [(⟨"EscapeRouter$FlowNetwork", "findWay", "()Z"⟩, 11), (⟨"EscapeRouter", "solveSelection", "()V"⟩, 10), (⟨"EscapeRouter$FlowNetwork", "isNear", "(I)Z"⟩, 11), (⟨"EscapeRouter$FlowNetwork", "leavesNearSide", "(I)Z"⟩, 11)]
theorem lw_r2 : ∀ q ∈ lw_privs_2, lw_okq q := List.forall_mem_cons.mpr ⟨lw_p16, List.forall_mem_cons.mpr ⟨lw_p17, List.forall_mem_cons.mpr ⟨lw_p18, List.forall_mem_cons.mpr ⟨lw_p19, fun _ h => absurd h List.not_mem_nil⟩⟩⟩⟩
def lw_privs : List (MethodName × Nat) := lw_privs_1 ++ (lw_privs_2)
def lw_tbl : List Cond := k2_sels lw_privs ++ tables_1
theorem lw_privs_ok : ∀ q ∈ lw_privs, lw_okq q := by
  show ∀ q ∈ lw_privs_1 ++ (lw_privs_2), lw_okq q
  exact List.forall_mem_append.mpr ⟨lw_r1, lw_r2⟩
/-- the words that ride through calls by themselves -/
def er_tb : List Cond := lw_tbl.filter goodWord
theorem er_tb_of {w : Cond} (h : w ∈ lw_tbl) (g : goodWord w = true) : w ∈ er_tb := List.mem_filter.mpr ⟨h, g⟩
theorem er_tb_in {w : Cond} (h : w ∈ er_tb) : w ∈ lw_tbl := (List.mem_filter.mp h).1
/-- the words of nest mates (they do not): own, entry, method, host -/
def er_nw : List (String × Nat × MethodName × String) := [("EscapeRouter$Board", 35, ⟨"EscapeRouter", "placeOf", "(II)I"⟩, "EscapeRouter"), ("EscapeRouter$GridText", 32, ⟨"EscapeRouter", "placeOf", "(II)I"⟩, "EscapeRouter"), ("EscapeRouter$Layering", 114, ⟨"EscapeRouter", "placeOf", "(II)I"⟩, "EscapeRouter"), ("EscapeRouter$FlowNetwork", 70, ⟨"EscapeRouter", "placeOf", "(II)I"⟩, "EscapeRouter"), ("EscapeRouter$FlowNetwork", 77, ⟨"EscapeRouter", "tileAt", "(II)I"⟩, "EscapeRouter")]
def er_FB : u_T := fun k => match k with
  | 0 => ("EscapeRouter$Board", "rowCount", "I", false)
  | 1 => ("EscapeRouter$Board", "columnCount", "I", false)
  | 2 => ("EscapeRouter$Board", "channelCapacity", "I", false)
  | 3 => ("EscapeRouter$Board", "tileCapacity", "I", false)
  | 4 => ("EscapeRouter$Board", "kinds", "[I", true)
  | 5 => ("EscapeRouter$Board", "partners", "[I", true)
  | _ => ("EscapeRouter$Board", "selected", "[Z", true)
def er_tB : Nat → FieldType := fun k => match k with
  | 0 => .int
  | 1 => .int
  | 2 => .int
  | 3 => .int
  | 4 => .array .int
  | 5 => .array .int
  | _ => .array .boolean
theorem er_nB : ∀ a, a < 7 → ∀ b, b < 7 → a ≠ b → (er_FB a).2.1 ≠ (er_FB b).2.1 := by decide +kernel
theorem er_tB_ok : ∀ k, k < 7 → parseFieldDescriptor (er_FB k).2.2.1 = some (er_tB k) := by decide +kernel
set_option maxRecDepth 20000 in
theorem er_iB : ∀ w ∈ u_ws "EscapeRouter$Board" er_FB 7, w ∈ er_tb := by decide +kernel
def er_FN : u_T := fun k => match k with
  | 0 => ("EscapeRouter$FlowNetwork", "firstEdge", "[I", true)
  | 1 => ("EscapeRouter$FlowNetwork", "nextEdge", "[I", true)
  | 2 => ("EscapeRouter$FlowNetwork", "target", "[I", true)
  | 3 => ("EscapeRouter$FlowNetwork", "residual", "[I", true)
  | 4 => ("EscapeRouter$FlowNetwork", "keptResidual", "[I", true)
  | 5 => ("EscapeRouter$FlowNetwork", "reachedIn", "[I", true)
  | 6 => ("EscapeRouter$FlowNetwork", "reachedBy", "[I", true)
  | 7 => ("EscapeRouter$FlowNetwork", "queue", "[I", true)
  | 8 => ("EscapeRouter$FlowNetwork", "edgeCount", "I", false)
  | 9 => ("EscapeRouter$FlowNetwork", "firstChannelEdge", "I", false)
  | _ => ("EscapeRouter$FlowNetwork", "search", "I", false)
def er_tN : Nat → FieldType := fun k => match k with
  | 0 => .array .int
  | 1 => .array .int
  | 2 => .array .int
  | 3 => .array .int
  | 4 => .array .int
  | 5 => .array .int
  | 6 => .array .int
  | 7 => .array .int
  | 8 => .int
  | 9 => .int
  | _ => .int
theorem er_nN : ∀ a, a < 11 → ∀ b, b < 11 → a ≠ b → (er_FN a).2.1 ≠ (er_FN b).2.1 := by decide +kernel
theorem er_tN_ok : ∀ k, k < 11 → parseFieldDescriptor (er_FN k).2.2.1 = some (er_tN k) := by decide +kernel
set_option maxRecDepth 20000 in
theorem er_iN : ∀ w ∈ u_ws "EscapeRouter$FlowNetwork" er_FN 11, w ∈ er_tb := by decide +kernel
def er_FG : u_T := fun k => match k with
  | 0 => ("EscapeRouter$GridText", "characters", "[I", true)
  | 1 => ("EscapeRouter$GridText", "length", "I", false)
  | 2 => ("EscapeRouter$GridText", "rowCount", "I", false)
  | 3 => ("EscapeRouter$GridText", "columnCount", "I", false)
  | _ => ("EscapeRouter$GridText", "kinds", "[I", true)
def er_tG : Nat → FieldType := fun k => match k with
  | 0 => .array .int
  | 1 => .int
  | 2 => .int
  | 3 => .int
  | _ => .array .int
theorem er_nG : ∀ a, a < 5 → ∀ b, b < 5 → a ≠ b → (er_FG a).2.1 ≠ (er_FG b).2.1 := by decide +kernel
theorem er_tG_ok : ∀ k, k < 5 → parseFieldDescriptor (er_FG k).2.2.1 = some (er_tG k) := by decide +kernel
set_option maxRecDepth 20000 in
theorem er_iG : ∀ w ∈ u_ws "EscapeRouter$GridText" er_FG 5, w ∈ er_tb := by decide +kernel
def er_FH : u_T := fun k => match k with
  | 0 => ("EscapeRouter$History", "boards", "[LEscapeRouter$Board;", true)
  | _ => ("EscapeRouter$History", "count", "I", false)
def er_tH : Nat → FieldType := fun k => match k with
  | 0 => .array (.object "EscapeRouter$Board")
  | _ => .int
theorem er_nH : ∀ a, a < 2 → ∀ b, b < 2 → a ≠ b → (er_FH a).2.1 ≠ (er_FH b).2.1 := by decide +kernel
theorem er_tH_ok : ∀ k, k < 2 → parseFieldDescriptor (er_FH k).2.2.1 = some (er_tH k) := by decide +kernel
set_option maxRecDepth 20000 in
theorem er_iH : ∀ w ∈ u_ws "EscapeRouter$History" er_FH 2, w ∈ er_tb := by decide +kernel
def er_FY : u_T := fun k => match k with
  | 0 => ("EscapeRouter$Layering", "strategy", "I", true)
  | 1 => ("EscapeRouter$Layering", "order", "[I", true)
  | 2 => ("EscapeRouter$Layering", "ordered", "I", false)
  | 3 => ("EscapeRouter$Layering", "consideredFor", "[I", true)
  | 4 => ("EscapeRouter$Layering", "open", "[Z", true)
  | 5 => ("EscapeRouter$Layering", "layerAt", "[I", true)
  | 6 => ("EscapeRouter$Layering", "layers", "I", false)
  | 7 => ("EscapeRouter$Layering", "complete", "Z", false)
  | _ => ("EscapeRouter$Layering", "fresh", "Z", false)
def er_tY : Nat → FieldType := fun k => match k with
  | 0 => .int
  | 1 => .array .int
  | 2 => .int
  | 3 => .array .int
  | 4 => .array .boolean
  | 5 => .array .int
  | 6 => .int
  | 7 => .boolean
  | _ => .boolean
theorem er_nY : ∀ a, a < 9 → ∀ b, b < 9 → a ≠ b → (er_FY a).2.1 ≠ (er_FY b).2.1 := by decide +kernel
theorem er_tY_ok : ∀ k, k < 9 → parseFieldDescriptor (er_FY k).2.2.1 = some (er_tY k) := by decide +kernel
set_option maxRecDepth 20000 in
theorem er_iY : ∀ w ∈ u_ws "EscapeRouter$Layering" er_FY 9, w ∈ er_tb := by decide +kernel
def er_FR : u_T := fun k => match k with
  | 0 => ("EscapeRouter", "board", "LEscapeRouter$Board;", true)
  | 1 => ("EscapeRouter", "history", "LEscapeRouter$History;", true)
  | 2 => ("EscapeRouter", "text", "LEscapeRouter$GridText;", true)
  | 3 => ("EscapeRouter", "selectionNetwork", "LEscapeRouter$FlowNetwork;", true)
  | 4 => ("EscapeRouter", "layerNetwork", "LEscapeRouter$FlowNetwork;", true)
  | 5 => ("EscapeRouter", "layerings", "[LEscapeRouter$Layering;", true)
  | 6 => ("EscapeRouter", "open", "[Z", true)
  | 7 => ("EscapeRouter", "selectionSolved", "Z", false)
  | 8 => ("EscapeRouter", "escaping", "I", false)
  | _ => ("EscapeRouter", "knownThroughput", "I", false)
def er_tR : Nat → FieldType := fun k => match k with
  | 0 => .object "EscapeRouter$Board"
  | 1 => .object "EscapeRouter$History"
  | 2 => .object "EscapeRouter$GridText"
  | 3 => .object "EscapeRouter$FlowNetwork"
  | 4 => .object "EscapeRouter$FlowNetwork"
  | 5 => .array (.object "EscapeRouter$Layering")
  | 6 => .array .boolean
  | 7 => .boolean
  | 8 => .int
  | _ => .int
theorem er_nR : ∀ a, a < 10 → ∀ b, b < 10 → a ≠ b → (er_FR a).2.1 ≠ (er_FR b).2.1 := by decide +kernel
theorem er_tR_ok : ∀ k, k < 10 → parseFieldDescriptor (er_FR k).2.2.1 = some (er_tR k) := by decide +kernel
set_option maxRecDepth 20000 in
theorem er_iR : ∀ w ∈ u_ws "EscapeRouter" er_FR 10, w ∈ er_tb := by decide +kernel
abbrev er_cl : List vw_C := [("EscapeRouter$Board", er_FB, 7), ("EscapeRouter$FlowNetwork", er_FN, 11), ("EscapeRouter$GridText", er_FG, 5), ("EscapeRouter$History", er_FH, 2), ("EscapeRouter$Layering", er_FY, 9), ("EscapeRouter", er_FR, 10)]
-- the law itself: frames, locals needed: (8, 197)
abbrev er_I : Type := MethodName × ByteArray × Nat × Option FieldType × Room
def mi_R_init : er_I := (⟨"EscapeRouter", "<init>", "()V"⟩, prog_1_method_1_code, 2, none, { frames := 3, cells := 81, slots := 8876, locals := 64 })
def mi_R_appendCharacter : er_I := (⟨"EscapeRouter", "appendCharacter", "(I)I"⟩, prog_1_method_2_code, 2, some .int, { frames := 1, cells := 0, slots := 0, locals := 21 })
def mi_R_clearText : er_I := (⟨"EscapeRouter", "clearText", "()I"⟩, prog_1_method_3_code, 2, some .int, { frames := 0, cells := 0, slots := 0, locals := 0 })
def mi_R_loadGrid : er_I := (⟨"EscapeRouter", "loadGrid", "()I"⟩, prog_1_method_4_code, 2, some .int, { frames := 4, cells := 0, slots := 0, locals := 89 })
def mi_R_setKind : er_I := (⟨"EscapeRouter", "setKind", "(III)I"⟩, prog_1_method_5_code, 6, some .int, { frames := 4, cells := 0, slots := 0, locals := 89 })
def mi_R_setChannelCapacity : er_I := (⟨"EscapeRouter", "setChannelCapacity", "(I)I"⟩, prog_1_method_6_code, 3, some .int, { frames := 4, cells := 0, slots := 0, locals := 89 })
def mi_R_setTileCapacity : er_I := (⟨"EscapeRouter", "setTileCapacity", "(I)I"⟩, prog_1_method_7_code, 3, some .int, { frames := 4, cells := 0, slots := 0, locals := 89 })
def mi_R_rows : er_I := (⟨"EscapeRouter", "rows", "()I"⟩, prog_1_method_8_code, 1, some .int, { frames := 0, cells := 0, slots := 0, locals := 0 })
def mi_R_columns : er_I := (⟨"EscapeRouter", "columns", "()I"⟩, prog_1_method_9_code, 1, some .int, { frames := 0, cells := 0, slots := 0, locals := 0 })
def mi_R_kindAt : er_I := (⟨"EscapeRouter", "kindAt", "(II)I"⟩, prog_1_method_10_code, 3, some .int, { frames := 1, cells := 0, slots := 0, locals := 22 })
def mi_R_signalCount : er_I := (⟨"EscapeRouter", "signalCount", "()I"⟩, prog_1_method_11_code, 1, some .int, { frames := 1, cells := 0, slots := 0, locals := 22 })
def mi_R_makePair : er_I := (⟨"EscapeRouter", "makePair", "(IIII)I"⟩, prog_1_method_12_code, 7, some .int, { frames := 4, cells := 0, slots := 0, locals := 89 })
def mi_R_breakPair : er_I := (⟨"EscapeRouter", "breakPair", "(II)I"⟩, prog_1_method_13_code, 4, some .int, { frames := 4, cells := 0, slots := 0, locals := 89 })
def mi_R_partnerOf : er_I := (⟨"EscapeRouter", "partnerOf", "(II)I"⟩, prog_1_method_14_code, 4, some .int, { frames := 1, cells := 0, slots := 0, locals := 22 })
def mi_R_select : er_I := (⟨"EscapeRouter", "select", "(II)I"⟩, prog_1_method_15_code, 4, some .int, { frames := 4, cells := 0, slots := 0, locals := 89 })
def mi_R_deselect : er_I := (⟨"EscapeRouter", "deselect", "(II)I"⟩, prog_1_method_16_code, 4, some .int, { frames := 4, cells := 0, slots := 0, locals := 89 })
def mi_R_clearSelection : er_I := (⟨"EscapeRouter", "clearSelection", "()I"⟩, prog_1_method_17_code, 3, some .int, { frames := 4, cells := 0, slots := 0, locals := 89 })
def mi_R_escapeCount : er_I := (⟨"EscapeRouter", "escapeCount", "()I"⟩, prog_1_method_18_code, 1, some .int, { frames := 5, cells := 0, slots := 0, locals := 121 })
def mi_R_tileSide : er_I := (⟨"EscapeRouter", "tileSide", "(II)I"⟩, prog_1_method_19_code, 3, some .int, { frames := 5, cells := 0, slots := 0, locals := 121 })
def mi_R_cutChannels : er_I := (⟨"EscapeRouter", "cutChannels", "()I"⟩, prog_1_method_20_code, 1, some .int, { frames := 5, cells := 0, slots := 0, locals := 121 })
def mi_R_layerCount : er_I := (⟨"EscapeRouter", "layerCount", "(I)I"⟩, prog_1_method_21_code, 3, some .int, { frames := 6, cells := 0, slots := 0, locals := 152 })
def mi_R_layerLoad : er_I := (⟨"EscapeRouter", "layerLoad", "(II)I"⟩, prog_1_method_23_code, 3, some .int, { frames := 6, cells := 0, slots := 0, locals := 152 })
def mi_R_throughput : er_I := (⟨"EscapeRouter", "throughput", "()I"⟩, prog_1_method_25_code, 2, some .int, { frames := 4, cells := 0, slots := 0, locals := 100 })
def mi_R_lowerBound : er_I := (⟨"EscapeRouter", "lowerBound", "()I"⟩, prog_1_method_26_code, 3, some .int, { frames := 5, cells := 0, slots := 0, locals := 121 })
def mi_R_undo : er_I := (⟨"EscapeRouter", "undo", "()I"⟩, prog_1_method_27_code, 1, some .int, { frames := 3, cells := 0, slots := 0, locals := 69 })
def mi_R_placeOf : er_I := (⟨"EscapeRouter", "placeOf", "(II)I"⟩, prog_1_method_28_code, 2, some .int, { frames := 0, cells := 0, slots := 0, locals := 0 })
def mi_R_tileAt : er_I := (⟨"EscapeRouter", "tileAt", "(II)I"⟩, prog_1_method_29_code, 2, some .int, { frames := 0, cells := 0, slots := 0, locals := 0 })
def mi_R_isStrategy : er_I := (⟨"EscapeRouter", "isStrategy", "(I)Z"⟩, prog_1_method_30_code, 1, some .boolean, { frames := 0, cells := 0, slots := 0, locals := 0 })
def mi_R_beginEdit : er_I := (⟨"EscapeRouter", "beginEdit", "()V"⟩, prog_1_method_31_code, 1, none, { frames := 3, cells := 0, slots := 0, locals := 69 })
def mi_R_forgetResults : er_I := (⟨"EscapeRouter", "forgetResults", "()V"⟩, prog_1_method_32_code, 2, none, { frames := 0, cells := 0, slots := 0, locals := 0 })
def mi_R_solveSelection : er_I := (⟨"EscapeRouter", "solveSelection", "()V"⟩, prog_1_method_33_code, 2, none, { frames := 4, cells := 0, slots := 0, locals := 100 })
def mi_B_init : er_I := (⟨"EscapeRouter$Board", "<init>", "()V"⟩, prog_2_method_1_code, 3, none, { frames := 1, cells := 3, slots := 108, locals := 21 })
def mi_B_copyFrom : er_I := (⟨"EscapeRouter$Board", "copyFrom", "(LEscapeRouter$Board;)V"⟩, prog_2_method_2_code, 3, none, { frames := 1, cells := 0, slots := 0, locals := 26 })
def mi_B_replaceGrid : er_I := (⟨"EscapeRouter$Board", "replaceGrid", "(LEscapeRouter$GridText;)V"⟩, prog_2_method_3_code, 5, none, { frames := 1, cells := 0, slots := 0, locals := 22 })
def mi_B_has : er_I := (⟨"EscapeRouter$Board", "has", "(II)Z"⟩, prog_2_method_4_code, 3, some .boolean, { frames := 0, cells := 0, slots := 0, locals := 0 })
def mi_B_isFreeForPair : er_I := (⟨"EscapeRouter$Board", "isFreeForPair", "(I)Z"⟩, prog_2_method_5_code, 2, some .boolean, { frames := 0, cells := 0, slots := 0, locals := 0 })
def mi_B_separate : er_I := (⟨"EscapeRouter$Board", "separate", "(I)V"⟩, prog_2_method_6_code, 3, none, { frames := 0, cells := 0, slots := 0, locals := 0 })
def mi_B_countSignals : er_I := (⟨"EscapeRouter$Board", "countSignals", "()I"⟩, prog_2_method_7_code, 3, some .int, { frames := 0, cells := 0, slots := 0, locals := 0 })
def mi_B_countPairs : er_I := (⟨"EscapeRouter$Board", "countPairs", "()I"⟩, prog_2_method_8_code, 3, some .int, { frames := 0, cells := 0, slots := 0, locals := 0 })
def mi_B_countSelected : er_I := (⟨"EscapeRouter$Board", "countSelected", "()I"⟩, prog_2_method_9_code, 3, some .int, { frames := 0, cells := 0, slots := 0, locals := 0 })
def mi_N_init : er_I := (⟨"EscapeRouter$FlowNetwork", "<init>", "()V"⟩, prog_3_method_1_code, 1, none, { frames := 1, cells := 8, slots := 3528, locals := 20 })
def mi_N_build : er_I := (⟨"EscapeRouter$FlowNetwork", "build", "(LEscapeRouter$Board;[ZI)V"⟩, prog_3_method_2_code, 5, none, { frames := 3, cells := 0, slots := 0, locals := 76 })
def mi_N_connectPins : er_I := (⟨"EscapeRouter$FlowNetwork", "connectPins", "(LEscapeRouter$Board;I)V"⟩, prog_3_method_3_code, 7, none, { frames := 1, cells := 0, slots := 0, locals := 25 })
def mi_N_connectTiles : er_I := (⟨"EscapeRouter$FlowNetwork", "connectTiles", "(LEscapeRouter$Board;)V"⟩, prog_3_method_4_code, 5, none, { frames := 1, cells := 0, slots := 0, locals := 25 })
def mi_N_connectChannels : er_I := (⟨"EscapeRouter$FlowNetwork", "connectChannels", "(LEscapeRouter$Board;[Z)V"⟩, prog_3_method_5_code, 9, none, { frames := 2, cells := 0, slots := 0, locals := 48 })
def mi_N_connectBothWays : er_I := (⟨"EscapeRouter$FlowNetwork", "connectBothWays", "(III)V"⟩, prog_3_method_6_code, 4, none, { frames := 1, cells := 0, slots := 0, locals := 25 })
def mi_N_connect : er_I := (⟨"EscapeRouter$FlowNetwork", "connect", "(III)V"⟩, prog_3_method_7_code, 6, none, { frames := 0, cells := 0, slots := 0, locals := 0 })
def mi_N_supply : er_I := (⟨"EscapeRouter$FlowNetwork", "supply", "(II)V"⟩, prog_3_method_8_code, 3, none, { frames := 0, cells := 0, slots := 0, locals := 0 })
def mi_N_keepFlow : er_I := (⟨"EscapeRouter$FlowNetwork", "keepFlow", "()V"⟩, prog_3_method_9_code, 1, none, { frames := 1, cells := 0, slots := 0, locals := 26 })
def mi_N_giveFlowBack : er_I := (⟨"EscapeRouter$FlowNetwork", "giveFlowBack", "()V"⟩, prog_3_method_10_code, 1, none, { frames := 1, cells := 0, slots := 0, locals := 26 })
def mi_N_pushAll : er_I := (⟨"EscapeRouter$FlowNetwork", "pushAll", "()I"⟩, prog_3_method_11_code, 4, some .int, { frames := 2, cells := 0, slots := 0, locals := 49 })
def mi_N_push : er_I := (⟨"EscapeRouter$FlowNetwork", "push", "()I"⟩, prog_3_method_12_code, 5, some .int, { frames := 1, cells := 0, slots := 0, locals := 25 })
def mi_N_findWay : er_I := (⟨"EscapeRouter$FlowNetwork", "findWay", "()Z"⟩, prog_3_method_13_code, 6, some .boolean, { frames := 0, cells := 0, slots := 0, locals := 0 })
def mi_N_isNear : er_I := (⟨"EscapeRouter$FlowNetwork", "isNear", "(I)Z"⟩, prog_3_method_14_code, 2, some .boolean, { frames := 0, cells := 0, slots := 0, locals := 0 })
def mi_N_sideOf : er_I := (⟨"EscapeRouter$FlowNetwork", "sideOf", "(I)I"⟩, prog_3_method_15_code, 2, some .int, { frames := 1, cells := 0, slots := 0, locals := 21 })
def mi_N_countCutChannels : er_I := (⟨"EscapeRouter$FlowNetwork", "countCutChannels", "()I"⟩, prog_3_method_16_code, 3, some .int, { frames := 2, cells := 0, slots := 0, locals := 42 })
def mi_N_leavesNearSide : er_I := (⟨"EscapeRouter$FlowNetwork", "leavesNearSide", "(I)Z"⟩, prog_3_method_17_code, 2, some .boolean, { frames := 1, cells := 0, slots := 0, locals := 21 })
def mi_G_init : er_I := (⟨"EscapeRouter$GridText", "<init>", "()V"⟩, prog_4_method_1_code, 1, none, { frames := 1, cells := 2, slots := 96, locals := 20 })
def mi_G_add : er_I := (⟨"EscapeRouter$GridText", "add", "(I)Z"⟩, prog_4_method_2_code, 2, some .boolean, { frames := 0, cells := 0, slots := 0, locals := 0 })
def mi_G_read : er_I := (⟨"EscapeRouter$GridText", "read", "()I"⟩, prog_4_method_3_code, 4, some .int, { frames := 2, cells := 0, slots := 0, locals := 42 })
def mi_G_isAllowed : er_I := (⟨"EscapeRouter$GridText", "isAllowed", "(II)Z"⟩, prog_4_method_4_code, 3, some .boolean, { frames := 1, cells := 0, slots := 0, locals := 20 })
def mi_G_kindOf : er_I := (⟨"EscapeRouter$GridText", "kindOf", "(I)I"⟩, prog_4_method_5_code, 1, some .int, { frames := 0, cells := 0, slots := 0, locals := 0 })
def mi_H_init : er_I := (⟨"EscapeRouter$History", "<init>", "()V"⟩, prog_5_method_1_code, 2, none, { frames := 2, cells := 33, slots := 928, locals := 43 })
def mi_H_keep : er_I := (⟨"EscapeRouter$History", "keep", "(LEscapeRouter$Board;)V"⟩, prog_5_method_2_code, 2, none, { frames := 2, cells := 0, slots := 0, locals := 48 })
def mi_H_dropOldest : er_I := (⟨"EscapeRouter$History", "dropOldest", "()V"⟩, prog_5_method_3_code, 3, none, { frames := 0, cells := 0, slots := 0, locals := 0 })
def mi_H_giveBack : er_I := (⟨"EscapeRouter$History", "giveBack", "(LEscapeRouter$Board;)V"⟩, prog_5_method_4_code, 2, none, { frames := 2, cells := 0, slots := 0, locals := 48 })
def mi_Y_init : er_I := (⟨"EscapeRouter$Layering", "<init>", "(I)V"⟩, prog_6_method_1_code, 2, none, { frames := 1, cells := 4, slots := 144, locals := 20 })
def mi_Y_countOn : er_I := (⟨"EscapeRouter$Layering", "countOn", "(I)I"⟩, prog_6_method_2_code, 4, some .int, { frames := 0, cells := 0, slots := 0, locals := 0 })
def mi_Y_refresh : er_I := (⟨"EscapeRouter$Layering", "refresh", "(LEscapeRouter$Board;LEscapeRouter$FlowNetwork;)LEscapeRouter$Layering;"⟩, prog_6_method_3_code, 6, some (.object "EscapeRouter$Layering"), { frames := 5, cells := 0, slots := 0, locals := 127 })
def mi_Y_fill : er_I := (⟨"EscapeRouter$Layering", "fill", "(ILEscapeRouter$Board;LEscapeRouter$FlowNetwork;)I"⟩, prog_6_method_4_code, 8, some .int, { frames := 4, cells := 0, slots := 0, locals := 100 })
def mi_Y_consider : er_I := (⟨"EscapeRouter$Layering", "consider", "(IIILEscapeRouter$FlowNetwork;)I"⟩, prog_6_method_5_code, 8, some .int, { frames := 2, cells := 0, slots := 0, locals := 49 })
def mi_Y_putInOrder : er_I := (⟨"EscapeRouter$Layering", "putInOrder", "(LEscapeRouter$Board;)V"⟩, prog_6_method_6_code, 3, none, { frames := 3, cells := 0, slots := 0, locals := 69 })
def mi_Y_addByRows : er_I := (⟨"EscapeRouter$Layering", "addByRows", "(LEscapeRouter$Board;)V"⟩, prog_6_method_7_code, 4, none, { frames := 2, cells := 0, slots := 0, locals := 43 })
def mi_Y_addByColumns : er_I := (⟨"EscapeRouter$Layering", "addByColumns", "(LEscapeRouter$Board;)V"⟩, prog_6_method_8_code, 4, none, { frames := 2, cells := 0, slots := 0, locals := 43 })
def mi_Y_addRing : er_I := (⟨"EscapeRouter$Layering", "addRing", "(LEscapeRouter$Board;I)V"⟩, prog_6_method_9_code, 5, none, { frames := 2, cells := 0, slots := 0, locals := 45 })
def mi_Y_ringOf : er_I := (⟨"EscapeRouter$Layering", "ringOf", "(LEscapeRouter$Board;II)I"⟩, prog_6_method_10_code, 5, some .int, { frames := 1, cells := 0, slots := 0, locals := 21 })
def mi_Y_addPlace : er_I := (⟨"EscapeRouter$Layering", "addPlace", "(II)V"⟩, prog_6_method_11_code, 3, none, { frames := 1, cells := 0, slots := 0, locals := 21 })
def mi_L_cell : er_I := (⟨"EscapeRouterLaw", "cell", "([II)I"⟩, method_2_code, 2, some .int, { frames := 0, cells := 0, slots := 0, locals := 0 })
def mi_L_low : er_I := (⟨"EscapeRouterLaw", "low", "(II)I"⟩, method_3_code, 2, some .int, { frames := 0, cells := 0, slots := 0, locals := 0 })
def mi_L_types : er_I := (⟨"EscapeRouterLaw", "types", "(LEscapeRouter;[II[I)V"⟩, method_4_code, 9, none, { frames := 2, cells := 0, slots := 0, locals := 42 })
def mi_L_signals : er_I := (⟨"EscapeRouterLaw", "signals", "([I)I"⟩, method_5_code, 4, some .int, { frames := 0, cells := 0, slots := 0, locals := 0 })
def mi_L_tale : er_I := (⟨"EscapeRouterLaw", "tale", "(LEscapeRouter;)J"⟩, method_6_code, 4, some .long, { frames := 7, cells := 0, slots := 0, locals := 174 })
def mi_L_does : er_I := (⟨"EscapeRouterLaw", "does", "(LEscapeRouter;I)I"⟩, method_7_code, 4, some .int, { frames := 5, cells := 0, slots := 0, locals := 115 })
def mi_L_holds : er_I := (⟨"EscapeRouterLaw", "holds", "(LEscapeRouter;)Z"⟩, method_8_code, 4, some .boolean, { frames := 7, cells := 0, slots := 0, locals := 174 })
