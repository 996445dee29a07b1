section
-- ===== PART A: goes FIRST, ahead of the names: the tables' words, and 'selects' of the private methods out of them =====
/-- a private method of a class that the tables say can be made, by its rows of tables_1 -/
def lw_okq (q : MethodName × Nat) : Prop := (q.1.cls ≠ "java/lang/invoke/MethodHandle" ∧ q.1.cls ≠ "java/lang/invoke/VarHandle") ∧ Cond.instantiable q.1.cls q.2 ∈ tables_1 ∧ Cond.privateMethod q.1 ∈ tables_1 ∧ Cond.instanceMethod q.1 ∈ tables_1
theorem lw_p0 : lw_okq (⟨"IceForCoast$Page", "takes", "(I)Z"⟩, 7) := ⟨⟨by decide +kernel, by decide +kernel⟩, List.mem_of_getElem? (i := 22) (by decide +kernel), List.mem_of_getElem? (i := 335) (by decide +kernel), List.mem_of_getElem? (i := 336) (by decide +kernel)⟩
theorem lw_p1 : lw_okq (⟨"IceForCoast$Page", "takesRowEnd", "()Z"⟩, 7) := ⟨⟨by decide +kernel, by decide +kernel⟩, List.mem_of_getElem? (i := 22) (by decide +kernel), List.mem_of_getElem? (i := 339) (by decide +kernel), List.mem_of_getElem? (i := 340) (by decide +kernel)⟩
theorem lw_p2 : lw_okq (⟨"IceForCoast$Page", "takesSquare", "(I)Z"⟩, 7) := ⟨⟨by decide +kernel, by decide +kernel⟩, List.mem_of_getElem? (i := 22) (by decide +kernel), List.mem_of_getElem? (i := 346) (by decide +kernel), List.mem_of_getElem? (i := 347) (by decide +kernel)⟩
theorem lw_p3 : lw_okq (⟨"IceForCoast$Sea", "layLetter", "(I)V"⟩, 8) := ⟨⟨by decide +kernel, by decide +kernel⟩, List.mem_of_getElem? (i := 58) (by decide +kernel), List.mem_of_getElem? (i := 367) (by decide +kernel), List.mem_of_getElem? (i := 368) (by decide +kernel)⟩
theorem lw_p4 : lw_okq (⟨"IceForCoast$Sea", "measure", "()V"⟩, 8) := ⟨⟨by decide +kernel, by decide +kernel⟩, List.mem_of_getElem? (i := 58) (by decide +kernel), List.mem_of_getElem? (i := 372) (by decide +kernel), List.mem_of_getElem? (i := 373) (by decide +kernel)⟩
theorem lw_p5 : lw_okq (⟨"IceForCoast$Sea", "openWays", "(I)V"⟩, 8) := ⟨⟨by decide +kernel, by decide +kernel⟩, List.mem_of_getElem? (i := 58) (by decide +kernel), List.mem_of_getElem? (i := 379) (by decide +kernel), List.mem_of_getElem? (i := 380) (by decide +kernel)⟩
theorem lw_p6 : lw_okq (⟨"IceForCoast$Sea", "beside", "(II)I"⟩, 8) := ⟨⟨by decide +kernel, by decide +kernel⟩, List.mem_of_getElem? (i := 58) (by decide +kernel), List.mem_of_getElem? (i := 383) (by decide +kernel), List.mem_of_getElem? (i := 384) (by decide +kernel)⟩
theorem lw_p7 : lw_okq (⟨"IceForCoast", "isBerg", "(I)Z"⟩, 12) := ⟨⟨by decide +kernel, by decide +kernel⟩, List.mem_of_getElem? (i := 14) (by decide +kernel), List.mem_of_getElem? (i := 413) (by decide +kernel), List.mem_of_getElem? (i := 414) (by decide +kernel)⟩
theorem lw_p8 : lw_okq (⟨"IceForCoast", "hasWay", "(I)Z"⟩, 12) := ⟨⟨by decide +kernel, by decide +kernel⟩, List.mem_of_getElem? (i := 14) (by decide +kernel), List.mem_of_getElem? (i := 471) (by decide +kernel), List.mem_of_getElem? (i := 472) (by decide +kernel)⟩
theorem lw_p9 : lw_okq (⟨"IceForCoast$Tow", "isHopeless", "(I)Z"⟩, 17) := ⟨⟨by decide +kernel, by decide +kernel⟩, List.mem_of_getElem? (i := 52) (by decide +kernel), List.mem_of_getElem? (i := 484) (by decide +kernel), List.mem_of_getElem? (i := 485) (by decide +kernel)⟩
theorem lw_p10 : lw_okq (⟨"IceForCoast$Tow", "choose", "(I)V"⟩, 17) := ⟨⟨by decide +kernel, by decide +kernel⟩, List.mem_of_getElem? (i := 52) (by decide +kernel), List.mem_of_getElem? (i := 492) (by decide +kernel), List.mem_of_getElem? (i := 493) (by decide +kernel)⟩
theorem lw_p11 : lw_okq (⟨"IceForCoast$Tow", "pass", "(III)V"⟩, 17) := ⟨⟨by decide +kernel, by decide +kernel⟩, List.mem_of_getElem? (i := 52) (by decide +kernel), List.mem_of_getElem? (i := 499) (by decide +kernel), List.mem_of_getElem? (i := 500) (by decide +kernel)⟩
theorem lw_p12 : lw_okq (⟨"IceForCoast$Tow", "daysOfStep", "(III)I"⟩, 17) := ⟨⟨by decide +kernel, by decide +kernel⟩, List.mem_of_getElem? (i := 52) (by decide +kernel), List.mem_of_getElem? (i := 503) (by decide +kernel), List.mem_of_getElem? (i := 504) (by decide +kernel)⟩
theorem lw_p13 : lw_okq (⟨"IceForCoast$Tow", "drawnWarmth", "(I)I"⟩, 17) := ⟨⟨by decide +kernel, by decide +kernel⟩, List.mem_of_getElem? (i := 52) (by decide +kernel), List.mem_of_getElem? (i := 507) (by decide +kernel), List.mem_of_getElem? (i := 508) (by decide +kernel)⟩
theorem lw_p14 : lw_okq (⟨"IceForCoast", "weigh", "(I)V"⟩, 12) := ⟨⟨by decide +kernel, by decide +kernel⟩, List.mem_of_getElem? (i := 14) (by decide +kernel), List.mem_of_getElem? (i := 536) (by decide +kernel), List.mem_of_getElem? (i := 537) (by decide +kernel)⟩
theorem lw_p15 : lw_okq (⟨"IceForCoast$Ledger", "mostFrom", "(II)I"⟩, 4) := ⟨⟨by decide +kernel, by decide +kernel⟩, List.mem_of_getElem? (i := 247) (by decide +kernel), List.mem_of_getElem? (i := 558) (by decide +kernel), List.mem_of_getElem? (i := 559) (by decide +kernel)⟩
def lw_privs_1 : List (MethodName × Nat) := [(⟨"IceForCoast$Page", "takes", "(I)Z"⟩, 7), (⟨"IceForCoast$Page", "takesRowEnd", "()Z"⟩, 7), (⟨"IceForCoast$Page", "takesSquare", "(I)Z"⟩, 7), (⟨"IceForCoast$Sea", "layLetter", "(I)V"⟩, 8), (⟨"IceForCoast$Sea", "measure", "()V"⟩, 8), (⟨"IceForCoast$Sea", "openWays", "(I)V"⟩, 8), (⟨"IceForCoast$Sea", "beside", "(II)I"⟩, 8), (⟨"IceForCoast", "isBerg", "(I)Z"⟩, 12), (⟨"IceForCoast", "hasWay", "(I)Z"⟩, 12), (⟨"IceForCoast$Tow", "isHopeless", "(I)Z"⟩, 17), (⟨"IceForCoast$Tow", "choose", "(I)V"⟩, 17), (⟨"IceForCoast$Tow", "pass", "(III)V"⟩, 17), (⟨"IceForCoast$Tow", "daysOfStep", "(III)I"⟩, 17), (⟨"IceForCoast$Tow", "drawnWarmth", "(I)I"⟩, 17), (⟨"IceForCoast", "weigh", "(I)V"⟩, 12), (⟨"IceForCoast$Ledger", "mostFrom", "(II)I"⟩, 4)]
theorem lw_r1 : ∀ q ∈ lw_privs_1, lw_okq q := List.forall_mem_cons.mpr ⟨lw_p0, List.forall_mem_cons.mpr ⟨lw_p1, List.forall_mem_cons.mpr ⟨lw_p2, List.forall_mem_cons.mpr ⟨lw_p3, List.forall_mem_cons.mpr ⟨lw_p4, List.forall_mem_cons.mpr ⟨lw_p5, List.forall_mem_cons.mpr ⟨lw_p6, List.forall_mem_cons.mpr ⟨lw_p7, List.forall_mem_cons.mpr ⟨lw_p8, List.forall_mem_cons.mpr ⟨lw_p9, List.forall_mem_cons.mpr ⟨lw_p10, List.forall_mem_cons.mpr ⟨lw_p11, List.forall_mem_cons.mpr ⟨lw_p12, List.forall_mem_cons.mpr ⟨lw_p13, List.forall_mem_cons.mpr ⟨lw_p14, List.forall_mem_cons.mpr ⟨lw_p15, fun _ h => absurd h List.not_mem_nil⟩⟩⟩⟩⟩⟩⟩⟩⟩⟩⟩⟩⟩⟩⟩⟩
theorem lw_p16 : lw_okq (⟨"IceForCoast$Ledger", "gainBy", "(II)I"⟩, 4) := ⟨⟨by decide +kernel, by decide +kernel⟩, List.mem_of_getElem? (i := 247) (by decide +kernel), List.mem_of_getElem? (i := 562) (by decide +kernel), List.mem_of_getElem? (i := 563) (by decide +kernel)⟩
theorem lw_p17 : lw_okq (⟨"IceForCoast$Ledger", "fewestFor", "(II)I"⟩, 4) := ⟨⟨by decide +kernel, by decide +kernel⟩, List.mem_of_getElem? (i := 247) (by decide +kernel), List.mem_of_getElem? (i := 571) (by decide +kernel), List.mem_of_getElem? (i := 572) (by decide +kernel)⟩
def lw_privs_2 : List (MethodName × Nat) := [(⟨"IceForCoast$Ledger", "gainBy", "(II)I"⟩, 4), (⟨"IceForCoast$Ledger", "fewestFor", "(II)I"⟩, 4)]
theorem lw_r2 : ∀ q ∈ lw_privs_2, lw_okq q := List.forall_mem_cons.mpr ⟨lw_p16, List.forall_mem_cons.mpr ⟨lw_p17, fun _ h => absurd h List.not_mem_nil⟩⟩
def lw_privs : List (MethodName × Nat) := lw_privs_1 ++ (lw_privs_2)
def lw_tbl : List Cond := k2_sels lw_privs ++ tables_1
theorem lw_privs_ok : ∀ q ∈ lw_privs, lw_okq q := by
  show ∀ q ∈ lw_privs_1 ++ (lw_privs_2), lw_okq q
  exact List.forall_mem_append.mpr ⟨lw_r1, lw_r2⟩
/-! ===== BEGIN printed: names, fields, word lists, decode rows ===== -/
def RX0 : String := "IceForCoast$Berg"
def TX0 : u_T := fun k => match k with
  | 0 => ("IceForCoast$Berg", "kind", "I", false)
  | 1 => ("IceForCoast$Berg", "square", "I", false)
  | 2 => ("IceForCoast$Berg", "size", "I", false)
  | 3 => ("IceForCoast$Berg", "foot", "I", false)
  | 4 => ("IceForCoast$Berg", "n", "I", false)
  | _ => ("IceForCoast$Berg", "flat", "Z", false)
def tyX0 : Nat → FieldType := fun k => match k with
  | 0 => .int
  | 1 => .int
  | 2 => .int
  | 3 => .int
  | 4 => .int
  | _ => .boolean
abbrev wsX00 : List Cond := u_ws RX0 TX0 6
theorem nmX0 : ∀ a, a < 6 → ∀ b, b < 6 → a ≠ b → (TX0 a).2.1 ≠ (TX0 b).2.1 := by decide +kernel
theorem tyX0_ok : ∀ k, k < 6 → parseFieldDescriptor (TX0 k).2.2.1 = some (tyX0 k) := by decide +kernel
abbrev cX0_init : ByteArray := prog_2_method_1_code
def yX0_init : MethodName := ⟨RX0, "<init>", "()V"⟩
abbrev cX0_isKind : ByteArray := prog_2_method_2_code
def yX0_isKind : MethodName := ⟨RX0, "isKind", "(I)Z"⟩
abbrev cX0_mayBreak : ByteArray := prog_2_method_3_code
def yX0_mayBreak : MethodName := ⟨RX0, "mayBreak", "(II)Z"⟩
abbrev cX0_become : ByteArray := prog_2_method_4_code
def yX0_become : MethodName := ⟨RX0, "become", "(IIIII)V"⟩
abbrev cX0_isA : ByteArray := prog_2_method_5_code
def yX0_isA : MethodName := ⟨RX0, "isA", "(I)Z"⟩
abbrev cX0_meltOf : ByteArray := prog_2_method_6_code
def yX0_meltOf : MethodName := ⟨RX0, "meltOf", "(II)I"⟩
abbrev cX0_breaksOn : ByteArray := prog_2_method_7_code
def yX0_breaksOn : MethodName := ⟨RX0, "breaksOn", "(I)Z"⟩
def RX1 : String := "IceForCoast$Coins"
def TX1 : u_T := fun k => match k with
  | _ => ("IceForCoast$Coins", "value", "[I", true)
def tyX1 : Nat → FieldType := fun k => match k with
  | _ => .array .int
abbrev wsX10 : List Cond := u_ws RX1 TX1 1
theorem nmX1 : ∀ a, a < 1 → ∀ b, b < 1 → a ≠ b → (TX1 a).2.1 ≠ (TX1 b).2.1 := by decide +kernel
theorem tyX1_ok : ∀ k, k < 1 → parseFieldDescriptor (TX1 k).2.2.1 = some (tyX1 k) := by decide +kernel
abbrev cX1_init : ByteArray := prog_3_method_1_code
def yX1_init : MethodName := ⟨RX1, "<init>", "()V"⟩
abbrev cX1_mayBe : ByteArray := prog_3_method_2_code
def yX1_mayBe : MethodName := ⟨RX1, "mayBe", "(II)Z"⟩
abbrev cX1_put : ByteArray := prog_3_method_3_code
def yX1_put : MethodName := ⟨RX1, "put", "(II)I"⟩
abbrev cX1_gainOf : ByteArray := prog_3_method_5_code
def yX1_gainOf : MethodName := ⟨RX1, "gainOf", "(IIIZ)I"⟩
def RX2 : String := "IceForCoast$Image"
def TX2 : u_T := fun k => match k with
  | 0 => ("IceForCoast$Image", "sizes", "[I", true)
  | 1 => ("IceForCoast$Image", "feet", "[I", true)
  | 2 => ("IceForCoast$Image", "coins", "LIceForCoast$Coins;", true)
  | 3 => ("IceForCoast$Image", "bergCount", "I", false)
  | 4 => ("IceForCoast$Image", "lineCount", "I", false)
  | _ => ("IceForCoast$Image", "seaNumber", "I", false)
def tyX2 : Nat → FieldType := fun k => match k with
  | 0 => .array .int
  | 1 => .array .int
  | 2 => .object "IceForCoast$Coins"
  | 3 => .int
  | 4 => .int
  | _ => .int
abbrev wsX20 : List Cond := u_ws RX2 TX2 6
theorem nmX2 : ∀ a, a < 6 → ∀ b, b < 6 → a ≠ b → (TX2 a).2.1 ≠ (TX2 b).2.1 := by decide +kernel
theorem tyX2_ok : ∀ k, k < 6 → parseFieldDescriptor (TX2 k).2.2.1 = some (tyX2 k) := by decide +kernel
abbrev cX2_init : ByteArray := prog_4_method_1_code
def yX2_init : MethodName := ⟨RX2, "<init>", "()V"⟩
def RX3 : String := "IceForCoast$Ledger"
def TX3 : u_T := fun k => match k with
  | 0 => ("IceForCoast$Ledger", "gains", "[[I", true)
  | 1 => ("IceForCoast$Ledger", "known", "[Z", true)
  | 2 => ("IceForCoast$Ledger", "towable", "[Z", true)
  | _ => ("IceForCoast$Ledger", "most", "[[I", true)
def tyX3 : Nat → FieldType := fun k => match k with
  | 0 => .array (.array .int)
  | 1 => .array .boolean
  | 2 => .array .boolean
  | _ => .array (.array .int)
abbrev wsX30 : List Cond := u_ws RX3 TX3 4
theorem nmX3 : ∀ a, a < 4 → ∀ b, b < 4 → a ≠ b → (TX3 a).2.1 ≠ (TX3 b).2.1 := by decide +kernel
theorem tyX3_ok : ∀ k, k < 4 → parseFieldDescriptor (TX3 k).2.2.1 = some (tyX3 k) := by decide +kernel
abbrev cX3_init : ByteArray := prog_5_method_1_code
def yX3_init : MethodName := ⟨RX3, "<init>", "()V"⟩
abbrev cX3_tugsOf : ByteArray := prog_5_method_2_code
def yX3_tugsOf : MethodName := ⟨RX3, "tugsOf", "(I)I"⟩
abbrev cX3_hasSkirt : ByteArray := prog_5_method_3_code
def yX3_hasSkirt : MethodName := ⟨RX3, "hasSkirt", "(I)Z"⟩
abbrev cX3_forget : ByteArray := prog_5_method_4_code
def yX3_forget : MethodName := ⟨RX3, "forget", "(I)V"⟩
abbrev cX3_forgetAll : ByteArray := prog_5_method_5_code
def yX3_forgetAll : MethodName := ⟨RX3, "forgetAll", "()V"⟩
abbrev cX3_bestEntry : ByteArray := prog_5_method_6_code
def yX3_bestEntry : MethodName := ⟨RX3, "bestEntry", "(I)I"⟩
abbrev cX3_deal : ByteArray := prog_5_method_7_code
def yX3_deal : MethodName := ⟨RX3, "deal", "(I)V"⟩
abbrev cX3_mostFrom : ByteArray := prog_5_method_8_code
def yX3_mostFrom : MethodName := ⟨RX3, "mostFrom", "(II)I"⟩
abbrev cX3_gainBy : ByteArray := prog_5_method_9_code
def yX3_gainBy : MethodName := ⟨RX3, "gainBy", "(II)I"⟩
abbrev cX3_tugsFor : ByteArray := prog_5_method_10_code
def yX3_tugsFor : MethodName := ⟨RX3, "tugsFor", "(II)I"⟩
abbrev cX3_fewestFor : ByteArray := prog_5_method_11_code
def yX3_fewestFor : MethodName := ⟨RX3, "fewestFor", "(II)I"⟩
def RX4 : String := "IceForCoast$Lines"
def TX4 : u_T := fun k => match k with
  | 0 => ("IceForCoast$Lines", "house", "[I", true)
  | 1 => ("IceForCoast$Lines", "berg", "[I", true)
  | 2 => ("IceForCoast$Lines", "day", "[I", true)
  | _ => ("IceForCoast$Lines", "length", "I", false)
def tyX4 : Nat → FieldType := fun k => match k with
  | 0 => .array .int
  | 1 => .array .int
  | 2 => .array .int
  | _ => .int
abbrev wsX40 : List Cond := u_ws RX4 TX4 4
theorem nmX4 : ∀ a, a < 4 → ∀ b, b < 4 → a ≠ b → (TX4 a).2.1 ≠ (TX4 b).2.1 := by decide +kernel
theorem tyX4_ok : ∀ k, k < 4 → parseFieldDescriptor (TX4 k).2.2.1 = some (tyX4 k) := by decide +kernel
abbrev cX4_init : ByteArray := prog_6_method_1_code
def yX4_init : MethodName := ⟨RX4, "<init>", "()V"⟩
abbrev cX4_cutTo : ByteArray := prog_6_method_3_code
def yX4_cutTo : MethodName := ⟨RX4, "cutTo", "(I)V"⟩
def RX5 : String := "IceForCoast$Odds"
def TX5 : u_T := fun k => match k with
  | 0 => ("IceForCoast$Odds", "water", "[J", true)
  | 1 => ("IceForCoast$Odds", "above", "J", false)
  | 2 => ("IceForCoast$Odds", "below", "J", false)
  | _ => ("IceForCoast$Odds", "letsOff", "Z", false)
def tyX5 : Nat → FieldType := fun k => match k with
  | 0 => .array .long
  | 1 => .long
  | 2 => .long
  | _ => .boolean
abbrev wsX50 : List Cond := u_ws RX5 TX5 4
theorem nmX5 : ∀ a, a < 4 → ∀ b, b < 4 → a ≠ b → (TX5 a).2.1 ≠ (TX5 b).2.1 := by decide +kernel
theorem tyX5_ok : ∀ k, k < 4 → parseFieldDescriptor (TX5 k).2.2.1 = some (tyX5 k) := by decide +kernel
abbrev cX5_init : ByteArray := prog_7_method_1_code
def yX5_init : MethodName := ⟨RX5, "<init>", "()V"⟩
def RX6 : String := "IceForCoast$Page"
def TX6 : u_T := fun k => match k with
  | 0 => ("IceForCoast$Page", "codes", "[I", true)
  | 1 => ("IceForCoast$Page", "length", "I", false)
  | 2 => ("IceForCoast$Page", "row", "I", false)
  | 3 => ("IceForCoast$Page", "inRow", "I", false)
  | 4 => ("IceForCoast$Page", "width", "I", false)
  | 5 => ("IceForCoast$Page", "harbours", "I", false)
  | _ => ("IceForCoast$Page", "currentMayCome", "Z", false)
def tyX6 : Nat → FieldType := fun k => match k with
  | 0 => .array .int
  | 1 => .int
  | 2 => .int
  | 3 => .int
  | 4 => .int
  | 5 => .int
  | _ => .boolean
abbrev wsX60 : List Cond := u_ws RX6 TX6 7
theorem nmX6 : ∀ a, a < 7 → ∀ b, b < 7 → a ≠ b → (TX6 a).2.1 ≠ (TX6 b).2.1 := by decide +kernel
theorem tyX6_ok : ∀ k, k < 7 → parseFieldDescriptor (TX6 k).2.2.1 = some (tyX6 k) := by decide +kernel
abbrev cX6_init : ByteArray := prog_8_method_1_code
def yX6_init : MethodName := ⟨RX6, "<init>", "()V"⟩
abbrev cX6_append : ByteArray := prog_8_method_2_code
def yX6_append : MethodName := ⟨RX6, "append", "(J)I"⟩
abbrev cX6_byteOf : ByteArray := prog_8_method_3_code
def yX6_byteOf : MethodName := ⟨RX6, "byteOf", "(JI)I"⟩
abbrev cX6_clear : ByteArray := prog_8_method_4_code
def yX6_clear : MethodName := ⟨RX6, "clear", "()I"⟩
abbrev cX6_codeAt : ByteArray := prog_8_method_5_code
def yX6_codeAt : MethodName := ⟨RX6, "codeAt", "(I)I"⟩
abbrev cX6_firstWrong : ByteArray := prog_8_method_6_code
def yX6_firstWrong : MethodName := ⟨RX6, "firstWrong", "()I"⟩
abbrev cX6_isSea : ByteArray := prog_8_method_7_code
def yX6_isSea : MethodName := ⟨RX6, "isSea", "()Z"⟩
abbrev cX6_takes : ByteArray := prog_8_method_8_code
def yX6_takes : MethodName := ⟨RX6, "takes", "(I)Z"⟩
abbrev cX6_takesRowEnd : ByteArray := prog_8_method_9_code
def yX6_takesRowEnd : MethodName := ⟨RX6, "takesRowEnd", "()Z"⟩
abbrev cX6_takesSquare : ByteArray := prog_8_method_10_code
def yX6_takesSquare : MethodName := ⟨RX6, "takesSquare", "(I)Z"⟩
def RX7 : String := "IceForCoast$Sea"
def TX7 : u_T := fun k => match k with
  | 0 => ("IceForCoast$Sea", "warmth", "[I", true)
  | 1 => ("IceForCoast$Sea", "current", "[I", true)
  | 2 => ("IceForCoast$Sea", "far", "[I", true)
  | 3 => ("IceForCoast$Sea", "waysFrom", "[I", true)
  | 4 => ("IceForCoast$Sea", "next", "[[I", true)
  | 5 => ("IceForCoast$Sea", "squares", "I", false)
  | 6 => ("IceForCoast$Sea", "width", "I", false)
  | _ => ("IceForCoast$Sea", "harbour", "I", false)
def tyX7 : Nat → FieldType := fun k => match k with
  | 0 => .array .int
  | 1 => .array .int
  | 2 => .array .int
  | 3 => .array .int
  | 4 => .array (.array .int)
  | 5 => .int
  | 6 => .int
  | _ => .int
abbrev wsX70 : List Cond := u_ws RX7 TX7 8
theorem nmX7 : ∀ a, a < 8 → ∀ b, b < 8 → a ≠ b → (TX7 a).2.1 ≠ (TX7 b).2.1 := by decide +kernel
theorem tyX7_ok : ∀ k, k < 8 → parseFieldDescriptor (TX7 k).2.2.1 = some (tyX7 k) := by decide +kernel
abbrev cX7_init : ByteArray := prog_9_method_1_code
def yX7_init : MethodName := ⟨RX7, "<init>", "()V"⟩
abbrev cX7_wayOf : ByteArray := prog_9_method_2_code
def yX7_wayOf : MethodName := ⟨RX7, "wayOf", "(I)I"⟩
abbrev cX7_has : ByteArray := prog_9_method_3_code
def yX7_has : MethodName := ⟨RX7, "has", "(I)Z"⟩
abbrev cX7_hasWarmth : ByteArray := prog_9_method_4_code
def yX7_hasWarmth : MethodName := ⟨RX7, "hasWarmth", "(I)Z"⟩
abbrev cX7_lay : ByteArray := prog_9_method_5_code
def yX7_lay : MethodName := ⟨RX7, "lay", "(LIceForCoast$Page;)V"⟩
abbrev cX7_layLetter : ByteArray := prog_9_method_6_code
def yX7_layLetter : MethodName := ⟨RX7, "layLetter", "(I)V"⟩
abbrev cX7_measure : ByteArray := prog_9_method_7_code
def yX7_measure : MethodName := ⟨RX7, "measure", "()V"⟩
abbrev cX7_openWays : ByteArray := prog_9_method_8_code
def yX7_openWays : MethodName := ⟨RX7, "openWays", "(I)V"⟩
abbrev cX7_beside : ByteArray := prog_9_method_9_code
def yX7_beside : MethodName := ⟨RX7, "beside", "(II)I"⟩
def RX8 : String := "IceForCoast$Tow"
def TX8 : u_T := fun k => match k with
  | 0 => ("IceForCoast$Tow", "sea", "LIceForCoast$Sea;", true)
  | 1 => ("IceForCoast$Tow", "coins", "LIceForCoast$Coins;", true)
  | 2 => ("IceForCoast$Tow", "sizeAt", "[I", true)
  | 3 => ("IceForCoast$Tow", "footAt", "[I", true)
  | 4 => ("IceForCoast$Tow", "dayAt", "[I", true)
  | 5 => ("IceForCoast$Tow", "trial", "[I", true)
  | 6 => ("IceForCoast$Tow", "chosen", "[I", true)
  | 7 => ("IceForCoast$Tow", "berg", "LIceForCoast$Berg;", false)
  | 8 => ("IceForCoast$Tow", "tugs", "I", false)
  | 9 => ("IceForCoast$Tow", "skirt", "Z", false)
  | 10 => ("IceForCoast$Tow", "found", "Z", false)
  | 11 => ("IceForCoast$Tow", "water", "I", false)
  | 12 => ("IceForCoast$Tow", "days", "I", false)
  | 13 => ("IceForCoast$Tow", "gain", "I", false)
  | 14 => ("IceForCoast$Tow", "steps", "I", false)
  | 15 => ("IceForCoast$Tow", "drawing", "Z", false)
  | _ => ("IceForCoast$Tow", "seed", "J", false)
def tyX8 : Nat → FieldType := fun k => match k with
  | 0 => .object "IceForCoast$Sea"
  | 1 => .object "IceForCoast$Coins"
  | 2 => .array .int
  | 3 => .array .int
  | 4 => .array .int
  | 5 => .array .int
  | 6 => .array .int
  | 7 => .object "IceForCoast$Berg"
  | 8 => .int
  | 9 => .boolean
  | 10 => .boolean
  | 11 => .int
  | 12 => .int
  | 13 => .int
  | 14 => .int
  | 15 => .boolean
  | _ => .long
abbrev wsX80 : List Cond := u_ws RX8 TX8 17
theorem nmX8 : ∀ a, a < 17 → ∀ b, b < 17 → a ≠ b → (TX8 a).2.1 ≠ (TX8 b).2.1 := by decide +kernel
theorem tyX8_ok : ∀ k, k < 17 → parseFieldDescriptor (TX8 k).2.2.1 = some (tyX8 k) := by decide +kernel
abbrev cX8_init : ByteArray := prog_10_method_1_code
def yX8_init : MethodName := ⟨RX8, "<init>", "()V"⟩
abbrev cX8_seek : ByteArray := prog_10_method_2_code
def yX8_seek : MethodName := ⟨RX8, "seek", "(LIceForCoast$Berg;IIZ)V"⟩
abbrev cX8_towAgain : ByteArray := prog_10_method_3_code
def yX8_towAgain : MethodName := ⟨RX8, "towAgain", "(I)V"⟩
abbrev cX8_stepAt : ByteArray := prog_10_method_4_code
def yX8_stepAt : MethodName := ⟨RX8, "stepAt", "(I)I"⟩
abbrev cX8_follow : ByteArray := prog_10_method_5_code
def yX8_follow : MethodName := ⟨RX8, "follow", "(LIceForCoast$Tow;II)V"⟩
abbrev cX8_isHopeless : ByteArray := prog_10_method_6_code
def yX8_isHopeless : MethodName := ⟨RX8, "isHopeless", "(I)Z"⟩
abbrev cX8_choose : ByteArray := prog_10_method_7_code
def yX8_choose : MethodName := ⟨RX8, "choose", "(I)V"⟩
abbrev cX8_pass : ByteArray := prog_10_method_8_code
def yX8_pass : MethodName := ⟨RX8, "pass", "(III)V"⟩
abbrev cX8_daysOfStep : ByteArray := prog_10_method_9_code
def yX8_daysOfStep : MethodName := ⟨RX8, "daysOfStep", "(III)I"⟩
abbrev cX8_drawnWarmth : ByteArray := prog_10_method_10_code
def yX8_drawnWarmth : MethodName := ⟨RX8, "drawnWarmth", "(I)I"⟩
def RX9 : String := "IceForCoast"
def TX9 : u_T := fun k => match k with
  | 0 => ("IceForCoast", "thePage", "LIceForCoast$Page;", true)
  | 1 => ("IceForCoast", "theTow", "LIceForCoast$Tow;", true)
  | 2 => ("IceForCoast", "theSea", "LIceForCoast$Sea;", true)
  | 3 => ("IceForCoast", "coins", "LIceForCoast$Coins;", true)
  | 4 => ("IceForCoast", "bergs", "[LIceForCoast$Berg;", true)
  | 5 => ("IceForCoast", "lines", "LIceForCoast$Lines;", true)
  | 6 => ("IceForCoast", "kept", "LIceForCoast$Image;", true)
  | 7 => ("IceForCoast", "ledger", "LIceForCoast$Ledger;", true)
  | 8 => ("IceForCoast", "theOdds", "LIceForCoast$Odds;", true)
  | 9 => ("IceForCoast", "bergCount", "I", false)
  | 10 => ("IceForCoast", "seasRead", "I", false)
  | _ => ("IceForCoast", "cameDone", "I", false)
def tyX9 : Nat → FieldType := fun k => match k with
  | 0 => .object "IceForCoast$Page"
  | 1 => .object "IceForCoast$Tow"
  | 2 => .object "IceForCoast$Sea"
  | 3 => .object "IceForCoast$Coins"
  | 4 => .array (.object "IceForCoast$Berg")
  | 5 => .object "IceForCoast$Lines"
  | 6 => .object "IceForCoast$Image"
  | 7 => .object "IceForCoast$Ledger"
  | 8 => .object "IceForCoast$Odds"
  | 9 => .int
  | 10 => .int
  | _ => .int
abbrev wsX90 : List Cond := u_ws RX9 TX9 12
theorem nmX9 : ∀ a, a < 12 → ∀ b, b < 12 → a ≠ b → (TX9 a).2.1 ≠ (TX9 b).2.1 := by decide +kernel
theorem tyX9_ok : ∀ k, k < 12 → parseFieldDescriptor (TX9 k).2.2.1 = some (tyX9 k) := by decide +kernel
abbrev cX9_init : ByteArray := prog_1_method_1_code
def yX9_init : MethodName := ⟨RX9, "<init>", "()V"⟩
abbrev cX9_letters : ByteArray := prog_1_method_2_code
def yX9_letters : MethodName := ⟨RX9, "letters", "(J)I"⟩
abbrev cX9_fault : ByteArray := prog_1_method_4_code
def yX9_fault : MethodName := ⟨RX9, "fault", "()I"⟩
abbrev cX9_sea : ByteArray := prog_1_method_5_code
def yX9_sea : MethodName := ⟨RX9, "sea", "()I"⟩
abbrev cX9_square : ByteArray := prog_1_method_6_code
def yX9_square : MethodName := ⟨RX9, "square", "(II)I"⟩
abbrev cX9_berg : ByteArray := prog_1_method_7_code
def yX9_berg : MethodName := ⟨RX9, "berg", "(IIIII)I"⟩
abbrev cX9_as : ByteArray := prog_1_method_8_code
def yX9_as : MethodName := ⟨RX9, "as", "(II)I"⟩
abbrev cX9_about : ByteArray := prog_1_method_9_code
def yX9_about : MethodName := ⟨RX9, "about", "(II)I"⟩
abbrev cX9_change : ByteArray := prog_1_method_10_code
def yX9_change : MethodName := ⟨RX9, "change", "(III)I"⟩
abbrev cX9_coin : ByteArray := prog_1_method_11_code
def yX9_coin : MethodName := ⟨RX9, "coin", "(II)I"⟩
abbrev cX9_tow : ByteArray := prog_1_method_12_code
def yX9_tow : MethodName := ⟨RX9, "tow", "(IIZI)I"⟩
abbrev cX9_ways : ByteArray := prog_1_method_13_code
def yX9_ways : MethodName := ⟨RX9, "ways", "(I)I"⟩
abbrev cX9_best : ByteArray := prog_1_method_14_code
def yX9_best : MethodName := ⟨RX9, "best", "(II)I"⟩
abbrev cX9_season : ByteArray := prog_1_method_15_code
def yX9_season : MethodName := ⟨RX9, "season", "(II)I"⟩
abbrev cX9_more : ByteArray := prog_1_method_16_code
def yX9_more : MethodName := ⟨RX9, "more", "(I)I"⟩
abbrev cX9_drawn : ByteArray := prog_1_method_17_code
def yX9_drawn : MethodName := ⟨RX9, "drawn", "(IIZII)I"⟩
abbrev cX9_came : ByteArray := prog_1_method_18_code
def yX9_came : MethodName := ⟨RX9, "came", "(IIZII)I"⟩
abbrev cX9_isBerg : ByteArray := prog_1_method_26_code
def yX9_isBerg : MethodName := ⟨RX9, "isBerg", "(I)Z"⟩
abbrev cX9_hasWay : ByteArray := prog_1_method_27_code
def yX9_hasWay : MethodName := ⟨RX9, "hasWay", "(I)Z"⟩
abbrev cX9_isTugs : ByteArray := prog_1_method_28_code
def yX9_isTugs : MethodName := ⟨RX9, "isTugs", "(I)Z"⟩
abbrev cX9_isSize : ByteArray := prog_1_method_30_code
def yX9_isSize : MethodName := ⟨RX9, "isSize", "(I)Z"⟩
abbrev cX9_isFoot : ByteArray := prog_1_method_31_code
def yX9_isFoot : MethodName := ⟨RX9, "isFoot", "(I)Z"⟩
abbrev cX9_weigh : ByteArray := prog_1_method_32_code
def yX9_weigh : MethodName := ⟨RX9, "weigh", "(I)V"⟩
def RX10 : String := "IceForCoastModel"
def TX10 : u_T := fun k => match k with
  | _ => ("", "", "", false)
def tyX10 : Nat → FieldType := fun k => match k with
  | _ => .int
abbrev wsX100 : List Cond := u_ws RX10 TX10 0
theorem nmX10 : ∀ a, a < 0 → ∀ b, b < 0 → a ≠ b → (TX10 a).2.1 ≠ (TX10 b).2.1 := by decide +kernel
theorem tyX10_ok : ∀ k, k < 0 → parseFieldDescriptor (TX10 k).2.2.1 = some (tyX10 k) := by decide +kernel
def RJ9 : String := "java/lang/Math"
def TJ9 : u_T := fun k => match k with
  | _ => ("", "", "", false)
def tyJ9 : Nat → FieldType := fun k => match k with
  | _ => .int
abbrev wsJ90 : List Cond := u_ws RJ9 TJ9 0
theorem nmJ9 : ∀ a, a < 0 → ∀ b, b < 0 → a ≠ b → (TJ9 a).2.1 ≠ (TJ9 b).2.1 := by decide +kernel
theorem tyJ9_ok : ∀ k, k < 0 → parseFieldDescriptor (TJ9 k).2.2.1 = some (tyJ9 k) := by decide +kernel
abbrev cJ9_abs_0f7a4 : ByteArray := prog_13_method_59_code
def yJ9_abs_0f7a4 : MethodName := ⟨RJ9, "abs", "(I)I"⟩
abbrev cJ9_max_7cf53 : ByteArray := prog_13_method_65_code
def yJ9_max_7cf53 : MethodName := ⟨RJ9, "max", "(II)I"⟩
abbrev cJ9_min_7cf53 : ByteArray := prog_13_method_69_code
def yJ9_min_7cf53 : MethodName := ⟨RJ9, "min", "(II)I"⟩
def RJ10 : String := "java/lang/System"
def TJ10 : u_T := fun k => match k with
  | _ => ("", "", "", false)
def tyJ10 : Nat → FieldType := fun k => match k with
  | _ => .int
abbrev wsJ100 : List Cond := u_ws RJ10 TJ10 0
theorem nmJ10 : ∀ a, a < 0 → ∀ b, b < 0 → a ≠ b → (TJ10 a).2.1 ≠ (TJ10 b).2.1 := by decide +kernel
theorem tyJ10_ok : ∀ k, k < 0 → parseFieldDescriptor (TJ10 k).2.2.1 = some (tyJ10 k) := by decide +kernel
def RL : String := "IceForCoastLaw"
abbrev cL_cell : ByteArray := method_2_code
def yL_cell : MethodName := ⟨RL, "cell", "([II)I"⟩
abbrev cL_at : ByteArray := method_3_code
def yL_at : MethodName := ⟨RL, "at", "(II)I"⟩
abbrev cL_seaText : ByteArray := method_4_code
def yL_seaText : MethodName := ⟨RL, "seaText", "([II[I[I)I"⟩
abbrev cL_write : ByteArray := method_5_code
def yL_write : MethodName := ⟨RL, "write", "(LIceForCoast;[II)Z"⟩
abbrev cL_far : ByteArray := method_6_code
def yL_far : MethodName := ⟨RL, "far", "([II)I"⟩
abbrev cL_beside : ByteArray := method_7_code
def yL_beside : MethodName := ⟨RL, "beside", "([III)I"⟩
abbrev cL_bergs : ByteArray := method_8_code
def yL_bergs : MethodName := ⟨RL, "bergs", "(LIceForCoast;[III[I[I)Z"⟩
abbrev cL_day : ByteArray := method_9_code
def yL_day : MethodName := ⟨RL, "day", "([IIIZ[I)V"⟩
abbrev cL_daysOf : ByteArray := method_10_code
def yL_daysOf : MethodName := ⟨RL, "daysOf", "([IIIII)I"⟩
abbrev cL_way : ByteArray := method_11_code
def yL_way : MethodName := ⟨RL, "way", "([I[IIIZII[I)Z"⟩
abbrev cL_best : ByteArray := method_12_code
def yL_best : MethodName := ⟨RL, "best", "([I[IIIZ[I[I)V"⟩
abbrev cL_law : ByteArray := code
def yL_law : MethodName := ⟨RL, "law", "([I)Z"⟩
abbrev cL_tows : ByteArray := method_14_code
def yL_tows : MethodName := ⟨RL, "tows", "(LIceForCoast;[I[I[I[II)Z"⟩
abbrev cL_season : ByteArray := method_15_code
def yL_season : MethodName := ⟨RL, "season", "(LIceForCoast;I[IIZ)I"⟩
abbrev vwCl : List vw_C := [(RX0, TX0, 6), (RX1, TX1, 1), (RX2, TX2, 6), (RX3, TX3, 4), (RX4, TX4, 4), (RX5, TX5, 4), (RX6, TX6, 7), (RX7, TX7, 8), (RX8, TX8, 17), (RX9, TX9, 12)]
def AL : List Cond := lw_tbl.filter goodWord
def isNest : Cond → Bool
  | .fieldLinkNest .. => true
  | .methodLinkNest .. => true
  | _ => false
def NW : List Cond := lw_tbl.filter isNest
theorem AL_in {w : Cond} (h : w ∈ lw_tbl) (g : goodWord w = true) : w ∈ AL := List.mem_filter.mpr ⟨h, g⟩
theorem NW_in {w : Cond} (h : w ∈ lw_tbl) (g : isNest w = true) : w ∈ NW := List.mem_filter.mpr ⟨h, g⟩
theorem AL_good {w : Cond} (h : w ∈ AL) : w ∈ AL ∧ ((w.onTables && w.keeps) = true ∨ ∃ ty, w = .arrayClass ty) := ⟨h, good_of_word (List.mem_filter.mp h).2⟩
theorem AL_of (ws : List Cond) (ps : List Nat) (hp : ws = ps.filterMap (fun i => lw_tbl[i]?)) (h : ws.all goodWord = true) : ∀ w ∈ ws, w ∈ AL := by
  intro w hw
  have h1 := List.all_eq_true.mp h w hw
  rw [hp] at hw
  obtain ⟨i, -, hi⟩ := List.mem_filterMap.mp hw
  exact AL_in (List.mem_of_getElem? hi) h1
theorem NW_of (ws : List Cond) (ps : List Nat) (hp : ws = ps.filterMap (fun i => lw_tbl[i]?)) (h : ws.all isNest = true) : ∀ w ∈ ws, w ∈ NW := by
  intro w hw
  have h1 := List.all_eq_true.mp h w hw
  rw [hp] at hw
  obtain ⟨i, -, hi⟩ := List.mem_filterMap.mp hw
  exact NW_in (List.mem_of_getElem? hi) h1
end
section
/-! ===== the words of the tables by their places ===== -/
theorem inA0 : ∀ w ∈ wsX00, w ∈ AL := AL_of _ [147, 149, 151, 153, 155, 157] (by decide +kernel) (by decide +kernel)
theorem inA1 : ∀ w ∈ wsX10, w ∈ AL := AL_of _ [124] (by decide +kernel) (by decide +kernel)
theorem inA2 : ∀ w ∈ wsX20, w ∈ AL := AL_of _ [251, 253, 255, 257, 259, 261] (by decide +kernel) (by decide +kernel)
theorem inA3 : ∀ w ∈ wsX30, w ∈ AL := AL_of _ [279, 281, 283, 285] (by decide +kernel) (by decide +kernel)
theorem inA4 : ∀ w ∈ wsX40, w ∈ AL := AL_of _ [231, 233, 235, 237] (by decide +kernel) (by decide +kernel)
theorem inA5 : ∀ w ∈ wsX50, w ∈ AL := AL_of _ [296, 298, 300, 302] (by decide +kernel) (by decide +kernel)
theorem inA6 : ∀ w ∈ wsX60, w ∈ AL := AL_of _ [53, 55, 57, 59, 61, 63, 65] (by decide +kernel) (by decide +kernel)
theorem inA7 : ∀ w ∈ wsX70, w ∈ AL := AL_of _ [100, 102, 104, 106, 108, 110, 112, 114] (by decide +kernel) (by decide +kernel)
theorem inA8 : ∀ w ∈ wsX80, w ∈ AL := AL_of _ [184, 186, 188, 190, 192, 194, 196, 198, 200, 202, 204, 206, 208, 210, 212, 214, 216] (by decide +kernel) (by decide +kernel)
theorem inA9 : ∀ w ∈ wsX90, w ∈ AL := AL_of _ [319, 321, 323, 325, 327, 329, 331, 333, 335, 337, 339, 341] (by decide +kernel) (by decide +kernel)
theorem tk_0 : ∀ w ∈ k2_sels lw_privs, w ∈ lw_tbl := fun w h => List.mem_append_left _ h
theorem tk_1 : ∀ w ∈ tables_1_1, w ∈ lw_tbl := fun w h => List.mem_append_right _ (List.mem_append_left _ h)
theorem tk_2 : ∀ w ∈ tables_1_2, w ∈ lw_tbl := fun w h => List.mem_append_right _ (List.mem_append_right _ (List.mem_append_left _ h))
theorem tk_3 : ∀ w ∈ tables_1_3, w ∈ lw_tbl := fun w h => List.mem_append_right _ (List.mem_append_right _ (List.mem_append_right _ h))
theorem aw_0 : Cond.selects RX6 yX6_takes yX6_takes ∈ AL := AL_in (tk_0 _ (List.mem_of_getElem? (i := 0) rfl)) rfl
theorem aw_1 : Cond.selects RX6 yX6_takesRowEnd yX6_takesRowEnd ∈ AL := AL_in (tk_0 _ (List.mem_of_getElem? (i := 1) rfl)) rfl
theorem aw_2 : Cond.selects RX6 yX6_takesSquare yX6_takesSquare ∈ AL := AL_in (tk_0 _ (List.mem_of_getElem? (i := 2) rfl)) rfl
theorem aw_3 : Cond.selects RX7 yX7_layLetter yX7_layLetter ∈ AL := AL_in (tk_0 _ (List.mem_of_getElem? (i := 3) rfl)) rfl
theorem aw_4 : Cond.selects RX7 yX7_measure yX7_measure ∈ AL := AL_in (tk_0 _ (List.mem_of_getElem? (i := 4) rfl)) rfl
theorem aw_5 : Cond.selects RX7 yX7_openWays yX7_openWays ∈ AL := AL_in (tk_0 _ (List.mem_of_getElem? (i := 5) rfl)) rfl
theorem aw_6 : Cond.selects RX7 yX7_beside yX7_beside ∈ AL := AL_in (tk_0 _ (List.mem_of_getElem? (i := 6) rfl)) rfl
theorem aw_7 : Cond.selects RX9 yX9_isBerg yX9_isBerg ∈ AL := AL_in (tk_0 _ (List.mem_of_getElem? (i := 7) rfl)) rfl
theorem aw_8 : Cond.selects RX9 yX9_hasWay yX9_hasWay ∈ AL := AL_in (tk_0 _ (List.mem_of_getElem? (i := 8) rfl)) rfl
theorem aw_9 : Cond.selects RX8 yX8_isHopeless yX8_isHopeless ∈ AL := AL_in (tk_0 _ (List.mem_of_getElem? (i := 9) rfl)) rfl
theorem aw_10 : Cond.selects RX8 yX8_choose yX8_choose ∈ AL := AL_in (tk_0 _ (List.mem_of_getElem? (i := 10) rfl)) rfl
theorem aw_11 : Cond.selects RX8 yX8_pass yX8_pass ∈ AL := AL_in (tk_0 _ (List.mem_of_getElem? (i := 11) rfl)) rfl
theorem aw_12 : Cond.selects RX8 yX8_daysOfStep yX8_daysOfStep ∈ AL := AL_in (tk_0 _ (List.mem_of_getElem? (i := 12) rfl)) rfl
theorem aw_13 : Cond.selects RX8 yX8_drawnWarmth yX8_drawnWarmth ∈ AL := AL_in (tk_0 _ (List.mem_of_getElem? (i := 13) rfl)) rfl
theorem aw_14 : Cond.selects RX9 yX9_weigh yX9_weigh ∈ AL := AL_in (tk_0 _ (List.mem_of_getElem? (i := 14) rfl)) rfl
theorem aw_15 : Cond.selects RX3 yX3_mostFrom yX3_mostFrom ∈ AL := AL_in (tk_0 _ (List.mem_of_getElem? (i := 15) rfl)) rfl
theorem aw_16 : Cond.selects RX3 yX3_gainBy yX3_gainBy ∈ AL := AL_in (tk_0 _ (List.mem_of_getElem? (i := 16) rfl)) rfl
theorem aw_17 : Cond.selects RX3 yX3_fewestFor yX3_fewestFor ∈ AL := AL_in (tk_0 _ (List.mem_of_getElem? (i := 17) rfl)) rfl
theorem aw_18 : Cond.initialized RL ∈ AL := AL_in (tk_1 _ (List.mem_of_getElem? (i := 0) rfl)) rfl
theorem aw_19 : Cond.initialized RX9 ∈ AL := AL_in (tk_1 _ (List.mem_of_getElem? (i := 1) rfl)) rfl
theorem aw_20 : Cond.initialized RX6 ∈ AL := AL_in (tk_1 _ (List.mem_of_getElem? (i := 2) rfl)) rfl
theorem aw_21 : Cond.initialized RX8 ∈ AL := AL_in (tk_1 _ (List.mem_of_getElem? (i := 3) rfl)) rfl
theorem aw_22 : Cond.initialized RX7 ∈ AL := AL_in (tk_1 _ (List.mem_of_getElem? (i := 4) rfl)) rfl
theorem aw_23 : Cond.initialized RX1 ∈ AL := AL_in (tk_1 _ (List.mem_of_getElem? (i := 5) rfl)) rfl
theorem aw_24 : Cond.initialized RX0 ∈ AL := AL_in (tk_1 _ (List.mem_of_getElem? (i := 6) rfl)) rfl
theorem aw_25 : Cond.initialized RX4 ∈ AL := AL_in (tk_1 _ (List.mem_of_getElem? (i := 7) rfl)) rfl
theorem aw_26 : Cond.initialized RX2 ∈ AL := AL_in (tk_1 _ (List.mem_of_getElem? (i := 8) rfl)) rfl
theorem aw_27 : Cond.initialized RX3 ∈ AL := AL_in (tk_1 _ (List.mem_of_getElem? (i := 9) rfl)) rfl
theorem aw_28 : Cond.initialized RX5 ∈ AL := AL_in (tk_1 _ (List.mem_of_getElem? (i := 10) rfl)) rfl
theorem aw_29 : Cond.initialized "java/lang/Math" ∈ AL := AL_in (tk_1 _ (List.mem_of_getElem? (i := 11) rfl)) rfl
theorem aw_30 : Cond.initialized "java/lang/System" ∈ AL := AL_in (tk_1 _ (List.mem_of_getElem? (i := 12) rfl)) rfl
theorem aw_31 : Cond.classLink RL 19 RX9 ∈ AL := AL_in (tk_1 _ (List.mem_of_getElem? (i := 13) rfl)) rfl
theorem aw_32 : Cond.instantiable RX9 12 ∈ AL := AL_in (tk_1 _ (List.mem_of_getElem? (i := 14) rfl)) rfl
theorem aw_33 : Cond.methodLink RL 47 yX9_init ∈ AL := AL_in (tk_1 _ (List.mem_of_getElem? (i := 15) rfl)) rfl
theorem aw_34 : Cond.instanceMethod yX9_init ∈ AL := AL_in (tk_1 _ (List.mem_of_getElem? (i := 16) rfl)) rfl
theorem aw_35 : Cond.code yX9_init cX9_init 2 none ∈ AL := AL_in (tk_1 _ (List.mem_of_getElem? (i := 17) rfl)) rfl
theorem aw_36 : Cond.methodLink RX9 1 objectInit ∈ AL := AL_in (tk_1 _ (List.mem_of_getElem? (i := 18) rfl)) rfl
theorem aw_37 : Cond.instanceMethod objectInit ∈ AL := AL_in (tk_1 _ (List.mem_of_getElem? (i := 19) rfl)) rfl
theorem aw_38 : Cond.code objectInit ⟨#[0xb1]⟩ 1 none ∈ AL := AL_in (tk_1 _ (List.mem_of_getElem? (i := 20) rfl)) rfl
theorem aw_39 : Cond.classLink RX9 7 RX6 ∈ AL := AL_in (tk_1 _ (List.mem_of_getElem? (i := 21) rfl)) rfl
theorem aw_40 : Cond.instantiable RX6 7 ∈ AL := AL_in (tk_1 _ (List.mem_of_getElem? (i := 22) rfl)) rfl
theorem aw_41 : Cond.methodLinkNest RX9 9 yX6_init "IceForCoast" ∈ NW := NW_in (tk_1 _ (List.mem_of_getElem? (i := 23) rfl)) rfl
theorem aw_42 : Cond.instanceMethod yX6_init ∈ AL := AL_in (tk_1 _ (List.mem_of_getElem? (i := 24) rfl)) rfl
theorem aw_43 : Cond.code yX6_init cX6_init 1 none ∈ AL := AL_in (tk_1 _ (List.mem_of_getElem? (i := 25) rfl)) rfl
theorem aw_44 : Cond.methodLink RX6 3 objectInit ∈ AL := AL_in (tk_1 _ (List.mem_of_getElem? (i := 26) rfl)) rfl
theorem aw_45 : Cond.fieldLink RX6 11 "IceForCoast$Page" "codes" "[I" ∈ AL := AL_in (tk_1 _ (List.mem_of_getElem? (i := 27) rfl)) rfl
theorem aw_46 : Cond.fieldLink RX6 19 "IceForCoast$Page" "length" "I" ∈ AL := AL_in (tk_1 _ (List.mem_of_getElem? (i := 28) rfl)) rfl
theorem aw_47 : Cond.fieldLinkNest RX7 40 "IceForCoast$Page" "length" "I" "IceForCoast" ∈ NW := NW_in (tk_1 _ (List.mem_of_getElem? (i := 29) rfl)) rfl
theorem aw_48 : Cond.fieldLink RX6 23 "IceForCoast$Page" "row" "I" ∈ AL := AL_in (tk_1 _ (List.mem_of_getElem? (i := 30) rfl)) rfl
theorem aw_49 : Cond.fieldLink RX6 26 "IceForCoast$Page" "inRow" "I" ∈ AL := AL_in (tk_1 _ (List.mem_of_getElem? (i := 31) rfl)) rfl
theorem aw_50 : Cond.fieldLink RX6 29 "IceForCoast$Page" "width" "I" ∈ AL := AL_in (tk_1 _ (List.mem_of_getElem? (i := 32) rfl)) rfl
theorem aw_51 : Cond.fieldLink RX6 32 "IceForCoast$Page" "harbours" "I" ∈ AL := AL_in (tk_1 _ (List.mem_of_getElem? (i := 33) rfl)) rfl
theorem aw_52 : Cond.fieldLink RX6 35 "IceForCoast$Page" "currentMayCome" "Z" ∈ AL := AL_in (tk_1 _ (List.mem_of_getElem? (i := 34) rfl)) rfl
theorem aw_68 : Cond.arrayClass .int ∈ AL := AL_in (tk_1 _ (List.mem_of_getElem? (i := 50) rfl)) rfl
theorem aw_69 : Cond.classLink RX9 16 RX8 ∈ AL := AL_in (tk_1 _ (List.mem_of_getElem? (i := 51) rfl)) rfl
theorem aw_70 : Cond.instantiable RX8 17 ∈ AL := AL_in (tk_1 _ (List.mem_of_getElem? (i := 52) rfl)) rfl
theorem aw_71 : Cond.methodLinkNest RX9 18 yX8_init "IceForCoast" ∈ NW := NW_in (tk_1 _ (List.mem_of_getElem? (i := 53) rfl)) rfl
theorem aw_72 : Cond.instanceMethod yX8_init ∈ AL := AL_in (tk_1 _ (List.mem_of_getElem? (i := 54) rfl)) rfl
theorem aw_73 : Cond.code yX8_init cX8_init 1 none ∈ AL := AL_in (tk_1 _ (List.mem_of_getElem? (i := 55) rfl)) rfl
theorem aw_74 : Cond.methodLink RX8 5 objectInit ∈ AL := AL_in (tk_1 _ (List.mem_of_getElem? (i := 56) rfl)) rfl
theorem aw_75 : Cond.classLink RX8 1 RX7 ∈ AL := AL_in (tk_1 _ (List.mem_of_getElem? (i := 57) rfl)) rfl
theorem aw_76 : Cond.instantiable RX7 8 ∈ AL := AL_in (tk_1 _ (List.mem_of_getElem? (i := 58) rfl)) rfl
theorem aw_77 : Cond.methodLinkNest RX8 11 yX7_init "IceForCoast" ∈ NW := NW_in (tk_1 _ (List.mem_of_getElem? (i := 59) rfl)) rfl
theorem aw_78 : Cond.instanceMethod yX7_init ∈ AL := AL_in (tk_1 _ (List.mem_of_getElem? (i := 60) rfl)) rfl
theorem aw_79 : Cond.code yX7_init cX7_init 1 none ∈ AL := AL_in (tk_1 _ (List.mem_of_getElem? (i := 61) rfl)) rfl
theorem aw_80 : Cond.methodLink RX7 5 objectInit ∈ AL := AL_in (tk_1 _ (List.mem_of_getElem? (i := 62) rfl)) rfl
theorem aw_81 : Cond.classLink RX7 24 "[[I" ∈ AL := AL_in (tk_1 _ (List.mem_of_getElem? (i := 63) rfl)) rfl
theorem aw_83 : Cond.fieldLink RX7 11 "IceForCoast$Sea" "warmth" "[I" ∈ AL := AL_in (tk_1 _ (List.mem_of_getElem? (i := 65) rfl)) rfl
theorem aw_84 : Cond.fieldLinkNest RX9 109 "IceForCoast$Sea" "warmth" "[I" "IceForCoast" ∈ NW := NW_in (tk_1 _ (List.mem_of_getElem? (i := 66) rfl)) rfl
theorem aw_85 : Cond.fieldLinkNest RX8 127 "IceForCoast$Sea" "warmth" "[I" "IceForCoast" ∈ NW := NW_in (tk_1 _ (List.mem_of_getElem? (i := 67) rfl)) rfl
theorem aw_86 : Cond.fieldLink RX7 15 "IceForCoast$Sea" "current" "[I" ∈ AL := AL_in (tk_1 _ (List.mem_of_getElem? (i := 68) rfl)) rfl
theorem aw_87 : Cond.fieldLinkNest RX9 113 "IceForCoast$Sea" "current" "[I" "IceForCoast" ∈ NW := NW_in (tk_1 _ (List.mem_of_getElem? (i := 69) rfl)) rfl
theorem aw_88 : Cond.fieldLinkNest RX8 143 "IceForCoast$Sea" "current" "[I" "IceForCoast" ∈ NW := NW_in (tk_1 _ (List.mem_of_getElem? (i := 70) rfl)) rfl
theorem aw_89 : Cond.fieldLink RX7 18 "IceForCoast$Sea" "far" "[I" ∈ AL := AL_in (tk_1 _ (List.mem_of_getElem? (i := 71) rfl)) rfl
theorem aw_90 : Cond.fieldLinkNest RX9 116 "IceForCoast$Sea" "far" "[I" "IceForCoast" ∈ NW := NW_in (tk_1 _ (List.mem_of_getElem? (i := 72) rfl)) rfl
theorem aw_91 : Cond.fieldLink RX7 21 "IceForCoast$Sea" "waysFrom" "[I" ∈ AL := AL_in (tk_1 _ (List.mem_of_getElem? (i := 73) rfl)) rfl
theorem aw_92 : Cond.fieldLinkNest RX9 204 "IceForCoast$Sea" "waysFrom" "[I" "IceForCoast" ∈ NW := NW_in (tk_1 _ (List.mem_of_getElem? (i := 74) rfl)) rfl
theorem aw_93 : Cond.fieldLink RX7 26 "IceForCoast$Sea" "next" "[[I" ∈ AL := AL_in (tk_1 _ (List.mem_of_getElem? (i := 75) rfl)) rfl
theorem aw_94 : Cond.fieldLinkNest RX8 89 "IceForCoast$Sea" "next" "[[I" "IceForCoast" ∈ NW := NW_in (tk_1 _ (List.mem_of_getElem? (i := 76) rfl)) rfl
theorem aw_95 : Cond.fieldLink RX7 29 "IceForCoast$Sea" "squares" "I" ∈ AL := AL_in (tk_1 _ (List.mem_of_getElem? (i := 77) rfl)) rfl
theorem aw_96 : Cond.fieldLinkNest RX9 102 "IceForCoast$Sea" "squares" "I" "IceForCoast" ∈ NW := NW_in (tk_1 _ (List.mem_of_getElem? (i := 78) rfl)) rfl
theorem aw_97 : Cond.fieldLink RX7 37 "IceForCoast$Sea" "width" "I" ∈ AL := AL_in (tk_1 _ (List.mem_of_getElem? (i := 79) rfl)) rfl
theorem aw_98 : Cond.fieldLinkNest RX8 103 "IceForCoast$Sea" "harbour" "I" "IceForCoast" ∈ NW := NW_in (tk_1 _ (List.mem_of_getElem? (i := 80) rfl)) rfl
theorem aw_99 : Cond.fieldLink RX7 64 "IceForCoast$Sea" "harbour" "I" ∈ AL := AL_in (tk_1 _ (List.mem_of_getElem? (i := 81) rfl)) rfl
theorem aw_117 : Cond.classLink RX8 18 RX1 ∈ AL := AL_in (tk_1 _ (List.mem_of_getElem? (i := 99) rfl)) rfl
theorem aw_118 : Cond.instantiable RX1 1 ∈ AL := AL_in (tk_1 _ (List.mem_of_getElem? (i := 100) rfl)) rfl
theorem aw_119 : Cond.methodLinkNest RX8 20 yX1_init "IceForCoast" ∈ NW := NW_in (tk_1 _ (List.mem_of_getElem? (i := 101) rfl)) rfl
theorem aw_120 : Cond.instanceMethod yX1_init ∈ AL := AL_in (tk_1 _ (List.mem_of_getElem? (i := 102) rfl)) rfl
theorem aw_121 : Cond.code yX1_init cX1_init 1 none ∈ AL := AL_in (tk_1 _ (List.mem_of_getElem? (i := 103) rfl)) rfl
theorem aw_122 : Cond.methodLink RX1 1 objectInit ∈ AL := AL_in (tk_1 _ (List.mem_of_getElem? (i := 104) rfl)) rfl
theorem aw_123 : Cond.fieldLink RX1 7 "IceForCoast$Coins" "value" "[I" ∈ AL := AL_in (tk_1 _ (List.mem_of_getElem? (i := 105) rfl)) rfl
theorem aw_127 : Cond.classLink RX8 41 RX0 ∈ AL := AL_in (tk_1 _ (List.mem_of_getElem? (i := 109) rfl)) rfl
theorem aw_128 : Cond.instantiable RX0 6 ∈ AL := AL_in (tk_1 _ (List.mem_of_getElem? (i := 110) rfl)) rfl
theorem aw_129 : Cond.methodLinkNest RX8 43 yX0_init "IceForCoast" ∈ NW := NW_in (tk_1 _ (List.mem_of_getElem? (i := 111) rfl)) rfl
theorem aw_130 : Cond.instanceMethod yX0_init ∈ AL := AL_in (tk_1 _ (List.mem_of_getElem? (i := 112) rfl)) rfl
theorem aw_131 : Cond.code yX0_init cX0_init 1 none ∈ AL := AL_in (tk_1 _ (List.mem_of_getElem? (i := 113) rfl)) rfl
theorem aw_132 : Cond.methodLink RX0 1 objectInit ∈ AL := AL_in (tk_1 _ (List.mem_of_getElem? (i := 114) rfl)) rfl
theorem aw_133 : Cond.fieldLink RX0 9 "IceForCoast$Berg" "kind" "I" ∈ AL := AL_in (tk_1 _ (List.mem_of_getElem? (i := 115) rfl)) rfl
theorem aw_134 : Cond.fieldLinkNest RX8 137 "IceForCoast$Berg" "kind" "I" "IceForCoast" ∈ NW := NW_in (tk_1 _ (List.mem_of_getElem? (i := 116) rfl)) rfl
theorem aw_135 : Cond.fieldLinkNest RX9 148 "IceForCoast$Berg" "kind" "I" "IceForCoast" ∈ NW := NW_in (tk_1 _ (List.mem_of_getElem? (i := 117) rfl)) rfl
theorem aw_136 : Cond.fieldLinkNest RX8 71 "IceForCoast$Berg" "square" "I" "IceForCoast" ∈ NW := NW_in (tk_1 _ (List.mem_of_getElem? (i := 118) rfl)) rfl
theorem aw_137 : Cond.fieldLink RX0 13 "IceForCoast$Berg" "square" "I" ∈ AL := AL_in (tk_1 _ (List.mem_of_getElem? (i := 119) rfl)) rfl
theorem aw_138 : Cond.fieldLinkNest RX9 151 "IceForCoast$Berg" "square" "I" "IceForCoast" ∈ NW := NW_in (tk_1 _ (List.mem_of_getElem? (i := 120) rfl)) rfl
theorem aw_139 : Cond.fieldLink RX0 16 "IceForCoast$Berg" "size" "I" ∈ AL := AL_in (tk_1 _ (List.mem_of_getElem? (i := 121) rfl)) rfl
theorem aw_140 : Cond.fieldLinkNest RX9 154 "IceForCoast$Berg" "size" "I" "IceForCoast" ∈ NW := NW_in (tk_1 _ (List.mem_of_getElem? (i := 122) rfl)) rfl
theorem aw_141 : Cond.fieldLinkNest RX8 68 "IceForCoast$Berg" "foot" "I" "IceForCoast" ∈ NW := NW_in (tk_1 _ (List.mem_of_getElem? (i := 123) rfl)) rfl
theorem aw_142 : Cond.fieldLink RX0 19 "IceForCoast$Berg" "foot" "I" ∈ AL := AL_in (tk_1 _ (List.mem_of_getElem? (i := 124) rfl)) rfl
theorem aw_143 : Cond.fieldLinkNest RX9 157 "IceForCoast$Berg" "foot" "I" "IceForCoast" ∈ NW := NW_in (tk_1 _ (List.mem_of_getElem? (i := 125) rfl)) rfl
theorem aw_144 : Cond.fieldLink RX0 22 "IceForCoast$Berg" "n" "I" ∈ AL := AL_in (tk_1 _ (List.mem_of_getElem? (i := 126) rfl)) rfl
theorem aw_145 : Cond.fieldLinkNest RX9 160 "IceForCoast$Berg" "n" "I" "IceForCoast" ∈ NW := NW_in (tk_1 _ (List.mem_of_getElem? (i := 127) rfl)) rfl
theorem aw_146 : Cond.fieldLink RX0 25 "IceForCoast$Berg" "flat" "Z" ∈ AL := AL_in (tk_1 _ (List.mem_of_getElem? (i := 128) rfl)) rfl
theorem aw_160 : Cond.fieldLink RX8 12 "IceForCoast$Tow" "sea" "LIceForCoast$Sea;" ∈ AL := AL_in (tk_1 _ (List.mem_of_getElem? (i := 142) rfl)) rfl
theorem aw_161 : Cond.fieldLinkNest RX9 23 "IceForCoast$Tow" "sea" "LIceForCoast$Sea;" "IceForCoast" ∈ NW := NW_in (tk_1 _ (List.mem_of_getElem? (i := 143) rfl)) rfl
theorem aw_162 : Cond.fieldLink RX8 21 "IceForCoast$Tow" "coins" "LIceForCoast$Coins;" ∈ AL := AL_in (tk_1 _ (List.mem_of_getElem? (i := 144) rfl)) rfl
theorem aw_163 : Cond.fieldLinkNest RX9 30 "IceForCoast$Tow" "coins" "LIceForCoast$Coins;" "IceForCoast" ∈ NW := NW_in (tk_1 _ (List.mem_of_getElem? (i := 145) rfl)) rfl
theorem aw_164 : Cond.fieldLink RX8 25 "IceForCoast$Tow" "sizeAt" "[I" ∈ AL := AL_in (tk_1 _ (List.mem_of_getElem? (i := 146) rfl)) rfl
theorem aw_165 : Cond.fieldLink RX8 29 "IceForCoast$Tow" "footAt" "[I" ∈ AL := AL_in (tk_1 _ (List.mem_of_getElem? (i := 147) rfl)) rfl
theorem aw_166 : Cond.fieldLink RX8 32 "IceForCoast$Tow" "dayAt" "[I" ∈ AL := AL_in (tk_1 _ (List.mem_of_getElem? (i := 148) rfl)) rfl
theorem aw_167 : Cond.fieldLink RX8 35 "IceForCoast$Tow" "trial" "[I" ∈ AL := AL_in (tk_1 _ (List.mem_of_getElem? (i := 149) rfl)) rfl
theorem aw_168 : Cond.fieldLink RX8 38 "IceForCoast$Tow" "chosen" "[I" ∈ AL := AL_in (tk_1 _ (List.mem_of_getElem? (i := 150) rfl)) rfl
theorem aw_169 : Cond.fieldLink RX8 44 "IceForCoast$Tow" "berg" "LIceForCoast$Berg;" ∈ AL := AL_in (tk_1 _ (List.mem_of_getElem? (i := 151) rfl)) rfl
theorem aw_170 : Cond.fieldLink RX8 48 "IceForCoast$Tow" "tugs" "I" ∈ AL := AL_in (tk_1 _ (List.mem_of_getElem? (i := 152) rfl)) rfl
theorem aw_171 : Cond.fieldLink RX8 58 "IceForCoast$Tow" "skirt" "Z" ∈ AL := AL_in (tk_1 _ (List.mem_of_getElem? (i := 153) rfl)) rfl
theorem aw_172 : Cond.fieldLink RX8 62 "IceForCoast$Tow" "found" "Z" ∈ AL := AL_in (tk_1 _ (List.mem_of_getElem? (i := 154) rfl)) rfl
theorem aw_173 : Cond.fieldLink RX8 93 "IceForCoast$Tow" "water" "I" ∈ AL := AL_in (tk_1 _ (List.mem_of_getElem? (i := 155) rfl)) rfl
theorem aw_174 : Cond.fieldLinkNest RX9 188 "IceForCoast$Tow" "water" "I" "IceForCoast" ∈ NW := NW_in (tk_1 _ (List.mem_of_getElem? (i := 156) rfl)) rfl
theorem aw_175 : Cond.fieldLink RX8 96 "IceForCoast$Tow" "days" "I" ∈ AL := AL_in (tk_1 _ (List.mem_of_getElem? (i := 157) rfl)) rfl
theorem aw_176 : Cond.fieldLinkNest RX9 191 "IceForCoast$Tow" "days" "I" "IceForCoast" ∈ NW := NW_in (tk_1 _ (List.mem_of_getElem? (i := 158) rfl)) rfl
theorem aw_177 : Cond.fieldLink RX8 114 "IceForCoast$Tow" "gain" "I" ∈ AL := AL_in (tk_1 _ (List.mem_of_getElem? (i := 159) rfl)) rfl
theorem aw_178 : Cond.fieldLinkNest RX9 194 "IceForCoast$Tow" "gain" "I" "IceForCoast" ∈ NW := NW_in (tk_1 _ (List.mem_of_getElem? (i := 160) rfl)) rfl
theorem aw_179 : Cond.fieldLink RX8 82 "IceForCoast$Tow" "steps" "I" ∈ AL := AL_in (tk_1 _ (List.mem_of_getElem? (i := 161) rfl)) rfl
theorem aw_180 : Cond.fieldLinkNest RX9 197 "IceForCoast$Tow" "steps" "I" "IceForCoast" ∈ NW := NW_in (tk_1 _ (List.mem_of_getElem? (i := 162) rfl)) rfl
theorem aw_181 : Cond.fieldLink RX8 65 "IceForCoast$Tow" "drawing" "Z" ∈ AL := AL_in (tk_1 _ (List.mem_of_getElem? (i := 163) rfl)) rfl
theorem aw_182 : Cond.fieldLink RX8 78 "IceForCoast$Tow" "seed" "J" ∈ AL := AL_in (tk_1 _ (List.mem_of_getElem? (i := 164) rfl)) rfl
theorem aw_183 : Cond.fieldLinkNest RX9 238 "IceForCoast$Tow" "seed" "J" "IceForCoast" ∈ NW := NW_in (tk_1 _ (List.mem_of_getElem? (i := 165) rfl)) rfl
theorem aw_219 : Cond.classLink RX9 35 RX0 ∈ AL := AL_in (tk_1 _ (List.mem_of_getElem? (i := 201) rfl)) rfl
theorem aw_221 : Cond.classLink RX9 41 RX4 ∈ AL := AL_in (tk_1 _ (List.mem_of_getElem? (i := 203) rfl)) rfl
theorem aw_222 : Cond.instantiable RX4 4 ∈ AL := AL_in (tk_1 _ (List.mem_of_getElem? (i := 204) rfl)) rfl
theorem aw_223 : Cond.methodLinkNest RX9 43 yX4_init "IceForCoast" ∈ NW := NW_in (tk_1 _ (List.mem_of_getElem? (i := 205) rfl)) rfl
theorem aw_224 : Cond.instanceMethod yX4_init ∈ AL := AL_in (tk_1 _ (List.mem_of_getElem? (i := 206) rfl)) rfl
theorem aw_225 : Cond.code yX4_init cX4_init 1 none ∈ AL := AL_in (tk_1 _ (List.mem_of_getElem? (i := 207) rfl)) rfl
theorem aw_226 : Cond.methodLink RX4 3 objectInit ∈ AL := AL_in (tk_1 _ (List.mem_of_getElem? (i := 208) rfl)) rfl
theorem aw_227 : Cond.fieldLink RX4 11 "IceForCoast$Lines" "house" "[I" ∈ AL := AL_in (tk_1 _ (List.mem_of_getElem? (i := 209) rfl)) rfl
theorem aw_228 : Cond.fieldLink RX4 15 "IceForCoast$Lines" "berg" "[I" ∈ AL := AL_in (tk_1 _ (List.mem_of_getElem? (i := 210) rfl)) rfl
theorem aw_229 : Cond.fieldLink RX4 18 "IceForCoast$Lines" "day" "[I" ∈ AL := AL_in (tk_1 _ (List.mem_of_getElem? (i := 211) rfl)) rfl
theorem aw_230 : Cond.fieldLink RX4 21 "IceForCoast$Lines" "length" "I" ∈ AL := AL_in (tk_1 _ (List.mem_of_getElem? (i := 212) rfl)) rfl
theorem aw_240 : Cond.classLink RX9 48 RX2 ∈ AL := AL_in (tk_1 _ (List.mem_of_getElem? (i := 222) rfl)) rfl
theorem aw_241 : Cond.instantiable RX2 6 ∈ AL := AL_in (tk_1 _ (List.mem_of_getElem? (i := 223) rfl)) rfl
theorem aw_242 : Cond.methodLinkNest RX9 50 yX2_init "IceForCoast" ∈ NW := NW_in (tk_1 _ (List.mem_of_getElem? (i := 224) rfl)) rfl
theorem aw_243 : Cond.instanceMethod yX2_init ∈ AL := AL_in (tk_1 _ (List.mem_of_getElem? (i := 225) rfl)) rfl
theorem aw_244 : Cond.code yX2_init cX2_init 1 none ∈ AL := AL_in (tk_1 _ (List.mem_of_getElem? (i := 226) rfl)) rfl
theorem aw_245 : Cond.methodLink RX2 3 objectInit ∈ AL := AL_in (tk_1 _ (List.mem_of_getElem? (i := 227) rfl)) rfl
theorem aw_246 : Cond.classLink RX2 18 RX1 ∈ AL := AL_in (tk_1 _ (List.mem_of_getElem? (i := 228) rfl)) rfl
theorem aw_247 : Cond.methodLinkNest RX2 20 yX1_init "IceForCoast" ∈ NW := NW_in (tk_1 _ (List.mem_of_getElem? (i := 229) rfl)) rfl
theorem aw_248 : Cond.fieldLink RX2 9 "IceForCoast$Image" "sizes" "[I" ∈ AL := AL_in (tk_1 _ (List.mem_of_getElem? (i := 230) rfl)) rfl
theorem aw_249 : Cond.fieldLink RX2 15 "IceForCoast$Image" "feet" "[I" ∈ AL := AL_in (tk_1 _ (List.mem_of_getElem? (i := 231) rfl)) rfl
theorem aw_250 : Cond.fieldLink RX2 21 "IceForCoast$Image" "coins" "LIceForCoast$Coins;" ∈ AL := AL_in (tk_1 _ (List.mem_of_getElem? (i := 232) rfl)) rfl
theorem aw_264 : Cond.classLink RX9 55 RX3 ∈ AL := AL_in (tk_2 _ (List.mem_of_getElem? (i := 6) rfl)) rfl
theorem aw_265 : Cond.instantiable RX3 4 ∈ AL := AL_in (tk_2 _ (List.mem_of_getElem? (i := 7) rfl)) rfl
theorem aw_266 : Cond.methodLinkNest RX9 57 yX3_init "IceForCoast" ∈ NW := NW_in (tk_2 _ (List.mem_of_getElem? (i := 8) rfl)) rfl
theorem aw_267 : Cond.instanceMethod yX3_init ∈ AL := AL_in (tk_2 _ (List.mem_of_getElem? (i := 9) rfl)) rfl
theorem aw_268 : Cond.code yX3_init cX3_init 1 none ∈ AL := AL_in (tk_2 _ (List.mem_of_getElem? (i := 10) rfl)) rfl
theorem aw_269 : Cond.methodLink RX3 3 objectInit ∈ AL := AL_in (tk_2 _ (List.mem_of_getElem? (i := 11) rfl)) rfl
theorem aw_270 : Cond.classLink RX3 11 "[[I" ∈ AL := AL_in (tk_2 _ (List.mem_of_getElem? (i := 12) rfl)) rfl
theorem aw_271 : Cond.fieldLink RX3 13 "IceForCoast$Ledger" "gains" "[[I" ∈ AL := AL_in (tk_2 _ (List.mem_of_getElem? (i := 13) rfl)) rfl
theorem aw_272 : Cond.fieldLinkNest RX9 219 "IceForCoast$Ledger" "gains" "[[I" "IceForCoast" ∈ NW := NW_in (tk_2 _ (List.mem_of_getElem? (i := 14) rfl)) rfl
theorem aw_273 : Cond.fieldLink RX3 16 "IceForCoast$Ledger" "known" "[Z" ∈ AL := AL_in (tk_2 _ (List.mem_of_getElem? (i := 15) rfl)) rfl
theorem aw_274 : Cond.fieldLinkNest RX9 340 "IceForCoast$Ledger" "known" "[Z" "IceForCoast" ∈ NW := NW_in (tk_2 _ (List.mem_of_getElem? (i := 16) rfl)) rfl
theorem aw_275 : Cond.fieldLink RX3 20 "IceForCoast$Ledger" "towable" "[Z" ∈ AL := AL_in (tk_2 _ (List.mem_of_getElem? (i := 17) rfl)) rfl
theorem aw_276 : Cond.fieldLinkNest RX9 344 "IceForCoast$Ledger" "towable" "[Z" "IceForCoast" ∈ NW := NW_in (tk_2 _ (List.mem_of_getElem? (i := 18) rfl)) rfl
theorem aw_277 : Cond.fieldLink RX3 23 "IceForCoast$Ledger" "most" "[[I" ∈ AL := AL_in (tk_2 _ (List.mem_of_getElem? (i := 19) rfl)) rfl
theorem aw_278 : Cond.fieldLinkNest RX9 226 "IceForCoast$Ledger" "most" "[[I" "IceForCoast" ∈ NW := NW_in (tk_2 _ (List.mem_of_getElem? (i := 20) rfl)) rfl
theorem aw_288 : Cond.arrayClass .boolean ∈ AL := AL_in (tk_2 _ (List.mem_of_getElem? (i := 30) rfl)) rfl
theorem aw_289 : Cond.classLink RX9 62 RX5 ∈ AL := AL_in (tk_2 _ (List.mem_of_getElem? (i := 31) rfl)) rfl
theorem aw_290 : Cond.instantiable RX5 4 ∈ AL := AL_in (tk_2 _ (List.mem_of_getElem? (i := 32) rfl)) rfl
theorem aw_291 : Cond.methodLinkNest RX9 64 yX5_init "IceForCoast" ∈ NW := NW_in (tk_2 _ (List.mem_of_getElem? (i := 33) rfl)) rfl
theorem aw_292 : Cond.instanceMethod yX5_init ∈ AL := AL_in (tk_2 _ (List.mem_of_getElem? (i := 34) rfl)) rfl
theorem aw_293 : Cond.code yX5_init cX5_init 1 none ∈ AL := AL_in (tk_2 _ (List.mem_of_getElem? (i := 35) rfl)) rfl
theorem aw_294 : Cond.methodLink RX5 3 objectInit ∈ AL := AL_in (tk_2 _ (List.mem_of_getElem? (i := 36) rfl)) rfl
theorem aw_295 : Cond.fieldLink RX5 9 "IceForCoast$Odds" "water" "[J" ∈ AL := AL_in (tk_2 _ (List.mem_of_getElem? (i := 37) rfl)) rfl
theorem aw_305 : Cond.arrayClass .long ∈ AL := AL_in (tk_2 _ (List.mem_of_getElem? (i := 47) rfl)) rfl
theorem aw_306 : Cond.methodLinkNest RX9 69 yX0_init "IceForCoast" ∈ NW := NW_in (tk_2 _ (List.mem_of_getElem? (i := 48) rfl)) rfl
theorem aw_307 : Cond.fieldLink RX9 10 "IceForCoast" "thePage" "LIceForCoast$Page;" ∈ AL := AL_in (tk_2 _ (List.mem_of_getElem? (i := 49) rfl)) rfl
theorem aw_308 : Cond.fieldLink RX9 19 "IceForCoast" "theTow" "LIceForCoast$Tow;" ∈ AL := AL_in (tk_2 _ (List.mem_of_getElem? (i := 50) rfl)) rfl
theorem aw_309 : Cond.fieldLink RX9 27 "IceForCoast" "theSea" "LIceForCoast$Sea;" ∈ AL := AL_in (tk_2 _ (List.mem_of_getElem? (i := 51) rfl)) rfl
theorem aw_310 : Cond.fieldLink RX9 34 "IceForCoast" "coins" "LIceForCoast$Coins;" ∈ AL := AL_in (tk_2 _ (List.mem_of_getElem? (i := 52) rfl)) rfl
theorem aw_311 : Cond.fieldLink RX9 37 "IceForCoast" "bergs" "[LIceForCoast$Berg;" ∈ AL := AL_in (tk_2 _ (List.mem_of_getElem? (i := 53) rfl)) rfl
theorem aw_312 : Cond.fieldLink RX9 44 "IceForCoast" "lines" "LIceForCoast$Lines;" ∈ AL := AL_in (tk_2 _ (List.mem_of_getElem? (i := 54) rfl)) rfl
theorem aw_313 : Cond.fieldLink RX9 51 "IceForCoast" "kept" "LIceForCoast$Image;" ∈ AL := AL_in (tk_2 _ (List.mem_of_getElem? (i := 55) rfl)) rfl
theorem aw_314 : Cond.fieldLink RX9 58 "IceForCoast" "ledger" "LIceForCoast$Ledger;" ∈ AL := AL_in (tk_2 _ (List.mem_of_getElem? (i := 56) rfl)) rfl
theorem aw_315 : Cond.fieldLink RX9 65 "IceForCoast" "theOdds" "LIceForCoast$Odds;" ∈ AL := AL_in (tk_2 _ (List.mem_of_getElem? (i := 57) rfl)) rfl
theorem aw_316 : Cond.fieldLink RX9 91 "IceForCoast" "bergCount" "I" ∈ AL := AL_in (tk_2 _ (List.mem_of_getElem? (i := 58) rfl)) rfl
theorem aw_317 : Cond.fieldLink RX9 99 "IceForCoast" "seasRead" "I" ∈ AL := AL_in (tk_2 _ (List.mem_of_getElem? (i := 59) rfl)) rfl
theorem aw_318 : Cond.fieldLink RX9 242 "IceForCoast" "cameDone" "I" ∈ AL := AL_in (tk_2 _ (List.mem_of_getElem? (i := 60) rfl)) rfl
theorem aw_344 : Cond.methodLink RL 56 yX9_fault ∈ AL := AL_in (tk_2 _ (List.mem_of_getElem? (i := 86) rfl)) rfl
theorem aw_345 : Cond.instanceMethod yX9_fault ∈ AL := AL_in (tk_2 _ (List.mem_of_getElem? (i := 87) rfl)) rfl
theorem aw_346 : Cond.selects RX9 yX9_fault yX9_fault ∈ AL := AL_in (tk_2 _ (List.mem_of_getElem? (i := 88) rfl)) rfl
theorem aw_347 : Cond.code yX9_fault cX9_fault 1 (some .int) ∈ AL := AL_in (tk_2 _ (List.mem_of_getElem? (i := 89) rfl)) rfl
theorem aw_348 : Cond.methodLink RX9 78 yX6_firstWrong ∈ AL := AL_in (tk_2 _ (List.mem_of_getElem? (i := 90) rfl)) rfl
theorem aw_349 : Cond.instanceMethod yX6_firstWrong ∈ AL := AL_in (tk_2 _ (List.mem_of_getElem? (i := 91) rfl)) rfl
theorem aw_350 : Cond.selects RX6 yX6_firstWrong yX6_firstWrong ∈ AL := AL_in (tk_2 _ (List.mem_of_getElem? (i := 92) rfl)) rfl
theorem aw_351 : Cond.code yX6_firstWrong cX6_firstWrong 2 (some .int) ∈ AL := AL_in (tk_2 _ (List.mem_of_getElem? (i := 93) rfl)) rfl
theorem aw_352 : Cond.methodLink RX6 39 yX6_takes ∈ AL := AL_in (tk_2 _ (List.mem_of_getElem? (i := 94) rfl)) rfl
theorem aw_354 : Cond.instanceMethod yX6_takes ∈ AL := AL_in (tk_2 _ (List.mem_of_getElem? (i := 96) rfl)) rfl
theorem aw_355 : Cond.code yX6_takes cX6_takes 3 (some .boolean) ∈ AL := AL_in (tk_2 _ (List.mem_of_getElem? (i := 97) rfl)) rfl
theorem aw_356 : Cond.methodLink RX6 47 yX6_takesRowEnd ∈ AL := AL_in (tk_2 _ (List.mem_of_getElem? (i := 98) rfl)) rfl
theorem aw_358 : Cond.instanceMethod yX6_takesRowEnd ∈ AL := AL_in (tk_2 _ (List.mem_of_getElem? (i := 100) rfl)) rfl
theorem aw_359 : Cond.code yX6_takesRowEnd cX6_takesRowEnd 2 (some .boolean) ∈ AL := AL_in (tk_2 _ (List.mem_of_getElem? (i := 101) rfl)) rfl
theorem aw_360 : Cond.methodLink RX6 51 yX7_wayOf ∈ AL := AL_in (tk_2 _ (List.mem_of_getElem? (i := 102) rfl)) rfl
theorem aw_361 : Cond.static yX7_wayOf ∈ AL := AL_in (tk_2 _ (List.mem_of_getElem? (i := 103) rfl)) rfl
theorem aw_362 : Cond.code yX7_wayOf cX7_wayOf 1 (some .int) ∈ AL := AL_in (tk_2 _ (List.mem_of_getElem? (i := 104) rfl)) rfl
theorem aw_363 : Cond.methodLink RX6 57 yX6_takesSquare ∈ AL := AL_in (tk_2 _ (List.mem_of_getElem? (i := 105) rfl)) rfl
theorem aw_365 : Cond.instanceMethod yX6_takesSquare ∈ AL := AL_in (tk_2 _ (List.mem_of_getElem? (i := 107) rfl)) rfl
theorem aw_366 : Cond.code yX6_takesSquare cX6_takesSquare 4 (some .boolean) ∈ AL := AL_in (tk_2 _ (List.mem_of_getElem? (i := 108) rfl)) rfl
theorem aw_367 : Cond.methodLink RL 60 yX9_sea ∈ AL := AL_in (tk_2 _ (List.mem_of_getElem? (i := 109) rfl)) rfl
theorem aw_368 : Cond.instanceMethod yX9_sea ∈ AL := AL_in (tk_2 _ (List.mem_of_getElem? (i := 110) rfl)) rfl
theorem aw_369 : Cond.selects RX9 yX9_sea yX9_sea ∈ AL := AL_in (tk_2 _ (List.mem_of_getElem? (i := 111) rfl)) rfl
theorem aw_370 : Cond.code yX9_sea cX9_sea 1 (some .int) ∈ AL := AL_in (tk_2 _ (List.mem_of_getElem? (i := 112) rfl)) rfl
theorem aw_371 : Cond.methodLink RX9 81 yX6_isSea ∈ AL := AL_in (tk_2 _ (List.mem_of_getElem? (i := 113) rfl)) rfl
theorem aw_372 : Cond.instanceMethod yX6_isSea ∈ AL := AL_in (tk_2 _ (List.mem_of_getElem? (i := 114) rfl)) rfl
theorem aw_373 : Cond.selects RX6 yX6_isSea yX6_isSea ∈ AL := AL_in (tk_2 _ (List.mem_of_getElem? (i := 115) rfl)) rfl
theorem aw_374 : Cond.code yX6_isSea cX6_isSea 1 (some .boolean) ∈ AL := AL_in (tk_2 _ (List.mem_of_getElem? (i := 116) rfl)) rfl
theorem aw_375 : Cond.methodLink RX6 43 yX6_firstWrong ∈ AL := AL_in (tk_2 _ (List.mem_of_getElem? (i := 117) rfl)) rfl
theorem aw_376 : Cond.methodLink RX9 85 yX7_lay ∈ AL := AL_in (tk_2 _ (List.mem_of_getElem? (i := 118) rfl)) rfl
theorem aw_377 : Cond.instanceMethod yX7_lay ∈ AL := AL_in (tk_2 _ (List.mem_of_getElem? (i := 119) rfl)) rfl
theorem aw_378 : Cond.selects RX7 yX7_lay yX7_lay ∈ AL := AL_in (tk_2 _ (List.mem_of_getElem? (i := 120) rfl)) rfl
theorem aw_379 : Cond.code yX7_lay cX7_lay 3 none ∈ AL := AL_in (tk_2 _ (List.mem_of_getElem? (i := 121) rfl)) rfl
theorem aw_380 : Cond.methodLink RX7 45 yX6_codeAt ∈ AL := AL_in (tk_2 _ (List.mem_of_getElem? (i := 122) rfl)) rfl
theorem aw_381 : Cond.instanceMethod yX6_codeAt ∈ AL := AL_in (tk_2 _ (List.mem_of_getElem? (i := 123) rfl)) rfl
theorem aw_382 : Cond.selects RX6 yX6_codeAt yX6_codeAt ∈ AL := AL_in (tk_2 _ (List.mem_of_getElem? (i := 124) rfl)) rfl
theorem aw_383 : Cond.code yX6_codeAt cX6_codeAt 2 (some .int) ∈ AL := AL_in (tk_2 _ (List.mem_of_getElem? (i := 125) rfl)) rfl
theorem aw_384 : Cond.methodLink RX7 49 yX7_layLetter ∈ AL := AL_in (tk_2 _ (List.mem_of_getElem? (i := 126) rfl)) rfl
theorem aw_386 : Cond.instanceMethod yX7_layLetter ∈ AL := AL_in (tk_2 _ (List.mem_of_getElem? (i := 128) rfl)) rfl
theorem aw_387 : Cond.code yX7_layLetter cX7_layLetter 3 none ∈ AL := AL_in (tk_2 _ (List.mem_of_getElem? (i := 129) rfl)) rfl
theorem aw_388 : Cond.methodLink RX7 61 yX7_wayOf ∈ AL := AL_in (tk_2 _ (List.mem_of_getElem? (i := 130) rfl)) rfl
theorem aw_389 : Cond.methodLink RX7 53 yX7_measure ∈ AL := AL_in (tk_2 _ (List.mem_of_getElem? (i := 131) rfl)) rfl
theorem aw_391 : Cond.instanceMethod yX7_measure ∈ AL := AL_in (tk_2 _ (List.mem_of_getElem? (i := 133) rfl)) rfl
theorem aw_392 : Cond.code yX7_measure cX7_measure 4 none ∈ AL := AL_in (tk_2 _ (List.mem_of_getElem? (i := 134) rfl)) rfl
theorem aw_393 : Cond.methodLink RX7 67 Lib.Math.abs.name ∈ AL := AL_in (tk_2 _ (List.mem_of_getElem? (i := 135) rfl)) rfl
theorem aw_394 : Cond.static Lib.Math.abs.name ∈ AL := AL_in (tk_2 _ (List.mem_of_getElem? (i := 136) rfl)) rfl
theorem aw_395 : Cond.code Lib.Math.abs.name Lib.Math.abs.code 1 (some .int) ∈ AL := AL_in (tk_2 _ (List.mem_of_getElem? (i := 137) rfl)) rfl
theorem aw_396 : Cond.methodLink RX7 58 yX7_openWays ∈ AL := AL_in (tk_2 _ (List.mem_of_getElem? (i := 138) rfl)) rfl
theorem aw_398 : Cond.instanceMethod yX7_openWays ∈ AL := AL_in (tk_2 _ (List.mem_of_getElem? (i := 140) rfl)) rfl
theorem aw_399 : Cond.code yX7_openWays cX7_openWays 6 none ∈ AL := AL_in (tk_2 _ (List.mem_of_getElem? (i := 141) rfl)) rfl
theorem aw_400 : Cond.methodLink RX7 72 yX7_beside ∈ AL := AL_in (tk_2 _ (List.mem_of_getElem? (i := 142) rfl)) rfl
theorem aw_402 : Cond.instanceMethod yX7_beside ∈ AL := AL_in (tk_2 _ (List.mem_of_getElem? (i := 144) rfl)) rfl
theorem aw_403 : Cond.code yX7_beside cX7_beside 4 (some .int) ∈ AL := AL_in (tk_2 _ (List.mem_of_getElem? (i := 145) rfl)) rfl
theorem aw_404 : Cond.methodLink RX9 74 yX6_clear ∈ AL := AL_in (tk_2 _ (List.mem_of_getElem? (i := 146) rfl)) rfl
theorem aw_405 : Cond.instanceMethod yX6_clear ∈ AL := AL_in (tk_2 _ (List.mem_of_getElem? (i := 147) rfl)) rfl
theorem aw_406 : Cond.selects RX6 yX6_clear yX6_clear ∈ AL := AL_in (tk_2 _ (List.mem_of_getElem? (i := 148) rfl)) rfl
theorem aw_407 : Cond.code yX6_clear cX6_clear 2 (some .int) ∈ AL := AL_in (tk_2 _ (List.mem_of_getElem? (i := 149) rfl)) rfl
theorem aw_408 : Cond.methodLink RX9 95 yX4_cutTo ∈ AL := AL_in (tk_2 _ (List.mem_of_getElem? (i := 150) rfl)) rfl
theorem aw_409 : Cond.instanceMethod yX4_cutTo ∈ AL := AL_in (tk_2 _ (List.mem_of_getElem? (i := 151) rfl)) rfl
theorem aw_410 : Cond.selects RX4 yX4_cutTo yX4_cutTo ∈ AL := AL_in (tk_2 _ (List.mem_of_getElem? (i := 152) rfl)) rfl
theorem aw_411 : Cond.code yX4_cutTo cX4_cutTo 2 none ∈ AL := AL_in (tk_2 _ (List.mem_of_getElem? (i := 153) rfl)) rfl
theorem aw_412 : Cond.methodLink RX4 25 Lib.Math.min.name ∈ AL := AL_in (tk_2 _ (List.mem_of_getElem? (i := 154) rfl)) rfl
theorem aw_413 : Cond.static Lib.Math.min.name ∈ AL := AL_in (tk_2 _ (List.mem_of_getElem? (i := 155) rfl)) rfl
theorem aw_414 : Cond.code Lib.Math.min.name Lib.Math.min.code 2 (some .int) ∈ AL := AL_in (tk_2 _ (List.mem_of_getElem? (i := 156) rfl)) rfl
theorem aw_415 : Cond.methodLink RX4 31 Lib.Math.max.name ∈ AL := AL_in (tk_2 _ (List.mem_of_getElem? (i := 157) rfl)) rfl
theorem aw_416 : Cond.static Lib.Math.max.name ∈ AL := AL_in (tk_2 _ (List.mem_of_getElem? (i := 158) rfl)) rfl
theorem aw_417 : Cond.code Lib.Math.max.name Lib.Math.max.code 2 (some .int) ∈ AL := AL_in (tk_2 _ (List.mem_of_getElem? (i := 159) rfl)) rfl
theorem aw_418 : Cond.methodLink RL 63 yX9_square ∈ AL := AL_in (tk_2 _ (List.mem_of_getElem? (i := 160) rfl)) rfl
theorem aw_419 : Cond.instanceMethod yX9_square ∈ AL := AL_in (tk_2 _ (List.mem_of_getElem? (i := 161) rfl)) rfl
theorem aw_420 : Cond.selects RX9 yX9_square yX9_square ∈ AL := AL_in (tk_2 _ (List.mem_of_getElem? (i := 162) rfl)) rfl
theorem aw_421 : Cond.code yX9_square cX9_square 3 (some .int) ∈ AL := AL_in (tk_2 _ (List.mem_of_getElem? (i := 163) rfl)) rfl
theorem aw_422 : Cond.methodLink RX9 105 yX7_has ∈ AL := AL_in (tk_2 _ (List.mem_of_getElem? (i := 164) rfl)) rfl
theorem aw_423 : Cond.instanceMethod yX7_has ∈ AL := AL_in (tk_2 _ (List.mem_of_getElem? (i := 165) rfl)) rfl
theorem aw_424 : Cond.selects RX7 yX7_has yX7_has ∈ AL := AL_in (tk_2 _ (List.mem_of_getElem? (i := 166) rfl)) rfl
theorem aw_425 : Cond.code yX7_has cX7_has 2 (some .boolean) ∈ AL := AL_in (tk_2 _ (List.mem_of_getElem? (i := 167) rfl)) rfl
theorem aw_426 : Cond.methodLink RL 76 yX9_as ∈ AL := AL_in (tk_2 _ (List.mem_of_getElem? (i := 168) rfl)) rfl
theorem aw_427 : Cond.instanceMethod yX9_as ∈ AL := AL_in (tk_2 _ (List.mem_of_getElem? (i := 169) rfl)) rfl
theorem aw_428 : Cond.selects RX9 yX9_as yX9_as ∈ AL := AL_in (tk_2 _ (List.mem_of_getElem? (i := 170) rfl)) rfl
theorem aw_429 : Cond.code yX9_as cX9_as 3 (some .int) ∈ AL := AL_in (tk_2 _ (List.mem_of_getElem? (i := 171) rfl)) rfl
theorem aw_430 : Cond.methodLink RX9 142 yX9_isBerg ∈ AL := AL_in (tk_2 _ (List.mem_of_getElem? (i := 172) rfl)) rfl
theorem aw_432 : Cond.instanceMethod yX9_isBerg ∈ AL := AL_in (tk_2 _ (List.mem_of_getElem? (i := 174) rfl)) rfl
theorem aw_433 : Cond.code yX9_isBerg cX9_isBerg 2 (some .boolean) ∈ AL := AL_in (tk_2 _ (List.mem_of_getElem? (i := 175) rfl)) rfl
theorem aw_434 : Cond.methodLink RX9 119 yX0_isKind ∈ AL := AL_in (tk_2 _ (List.mem_of_getElem? (i := 176) rfl)) rfl
theorem aw_435 : Cond.static yX0_isKind ∈ AL := AL_in (tk_2 _ (List.mem_of_getElem? (i := 177) rfl)) rfl
theorem aw_436 : Cond.code yX0_isKind cX0_isKind 1 (some .boolean) ∈ AL := AL_in (tk_2 _ (List.mem_of_getElem? (i := 178) rfl)) rfl
theorem aw_437 : Cond.methodLink RX9 145 yX0_isA ∈ AL := AL_in (tk_2 _ (List.mem_of_getElem? (i := 179) rfl)) rfl
theorem aw_438 : Cond.instanceMethod yX0_isA ∈ AL := AL_in (tk_2 _ (List.mem_of_getElem? (i := 180) rfl)) rfl
theorem aw_439 : Cond.selects RX0 yX0_isA yX0_isA ∈ AL := AL_in (tk_2 _ (List.mem_of_getElem? (i := 181) rfl)) rfl
theorem aw_440 : Cond.code yX0_isA cX0_isA 2 (some .boolean) ∈ AL := AL_in (tk_2 _ (List.mem_of_getElem? (i := 182) rfl)) rfl
theorem aw_441 : Cond.methodLink RL 73 yX9_about ∈ AL := AL_in (tk_2 _ (List.mem_of_getElem? (i := 183) rfl)) rfl
theorem aw_442 : Cond.instanceMethod yX9_about ∈ AL := AL_in (tk_2 _ (List.mem_of_getElem? (i := 184) rfl)) rfl
theorem aw_443 : Cond.selects RX9 yX9_about yX9_about ∈ AL := AL_in (tk_2 _ (List.mem_of_getElem? (i := 185) rfl)) rfl
theorem aw_444 : Cond.code yX9_about cX9_about 3 (some .int) ∈ AL := AL_in (tk_2 _ (List.mem_of_getElem? (i := 186) rfl)) rfl
theorem aw_445 : Cond.methodLink RL 101 yX9_change ∈ AL := AL_in (tk_2 _ (List.mem_of_getElem? (i := 187) rfl)) rfl
theorem aw_446 : Cond.instanceMethod yX9_change ∈ AL := AL_in (tk_2 _ (List.mem_of_getElem? (i := 188) rfl)) rfl
theorem aw_447 : Cond.selects RX9 yX9_change yX9_change ∈ AL := AL_in (tk_2 _ (List.mem_of_getElem? (i := 189) rfl)) rfl
theorem aw_448 : Cond.code yX9_change cX9_change 8 (some .int) ∈ AL := AL_in (tk_2 _ (List.mem_of_getElem? (i := 190) rfl)) rfl
theorem aw_449 : Cond.methodLink RX9 125 yX9_isSize ∈ AL := AL_in (tk_2 _ (List.mem_of_getElem? (i := 191) rfl)) rfl
theorem aw_450 : Cond.static yX9_isSize ∈ AL := AL_in (tk_2 _ (List.mem_of_getElem? (i := 192) rfl)) rfl
theorem aw_451 : Cond.code yX9_isSize cX9_isSize 1 (some .boolean) ∈ AL := AL_in (tk_2 _ (List.mem_of_getElem? (i := 193) rfl)) rfl
theorem aw_452 : Cond.methodLink RX9 128 yX9_isFoot ∈ AL := AL_in (tk_2 _ (List.mem_of_getElem? (i := 194) rfl)) rfl
theorem aw_453 : Cond.static yX9_isFoot ∈ AL := AL_in (tk_2 _ (List.mem_of_getElem? (i := 195) rfl)) rfl
theorem aw_454 : Cond.code yX9_isFoot cX9_isFoot 1 (some .boolean) ∈ AL := AL_in (tk_2 _ (List.mem_of_getElem? (i := 196) rfl)) rfl
theorem aw_455 : Cond.methodLink RX9 139 yX3_forget ∈ AL := AL_in (tk_2 _ (List.mem_of_getElem? (i := 197) rfl)) rfl
theorem aw_456 : Cond.instanceMethod yX3_forget ∈ AL := AL_in (tk_2 _ (List.mem_of_getElem? (i := 198) rfl)) rfl
theorem aw_457 : Cond.selects RX3 yX3_forget yX3_forget ∈ AL := AL_in (tk_2 _ (List.mem_of_getElem? (i := 199) rfl)) rfl
theorem aw_458 : Cond.code yX3_forget cX3_forget 2 none ∈ AL := AL_in (tk_2 _ (List.mem_of_getElem? (i := 200) rfl)) rfl
theorem aw_459 : Cond.methodLink RL 70 yX9_coin ∈ AL := AL_in (tk_2 _ (List.mem_of_getElem? (i := 201) rfl)) rfl
theorem aw_460 : Cond.instanceMethod yX9_coin ∈ AL := AL_in (tk_2 _ (List.mem_of_getElem? (i := 202) rfl)) rfl
theorem aw_461 : Cond.selects RX9 yX9_coin yX9_coin ∈ AL := AL_in (tk_2 _ (List.mem_of_getElem? (i := 203) rfl)) rfl
theorem aw_462 : Cond.code yX9_coin cX9_coin 3 (some .int) ∈ AL := AL_in (tk_2 _ (List.mem_of_getElem? (i := 204) rfl)) rfl
theorem aw_463 : Cond.methodLink RX9 163 yX1_mayBe ∈ AL := AL_in (tk_2 _ (List.mem_of_getElem? (i := 205) rfl)) rfl
theorem aw_464 : Cond.instanceMethod yX1_mayBe ∈ AL := AL_in (tk_2 _ (List.mem_of_getElem? (i := 206) rfl)) rfl
theorem aw_465 : Cond.selects RX1 yX1_mayBe yX1_mayBe ∈ AL := AL_in (tk_2 _ (List.mem_of_getElem? (i := 207) rfl)) rfl
theorem aw_466 : Cond.code yX1_mayBe cX1_mayBe 3 (some .boolean) ∈ AL := AL_in (tk_2 _ (List.mem_of_getElem? (i := 208) rfl)) rfl
theorem aw_467 : Cond.fieldLink RX1 13 "IceForCoast$Coins" "LEAST" "[I" ∈ AL := AL_in (tk_2 _ (List.mem_of_getElem? (i := 209) rfl)) rfl
theorem aw_469 : Cond.fieldLink RX1 16 "IceForCoast$Coins" "MOST" "[I" ∈ AL := AL_in (tk_2 _ (List.mem_of_getElem? (i := 211) rfl)) rfl
theorem aw_471 : Cond.methodLink RX9 168 yX3_forgetAll ∈ AL := AL_in (tk_2 _ (List.mem_of_getElem? (i := 213) rfl)) rfl
theorem aw_472 : Cond.instanceMethod yX3_forgetAll ∈ AL := AL_in (tk_2 _ (List.mem_of_getElem? (i := 214) rfl)) rfl
theorem aw_473 : Cond.selects RX3 yX3_forgetAll yX3_forgetAll ∈ AL := AL_in (tk_2 _ (List.mem_of_getElem? (i := 215) rfl)) rfl
theorem aw_474 : Cond.code yX3_forgetAll cX3_forgetAll 2 none ∈ AL := AL_in (tk_2 _ (List.mem_of_getElem? (i := 216) rfl)) rfl
theorem aw_475 : Cond.methodLink RX9 171 yX1_put ∈ AL := AL_in (tk_2 _ (List.mem_of_getElem? (i := 217) rfl)) rfl
theorem aw_476 : Cond.instanceMethod yX1_put ∈ AL := AL_in (tk_2 _ (List.mem_of_getElem? (i := 218) rfl)) rfl
theorem aw_477 : Cond.selects RX1 yX1_put yX1_put ∈ AL := AL_in (tk_2 _ (List.mem_of_getElem? (i := 219) rfl)) rfl
theorem aw_478 : Cond.code yX1_put cX1_put 4 (some .int) ∈ AL := AL_in (tk_2 _ (List.mem_of_getElem? (i := 220) rfl)) rfl
theorem aw_479 : Cond.methodLink RL 105 yX9_tow ∈ AL := AL_in (tk_2 _ (List.mem_of_getElem? (i := 221) rfl)) rfl
theorem aw_480 : Cond.instanceMethod yX9_tow ∈ AL := AL_in (tk_2 _ (List.mem_of_getElem? (i := 222) rfl)) rfl
theorem aw_481 : Cond.selects RX9 yX9_tow yX9_tow ∈ AL := AL_in (tk_2 _ (List.mem_of_getElem? (i := 223) rfl)) rfl
theorem aw_482 : Cond.code yX9_tow cX9_tow 6 (some .int) ∈ AL := AL_in (tk_2 _ (List.mem_of_getElem? (i := 224) rfl)) rfl
theorem aw_483 : Cond.constant RX9 175 (-100101) ∈ AL := AL_in (tk_2 _ (List.mem_of_getElem? (i := 225) rfl)) rfl
theorem aw_484 : Cond.methodLink RX9 176 yX9_isTugs ∈ AL := AL_in (tk_2 _ (List.mem_of_getElem? (i := 226) rfl)) rfl
theorem aw_485 : Cond.static yX9_isTugs ∈ AL := AL_in (tk_2 _ (List.mem_of_getElem? (i := 227) rfl)) rfl
theorem aw_486 : Cond.code yX9_isTugs cX9_isTugs 1 (some .boolean) ∈ AL := AL_in (tk_2 _ (List.mem_of_getElem? (i := 228) rfl)) rfl
theorem aw_487 : Cond.constant RX9 179 (-100102) ∈ AL := AL_in (tk_2 _ (List.mem_of_getElem? (i := 229) rfl)) rfl
theorem aw_488 : Cond.methodLink RX9 180 yX9_hasWay ∈ AL := AL_in (tk_2 _ (List.mem_of_getElem? (i := 230) rfl)) rfl
theorem aw_490 : Cond.instanceMethod yX9_hasWay ∈ AL := AL_in (tk_2 _ (List.mem_of_getElem? (i := 232) rfl)) rfl
theorem aw_491 : Cond.code yX9_hasWay cX9_hasWay 2 (some .boolean) ∈ AL := AL_in (tk_2 _ (List.mem_of_getElem? (i := 233) rfl)) rfl
theorem aw_492 : Cond.constant RX9 183 (-100001) ∈ AL := AL_in (tk_2 _ (List.mem_of_getElem? (i := 234) rfl)) rfl
theorem aw_493 : Cond.methodLink RX9 184 yX8_seek ∈ AL := AL_in (tk_2 _ (List.mem_of_getElem? (i := 235) rfl)) rfl
theorem aw_494 : Cond.instanceMethod yX8_seek ∈ AL := AL_in (tk_2 _ (List.mem_of_getElem? (i := 236) rfl)) rfl
theorem aw_495 : Cond.selects RX8 yX8_seek yX8_seek ∈ AL := AL_in (tk_2 _ (List.mem_of_getElem? (i := 237) rfl)) rfl
theorem aw_496 : Cond.code yX8_seek cX8_seek 5 none ∈ AL := AL_in (tk_2 _ (List.mem_of_getElem? (i := 238) rfl)) rfl
theorem aw_497 : Cond.methodLink RX8 52 Lib.Math.max.name ∈ AL := AL_in (tk_2 _ (List.mem_of_getElem? (i := 239) rfl)) rfl
theorem aw_498 : Cond.methodLink RX8 74 yX8_follow ∈ AL := AL_in (tk_3 _ (List.mem_of_getElem? (i := 0) rfl)) rfl
theorem aw_499 : Cond.static yX8_follow ∈ AL := AL_in (tk_3 _ (List.mem_of_getElem? (i := 1) rfl)) rfl
theorem aw_500 : Cond.code yX8_follow cX8_follow 5 none ∈ AL := AL_in (tk_3 _ (List.mem_of_getElem? (i := 2) rfl)) rfl
theorem aw_501 : Cond.methodLink RX8 99 yX8_isHopeless ∈ AL := AL_in (tk_3 _ (List.mem_of_getElem? (i := 3) rfl)) rfl
theorem aw_503 : Cond.instanceMethod yX8_isHopeless ∈ AL := AL_in (tk_3 _ (List.mem_of_getElem? (i := 5) rfl)) rfl
theorem aw_504 : Cond.code yX8_isHopeless cX8_isHopeless 3 (some .boolean) ∈ AL := AL_in (tk_3 _ (List.mem_of_getElem? (i := 6) rfl)) rfl
theorem aw_505 : Cond.methodLink RX8 110 yX1_gainOf ∈ AL := AL_in (tk_3 _ (List.mem_of_getElem? (i := 7) rfl)) rfl
theorem aw_506 : Cond.instanceMethod yX1_gainOf ∈ AL := AL_in (tk_3 _ (List.mem_of_getElem? (i := 8) rfl)) rfl
theorem aw_507 : Cond.selects RX1 yX1_gainOf yX1_gainOf ∈ AL := AL_in (tk_3 _ (List.mem_of_getElem? (i := 9) rfl)) rfl
theorem aw_508 : Cond.code yX1_gainOf cX1_gainOf 5 (some .int) ∈ AL := AL_in (tk_3 _ (List.mem_of_getElem? (i := 10) rfl)) rfl
theorem aw_509 : Cond.methodLink RX8 106 yX8_choose ∈ AL := AL_in (tk_3 _ (List.mem_of_getElem? (i := 11) rfl)) rfl
theorem aw_511 : Cond.instanceMethod yX8_choose ∈ AL := AL_in (tk_3 _ (List.mem_of_getElem? (i := 13) rfl)) rfl
theorem aw_512 : Cond.code yX8_choose cX8_choose 2 none ∈ AL := AL_in (tk_3 _ (List.mem_of_getElem? (i := 14) rfl)) rfl
theorem aw_513 : Cond.methodLink RX8 117 arraycopyName ∈ AL := AL_in (tk_3 _ (List.mem_of_getElem? (i := 15) rfl)) rfl
theorem aw_514 : Cond.static arraycopyName ∈ AL := AL_in (tk_3 _ (List.mem_of_getElem? (i := 16) rfl)) rfl
theorem aw_515 : Cond.native arraycopyName ∈ AL := AL_in (tk_3 _ (List.mem_of_getElem? (i := 17) rfl)) rfl
theorem aw_516 : Cond.methodLink RX8 85 yX8_pass ∈ AL := AL_in (tk_3 _ (List.mem_of_getElem? (i := 18) rfl)) rfl
theorem aw_518 : Cond.instanceMethod yX8_pass ∈ AL := AL_in (tk_3 _ (List.mem_of_getElem? (i := 20) rfl)) rfl
theorem aw_519 : Cond.code yX8_pass cX8_pass 10 none ∈ AL := AL_in (tk_3 _ (List.mem_of_getElem? (i := 21) rfl)) rfl
theorem aw_520 : Cond.methodLink RX8 123 yX8_daysOfStep ∈ AL := AL_in (tk_3 _ (List.mem_of_getElem? (i := 22) rfl)) rfl
theorem aw_522 : Cond.instanceMethod yX8_daysOfStep ∈ AL := AL_in (tk_3 _ (List.mem_of_getElem? (i := 24) rfl)) rfl
theorem aw_523 : Cond.code yX8_daysOfStep cX8_daysOfStep 6 (some .int) ∈ AL := AL_in (tk_3 _ (List.mem_of_getElem? (i := 25) rfl)) rfl
theorem aw_524 : Cond.methodLink RX8 130 yX8_drawnWarmth ∈ AL := AL_in (tk_3 _ (List.mem_of_getElem? (i := 26) rfl)) rfl
theorem aw_526 : Cond.instanceMethod yX8_drawnWarmth ∈ AL := AL_in (tk_3 _ (List.mem_of_getElem? (i := 28) rfl)) rfl
theorem aw_527 : Cond.code yX8_drawnWarmth cX8_drawnWarmth 3 (some .int) ∈ AL := AL_in (tk_3 _ (List.mem_of_getElem? (i := 29) rfl)) rfl
theorem aw_528 : Cond.constantLong RX8 146 (1103515245) ∈ AL := AL_in (tk_3 _ (List.mem_of_getElem? (i := 30) rfl)) rfl
theorem aw_529 : Cond.constantLong RX8 148 (12345) ∈ AL := AL_in (tk_3 _ (List.mem_of_getElem? (i := 31) rfl)) rfl
theorem aw_530 : Cond.constantLong RX8 150 (2147483648) ∈ AL := AL_in (tk_3 _ (List.mem_of_getElem? (i := 32) rfl)) rfl
theorem aw_531 : Cond.constantLong RX8 152 (65536) ∈ AL := AL_in (tk_3 _ (List.mem_of_getElem? (i := 33) rfl)) rfl
theorem aw_532 : Cond.constantLong RX8 154 (3) ∈ AL := AL_in (tk_3 _ (List.mem_of_getElem? (i := 34) rfl)) rfl
theorem aw_533 : Cond.methodLink RX8 134 yX0_meltOf ∈ AL := AL_in (tk_3 _ (List.mem_of_getElem? (i := 35) rfl)) rfl
theorem aw_534 : Cond.instanceMethod yX0_meltOf ∈ AL := AL_in (tk_3 _ (List.mem_of_getElem? (i := 36) rfl)) rfl
theorem aw_535 : Cond.selects RX0 yX0_meltOf yX0_meltOf ∈ AL := AL_in (tk_3 _ (List.mem_of_getElem? (i := 37) rfl)) rfl
theorem aw_536 : Cond.code yX0_meltOf cX0_meltOf 5 (some .int) ∈ AL := AL_in (tk_3 _ (List.mem_of_getElem? (i := 38) rfl)) rfl
theorem aw_537 : Cond.methodLink RX8 140 yX0_breaksOn ∈ AL := AL_in (tk_3 _ (List.mem_of_getElem? (i := 39) rfl)) rfl
theorem aw_538 : Cond.instanceMethod yX0_breaksOn ∈ AL := AL_in (tk_3 _ (List.mem_of_getElem? (i := 40) rfl)) rfl
theorem aw_539 : Cond.selects RX0 yX0_breaksOn yX0_breaksOn ∈ AL := AL_in (tk_3 _ (List.mem_of_getElem? (i := 41) rfl)) rfl
theorem aw_540 : Cond.code yX0_breaksOn cX0_breaksOn 2 (some .boolean) ∈ AL := AL_in (tk_3 _ (List.mem_of_getElem? (i := 42) rfl)) rfl
theorem aw_541 : Cond.methodLink RX9 200 yX8_stepAt ∈ AL := AL_in (tk_3 _ (List.mem_of_getElem? (i := 43) rfl)) rfl
theorem aw_542 : Cond.instanceMethod yX8_stepAt ∈ AL := AL_in (tk_3 _ (List.mem_of_getElem? (i := 44) rfl)) rfl
theorem aw_543 : Cond.selects RX8 yX8_stepAt yX8_stepAt ∈ AL := AL_in (tk_3 _ (List.mem_of_getElem? (i := 45) rfl)) rfl
theorem aw_544 : Cond.code yX8_stepAt cX8_stepAt 2 (some .int) ∈ AL := AL_in (tk_3 _ (List.mem_of_getElem? (i := 46) rfl)) rfl
theorem aw_545 : Cond.methodLink RL 84 yX9_ways ∈ AL := AL_in (tk_3 _ (List.mem_of_getElem? (i := 47) rfl)) rfl
theorem aw_546 : Cond.instanceMethod yX9_ways ∈ AL := AL_in (tk_3 _ (List.mem_of_getElem? (i := 48) rfl)) rfl
theorem aw_547 : Cond.selects RX9 yX9_ways yX9_ways ∈ AL := AL_in (tk_3 _ (List.mem_of_getElem? (i := 49) rfl)) rfl
theorem aw_548 : Cond.code yX9_ways cX9_ways 2 (some .int) ∈ AL := AL_in (tk_3 _ (List.mem_of_getElem? (i := 50) rfl)) rfl
theorem aw_549 : Cond.methodLink RL 88 yX9_best ∈ AL := AL_in (tk_3 _ (List.mem_of_getElem? (i := 51) rfl)) rfl
theorem aw_550 : Cond.instanceMethod yX9_best ∈ AL := AL_in (tk_3 _ (List.mem_of_getElem? (i := 52) rfl)) rfl
theorem aw_551 : Cond.selects RX9 yX9_best yX9_best ∈ AL := AL_in (tk_3 _ (List.mem_of_getElem? (i := 53) rfl)) rfl
theorem aw_552 : Cond.code yX9_best cX9_best 4 (some .int) ∈ AL := AL_in (tk_3 _ (List.mem_of_getElem? (i := 54) rfl)) rfl
theorem aw_553 : Cond.methodLink RX9 207 yX9_weigh ∈ AL := AL_in (tk_3 _ (List.mem_of_getElem? (i := 55) rfl)) rfl
theorem aw_555 : Cond.instanceMethod yX9_weigh ∈ AL := AL_in (tk_3 _ (List.mem_of_getElem? (i := 57) rfl)) rfl
theorem aw_556 : Cond.code yX9_weigh cX9_weigh 3 none ∈ AL := AL_in (tk_3 _ (List.mem_of_getElem? (i := 58) rfl)) rfl
theorem aw_557 : Cond.methodLink RX9 213 yX3_tugsOf ∈ AL := AL_in (tk_3 _ (List.mem_of_getElem? (i := 59) rfl)) rfl
theorem aw_558 : Cond.static yX3_tugsOf ∈ AL := AL_in (tk_3 _ (List.mem_of_getElem? (i := 60) rfl)) rfl
theorem aw_559 : Cond.code yX3_tugsOf cX3_tugsOf 1 (some .int) ∈ AL := AL_in (tk_3 _ (List.mem_of_getElem? (i := 61) rfl)) rfl
theorem aw_560 : Cond.methodLink RX9 216 yX3_hasSkirt ∈ AL := AL_in (tk_3 _ (List.mem_of_getElem? (i := 62) rfl)) rfl
theorem aw_561 : Cond.static yX3_hasSkirt ∈ AL := AL_in (tk_3 _ (List.mem_of_getElem? (i := 63) rfl)) rfl
theorem aw_562 : Cond.code yX3_hasSkirt cX3_hasSkirt 1 (some .boolean) ∈ AL := AL_in (tk_3 _ (List.mem_of_getElem? (i := 64) rfl)) rfl
theorem aw_563 : Cond.methodLink RX9 210 yX3_bestEntry ∈ AL := AL_in (tk_3 _ (List.mem_of_getElem? (i := 65) rfl)) rfl
theorem aw_564 : Cond.instanceMethod yX3_bestEntry ∈ AL := AL_in (tk_3 _ (List.mem_of_getElem? (i := 66) rfl)) rfl
theorem aw_565 : Cond.selects RX3 yX3_bestEntry yX3_bestEntry ∈ AL := AL_in (tk_3 _ (List.mem_of_getElem? (i := 67) rfl)) rfl
theorem aw_566 : Cond.code yX3_bestEntry cX3_bestEntry 4 (some .int) ∈ AL := AL_in (tk_3 _ (List.mem_of_getElem? (i := 68) rfl)) rfl
theorem aw_567 : Cond.methodLink RL 110 yX9_season ∈ AL := AL_in (tk_3 _ (List.mem_of_getElem? (i := 69) rfl)) rfl
theorem aw_568 : Cond.instanceMethod yX9_season ∈ AL := AL_in (tk_3 _ (List.mem_of_getElem? (i := 70) rfl)) rfl
theorem aw_569 : Cond.selects RX9 yX9_season yX9_season ∈ AL := AL_in (tk_3 _ (List.mem_of_getElem? (i := 71) rfl)) rfl
theorem aw_570 : Cond.code yX9_season cX9_season 4 (some .int) ∈ AL := AL_in (tk_3 _ (List.mem_of_getElem? (i := 72) rfl)) rfl
theorem aw_571 : Cond.methodLink RX9 223 yX3_deal ∈ AL := AL_in (tk_3 _ (List.mem_of_getElem? (i := 73) rfl)) rfl
theorem aw_572 : Cond.instanceMethod yX3_deal ∈ AL := AL_in (tk_3 _ (List.mem_of_getElem? (i := 74) rfl)) rfl
theorem aw_573 : Cond.selects RX3 yX3_deal yX3_deal ∈ AL := AL_in (tk_3 _ (List.mem_of_getElem? (i := 75) rfl)) rfl
theorem aw_574 : Cond.code yX3_deal cX3_deal 4 none ∈ AL := AL_in (tk_3 _ (List.mem_of_getElem? (i := 76) rfl)) rfl
theorem aw_575 : Cond.methodLink RX3 26 yX3_mostFrom ∈ AL := AL_in (tk_3 _ (List.mem_of_getElem? (i := 77) rfl)) rfl
theorem aw_577 : Cond.instanceMethod yX3_mostFrom ∈ AL := AL_in (tk_3 _ (List.mem_of_getElem? (i := 79) rfl)) rfl
theorem aw_578 : Cond.code yX3_mostFrom cX3_mostFrom 5 (some .int) ∈ AL := AL_in (tk_3 _ (List.mem_of_getElem? (i := 80) rfl)) rfl
theorem aw_579 : Cond.methodLink RX3 30 yX3_gainBy ∈ AL := AL_in (tk_3 _ (List.mem_of_getElem? (i := 81) rfl)) rfl
theorem aw_581 : Cond.instanceMethod yX3_gainBy ∈ AL := AL_in (tk_3 _ (List.mem_of_getElem? (i := 83) rfl)) rfl
theorem aw_582 : Cond.code yX3_gainBy cX3_gainBy 3 (some .int) ∈ AL := AL_in (tk_3 _ (List.mem_of_getElem? (i := 84) rfl)) rfl
theorem aw_583 : Cond.methodLink RX3 33 Lib.Math.max.name ∈ AL := AL_in (tk_3 _ (List.mem_of_getElem? (i := 85) rfl)) rfl
theorem aw_584 : Cond.methodLink RX9 229 yX3_tugsFor ∈ AL := AL_in (tk_3 _ (List.mem_of_getElem? (i := 86) rfl)) rfl
theorem aw_585 : Cond.instanceMethod yX3_tugsFor ∈ AL := AL_in (tk_3 _ (List.mem_of_getElem? (i := 87) rfl)) rfl
theorem aw_586 : Cond.selects RX3 yX3_tugsFor yX3_tugsFor ∈ AL := AL_in (tk_3 _ (List.mem_of_getElem? (i := 88) rfl)) rfl
theorem aw_587 : Cond.code yX3_tugsFor cX3_tugsFor 5 (some .int) ∈ AL := AL_in (tk_3 _ (List.mem_of_getElem? (i := 89) rfl)) rfl
theorem aw_588 : Cond.methodLink RX3 38 yX3_fewestFor ∈ AL := AL_in (tk_3 _ (List.mem_of_getElem? (i := 90) rfl)) rfl
theorem aw_590 : Cond.instanceMethod yX3_fewestFor ∈ AL := AL_in (tk_3 _ (List.mem_of_getElem? (i := 92) rfl)) rfl
theorem aw_591 : Cond.code yX3_fewestFor cX3_fewestFor 4 (some .int) ∈ AL := AL_in (tk_3 _ (List.mem_of_getElem? (i := 93) rfl)) rfl
theorem aw_592 : Cond.methodLink RL 98 yX9_more ∈ AL := AL_in (tk_3 _ (List.mem_of_getElem? (i := 94) rfl)) rfl
theorem aw_593 : Cond.instanceMethod yX9_more ∈ AL := AL_in (tk_3 _ (List.mem_of_getElem? (i := 95) rfl)) rfl
theorem aw_594 : Cond.selects RX9 yX9_more yX9_more ∈ AL := AL_in (tk_3 _ (List.mem_of_getElem? (i := 96) rfl)) rfl
theorem aw_595 : Cond.code yX9_more cX9_more 2 (some .int) ∈ AL := AL_in (tk_3 _ (List.mem_of_getElem? (i := 97) rfl)) rfl
theorem aw_596 : Cond.methodLink RX9 232 yX9_season ∈ AL := AL_in (tk_3 _ (List.mem_of_getElem? (i := 98) rfl)) rfl
theorem aw_597 : Cond.methodLink RL 112 yX9_drawn ∈ AL := AL_in (tk_3 _ (List.mem_of_getElem? (i := 99) rfl)) rfl
theorem aw_598 : Cond.instanceMethod yX9_drawn ∈ AL := AL_in (tk_3 _ (List.mem_of_getElem? (i := 100) rfl)) rfl
theorem aw_599 : Cond.selects RX9 yX9_drawn yX9_drawn ∈ AL := AL_in (tk_3 _ (List.mem_of_getElem? (i := 101) rfl)) rfl
theorem aw_600 : Cond.code yX9_drawn cX9_drawn 6 (some .int) ∈ AL := AL_in (tk_3 _ (List.mem_of_getElem? (i := 102) rfl)) rfl
theorem aw_601 : Cond.methodLink RX9 235 yX8_towAgain ∈ AL := AL_in (tk_3 _ (List.mem_of_getElem? (i := 103) rfl)) rfl
theorem aw_602 : Cond.instanceMethod yX8_towAgain ∈ AL := AL_in (tk_3 _ (List.mem_of_getElem? (i := 104) rfl)) rfl
theorem aw_603 : Cond.selects RX8 yX8_towAgain yX8_towAgain ∈ AL := AL_in (tk_3 _ (List.mem_of_getElem? (i := 105) rfl)) rfl
theorem aw_604 : Cond.code yX8_towAgain cX8_towAgain 4 none ∈ AL := AL_in (tk_3 _ (List.mem_of_getElem? (i := 106) rfl)) rfl
theorem aw_605 : Cond.methodLink RL 116 yX9_came ∈ AL := AL_in (tk_3 _ (List.mem_of_getElem? (i := 107) rfl)) rfl
theorem aw_606 : Cond.instanceMethod yX9_came ∈ AL := AL_in (tk_3 _ (List.mem_of_getElem? (i := 108) rfl)) rfl
theorem aw_607 : Cond.selects RX9 yX9_came yX9_came ∈ AL := AL_in (tk_3 _ (List.mem_of_getElem? (i := 109) rfl)) rfl
theorem aw_608 : Cond.code yX9_came cX9_came 10 (some .int) ∈ AL := AL_in (tk_3 _ (List.mem_of_getElem? (i := 110) rfl)) rfl
theorem aw_609 : Cond.methodLink RL 8 yL_cell ∈ AL := AL_in (tk_3 _ (List.mem_of_getElem? (i := 111) rfl)) rfl
theorem aw_610 : Cond.static yL_cell ∈ AL := AL_in (tk_3 _ (List.mem_of_getElem? (i := 112) rfl)) rfl
theorem aw_611 : Cond.code yL_cell cL_cell 2 (some .int) ∈ AL := AL_in (tk_3 _ (List.mem_of_getElem? (i := 113) rfl)) rfl
theorem aw_612 : Cond.constant RL 7 (747796405) ∈ AL := AL_in (tk_3 _ (List.mem_of_getElem? (i := 114) rfl)) rfl
theorem aw_613 : Cond.methodLink RL 14 yL_at ∈ AL := AL_in (tk_3 _ (List.mem_of_getElem? (i := 115) rfl)) rfl
theorem aw_614 : Cond.static yL_at ∈ AL := AL_in (tk_3 _ (List.mem_of_getElem? (i := 116) rfl)) rfl
theorem aw_615 : Cond.code yL_at cL_at 2 (some .int) ∈ AL := AL_in (tk_3 _ (List.mem_of_getElem? (i := 117) rfl)) rfl
theorem aw_616 : Cond.methodLink RL 48 yL_seaText ∈ AL := AL_in (tk_3 _ (List.mem_of_getElem? (i := 118) rfl)) rfl
theorem aw_617 : Cond.static yL_seaText ∈ AL := AL_in (tk_3 _ (List.mem_of_getElem? (i := 119) rfl)) rfl
theorem aw_618 : Cond.code yL_seaText cL_seaText 8 (some .int) ∈ AL := AL_in (tk_3 _ (List.mem_of_getElem? (i := 120) rfl)) rfl
theorem aw_619 : Cond.methodLink RL 52 yL_write ∈ AL := AL_in (tk_3 _ (List.mem_of_getElem? (i := 121) rfl)) rfl
theorem aw_620 : Cond.static yL_write ∈ AL := AL_in (tk_3 _ (List.mem_of_getElem? (i := 122) rfl)) rfl
theorem aw_621 : Cond.code yL_write cL_write 4 (some .boolean) ∈ AL := AL_in (tk_3 _ (List.mem_of_getElem? (i := 123) rfl)) rfl
theorem aw_622 : Cond.methodLink RL 18 yX9_letters ∈ AL := AL_in (tk_3 _ (List.mem_of_getElem? (i := 124) rfl)) rfl
theorem aw_623 : Cond.instanceMethod yX9_letters ∈ AL := AL_in (tk_3 _ (List.mem_of_getElem? (i := 125) rfl)) rfl
theorem aw_624 : Cond.selects RX9 yX9_letters yX9_letters ∈ AL := AL_in (tk_3 _ (List.mem_of_getElem? (i := 126) rfl)) rfl
theorem aw_625 : Cond.code yX9_letters cX9_letters 3 (some .int) ∈ AL := AL_in (tk_3 _ (List.mem_of_getElem? (i := 127) rfl)) rfl
theorem aw_626 : Cond.methodLink RX9 70 yX6_append ∈ AL := AL_in (tk_3 _ (List.mem_of_getElem? (i := 128) rfl)) rfl
theorem aw_627 : Cond.instanceMethod yX6_append ∈ AL := AL_in (tk_3 _ (List.mem_of_getElem? (i := 129) rfl)) rfl
theorem aw_628 : Cond.selects RX6 yX6_append yX6_append ∈ AL := AL_in (tk_3 _ (List.mem_of_getElem? (i := 130) rfl)) rfl
theorem aw_629 : Cond.code yX6_append cX6_append 7 (some .int) ∈ AL := AL_in (tk_3 _ (List.mem_of_getElem? (i := 131) rfl)) rfl
theorem aw_630 : Cond.methodLink RX6 15 yX6_byteOf ∈ AL := AL_in (tk_3 _ (List.mem_of_getElem? (i := 132) rfl)) rfl
theorem aw_631 : Cond.static yX6_byteOf ∈ AL := AL_in (tk_3 _ (List.mem_of_getElem? (i := 133) rfl)) rfl
theorem aw_632 : Cond.code yX6_byteOf cX6_byteOf 3 (some .int) ∈ AL := AL_in (tk_3 _ (List.mem_of_getElem? (i := 134) rfl)) rfl
theorem aw_633 : Cond.methodLink RL 32 yL_far ∈ AL := AL_in (tk_3 _ (List.mem_of_getElem? (i := 135) rfl)) rfl
theorem aw_634 : Cond.static yL_far ∈ AL := AL_in (tk_3 _ (List.mem_of_getElem? (i := 136) rfl)) rfl
theorem aw_635 : Cond.code yL_far cL_far 4 (some .int) ∈ AL := AL_in (tk_3 _ (List.mem_of_getElem? (i := 137) rfl)) rfl
theorem aw_636 : Cond.methodLink RL 66 yL_bergs ∈ AL := AL_in (tk_3 _ (List.mem_of_getElem? (i := 138) rfl)) rfl
theorem aw_637 : Cond.static yL_bergs ∈ AL := AL_in (tk_3 _ (List.mem_of_getElem? (i := 139) rfl)) rfl
theorem aw_638 : Cond.code yL_bergs cL_bergs 15 (some .boolean) ∈ AL := AL_in (tk_3 _ (List.mem_of_getElem? (i := 140) rfl)) rfl
theorem aw_639 : Cond.methodLink RL 24 yX9_berg ∈ AL := AL_in (tk_3 _ (List.mem_of_getElem? (i := 141) rfl)) rfl
theorem aw_640 : Cond.instanceMethod yX9_berg ∈ AL := AL_in (tk_3 _ (List.mem_of_getElem? (i := 142) rfl)) rfl
theorem aw_641 : Cond.selects RX9 yX9_berg yX9_berg ∈ AL := AL_in (tk_3 _ (List.mem_of_getElem? (i := 143) rfl)) rfl
theorem aw_642 : Cond.code yX9_berg cX9_berg 6 (some .int) ∈ AL := AL_in (tk_3 _ (List.mem_of_getElem? (i := 144) rfl)) rfl
theorem aw_643 : Cond.methodLink RX9 122 yX7_hasWarmth ∈ AL := AL_in (tk_3 _ (List.mem_of_getElem? (i := 145) rfl)) rfl
theorem aw_644 : Cond.instanceMethod yX7_hasWarmth ∈ AL := AL_in (tk_3 _ (List.mem_of_getElem? (i := 146) rfl)) rfl
theorem aw_645 : Cond.selects RX7 yX7_hasWarmth yX7_hasWarmth ∈ AL := AL_in (tk_3 _ (List.mem_of_getElem? (i := 147) rfl)) rfl
theorem aw_646 : Cond.code yX7_hasWarmth cX7_hasWarmth 2 (some .boolean) ∈ AL := AL_in (tk_3 _ (List.mem_of_getElem? (i := 148) rfl)) rfl
theorem aw_647 : Cond.methodLink RX7 33 yX7_has ∈ AL := AL_in (tk_3 _ (List.mem_of_getElem? (i := 149) rfl)) rfl
theorem aw_648 : Cond.methodLink RX9 131 yX0_mayBreak ∈ AL := AL_in (tk_3 _ (List.mem_of_getElem? (i := 150) rfl)) rfl
theorem aw_649 : Cond.static yX0_mayBreak ∈ AL := AL_in (tk_3 _ (List.mem_of_getElem? (i := 151) rfl)) rfl
theorem aw_650 : Cond.code yX0_mayBreak cX0_mayBreak 2 (some .boolean) ∈ AL := AL_in (tk_3 _ (List.mem_of_getElem? (i := 152) rfl)) rfl
theorem aw_651 : Cond.methodLink RX9 135 yX0_become ∈ AL := AL_in (tk_3 _ (List.mem_of_getElem? (i := 153) rfl)) rfl
theorem aw_652 : Cond.instanceMethod yX0_become ∈ AL := AL_in (tk_3 _ (List.mem_of_getElem? (i := 154) rfl)) rfl
theorem aw_653 : Cond.selects RX0 yX0_become yX0_become ∈ AL := AL_in (tk_3 _ (List.mem_of_getElem? (i := 155) rfl)) rfl
theorem aw_654 : Cond.code yX0_become cX0_become 6 none ∈ AL := AL_in (tk_3 _ (List.mem_of_getElem? (i := 156) rfl)) rfl
theorem aw_655 : Cond.methodLink RL 80 yL_best ∈ AL := AL_in (tk_3 _ (List.mem_of_getElem? (i := 157) rfl)) rfl
theorem aw_656 : Cond.static yL_best ∈ AL := AL_in (tk_3 _ (List.mem_of_getElem? (i := 158) rfl)) rfl
theorem aw_657 : Cond.code yL_best cL_best 16 none ∈ AL := AL_in (tk_3 _ (List.mem_of_getElem? (i := 159) rfl)) rfl
theorem aw_658 : Cond.methodLink RL 43 yL_way ∈ AL := AL_in (tk_3 _ (List.mem_of_getElem? (i := 160) rfl)) rfl
theorem aw_659 : Cond.static yL_way ∈ AL := AL_in (tk_3 _ (List.mem_of_getElem? (i := 161) rfl)) rfl
theorem aw_660 : Cond.code yL_way cL_way 14 (some .boolean) ∈ AL := AL_in (tk_3 _ (List.mem_of_getElem? (i := 162) rfl)) rfl
theorem aw_661 : Cond.methodLink RL 28 yL_beside ∈ AL := AL_in (tk_3 _ (List.mem_of_getElem? (i := 163) rfl)) rfl
theorem aw_662 : Cond.static yL_beside ∈ AL := AL_in (tk_3 _ (List.mem_of_getElem? (i := 164) rfl)) rfl
theorem aw_663 : Cond.code yL_beside cL_beside 3 (some .int) ∈ AL := AL_in (tk_3 _ (List.mem_of_getElem? (i := 165) rfl)) rfl
theorem aw_664 : Cond.methodLink RL 35 yL_daysOf ∈ AL := AL_in (tk_3 _ (List.mem_of_getElem? (i := 166) rfl)) rfl
theorem aw_665 : Cond.static yL_daysOf ∈ AL := AL_in (tk_3 _ (List.mem_of_getElem? (i := 167) rfl)) rfl
theorem aw_666 : Cond.code yL_daysOf cL_daysOf 6 (some .int) ∈ AL := AL_in (tk_3 _ (List.mem_of_getElem? (i := 168) rfl)) rfl
theorem aw_667 : Cond.methodLink RL 39 yL_day ∈ AL := AL_in (tk_3 _ (List.mem_of_getElem? (i := 169) rfl)) rfl
theorem aw_668 : Cond.static yL_day ∈ AL := AL_in (tk_3 _ (List.mem_of_getElem? (i := 170) rfl)) rfl
theorem aw_669 : Cond.code yL_day cL_day 6 none ∈ AL := AL_in (tk_3 _ (List.mem_of_getElem? (i := 171) rfl)) rfl
theorem aw_670 : Cond.methodLink RL 90 yL_tows ∈ AL := AL_in (tk_3 _ (List.mem_of_getElem? (i := 172) rfl)) rfl
theorem aw_671 : Cond.static yL_tows ∈ AL := AL_in (tk_3 _ (List.mem_of_getElem? (i := 173) rfl)) rfl
theorem aw_672 : Cond.code yL_tows cL_tows 20 (some .boolean) ∈ AL := AL_in (tk_3 _ (List.mem_of_getElem? (i := 174) rfl)) rfl
theorem aw_673 : Cond.constant RL 120 (2147483647) ∈ AL := AL_in (tk_3 _ (List.mem_of_getElem? (i := 175) rfl)) rfl
theorem aw_674 : Cond.constant RL 79 (-100001) ∈ AL := AL_in (tk_3 _ (List.mem_of_getElem? (i := 176) rfl)) rfl
theorem aw_675 : Cond.constantLong RL 121 (1103515245) ∈ AL := AL_in (tk_3 _ (List.mem_of_getElem? (i := 177) rfl)) rfl
theorem aw_676 : Cond.constantLong RL 123 (12345) ∈ AL := AL_in (tk_3 _ (List.mem_of_getElem? (i := 178) rfl)) rfl
theorem aw_677 : Cond.constantLong RL 125 (2147483648) ∈ AL := AL_in (tk_3 _ (List.mem_of_getElem? (i := 179) rfl)) rfl
theorem aw_678 : Cond.constantLong RL 127 (65536) ∈ AL := AL_in (tk_3 _ (List.mem_of_getElem? (i := 180) rfl)) rfl
theorem aw_679 : Cond.constantLong RL 129 (3) ∈ AL := AL_in (tk_3 _ (List.mem_of_getElem? (i := 181) rfl)) rfl
theorem aw_680 : Cond.methodLink RL 94 yL_season ∈ AL := AL_in (tk_3 _ (List.mem_of_getElem? (i := 182) rfl)) rfl
theorem aw_681 : Cond.static yL_season ∈ AL := AL_in (tk_3 _ (List.mem_of_getElem? (i := 183) rfl)) rfl
theorem aw_682 : Cond.code yL_season cL_season 12 (some .int) ∈ AL := AL_in (tk_3 _ (List.mem_of_getElem? (i := 184) rfl)) rfl
theorem aw_683 : Cond.constant RL 109 (-100101) ∈ AL := AL_in (tk_3 _ (List.mem_of_getElem? (i := 185) rfl)) rfl
theorem aw_684 : Cond.constant RL 119 (-100102) ∈ AL := AL_in (tk_3 _ (List.mem_of_getElem? (i := 186) rfl)) rfl
end
section
/-! ===== the layer: the state of a world as numbers ===== -/
/-- ints, longs and moving references of a world, by cell and place -/
abbrev Sg : Type := (Nat → Nat → Int32) × (Nat → Nat → Int64) × (Nat → Nat → Nat)
def rI (σ : Sg) (o k : Nat) : Int32 := σ.1 o k
def rJ (σ : Sg) (o k : Nat) : Int64 := σ.2.1 o k
def rR (σ : Sg) (o k : Nat) : Nat := σ.2.2 o k
def wI (σ : Sg) (o k : Nat) (v : Int32) : Sg := (fun a b => if a = o ∧ b = k then v else σ.1 a b, σ.2)
def wJ (σ : Sg) (o k : Nat) (v : Int64) : Sg := (σ.1, fun a b => if a = o ∧ b = k then v else σ.2.1 a b, σ.2.2)
def wR (σ : Sg) (o k : Nat) (v : Nat) : Sg := (σ.1, σ.2.1, fun a b => if a = o ∧ b = k then v else σ.2.2 a b)
/-- a stretch of one row of ints copied into another -/
def wC (σ : Sg) (a0 sp a1 dp n : Nat) : Sg := (fun a b => if a = a1 ∧ dp ≤ b ∧ b < dp + n then σ.1 a0 (sp + (b - dp)) else σ.1 a b, σ.2)
/-- a shape: (0, class, slots) an object, a slot (0,_) an int, (1,_) a long, (2,d) the cell d further on, (3,_) a moving reference, (4,_) null; (1,n,_) ints, (2,n,_) longs, (3,n,_) booleans, (4,n,[(b,m)]) objects, (5,n,[(b,m)]) rows, from the b-th cell behind on, m of them -/
abbrev Sh : Type := Nat × Nat × List (Nat × Nat)
def slotV (ad : Nat → Nat) (σ : Sg) (i k : Nat) (s : Nat × Nat) : Value := match s.1 with
  | 0 => .int (rI σ i k)
  | 1 => .long (rJ σ i k)
  | 2 => .ref (ad (i + s.2))
  | 3 => .ref (ad (rR σ i k))
  | _ => .null
def slv (ad : Nat → Nat) (σ : Sg) (i : Nat) : Nat → List (Nat × Nat) → List Value
  | _, [] => []
  | k, s :: t => slotV ad σ i k s :: slv ad σ i (k + 1) t
def rowB (sh : Sh) : Nat := (sh.2.2.headD (0, 0)).1
def rowM (sh : Sh) : Nat := (sh.2.2.headD (0, 0)).2
def ent (cys : Nat → ClassId) (ad : Nat → Nat) (σ : Sg) (i : Nat) (sh : Sh) : va_E := match sh.1 with
  | 0 => .inr (sh.2.1, slv ad σ i 0 sh.2.2)
  | 1 => .inl (cys 0, sh.2.1, .inl (rI σ i))
  | 2 => .inl (cys 1, sh.2.1, .inr (.inl (rJ σ i)))
  | 3 => .inl (cys 2, sh.2.1, .inl (rI σ i))
  | 4 => .inl (cys 3, sh.2.1, .inr (.inr (.inr (.inr (fun j => if j < rowM sh then some (ad (i + rowB sh + j)) else none)))))
  | _ => .inl (cys 4, sh.2.1, .inr (.inr (.inr (.inr (fun j => if j < rowM sh then some (ad (i + rowB sh + j)) else none)))))
def wd (cys : Nat → ClassId) (ad : Nat → Nat) (σ : Sg) : Nat → List Sh → va_W
  | _, [] => []
  | i, sh :: t => (ad i, ent cys ad σ i sh) :: wd cys ad σ (i + 1) t
abbrev tysOf (cys : Nat → ClassId) : List (ClassId × FieldType) := [(cys 0, .int), (cys 1, .long), (cys 2, .boolean), (cys 3, .object RX0), (cys 4, .array .int)]
theorem slv_get {ad : Nat → Nat} {σ : Sg} {i : Nat} : ∀ (l : List (Nat × Nat)) (k0 j : Nat), (slv ad σ i k0 l)[j]? = (l[j]?).map (slotV ad σ i (k0 + j))
  | [], k0, j => by simp [slv]
  | s :: t, k0, 0 => by simp [slv]
  | s :: t, k0, j + 1 => by
    simp only [slv, List.getElem?_cons_succ]
    rw [slv_get t (k0 + 1) j, show k0 + 1 + j = k0 + (j + 1) by omega]
theorem slv_len {ad : Nat → Nat} {σ : Sg} {i : Nat} : ∀ (l : List (Nat × Nat)) (k0 : Nat), (slv ad σ i k0 l).length = l.length
  | [], _ => rfl
  | s :: t, k0 => by simp only [slv, List.length_cons]; rw [slv_len t (k0 + 1)]
theorem slv_eq {ad : Nat → Nat} {σ σ' : Sg} {i : Nat} : ∀ (l : List (Nat × Nat)) (k0 : Nat), (∀ q t, k0 ≤ q → slotV ad σ' i q t = slotV ad σ i q t) → slv ad σ' i k0 l = slv ad σ i k0 l
  | [], _, _ => rfl
  | s :: t, k0, h => by
    simp only [slv]
    rw [h k0 s (Nat.le_refl _), slv_eq t (k0 + 1) (fun q t hq => h q t (by omega))]
theorem slv_set {ad : Nat → Nat} {σ σ' : Sg} {i : Nat} {v : Value} : ∀ (l : List (Nat × Nat)) (k0 j : Nat) (s : Nat × Nat), l[j]? = some s → (∀ q t, q ≠ k0 + j → slotV ad σ' i q t = slotV ad σ i q t) → slotV ad σ' i (k0 + j) s = v → (slv ad σ i k0 l).set j v = slv ad σ' i k0 l
  | [], _, _, _, h, _, _ => by simp at h
  | s0 :: t, k0, 0, s, h, hq, hv => by
    rw [List.getElem?_cons_zero] at h
    cases h
    simp only [slv, List.set_cons_zero]
    rw [← hv, Nat.add_zero, slv_eq t (k0 + 1) (fun q u hu => hq q u (by omega))]
  | s0 :: t, k0, j + 1, s, h, hq, hv => by
    rw [List.getElem?_cons_succ] at h
    simp only [slv, List.set_cons_succ]
    rw [hq k0 s0 (by omega), slv_set t (k0 + 1) j s h (fun q u hu => hq q u (by omega)) (by rw [show k0 + 1 + j = k0 + (j + 1) by omega]; exact hv)]
theorem wd_get {cys : Nat → ClassId} {ad : Nat → Nat} {σ : Sg} : ∀ (Y : List Sh) (i0 j : Nat), (wd cys ad σ i0 Y)[j]? = (Y[j]?).map (fun sh => (ad (i0 + j), ent cys ad σ (i0 + j) sh))
  | [], i0, j => by simp [wd]
  | s :: t, i0, 0 => by simp [wd]
  | s :: t, i0, j + 1 => by
    simp only [wd, List.getElem?_cons_succ]
    rw [wd_get t (i0 + 1) j, show i0 + 1 + j = i0 + (j + 1) by omega]
theorem wd_at {cys : Nat → ClassId} {ad : Nat → Nat} {σ : Sg} {Y : List Sh} {o : Nat} {sh : Sh} (h : Y[o]? = some sh) : (wd cys ad σ 0 Y)[o]? = some (ad o, ent cys ad σ o sh) := by
  rw [wd_get, h, Nat.zero_add]
  rfl
theorem wd_eq {cys : Nat → ClassId} {ad : Nat → Nat} {σ σ' : Sg} : ∀ (Y : List Sh) (i0 : Nat), (∀ q sh, i0 ≤ q → ent cys ad σ' q sh = ent cys ad σ q sh) → wd cys ad σ' i0 Y = wd cys ad σ i0 Y
  | [], _, _ => rfl
  | s :: t, i0, h => by
    simp only [wd]
    rw [h i0 s (Nat.le_refl _), wd_eq t (i0 + 1) (fun q t hq => h q t (by omega))]
theorem wd_set {cys : Nat → ClassId} {ad : Nat → Nat} {σ σ' : Sg} {e : va_E} : ∀ (Y : List Sh) (i0 j : Nat) (sh : Sh), Y[j]? = some sh → (∀ q t, q ≠ i0 + j → ent cys ad σ' q t = ent cys ad σ q t) → ent cys ad σ' (i0 + j) sh = e → (wd cys ad σ i0 Y).set j (ad (i0 + j), e) = wd cys ad σ' i0 Y
  | [], _, _, _, h, _, _ => by simp at h
  | s0 :: t, i0, 0, s, h, hq, hv => by
    rw [List.getElem?_cons_zero] at h
    cases h
    simp only [wd, List.set_cons_zero]
    rw [← hv, Nat.add_zero, wd_eq t (i0 + 1) (fun q u hu => hq q u (by omega))]
  | s0 :: t, i0, j + 1, s, h, hq, hv => by
    rw [List.getElem?_cons_succ] at h
    simp only [wd, List.set_cons_succ]
    rw [hq i0 s0 (by omega), show i0 + (j + 1) = i0 + 1 + j by omega, wd_set t (i0 + 1) j s h (fun q u hu => hq q u (by omega)) (by rw [show i0 + 1 + j = i0 + (j + 1) by omega]; exact hv)]
theorem wd_len {cys : Nat → ClassId} {ad : Nat → Nat} {σ : Sg} : ∀ (Y : List Sh) (i0 : Nat), (wd cys ad σ i0 Y).length = Y.length
  | [], _ => rfl
  | s :: t, i0 => by simp only [wd, List.length_cons]; rw [wd_len t (i0 + 1)]
/-- the addresses apart, and of a kind -/
theorem wd_D {cys : Nat → ClassId} {ad : Nat → Nat} {σ : Sg} {Y : List Sh} {A : Nat → Prop} (hi : ∀ i j, i < Y.length → j < Y.length → ad i = ad j → i = j) (hA : ∀ i, i < Y.length → A (ad i)) : va_D A (wd cys ad σ 0 Y) := by
  have key : ∀ (k : Nat) (q : Nat × va_E), (wd cys ad σ 0 Y)[k]? = some q → k < Y.length ∧ q.1 = ad k := by
    intro k q hk
    have hl : k < (wd cys ad σ 0 Y).length := (List.getElem?_eq_some_iff.mp hk).1
    rw [wd_len] at hl
    rw [wd_at (List.getElem?_eq_getElem hl)] at hk
    cases hk
    exact ⟨hl, rfl⟩
  refine ⟨fun i j p q h1 h2 h3 => ?_, fun k q h => ?_⟩
  · obtain ⟨a1, a2⟩ := key i p h1
    obtain ⟨b1, b2⟩ := key j q h2
    exact hi i j a1 b1 (by rw [← a2, ← b2]; exact h3)
  · obtain ⟨a1, a2⟩ := key k q h
    rw [a2]
    exact hA k a1
theorem ent_wI {cys : Nat → ClassId} {ad : Nat → Nat} {σ : Sg} {o k : Nat} {v : Int32} (q : Nat) (sh : Sh) (h : q ≠ o) : ent cys ad (wI σ o k v) q sh = ent cys ad σ q sh := by
  have e1 : rI (wI σ o k v) q = rI σ q := by funext j; simp [rI, wI, h]
  have e2 : rJ (wI σ o k v) q = rJ σ q := rfl
  have e3 : ∀ k0, slv ad (wI σ o k v) q k0 sh.2.2 = slv ad σ q k0 sh.2.2 := fun k0 => slv_eq _ _ (fun j t _ => by
    unfold slotV
    split
    · rw [e1]
    · rfl
    · rfl
    · rfl
    · rfl)
  unfold ent
  split
  · rw [e3]
  · rw [e1]
  · rw [e2]
  · rw [e1]
  · rfl
  · rfl
theorem ent_wJ {cys : Nat → ClassId} {ad : Nat → Nat} {σ : Sg} {o k : Nat} {v : Int64} (q : Nat) (sh : Sh) (h : q ≠ o) : ent cys ad (wJ σ o k v) q sh = ent cys ad σ q sh := by
  have e1 : rI (wJ σ o k v) q = rI σ q := rfl
  have e2 : rJ (wJ σ o k v) q = rJ σ q := by funext j; simp [rJ, wJ, h]
  have e3 : ∀ k0, slv ad (wJ σ o k v) q k0 sh.2.2 = slv ad σ q k0 sh.2.2 := fun k0 => slv_eq _ _ (fun j t _ => by
    unfold slotV
    split
    · rfl
    · rw [e2]
    · rfl
    · rfl
    · rfl)
  unfold ent
  split
  · rw [e3]
  · rfl
  · rw [e2]
  · rfl
  · rfl
  · rfl
theorem ent_wR {cys : Nat → ClassId} {ad : Nat → Nat} {σ : Sg} {o k v : Nat} (q : Nat) (sh : Sh) (h : q ≠ o) : ent cys ad (wR σ o k v) q sh = ent cys ad σ q sh := by
  have e1 : rI (wR σ o k v) q = rI σ q := rfl
  have e2 : rJ (wR σ o k v) q = rJ σ q := rfl
  have e3 : ∀ k0, slv ad (wR σ o k v) q k0 sh.2.2 = slv ad σ q k0 sh.2.2 := fun k0 => slv_eq _ _ (fun j t _ => by
    unfold slotV
    split
    · rfl
    · rfl
    · rfl
    · have e4 : rR (wR σ o k v) q j = rR σ q j := by simp [rR, wR, h]
      rw [e4]
    · rfl)
  unfold ent
  split
  · rw [e3]
  · rfl
  · rfl
  · rfl
  · rfl
  · rfl
theorem ent_wC {cys : Nat → ClassId} {ad : Nat → Nat} {σ : Sg} {a0 sp a1 dp n : Nat} (q : Nat) (sh : Sh) (h : q ≠ a1) : ent cys ad (wC σ a0 sp a1 dp n) q sh = ent cys ad σ q sh := by
  have e1 : rI (wC σ a0 sp a1 dp n) q = rI σ q := by funext j; simp [rI, wC, h]
  have e2 : rJ (wC σ a0 sp a1 dp n) q = rJ σ q := rfl
  have e3 : ∀ k0, slv ad (wC σ a0 sp a1 dp n) q k0 sh.2.2 = slv ad σ q k0 sh.2.2 := fun k0 => slv_eq _ _ (fun j t _ => by
    unfold slotV
    split
    · rw [e1]
    · rfl
    · rfl
    · rfl
    · rfl)
  unfold ent
  split
  · rw [e3]
  · rw [e1]
  · rw [e2]
  · rw [e1]
  · rfl
  · rfl

/-! ===== a method's point: context, program counter, locals, stack, what holds of the heap ===== -/
abbrev KT : Type := Program × Launch × Env × Room × State × MethodId × Array Value × List Frame × Method × Code × va_G × (Nat → ClassId) × (Nat → Nat) × (Nat → Prop) × (State → Prop)
abbrev kp (K : KT) : Program := K.1
abbrev kl (K : KT) : Launch := K.2.1
abbrev ke (K : KT) : Env := K.2.2.1
abbrev kR (K : KT) : Room := K.2.2.2.1
abbrev ks (K : KT) : State := K.2.2.2.2.1
abbrev km (K : KT) : MethodId := K.2.2.2.2.2.1
abbrev ka (K : KT) : Array Value := K.2.2.2.2.2.2.1
abbrev kb (K : KT) : List Frame := K.2.2.2.2.2.2.2.1
abbrev kmeth (K : KT) : Method := K.2.2.2.2.2.2.2.2.1
abbrev kc (K : KT) : Code := K.2.2.2.2.2.2.2.2.2.1
abbrev kD (K : KT) : va_G := K.2.2.2.2.2.2.2.2.2.2.1
abbrev kcy (K : KT) : Nat → ClassId := K.2.2.2.2.2.2.2.2.2.2.2.1
def kad (K : KT) : Nat → Nat := K.2.2.2.2.2.2.2.2.2.2.2.2.1
abbrev kA (K : KT) : Nat → Prop := K.2.2.2.2.2.2.2.2.2.2.2.2.2.1
abbrev kQ (K : KT) : State → Prop := K.2.2.2.2.2.2.2.2.2.2.2.2.2.2
abbrev Wk (K : KT) (H : Heap) (locs : List Loc) (g : JFrame) : Prop := W (kp K) (kl K) (ke K) (kR K) (ks K) (km K) (ka K) (kb K) (kmeth K) (kc K) H locs 0 0 (kQ K) g
def LX (ls : Array Slot) (L : List (Option Value)) : Prop := ls.size = L.length ∧ lv_wf ls ∧ ∀ (i : Nat) (v : Value), L[i]? = some (some v) → ls[i]? = some (Slot.val v)
def G (K : KT) (pc : Nat) (L : List (Option Value)) (st : List Value) (P : Heap → List Loc → Prop) : Prop :=
  ∀ (H : Heap) (locs : List Loc) (ls : Array Slot), P H locs → LX ls L → Wk K H locs (F0 (km K) pc ls st)
def Cb (K : KT) (cc : ByteArray) (own : String) (nL d : Nat) : Prop :=
  (kp K).tables.exec = Jvm.exec ∧ (kc K).code = cc ∧ (kc K).maxLocals = nL ∧ (ks K).vm.findClass own = some (km K).cls ∧ (∀ w ∈ AL, w.before (ka K) (ks K) = true) ∧ (kmeth K).locks = false ∧ d ≤ (kR K).frames ∧ 40 * d ≤ (kR K).locals
theorem Cb.fix {K : KT} {cc : ByteArray} {own : String} {nL d : Nat} (C : Cb K cc own nL d) : CallFix (kp K) (km K) (kc K) cc nL (ks K) (ka K) AL own := ⟨C.1, C.2.1, C.2.2.1, C.2.2.2.1, C.2.2.2.2.1⟩
theorem Cb.x {K : KT} {cc : ByteArray} {own : String} {nL d : Nat} (C : Cb K cc own nL d) : (kp K).tables.exec = Jvm.exec := C.1
theorem Cb.b {K : KT} {cc : ByteArray} {own : String} {nL d : Nat} (C : Cb K cc own nL d) : (kc K).code = cc := C.2.1
theorem Cb.o {K : KT} {cc : ByteArray} {own : String} {nL d : Nat} (C : Cb K cc own nL d) : (ks K).vm.findClass own = some (km K).cls := C.2.2.2.1
theorem Cb.t {K : KT} {cc : ByteArray} {own : String} {nL d : Nat} (C : Cb K cc own nL d) {w : Cond} (h : w ∈ AL) : w.before (ka K) (ks K) = true := C.2.2.2.2.1 w h
/-! the locals -/
def prs (L : List (Option Value)) : List (Nat × Value) := (List.range L.length).filterMap (fun i => (L[i]?.join).map (fun v => (i, v)))
theorem prs_iff {L : List (Option Value)} {q : Nat × Value} : q ∈ prs L ↔ L[q.1]? = some (some q.2) := by
  unfold prs
  rw [List.mem_filterMap]
  constructor
  · rintro ⟨i, -, h⟩
    obtain ⟨v, h1, h2⟩ := Option.map_eq_some_iff.mp h
    subst h2
    exact Option.join_eq_some_iff.mp h1
  · intro h
    refine ⟨q.1, List.mem_range.mpr ((List.getElem?_eq_some_iff.mp h).1), ?_⟩
    rw [h]
    rfl
theorem LX.has {ls : Array Slot} {L : List (Option Value)} (h : LX ls L) : lv_has ls L.length (prs L) := ⟨h.1, h.2.1, fun q hq => h.2.2 q.1 q.2 (prs_iff.mp hq)⟩
def c2 : Option (Option Value) → Bool
  | some (some (.long _)) => true
  | some (some (.double _)) => true
  | _ => false
/-- a store ends a long whose second half it takes -/
def clr (L : List (Option Value)) : Nat → List (Option Value)
  | 0 => L
  | j + 1 => if c2 L[j]? = true then L.set j none else L
def st1 (L : List (Option Value)) (i : Nat) (v : Value) : List (Option Value) := (clr L i).set i (some v)
def st2 (L : List (Option Value)) (i : Nat) (v : Value) : List (Option Value) := ((clr L i).set i (some v)).set (i + 1) none
theorem clr_len (L : List (Option Value)) (i : Nat) : (clr L i).length = L.length := by
  cases i with
  | zero => rfl
  | succ j => simp only [clr]; split <;> simp
theorem clr_get {L : List (Option Value)} {i j : Nat} {v : Value} (h : (clr L i)[j]? = some (some v)) : L[j]? = some (some v) ∧ ¬ (j + 1 = i ∧ v.category = 2) := by
  cases i with
  | zero => exact ⟨h, fun q => by omega⟩
  | succ q =>
    simp only [clr] at h
    split at h
    next hc =>
      rw [List.getElem?_set] at h
      split at h
      next => split at h <;> cases h
      next hne => exact ⟨h, fun z => hne (by omega)⟩
    next hc =>
      refine ⟨h, fun z => hc ?_⟩
      have hj : j = q := by omega
      subst hj
      rw [h]
      cases v <;> first | rfl | (exfalso; have := z.2; simp [Value.category] at this)
theorem LX.s1 {ls' : Array Slot} {L : List (Option Value)} {i : Nat} {v : Value} (hi : i < L.length) (h : lv_has ls' L.length ((i, v) :: (prs L).filter (fun q => !(q.1 == i) && !(q.1 + 1 == i && q.2.category == 2)))) : LX ls' (st1 L i v) := by
  refine ⟨by rw [h.1]; simp [st1, clr_len], h.2.1, fun j u hj => ?_⟩
  unfold st1 at hj
  rw [List.getElem?_set] at hj
  split at hj
  next e =>
    subst e
    rw [clr_len, if_pos hi] at hj
    cases hj
    exact h.2.2 (i, v) List.mem_cons_self
  next e =>
    obtain ⟨h1, h2⟩ := clr_get hj
    refine h.2.2 (j, u) (List.mem_cons_of_mem _ (List.mem_filter.mpr ⟨prs_iff.mpr h1, ?_⟩))
    have e' : j ≠ i := fun z => e z.symm
    by_cases z : j + 1 = i
    · have : ¬ u.category = 2 := fun y => h2 ⟨z, y⟩
      simp [e', this]
    · simp [e', z]
theorem LX.s2 {ls' : Array Slot} {L : List (Option Value)} {i : Nat} {v : Value} (hi : i + 1 < L.length) (h : lv_has ls' L.length ((i, v) :: (prs L).filter (fun q => !(q.1 == i) && (!(q.1 == i + 1) && !(q.1 + 1 == i && q.2.category == 2))))) : LX ls' (st2 L i v) := by
  refine ⟨by rw [h.1]; simp [st2, clr_len], h.2.1, fun j u hj => ?_⟩
  unfold st2 at hj
  rw [List.getElem?_set] at hj
  split at hj
  next e => split at hj <;> cases hj
  next e0 =>
    rw [List.getElem?_set] at hj
    split at hj
    next e =>
      subst e
      rw [clr_len, if_pos (by omega)] at hj
      cases hj
      exact h.2.2 (i, v) List.mem_cons_self
    next e =>
      obtain ⟨h1, h2⟩ := clr_get hj
      refine h.2.2 (j, u) (List.mem_cons_of_mem _ (List.mem_filter.mpr ⟨prs_iff.mpr h1, ?_⟩))
      have e' : j ≠ i := fun z => e z.symm
      have e0' : j ≠ i + 1 := fun z => e0 z.symm
      by_cases z : j + 1 = i
      · have : ¬ u.category = 2 := fun y => h2 ⟨z, y⟩
        simp [e', e0', this]
      · simp [e', e0', z]
/-- fewer locals are known -/
def ksel : List Bool → List (Option Value) → List (Option Value)
  | b :: bs, x :: xs => (if b = true then x else none) :: ksel bs xs
  | _, xs => xs
theorem ksel_len : ∀ (bs : List Bool) (L : List (Option Value)), (ksel bs L).length = L.length
  | [], L => by cases L <;> rfl
  | b :: bs, [] => rfl
  | b :: bs, x :: xs => by simp only [ksel, List.length_cons]; rw [ksel_len bs xs]
theorem ksel_get : ∀ (bs : List Bool) (L : List (Option Value)) (i : Nat) (v : Value), (ksel bs L)[i]? = some (some v) → L[i]? = some (some v)
  | [], L, i, v, h => by cases L <;> exact h
  | b :: bs, [], i, v, h => h
  | b :: bs, x :: xs, 0, v, h => by
    simp only [ksel, List.getElem?_cons_zero] at h ⊢
    split at h
    · exact h
    · cases h
  | b :: bs, x :: xs, i + 1, v, h => by
    simp only [ksel, List.getElem?_cons_succ] at h ⊢
    exact ksel_get bs xs i v h
theorem g_mask {K : KT} {pc : Nat} {L L' : List (Option Value)} {st : List Value} {P : Heap → List Loc → Prop} (bs : List Bool) (h : ksel bs L = L') (k : G K pc L' st P) : G K pc L st P := by
  intro H locs ls hP hL
  subst h
  exact k H locs ls hP ⟨by rw [hL.1, ksel_len], hL.2.1, fun i v hi => hL.2.2 i v (ksel_get bs L i v hi)⟩
theorem ite_t {c : Prop} {i : Decidable c} {α : Type} {a b o : α} (hc : c) (h : (@ite α c i a b) = o) : a = o := by rw [if_pos hc] at h; exact h
theorem ite_f {c : Prop} {i : Decidable c} {α : Type} {a b o : α} (hc : ¬ c) (h : (@ite α c i a b) = o) : b = o := by rw [if_neg hc] at h; exact h
/-- a place is in its row -/
def inb (i : Int32) (n : Nat) : Bool := decide (¬ i < 0) && decide (i.toNatClampNeg < n)
theorem inb_in {i : Int32} {n : Nat} (h : inb i n = true) : vp_in i n := by
  unfold inb at h
  rw [Bool.and_eq_true, decide_eq_true_eq, decide_eq_true_eq] at h
  exact fun q => q.elim h.1 (fun z => absurd h.2 (by omega))
theorem inb_lt {i : Int32} {n : Nat} (h : inb i n = true) : i.toNatClampNeg < n := by
  unfold inb at h
  rw [Bool.and_eq_true, decide_eq_true_eq, decide_eq_true_eq] at h
  exact h.2
/-- 0 or 1 -/
def isB (v : Int32) : Bool := decide (v = 0) || decide (v = 1)
theorem isB_n {v : Int32} (h : isB v = true) : narrow .boolean (.int v) = .int v := by
  unfold isB at h
  rw [Bool.or_eq_true, decide_eq_true_eq, decide_eq_true_eq] at h
  rcases h with rfl | rfl <;> rfl
theorem isB_f {v : Int32} (h : isB v = true) : fits .boolean (.int v) = true := by
  unfold isB at h
  rw [Bool.or_eq_true, decide_eq_true_eq, decide_eq_true_eq] at h
  rcases h with rfl | rfl <;> rfl
theorem chk {b : Bool} {α : Type} {x : Option α} {o : α} (h : (if b = true then x else none) = some o) : b = true ∧ x = some o := by
  by_cases c : b = true
  · rw [if_pos c] at h; exact ⟨c, h⟩
  · rw [if_neg c] at h; cases h
/-- the shape of a cell is as told -/
def isSh (Y : List Sh) (o : Nat) (sh : Sh) : Bool := decide (Y[o]? = some sh)
theorem isSh_e {Y : List Sh} {o : Nat} {sh : Sh} (h : isSh Y o sh = true) : Y[o]? = some sh := of_decide_eq_true h
/-- a loop of at most so many rounds -/
def lp {S T : Type} (f : S → Option (S ⊕ T)) : Nat → S → Option T
  | 0, _ => none
  | n + 1, s => match f s with
    | none => none
    | some (.inl s') => lp f n s'
    | some (.inr t) => some t
def FU : Nat := 1000000
theorem lp_ind {S T : Type} {f : S → Option (S ⊕ T)} {Gh : S → Prop} {KK : T → Prop} (hb : ∀ s o, f s = some o → (∀ s', o = .inl s' → Gh s') → (∀ t, o = .inr t → KK t) → Gh s) : ∀ (n : Nat) (s : S) (t : T), lp f n s = some t → KK t → Gh s
  | 0, s, t, h, _ => by cases h
  | n + 1, s, t, h, hk => by
    unfold lp at h
    cases hf : f s with
    | none => rw [hf] at h; cases h
    | some o =>
      rw [hf] at h
      cases o with
      | inl s' => exact hb s _ hf (fun s2 e => by cases e; exact lp_ind hb n s' t h hk) (fun t2 e => by cases e)
      | inr t' => exact hb s _ hf (fun s2 e => by cases e) (fun t2 e => by cases e; cases h; exact hk)

section GI
variable {K : KT} {cc : ByteArray} {own : String} {nL d pc : Nat} {L : List (Option Value)} {st : List Value} {P : Heap → List Loc → Prop}
theorem g_iconst (C : Cb K cc own nL d) {n : Int} {v : Int32} (hd : decode cc pc = .ok (.iconst n, 1)) (hv : Int32.ofInt n = v)
    (k : G K (pc + 1) L (.int v :: st) P) : G K pc L st P := fun H locs ls hP hL => lv_iconst C.x C.b hd hv (k H locs ls hP hL)
theorem g_bipush (C : Cb K cc own nL d) {n : Int} {v : Int32} (hd : decode cc pc = .ok (.bipush n, 2)) (hv : (Int8.ofInt n).toInt32 = v)
    (k : G K (pc + 2) L (.int v :: st) P) : G K pc L st P := fun H locs ls hP hL => lv_bipush C.x C.b hd hv (k H locs ls hP hL)
theorem g_sipush (C : Cb K cc own nL d) {n : Int} {v : Int32} (hd : decode cc pc = .ok (.sipush n, 3)) (hv : (Int16.ofInt n).toInt32 = v)
    (k : G K (pc + 3) L (.int v :: st) P) : G K pc L st P := fun H locs ls hP hL => lv_sipush C.x C.b hd hv (k H locs ls hP hL)
theorem g_lconst (C : Cb K cc own nL d) {n : Fin 2} {v : Int64} (hd : decode cc pc = .ok (.lconst n, 1)) (hv : Int64.ofNat (n : Nat) = v)
    (k : G K (pc + 1) L (.long v :: st) P) : G K pc L st P := fun H locs ls hP hL => lv_lconst C.x C.b hd hv (k H locs ls hP hL)
theorem g_iload_n (C : Cb K cc own nL d) {n : Fin 4} {i : Nat} {x : Int32} (hd : decode cc pc = .ok (.iload_n n, 1)) (hi : (n : Nat) = i) (hl : L[i]? = some (some (.int x)))
    (k : G K (pc + 1) L (.int x :: st) P) : G K pc L st P := fun H locs ls hP hL => lv_iload_n C.x C.b hd hi (hL.2.2 _ _ hl) (k H locs ls hP hL)
theorem g_iload (C : Cb K cc own nL d) {i : Nat} {x : Int32} (hd : decode cc pc = .ok (.iload i, 2)) (hl : L[i]? = some (some (.int x)))
    (k : G K (pc + 2) L (.int x :: st) P) : G K pc L st P := fun H locs ls hP hL => lv_iload C.x C.b hd (hL.2.2 _ _ hl) (k H locs ls hP hL)
theorem g_istore_n (C : Cb K cc own nL d) {n : Fin 4} {i : Nat} {x : Int32} {L' : List (Option Value)} (hd : decode cc pc = .ok (.istore_n n, 1)) (hi : (n : Nat) = i) (hn : i < L.length) (hL' : st1 L i (.int x) = L')
    (k : G K (pc + 1) L' st P) : G K pc L (.int x :: st) P := fun H locs ls hP hL => lv_istore_n C.x C.b hd hi hL.has hn rfl (fun ls' h' => k H locs ls' hP (hL' ▸ LX.s1 hn h'))
theorem g_istore (C : Cb K cc own nL d) {i : Nat} {x : Int32} {L' : List (Option Value)} (hd : decode cc pc = .ok (.istore i, 2)) (hn : i < L.length) (hL' : st1 L i (.int x) = L')
    (k : G K (pc + 2) L' st P) : G K pc L (.int x :: st) P := fun H locs ls hP hL => lv_istore C.x C.b hd hL.has hn rfl (fun ls' h' => k H locs ls' hP (hL' ▸ LX.s1 hn h'))
theorem g_lload_n (C : Cb K cc own nL d) {n : Fin 4} {i : Nat} {x : Int64} (hd : decode cc pc = .ok (.lload_n n, 1)) (hi : (n : Nat) = i) (hl : L[i]? = some (some (.long x)))
    (k : G K (pc + 1) L (.long x :: st) P) : G K pc L st P := fun H locs ls hP hL => lv_lload_n C.x C.b hd hi (hL.2.2 _ _ hl) (k H locs ls hP hL)
theorem g_lload (C : Cb K cc own nL d) {i : Nat} {x : Int64} (hd : decode cc pc = .ok (.lload i, 2)) (hl : L[i]? = some (some (.long x)))
    (k : G K (pc + 2) L (.long x :: st) P) : G K pc L st P := fun H locs ls hP hL => lv_lload C.x C.b hd (hL.2.2 _ _ hl) (k H locs ls hP hL)
theorem g_lstore_n (C : Cb K cc own nL d) {n : Fin 4} {i : Nat} {x : Int64} {L' : List (Option Value)} (hd : decode cc pc = .ok (.lstore_n n, 1)) (hi : (n : Nat) = i) (hn : i + 1 < L.length) (hL' : st2 L i (.long x) = L')
    (k : G K (pc + 1) L' st P) : G K pc L (.long x :: st) P := fun H locs ls hP hL => lv_lstore_n C.x C.b hd hi hL.has hn rfl (fun ls' h' => k H locs ls' hP (hL' ▸ LX.s2 hn h'))
theorem g_lstore (C : Cb K cc own nL d) {i : Nat} {x : Int64} {L' : List (Option Value)} (hd : decode cc pc = .ok (.lstore i, 2)) (hn : i + 1 < L.length) (hL' : st2 L i (.long x) = L')
    (k : G K (pc + 2) L' st P) : G K pc L (.long x :: st) P := fun H locs ls hP hL => lv_lstore C.x C.b hd hL.has hn rfl (fun ls' h' => k H locs ls' hP (hL' ▸ LX.s2 hn h'))
theorem g_aload_n (C : Cb K cc own nL d) {n : Fin 4} {i : Nat} {x : Nat} (hd : decode cc pc = .ok (.aload_n n, 1)) (hi : (n : Nat) = i) (hl : L[i]? = some (some (.ref x)))
    (k : G K (pc + 1) L (.ref x :: st) P) : G K pc L st P := fun H locs ls hP hL => lv_aload_n C.x C.b hd hi (hL.2.2 _ _ hl) (k H locs ls hP hL)
theorem g_aload (C : Cb K cc own nL d) {i : Nat} {x : Nat} (hd : decode cc pc = .ok (.aload i, 2)) (hl : L[i]? = some (some (.ref x)))
    (k : G K (pc + 2) L (.ref x :: st) P) : G K pc L st P := fun H locs ls hP hL => lv_aload C.x C.b hd (hL.2.2 _ _ hl) (k H locs ls hP hL)
theorem g_astore_n (C : Cb K cc own nL d) {n : Fin 4} {i : Nat} {x : Nat} {L' : List (Option Value)} (hd : decode cc pc = .ok (.astore_n n, 1)) (hi : (n : Nat) = i) (hn : i < L.length) (hL' : st1 L i (.ref x) = L')
    (k : G K (pc + 1) L' st P) : G K pc L (.ref x :: st) P := fun H locs ls hP hL => lv_astore_n C.x C.b hd hi hL.has hn rfl (fun ls' h' => k H locs ls' hP (hL' ▸ LX.s1 hn h'))
theorem g_astore (C : Cb K cc own nL d) {i : Nat} {x : Nat} {L' : List (Option Value)} (hd : decode cc pc = .ok (.astore i, 2)) (hn : i < L.length) (hL' : st1 L i (.ref x) = L')
    (k : G K (pc + 2) L' st P) : G K pc L (.ref x :: st) P := fun H locs ls hP hL => lv_astore C.x C.b hd hL.has hn rfl (fun ls' h' => k H locs ls' hP (hL' ▸ LX.s1 hn h'))
theorem g_iinc (C : Cb K cc own nL d) {i : Nat} {n : Int} {x y : Int32} {L' : List (Option Value)} (hd : decode cc pc = .ok (.iinc i n, 3)) (hl : L[i]? = some (some (.int x))) (hy : Int32.ofInt n = y) (hn : i < L.length) (hL' : st1 L i (.int (x + y)) = L')
    (k : G K (pc + 3) L' st P) : G K pc L st P := fun H locs ls hP hL => by
  obtain ⟨j, hj⟩ := List.getElem?_of_mem ((prs_iff (q := (i, .int x))).mpr hl)
  exact lv_iinc C.x C.b hd hL.has hj (by rw [hy]) hn rfl (fun ls' h' => k H locs ls' hP (hL' ▸ LX.s1 hn h'))
theorem g_iadd (C : Cb K cc own nL d) {x y : Int32} (hd : decode cc pc = .ok (.iadd, 1))
    (k : G K (pc + 1) L (.int (x + y) :: st) P) : G K pc L (.int y :: .int x :: st) P := fun H locs ls hP hL => lv_iadd C.x C.b hd (k H locs ls hP hL)
theorem g_isub (C : Cb K cc own nL d) {x y : Int32} (hd : decode cc pc = .ok (.isub, 1))
    (k : G K (pc + 1) L (.int (x - y) :: st) P) : G K pc L (.int y :: .int x :: st) P := fun H locs ls hP hL => lv_isub C.x C.b hd (k H locs ls hP hL)
theorem g_imul (C : Cb K cc own nL d) {x y : Int32} (hd : decode cc pc = .ok (.imul, 1))
    (k : G K (pc + 1) L (.int (x * y) :: st) P) : G K pc L (.int y :: .int x :: st) P := fun H locs ls hP hL => lv_imul C.x C.b hd (k H locs ls hP hL)
theorem g_iand (C : Cb K cc own nL d) {x y : Int32} (hd : decode cc pc = .ok (.iand, 1))
    (k : G K (pc + 1) L (.int (x &&& y) :: st) P) : G K pc L (.int y :: .int x :: st) P := fun H locs ls hP hL => lv_iand C.x C.b hd (k H locs ls hP hL)
theorem g_idiv (C : Cb K cc own nL d) {x y : Int32} (hd : decode cc pc = .ok (.idiv, 1)) (hne : ¬ y = 0)
    (k : G K (pc + 1) L (.int (x / y) :: st) P) : G K pc L (.int y :: .int x :: st) P := fun H locs ls hP hL => lv_idiv C.x C.b hd hne (k H locs ls hP hL)
theorem g_irem (C : Cb K cc own nL d) {x y : Int32} (hd : decode cc pc = .ok (.irem, 1)) (hne : ¬ y = 0)
    (k : G K (pc + 1) L (.int (x - x / y * y) :: st) P) : G K pc L (.int y :: .int x :: st) P := fun H locs ls hP hL => lv_irem C.x C.b hd hne (k H locs ls hP hL)
theorem g_ineg (C : Cb K cc own nL d) {x : Int32} (hd : decode cc pc = .ok (.ineg, 1))
    (k : G K (pc + 1) L (.int (-x) :: st) P) : G K pc L (.int x :: st) P := fun H locs ls hP hL => lv_ineg C.x C.b hd (k H locs ls hP hL)
theorem g_ladd (C : Cb K cc own nL d) {x y : Int64} (hd : decode cc pc = .ok (.ladd, 1))
    (k : G K (pc + 1) L (.long (x + y) :: st) P) : G K pc L (.long y :: .long x :: st) P := fun H locs ls hP hL => lv_ladd C.x C.b hd (k H locs ls hP hL)
theorem g_lsub (C : Cb K cc own nL d) {x y : Int64} (hd : decode cc pc = .ok (.lsub, 1))
    (k : G K (pc + 1) L (.long (x - y) :: st) P) : G K pc L (.long y :: .long x :: st) P := fun H locs ls hP hL => lv_lsub C.x C.b hd (k H locs ls hP hL)
theorem g_lmul (C : Cb K cc own nL d) {x y : Int64} (hd : decode cc pc = .ok (.lmul, 1))
    (k : G K (pc + 1) L (.long (x * y) :: st) P) : G K pc L (.long y :: .long x :: st) P := fun H locs ls hP hL => lv_lmul C.x C.b hd (k H locs ls hP hL)
theorem g_land (C : Cb K cc own nL d) {x y : Int64} (hd : decode cc pc = .ok (.land, 1))
    (k : G K (pc + 1) L (.long (x &&& y) :: st) P) : G K pc L (.long y :: .long x :: st) P := fun H locs ls hP hL => lv_land C.x C.b hd (k H locs ls hP hL)
theorem g_lor (C : Cb K cc own nL d) {x y : Int64} (hd : decode cc pc = .ok (.lor, 1))
    (k : G K (pc + 1) L (.long (x ||| y) :: st) P) : G K pc L (.long y :: .long x :: st) P := fun H locs ls hP hL => lv_lor C.x C.b hd (k H locs ls hP hL)
theorem g_ldiv (C : Cb K cc own nL d) {x y : Int64} (hd : decode cc pc = .ok (.ldiv, 1)) (hne : ¬ y = 0)
    (k : G K (pc + 1) L (.long (x / y) :: st) P) : G K pc L (.long y :: .long x :: st) P := fun H locs ls hP hL => lv_ldiv C.x C.b hd hne (k H locs ls hP hL)
theorem g_lrem (C : Cb K cc own nL d) {x y : Int64} (hd : decode cc pc = .ok (.lrem, 1)) (hne : ¬ y = 0)
    (k : G K (pc + 1) L (.long (x - x / y * y) :: st) P) : G K pc L (.long y :: .long x :: st) P := fun H locs ls hP hL => lv_lrem C.x C.b hd hne (k H locs ls hP hL)
def lushr (x : Int64) (y : Int32) : Int64 := (x.toUInt64 >>> (y.toInt64.toUInt64 &&& Int64.toUInt64 63)).toInt64
def lshl (x : Int64) (y : Int32) : Int64 := x <<< (y.toInt64 &&& 63)
theorem g_lushr (C : Cb K cc own nL d) {x : Int64} {y : Int32} (hd : decode cc pc = .ok (.lushr, 1))
    (k : G K (pc + 1) L (.long (lushr x y) :: st) P) : G K pc L (.int y :: .long x :: st) P := fun H locs ls hP hL => lv_lushr C.x C.b hd rfl (k H locs ls hP hL)
theorem g_lshl (C : Cb K cc own nL d) {x : Int64} {y : Int32} (hd : decode cc pc = .ok (.lshl, 1))
    (k : G K (pc + 1) L (.long (lshl x y) :: st) P) : G K pc L (.int y :: .long x :: st) P := fun H locs ls hP hL => lv_lshl C.x C.b hd rfl (k H locs ls hP hL)
theorem g_i2l (C : Cb K cc own nL d) {x : Int32} (hd : decode cc pc = .ok (.i2l, 1))
    (k : G K (pc + 1) L (.long x.toInt64 :: st) P) : G K pc L (.int x :: st) P := fun H locs ls hP hL => lv_i2l C.x C.b hd rfl (k H locs ls hP hL)
theorem g_l2i (C : Cb K cc own nL d) {x : Int64} (hd : decode cc pc = .ok (.l2i, 1))
    (k : G K (pc + 1) L (.int x.toInt32 :: st) P) : G K pc L (.long x :: st) P := fun H locs ls hP hL => lv_l2i C.x C.b hd rfl (k H locs ls hP hL)
theorem g_lcmp (C : Cb K cc own nL d) {x y : Int64} (hd : decode cc pc = .ok (.lcmp, 1))
    (k : G K (pc + 1) L (.int (lg_cmp x y) :: st) P) : G K pc L (.long y :: .long x :: st) P := fun H locs ls hP hL => W.lcmp C.x C.b hd (k H locs ls hP hL)
theorem g_dup (C : Cb K cc own nL d) {v : Value} (hd : decode cc pc = .ok (.dup, 1)) (hv : v.category = 1)
    (k : G K (pc + 1) L (v :: v :: st) P) : G K pc L (v :: st) P := fun H locs ls hP hL => lv_dup C.x C.b hd hv (k H locs ls hP hL)
theorem g_dup2 (C : Cb K cc own nL d) {u v : Value} (hd : decode cc pc = .ok (.dup2, 1)) (hu : u.category = 1) (hv : v.category = 1)
    (k : G K (pc + 1) L (u :: v :: u :: v :: st) P) : G K pc L (u :: v :: st) P := fun H locs ls hP hL => lv_dup2_11 C.x C.b hd hu hv (k H locs ls hP hL)
theorem g_pop (C : Cb K cc own nL d) {v : Value} (hd : decode cc pc = .ok (.pop, 1)) (hv : v.category = 1)
    (k : G K (pc + 1) L st P) : G K pc L (v :: st) P := fun H locs ls hP hL => lv_pop C.x C.b hd hv (k H locs ls hP hL)
theorem g_if_eq (C : Cb K cc own nL d) {x : Int32} {off : Int} {tgt : Nat} (hd : decode cc pc = .ok (.ifCond .eq off, 3)) (ht : (pc : Int) + off = (tgt : Int))
    (kt : x = 0 → G K tgt L st P) (kf : ¬ x = 0 → G K (pc + 3) L st P) : G K pc L (.int x :: st) P := fun H locs ls hP hL => lv_if_eq C.x C.b hd ht (fun q => kt q H locs ls hP hL) (fun q => kf q H locs ls hP hL)
theorem g_if_ne (C : Cb K cc own nL d) {x : Int32} {off : Int} {tgt : Nat} (hd : decode cc pc = .ok (.ifCond .ne off, 3)) (ht : (pc : Int) + off = (tgt : Int))
    (kt : ¬ x = 0 → G K tgt L st P) (kf : x = 0 → G K (pc + 3) L st P) : G K pc L (.int x :: st) P := fun H locs ls hP hL => lv_if_ne C.x C.b hd ht (fun q => kt q H locs ls hP hL) (fun q => kf q H locs ls hP hL)
theorem g_if_lt (C : Cb K cc own nL d) {x : Int32} {off : Int} {tgt : Nat} (hd : decode cc pc = .ok (.ifCond .lt off, 3)) (ht : (pc : Int) + off = (tgt : Int))
    (kt : x < 0 → G K tgt L st P) (kf : ¬ x < 0 → G K (pc + 3) L st P) : G K pc L (.int x :: st) P := fun H locs ls hP hL => lv_if_lt C.x C.b hd ht (fun q => kt q H locs ls hP hL) (fun q => kf q H locs ls hP hL)
theorem g_if_ge (C : Cb K cc own nL d) {x : Int32} {off : Int} {tgt : Nat} (hd : decode cc pc = .ok (.ifCond .ge off, 3)) (ht : (pc : Int) + off = (tgt : Int))
    (kt : 0 ≤ x → G K tgt L st P) (kf : ¬ 0 ≤ x → G K (pc + 3) L st P) : G K pc L (.int x :: st) P := fun H locs ls hP hL => lv_if_ge C.x C.b hd ht (fun q => kt q H locs ls hP hL) (fun q => kf q H locs ls hP hL)
theorem g_if_gt (C : Cb K cc own nL d) {x : Int32} {off : Int} {tgt : Nat} (hd : decode cc pc = .ok (.ifCond .gt off, 3)) (ht : (pc : Int) + off = (tgt : Int))
    (kt : 0 < x → G K tgt L st P) (kf : ¬ 0 < x → G K (pc + 3) L st P) : G K pc L (.int x :: st) P := fun H locs ls hP hL => lv_if_gt C.x C.b hd ht (fun q => kt q H locs ls hP hL) (fun q => kf q H locs ls hP hL)
theorem g_if_le (C : Cb K cc own nL d) {x : Int32} {off : Int} {tgt : Nat} (hd : decode cc pc = .ok (.ifCond .le off, 3)) (ht : (pc : Int) + off = (tgt : Int))
    (kt : x ≤ 0 → G K tgt L st P) (kf : ¬ x ≤ 0 → G K (pc + 3) L st P) : G K pc L (.int x :: st) P := fun H locs ls hP hL => lv_if_le C.x C.b hd ht (fun q => kt q H locs ls hP hL) (fun q => kf q H locs ls hP hL)
theorem g_icmp_eq (C : Cb K cc own nL d) {x y : Int32} {off : Int} {tgt : Nat} (hd : decode cc pc = .ok (.if_icmp .eq off, 3)) (ht : (pc : Int) + off = (tgt : Int))
    (kt : x = y → G K tgt L st P) (kf : ¬ x = y → G K (pc + 3) L st P) : G K pc L (.int y :: .int x :: st) P := fun H locs ls hP hL => lv_icmp_eq C.x C.b hd ht (fun q => kt q H locs ls hP hL) (fun q => kf q H locs ls hP hL)
theorem g_icmp_ne (C : Cb K cc own nL d) {x y : Int32} {off : Int} {tgt : Nat} (hd : decode cc pc = .ok (.if_icmp .ne off, 3)) (ht : (pc : Int) + off = (tgt : Int))
    (kt : ¬ x = y → G K tgt L st P) (kf : x = y → G K (pc + 3) L st P) : G K pc L (.int y :: .int x :: st) P := fun H locs ls hP hL => lv_icmp_ne C.x C.b hd ht (fun q => kt q H locs ls hP hL) (fun q => kf q H locs ls hP hL)
theorem g_icmp_lt (C : Cb K cc own nL d) {x y : Int32} {off : Int} {tgt : Nat} (hd : decode cc pc = .ok (.if_icmp .lt off, 3)) (ht : (pc : Int) + off = (tgt : Int))
    (kt : x < y → G K tgt L st P) (kf : ¬ x < y → G K (pc + 3) L st P) : G K pc L (.int y :: .int x :: st) P := fun H locs ls hP hL => lv_icmp_lt C.x C.b hd ht (fun q => kt q H locs ls hP hL) (fun q => kf q H locs ls hP hL)
theorem g_icmp_ge (C : Cb K cc own nL d) {x y : Int32} {off : Int} {tgt : Nat} (hd : decode cc pc = .ok (.if_icmp .ge off, 3)) (ht : (pc : Int) + off = (tgt : Int))
    (kt : y ≤ x → G K tgt L st P) (kf : ¬ y ≤ x → G K (pc + 3) L st P) : G K pc L (.int y :: .int x :: st) P := fun H locs ls hP hL => lv_icmp_ge C.x C.b hd ht (fun q => kt q H locs ls hP hL) (fun q => kf q H locs ls hP hL)
theorem g_icmp_gt (C : Cb K cc own nL d) {x y : Int32} {off : Int} {tgt : Nat} (hd : decode cc pc = .ok (.if_icmp .gt off, 3)) (ht : (pc : Int) + off = (tgt : Int))
    (kt : y < x → G K tgt L st P) (kf : ¬ y < x → G K (pc + 3) L st P) : G K pc L (.int y :: .int x :: st) P := fun H locs ls hP hL => lv_icmp_gt C.x C.b hd ht (fun q => kt q H locs ls hP hL) (fun q => kf q H locs ls hP hL)
theorem g_icmp_le (C : Cb K cc own nL d) {x y : Int32} {off : Int} {tgt : Nat} (hd : decode cc pc = .ok (.if_icmp .le off, 3)) (ht : (pc : Int) + off = (tgt : Int))
    (kt : x ≤ y → G K tgt L st P) (kf : ¬ x ≤ y → G K (pc + 3) L st P) : G K pc L (.int y :: .int x :: st) P := fun H locs ls hP hL => lv_icmp_le C.x C.b hd ht (fun q => kt q H locs ls hP hL) (fun q => kf q H locs ls hP hL)
theorem g_goto (C : Cb K cc own nL d) {off : Int} {tgt : Nat} (hd : decode cc pc = .ok (.goto off, 3)) (ht : (pc : Int) + off = (tgt : Int)) (k : G K tgt L st P) : G K pc L st P := fun H locs ls hP hL => lv_goto C.x C.b hd ht (k H locs ls hP hL)
theorem g_tableIn (C : Cb K cc own nL d) {dflt lo hi : Int} {offs : Array Int} {len : Nat} {x : Int32} {off : Int} {tgt : Nat} (hd : decode cc pc = .ok (.tableswitch dflt lo hi offs, len)) (h1 : ¬ x.toInt < lo) (h2 : ¬ hi < x.toInt) (ho : offs[(x.toInt - lo).toNat]? = some off) (ht : (pc : Int) + off = (tgt : Int))
    (k : G K tgt L st P) : G K pc L (.int x :: st) P := fun H locs ls hP hL => lv_tableIn C.x C.b hd h1 h2 ho ht (k H locs ls hP hL)
theorem g_tableOut (C : Cb K cc own nL d) {dflt lo hi : Int} {offs : Array Int} {len : Nat} {x : Int32} {tgt : Nat} (hd : decode cc pc = .ok (.tableswitch dflt lo hi offs, len)) (h : x.toInt < lo ∨ hi < x.toInt) (ht : (pc : Int) + dflt = (tgt : Int))
    (k : G K tgt L st P) : G K pc L (.int x :: st) P := fun H locs ls hP hL => lv_tableOut C.x C.b hd h ht (k H locs ls hP hL)
theorem g_lookup (C : Cb K cc own nL d) {dflt : Int} {ps : Array (Int × Int)} {len : Nat} {x : Int32} {off : Int} {tgt : Nat} (hd : decode cc pc = .ok (.lookupswitch dflt ps, len)) (hp : (ps.toList.zip (ps.toList.drop 1)).all (fun (a, next) => a.1 < next.1) = true) (ho : Op.lookupswitch.offset ps.toList dflt x.toInt = off) (ht : (pc : Int) + off = (tgt : Int))
    (k : G K tgt L st P) : G K pc L (.int x :: st) P := fun H locs ls hP hL => lv_lookup C.x C.b hd hp ho ht (k H locs ls hP hL)
theorem g_ldc (C : Cb K cc own nL d) {index : Nat} {v : Int32} (hw : Cond.constant own index v ∈ AL) (hd : decode cc pc = .ok (.ldc index, 2)) (k : G K (pc + 2) L (.int v :: st) P) : G K pc L st P := fun H locs ls hP hL => lv_ldc C.x C.b C.o (C.t hw) hd (k H locs ls hP hL)
theorem g_ldcw (C : Cb K cc own nL d) {index : Nat} {v : Int32} (hw : Cond.constant own index v ∈ AL) (hd : decode cc pc = .ok (.ldc_w index, 3)) (k : G K (pc + 3) L (.int v :: st) P) : G K pc L st P := fun H locs ls hP hL => lv_ldcw C.x C.b C.o (C.t hw) hd (k H locs ls hP hL)
theorem g_ldc2 (C : Cb K cc own nL d) {index : Nat} {v : Int64} (hw : Cond.constantLong own index v ∈ AL) (hd : decode cc pc = .ok (.ldc2_w index, 3)) (k : G K (pc + 3) L (.long v :: st) P) : G K pc L st P := fun H locs ls hP hL => lv_ldc2 C.x C.b C.o (C.t hw) hd (k H locs ls hP hL)
end GI
end
section
/-! ===== reads, writes, calls, returns over a world of shapes ===== -/
def Aof (ad : Nat → Nat) (N sz : Nat) : Nat → Prop := fun q => (∃ i, i < N ∧ q = ad i) ∨ sz ≤ q
def stL (l : List Int32) (j : Nat) : Int32 := l.getD j 0
def Ev (A : Nat → Prop) (U : State) : Prop := (∀ w ∈ NW, va_Nw w U) ∧
  (∃ t, va_Z "IceForCoast$Coins" "LEAST" "[I" (.ref t) A U U.heap ∧ va_T .int t 3 (fun j => .int (stL [1, 0, 0] j)) A U U.heap) ∧
  (∃ t, va_Z "IceForCoast$Coins" "MOST" "[I" (.ref t) A U U.heap ∧ va_T .int t 3 (fun j => .int (stL [9, 9, 99] j)) A U U.heap)
def Cx (K : KT) (Y : List Sh) (cc : ByteArray) (own : String) (nL d : Nat) (ret : Option FieldType) : Prop :=
  Cb K cc own nL d ∧ (kmeth K).sig.returnType = ret ∧ va_K (kD K) vwCl (tysOf (kcy K)) (ks K) ∧ (∀ i j, i < Y.length → j < Y.length → kad K i = kad K j → i = j) ∧ kA K = Aof (kad K) Y.length (ks K).heap.size ∧ Ev (kA K) (ks K)
def Wd (K : KT) (Y : List Sh) (σ : Sg) : Heap → List Loc → Prop := fun H locs => va_P (kD K) vwCl (wd (kcy K) (kad K) σ 0 Y) H ∧ va_S (kA K) (ks K).heap H locs
section GC
variable {K : KT} {Y : List Sh} {cc : ByteArray} {own : String} {nL d : Nat} {ret : Option FieldType}
theorem Cx.c (C : Cx K Y cc own nL d ret) : Cb K cc own nL d := C.1
theorem Cx.r (C : Cx K Y cc own nL d ret) : (kmeth K).sig.returnType = ret := C.2.1
theorem Cx.k (C : Cx K Y cc own nL d ret) : va_K (kD K) vwCl (tysOf (kcy K)) (ks K) := C.2.2.1
theorem Cx.i (C : Cx K Y cc own nL d ret) : ∀ i j, i < Y.length → j < Y.length → kad K i = kad K j → i = j := C.2.2.2.1
theorem Cx.a (C : Cx K Y cc own nL d ret) : kA K = Aof (kad K) Y.length (ks K).heap.size := C.2.2.2.2.1
theorem Cx.e (C : Cx K Y cc own nL d ret) : Ev (kA K) (ks K) := C.2.2.2.2.2
theorem Cx.in (C : Cx K Y cc own nL d ret) : ∀ i, i < Y.length → kA K (kad K i) := fun i h => by rw [C.a]; exact Or.inl ⟨i, h, rfl⟩
theorem Cx.D (C : Cx K Y cc own nL d ret) (σ : Sg) : va_D (kA K) (wd (kcy K) (kad K) σ 0 Y) := wd_D C.i C.in
theorem Cx.nest (C : Cx K Y cc own nL d ret) {w : Cond} (h : w ∈ NW) (ho : w.onTables = true) : w.before (ka K) (ks K) = true := va_Nw.use ho (C.e.1 w h)
end GC
/-- a field, by its link or by the nest -/
def FL (own : String) (index : Nat) (C n d : String) : Prop := (Cond.fieldLink own index C n d ∈ AL) ∨ ∃ host, Cond.fieldLinkNest own index C n d host ∈ NW
section GH
variable {K : KT} {Y : List Sh} {cc : ByteArray} {own : String} {nL d : Nat} {ret : Option FieldType} {pc : Nat} {L : List (Option Value)} {st : List Value} {σ : Sg}
theorem g_get (C : Cx K Y cc own nL d ret) {o ci k index N : Nat} {C0 : String} {T : u_T} {sl : List (Nat × Nat)} {s : Nat × Nat} (hd : decode cc pc = .ok (.getfield index, 3)) (hY : Y[o]? = some (0, ci, sl)) (hs : sl[k]? = some s) (hc : vwCl[ci]? = some (C0, T, N)) (hk : k < N) (hl : FL own index (T k).1 (T k).2.1 (T k).2.2.1) (hin : ∀ w ∈ u_ws C0 T N, w ∈ AL)
    {v : Value} (hv : slotV (kad K) σ o k s = v) (kk : G K (pc + 3) L (v :: st) (Wd K Y σ)) : G K pc L (.ref (kad K o) :: st) (Wd K Y σ) := fun H locs ls hP hL => by
  subst hv
  have he : (wd (kcy K) (kad K) σ 0 Y)[o]? = some (kad K o, .inr (ci, slv (kad K) σ o 0 sl)) := wd_at hY
  have hv : (slv (kad K) σ o 0 sl)[k]? = some (slotV (kad K) σ o k s) := by rw [slv_get, hs, Nat.zero_add]; rfl
  rcases hl with hl | ⟨host, hl⟩
  · exact va_get C.c.x C.c.b C.c.fix.2.2.2.2 hin C.c.o C.k hP.1 o he hc k hk (C.c.t hl) (fun _ h => h) hv hd (kk H locs ls hP hL)
  · exact va_getN C.c.x C.c.b C.c.fix.2.2.2.2 hin C.c.o C.k hP.1 o he hc k hk (C.nest hl rfl) (fun _ h => h) hv hd (kk H locs ls hP hL)
theorem g_put0 (C : Cx K Y cc own nL d ret) {o ci k index N : Nat} {C0 : String} {T : u_T} {ty0 : Nat → FieldType} {sl : List (Nat × Nat)} {s : Nat × Nat} {v : Value} {σ' : Sg} (hd : decode cc pc = .ok (.putfield index, 3)) (hY : Y[o]? = some (0, ci, sl)) (hs : sl[k]? = some s) (hc : vwCl[ci]? = some (C0, T, N)) (hk : k < N) (hl : FL own index (T k).1 (T k).2.1 (T k).2.2.1) (hin : ∀ w ∈ u_ws C0 T N, w ∈ AL)
    (hty : ∀ k, k < N → parseFieldDescriptor (T k).2.2.1 = some (ty0 k)) (hnm : ∀ a, a < N → ∀ b, b < N → a ≠ b → (T a).2.1 ≠ (T b).2.1) (hfin : (T k).2.2.2 = false) (hn : narrow (ty0 k) v = v) (hf : fits (ty0 k) v = true)
    (h1 : ∀ q sh, q ≠ o → ent (kcy K) (kad K) σ' q sh = ent (kcy K) (kad K) σ q sh) (h2 : ∀ q t, q ≠ k → slotV (kad K) σ' o q t = slotV (kad K) σ o q t) (h3 : slotV (kad K) σ' o k s = v)
    (kk : G K (pc + 3) L st (Wd K Y σ')) : G K pc L (v :: .ref (kad K o) :: st) (Wd K Y σ) := fun H locs ls hP hL => by
  have he : (wd (kcy K) (kad K) σ 0 Y)[o]? = some (kad K o, .inr (ci, slv (kad K) σ o 0 sl)) := wd_at hY
  have hlen : k < (slv (kad K) σ o 0 sl).length := by rw [slv_len]; exact (List.getElem?_eq_some_iff.mp hs).1
  have hset : (slv (kad K) σ o 0 sl).set k v = slv (kad K) σ' o 0 sl := slv_set sl 0 k s hs (fun q t hq => h2 q t (by omega)) (by rw [Nat.zero_add]; exact h3)
  have hw : (wd (kcy K) (kad K) σ 0 Y).set o (kad K o, .inr (ci, (slv (kad K) σ o 0 sl).set k v)) = wd (kcy K) (kad K) σ' 0 Y := by
    have := wd_set (cys := kcy K) (ad := kad K) (σ := σ) (σ' := σ') (e := .inr (ci, slv (kad K) σ' o 0 sl)) Y 0 o _ hY (fun q t hq => h1 q t (by omega)) (by rw [Nat.zero_add]; rfl)
    rw [Nat.zero_add] at this
    rw [hset]
    exact this
  rcases hl with hl | ⟨host, hl⟩
  · exact va_put C.c.x C.c.b C.c.fix.2.2.2.2 hin ty0 hty hnm C.c.o C.k hP.1 (C.D σ) hP.2 o he hc k hk (C.c.t hl) (fun _ h => h) hfin (hty k hk) hn hf hlen hd (fun H1 locs1 q1 q2 q3 => kk H1 locs1 ls ⟨hw ▸ q1, q3⟩ hL)
  · exact va_putN C.c.x C.c.b C.c.fix.2.2.2.2 hin ty0 hty hnm C.c.o C.k hP.1 (C.D σ) hP.2 o he hc k hk (C.nest hl rfl) (fun _ h => h) hfin (hty k hk) hn hf hlen hd (fun H1 locs1 q1 q2 q3 => kk H1 locs1 ls ⟨hw ▸ q1, q3⟩ hL)
theorem slot_wI {ad : Nat → Nat} {o k : Nat} {v : Int32} {σ : Sg} (q : Nat) (t : Nat × Nat) (h : q ≠ k) : slotV ad (wI σ o k v) o q t = slotV ad σ o q t := by
  unfold slotV
  split
  · simp [rI, wI, h]
  · rfl
  · rfl
  · rfl
  · rfl
theorem slot_wJ {ad : Nat → Nat} {o k : Nat} {v : Int64} {σ : Sg} (q : Nat) (t : Nat × Nat) (h : q ≠ k) : slotV ad (wJ σ o k v) o q t = slotV ad σ o q t := by
  unfold slotV
  split
  · rfl
  · simp [rJ, wJ, h]
  · rfl
  · rfl
  · rfl
theorem slot_wR {ad : Nat → Nat} {o k v : Nat} {σ : Sg} (q : Nat) (t : Nat × Nat) (h : q ≠ k) : slotV ad (wR σ o k v) o q t = slotV ad σ o q t := by
  unfold slotV
  split
  · rfl
  · rfl
  · rfl
  · simp [rR, wR, h]
  · rfl
theorem g_putI (C : Cx K Y cc own nL d ret) {o ci k index N z : Nat} {C0 : String} {T : u_T} {ty0 : Nat → FieldType} {sl : List (Nat × Nat)} {v : Int32} (hd : decode cc pc = .ok (.putfield index, 3)) (hY : Y[o]? = some (0, ci, sl)) (hs : sl[k]? = some (0, z)) (hc : vwCl[ci]? = some (C0, T, N)) (hk : k < N) (hl : FL own index (T k).1 (T k).2.1 (T k).2.2.1) (hin : ∀ w ∈ u_ws C0 T N, w ∈ AL)
    (hty : ∀ k, k < N → parseFieldDescriptor (T k).2.2.1 = some (ty0 k)) (hnm : ∀ a, a < N → ∀ b, b < N → a ≠ b → (T a).2.1 ≠ (T b).2.1) (hfin : (T k).2.2.2 = false) (hn : narrow (ty0 k) (.int v) = .int v) (hf : fits (ty0 k) (.int v) = true)
    (kk : G K (pc + 3) L st (Wd K Y (wI σ o k v))) : G K pc L (.int v :: .ref (kad K o) :: st) (Wd K Y σ) :=
  g_put0 C hd hY hs hc hk hl hin hty hnm hfin hn hf (fun q sh h => ent_wI q sh h) (fun q t h => slot_wI q t h) (by simp [slotV, rI, wI]) kk
theorem g_putJ (C : Cx K Y cc own nL d ret) {o ci k index N z : Nat} {C0 : String} {T : u_T} {ty0 : Nat → FieldType} {sl : List (Nat × Nat)} {v : Int64} (hd : decode cc pc = .ok (.putfield index, 3)) (hY : Y[o]? = some (0, ci, sl)) (hs : sl[k]? = some (1, z)) (hc : vwCl[ci]? = some (C0, T, N)) (hk : k < N) (hl : FL own index (T k).1 (T k).2.1 (T k).2.2.1) (hin : ∀ w ∈ u_ws C0 T N, w ∈ AL)
    (hty : ∀ k, k < N → parseFieldDescriptor (T k).2.2.1 = some (ty0 k)) (hnm : ∀ a, a < N → ∀ b, b < N → a ≠ b → (T a).2.1 ≠ (T b).2.1) (hfin : (T k).2.2.2 = false) (hn : narrow (ty0 k) (.long v) = .long v) (hf : fits (ty0 k) (.long v) = true)
    (kk : G K (pc + 3) L st (Wd K Y (wJ σ o k v))) : G K pc L (.long v :: .ref (kad K o) :: st) (Wd K Y σ) :=
  g_put0 C hd hY hs hc hk hl hin hty hnm hfin hn hf (fun q sh h => ent_wJ q sh h) (fun q t h => slot_wJ q t h) (by simp [slotV, rJ, wJ]) kk
theorem g_putR (C : Cx K Y cc own nL d ret) {o ci k index N z v : Nat} {C0 : String} {T : u_T} {ty0 : Nat → FieldType} {sl : List (Nat × Nat)} (hd : decode cc pc = .ok (.putfield index, 3)) (hY : Y[o]? = some (0, ci, sl)) (hs : sl[k]? = some (3, z)) (hc : vwCl[ci]? = some (C0, T, N)) (hk : k < N) (hl : FL own index (T k).1 (T k).2.1 (T k).2.2.1) (hin : ∀ w ∈ u_ws C0 T N, w ∈ AL)
    (hty : ∀ k, k < N → parseFieldDescriptor (T k).2.2.1 = some (ty0 k)) (hnm : ∀ a, a < N → ∀ b, b < N → a ≠ b → (T a).2.1 ≠ (T b).2.1) (hfin : (T k).2.2.2 = false) (hn : ∀ a, narrow (ty0 k) (.ref a) = .ref a) (hf : ∀ a, fits (ty0 k) (.ref a) = true)
    (kk : G K (pc + 3) L st (Wd K Y (wR σ o k v))) : G K pc L (.ref (kad K v) :: .ref (kad K o) :: st) (Wd K Y σ) :=
  g_put0 C hd hY hs hc hk hl hin hty hnm hfin (hn _) (hf _) (fun q sh h => ent_wR q sh h) (fun q t h => slot_wR q t h) (by simp [slotV, rR, wR]) kk
theorem g_iald (C : Cx K Y cc own nL d ret) {o n : Nat} {z : List (Nat × Nat)} {i : Int32} (hd : decode cc pc = .ok (.iaload, 1)) (hY : Y[o]? = some (1, n, z)) (hi : inb i n = true)
    (kk : G K (pc + 1) L (.int (rI σ o i.toNatClampNeg) :: st) (Wd K Y σ)) : G K pc L (.int i :: .ref (kad K o) :: st) (Wd K Y σ) := fun H locs ls hP hL => by
  have he : (wd (kcy K) (kad K) σ 0 Y)[o]? = some (kad K o, .inl (kcy K 0, n, .inl (rI σ o))) := wd_at hY
  exact va_iald C.c.x C.c.b C.k hP.1 o 0 he rfl (inb_in hi) hd (kk H locs ls hP hL)
theorem g_zald (C : Cx K Y cc own nL d ret) {o n : Nat} {z : List (Nat × Nat)} {i : Int32} (hd : decode cc pc = .ok (.baload, 1)) (hY : Y[o]? = some (3, n, z)) (hi : inb i n = true)
    (kk : G K (pc + 1) L (.int (rI σ o i.toNatClampNeg) :: st) (Wd K Y σ)) : G K pc L (.int i :: .ref (kad K o) :: st) (Wd K Y σ) := fun H locs ls hP hL => by
  have he : (wd (kcy K) (kad K) σ 0 Y)[o]? = some (kad K o, .inl (kcy K 2, n, .inl (rI σ o))) := wd_at hY
  exact va_zald C.c.x C.c.b C.k hP.1 o 2 he rfl (inb_in hi) hd (kk H locs ls hP hL)
theorem g_lald (C : Cx K Y cc own nL d ret) {o n : Nat} {z : List (Nat × Nat)} {i : Int32} (hd : decode cc pc = .ok (.laload, 1)) (hY : Y[o]? = some (2, n, z)) (hi : inb i n = true)
    (kk : G K (pc + 1) L (.long (rJ σ o i.toNatClampNeg) :: st) (Wd K Y σ)) : G K pc L (.int i :: .ref (kad K o) :: st) (Wd K Y σ) := fun H locs ls hP hL => by
  have he : (wd (kcy K) (kad K) σ 0 Y)[o]? = some (kad K o, .inl (kcy K 1, n, .inr (.inl (rJ σ o)))) := wd_at hY
  exact va_lald C.c.x C.c.b C.k hP.1 o 1 he rfl (inb_in hi) hd (kk H locs ls hP hL)
theorem g_aald4 (C : Cx K Y cc own nL d ret) {o n b : Nat} {z : List (Nat × Nat)} {i : Int32} (hd : decode cc pc = .ok (.aaload, 1)) (hY : Y[o]? = some (4, n, z)) (hi : inb i n = true) (hb : o + (z.headD (0, 0)).1 = b) (hm : (z.headD (0, 0)).2 = n)
    (kk : G K (pc + 1) L (.ref (kad K (b + i.toNatClampNeg)) :: st) (Wd K Y σ)) : G K pc L (.int i :: .ref (kad K o) :: st) (Wd K Y σ) := fun H locs ls hP hL => by
  subst hb
  have he : (wd (kcy K) (kad K) σ 0 Y)[o]? = some (kad K o, .inl (kcy K 3, n, .inr (.inr (.inr (.inr (fun j => if j < (z.headD (0, 0)).2 then some (kad K (o + (z.headD (0, 0)).1 + j)) else none)))))) := wd_at hY
  obtain ⟨f, hf⟩ : ∃ f : Nat → Option Nat, f = (fun j => if j < (z.headD (0, 0)).2 then some (kad K (o + (z.headD (0, 0)).1 + j)) else none) := ⟨_, rfl⟩
  rw [← hf] at he
  have hv : f i.toNatClampNeg = some (kad K (o + (z.headD (0, 0)).1 + i.toNatClampNeg)) := by rw [hf]; exact if_pos (by rw [hm]; exact inb_lt hi)
  refine va_aldq C.c.x C.c.b C.k hP.1 o 3 he rfl (inb_in hi) hd ?_
  rw [hv]
  exact kk H locs ls hP hL
theorem g_aald5 (C : Cx K Y cc own nL d ret) {o n b : Nat} {z : List (Nat × Nat)} {i : Int32} (hd : decode cc pc = .ok (.aaload, 1)) (hY : Y[o]? = some (5, n, z)) (hi : inb i n = true) (hb : o + (z.headD (0, 0)).1 = b) (hm : (z.headD (0, 0)).2 = n)
    (kk : G K (pc + 1) L (.ref (kad K (b + i.toNatClampNeg)) :: st) (Wd K Y σ)) : G K pc L (.int i :: .ref (kad K o) :: st) (Wd K Y σ) := fun H locs ls hP hL => by
  subst hb
  have he : (wd (kcy K) (kad K) σ 0 Y)[o]? = some (kad K o, .inl (kcy K 4, n, .inr (.inr (.inr (.inr (fun j => if j < (z.headD (0, 0)).2 then some (kad K (o + (z.headD (0, 0)).1 + j)) else none)))))) := wd_at hY
  obtain ⟨f, hf⟩ : ∃ f : Nat → Option Nat, f = (fun j => if j < (z.headD (0, 0)).2 then some (kad K (o + (z.headD (0, 0)).1 + j)) else none) := ⟨_, rfl⟩
  rw [← hf] at he
  have hv : f i.toNatClampNeg = some (kad K (o + (z.headD (0, 0)).1 + i.toNatClampNeg)) := by rw [hf]; exact if_pos (by rw [hm]; exact inb_lt hi)
  have hin := inb_in hi
  have hlt : i.toNatClampNeg < n := inb_lt hi
  have ht : (tysOf (kcy K))[4]? = some (kcy K 4, FieldType.array .int) := rfl
  refine W.aald (v := va_rf (f i.toNatClampNeg)) (ty := .array .int) C.c.x C.c.b (hP.1 o _ he) ((C.k.2 4 _ ht).1 n (fun j => va_rf (f j))) rfl (fun q => by cases q) (by show ¬ (i < 0 ∨ (arrV _ _ _).slots.size ≤ _); rw [arrV_size]; exact hin) (by show (arrV _ _ _).slots[_]? = _; rw [arrV_read _ _ hlt]) rfl rfl hd ?_
  rw [hv]
  exact kk H locs ls hP hL
theorem rI_upd {σ : Sg} {o k : Nat} {v : Int32} : rI (wI σ o k v) o = upd (rI σ o) k v := by
  funext j
  by_cases h : j = k
  · subst h; simp [rI, wI, upd]
  · simp [rI, wI, upd, h]
theorem rJ_upd {σ : Sg} {o k : Nat} {v : Int64} : rJ (wJ σ o k v) o = vp_updL (rJ σ o) k v := by
  funext j
  by_cases h : j = k
  · subst h; simp [rJ, wJ, vp_updL]
  · simp [rJ, wJ, vp_updL, h]
theorem wd_put {cys : Nat → ClassId} {ad : Nat → Nat} {σ σ' : Sg} {e : va_E} {o : Nat} {sh : Sh} (hY : Y[o]? = some sh) (h1 : ∀ q sh, q ≠ o → ent cys ad σ' q sh = ent cys ad σ q sh) (h2 : ent cys ad σ' o sh = e) : (wd cys ad σ 0 Y).set o (ad o, e) = wd cys ad σ' 0 Y := by
  have := wd_set (cys := cys) (ad := ad) (σ := σ) (σ' := σ') (e := e) Y 0 o _ hY (fun q t hq => h1 q t (by omega)) (by rw [Nat.zero_add]; exact h2)
  rw [Nat.zero_add] at this
  exact this
theorem g_iast (C : Cx K Y cc own nL d ret) {o n : Nat} {z : List (Nat × Nat)} {i x : Int32} (hd : decode cc pc = .ok (.iastore, 1)) (hY : Y[o]? = some (1, n, z)) (hi : inb i n = true)
    (kk : G K (pc + 1) L st (Wd K Y (wI σ o i.toNatClampNeg x))) : G K pc L (.int x :: .int i :: .ref (kad K o) :: st) (Wd K Y σ) := fun H locs ls hP hL => by
  have he : (wd (kcy K) (kad K) σ 0 Y)[o]? = some (kad K o, .inl (kcy K 0, n, .inl (rI σ o))) := wd_at hY
  have hw := wd_put (cys := kcy K) (ad := kad K) (σ := σ) (σ' := wI σ o i.toNatClampNeg x) (e := .inl (kcy K 0, n, .inl (upd (rI σ o) i.toNatClampNeg x))) hY (fun q sh h => ent_wI q sh h) (by show Sum.inl (kcy K 0, n, Sum.inl (rI _ o)) = _; rw [rI_upd])
  exact va_iast C.c.x C.c.b C.k hP.1 (C.D σ) hP.2 o 0 he rfl (inb_in hi) hd (fun H1 locs1 q1 q2 q3 => kk H1 locs1 ls ⟨hw ▸ q1, q3⟩ hL)
theorem isB_v {x : Int32} (h : isB x = true) : vp_nar .boolean x = x := by
  unfold isB at h
  rw [Bool.or_eq_true, decide_eq_true_eq, decide_eq_true_eq] at h
  rcases h with rfl | rfl <;> rfl
theorem g_zast (C : Cx K Y cc own nL d ret) {o n : Nat} {z : List (Nat × Nat)} {i x : Int32} (hd : decode cc pc = .ok (.bastore, 1)) (hY : Y[o]? = some (3, n, z)) (hi : inb i n = true) (hx : isB x = true)
    (kk : G K (pc + 1) L st (Wd K Y (wI σ o i.toNatClampNeg x))) : G K pc L (.int x :: .int i :: .ref (kad K o) :: st) (Wd K Y σ) := fun H locs ls hP hL => by
  have he : (wd (kcy K) (kad K) σ 0 Y)[o]? = some (kad K o, .inl (kcy K 2, n, .inl (rI σ o))) := wd_at hY
  have hw := wd_put (cys := kcy K) (ad := kad K) (σ := σ) (σ' := wI σ o i.toNatClampNeg x) (e := .inl (kcy K 2, n, .inl (upd (rI σ o) i.toNatClampNeg (vp_nar .boolean x)))) hY (fun q sh h => ent_wI q sh h) (by show Sum.inl (kcy K 2, n, Sum.inl (rI _ o)) = _; rw [rI_upd, isB_v hx])
  exact va_zast C.c.x C.c.b C.k hP.1 (C.D σ) hP.2 o 2 he rfl (inb_in hi) hd (fun H1 locs1 q1 q2 q3 => kk H1 locs1 ls ⟨hw ▸ q1, q3⟩ hL)
theorem g_last (C : Cx K Y cc own nL d ret) {o n : Nat} {z : List (Nat × Nat)} {i : Int32} {x : Int64} (hd : decode cc pc = .ok (.lastore, 1)) (hY : Y[o]? = some (2, n, z)) (hi : inb i n = true)
    (kk : G K (pc + 1) L st (Wd K Y (wJ σ o i.toNatClampNeg x))) : G K pc L (.long x :: .int i :: .ref (kad K o) :: st) (Wd K Y σ) := fun H locs ls hP hL => by
  have he : (wd (kcy K) (kad K) σ 0 Y)[o]? = some (kad K o, .inl (kcy K 1, n, .inr (.inl (rJ σ o)))) := wd_at hY
  have hw := wd_put (cys := kcy K) (ad := kad K) (σ := σ) (σ' := wJ σ o i.toNatClampNeg x) (e := .inl (kcy K 1, n, .inr (.inl (vp_updL (rJ σ o) i.toNatClampNeg x)))) hY (fun q sh h => ent_wJ q sh h) (by show Sum.inl (kcy K 1, n, Sum.inr (Sum.inl (rJ _ o))) = _; rw [rJ_upd])
  exact va_last C.c.x C.c.b C.k hP.1 (C.D σ) hP.2 o 1 he rfl (inb_in hi) hd (fun H1 locs1 q1 q2 q3 => kk H1 locs1 ls ⟨hw ▸ q1, q3⟩ hL)
theorem g_alen1 (C : Cx K Y cc own nL d ret) {o n : Nat} {z : List (Nat × Nat)} {v : Int32} (hd : decode cc pc = .ok (.arraylength, 1)) (hY : Y[o]? = some (1, n, z)) (hv : Int32.ofNat n = v)
    (kk : G K (pc + 1) L (.int v :: st) (Wd K Y σ)) : G K pc L (.ref (kad K o) :: st) (Wd K Y σ) := fun H locs ls hP hL => by
  have he : (wd (kcy K) (kad K) σ 0 Y)[o]? = some (kad K o, .inl (kcy K 0, n, .inl (rI σ o))) := wd_at hY
  exact va_alen C.c.x C.c.b C.k hP.1 o 0 he rfl hv hd (kk H locs ls hP hL)
theorem g_alen4 (C : Cx K Y cc own nL d ret) {o n : Nat} {z : List (Nat × Nat)} {v : Int32} (hd : decode cc pc = .ok (.arraylength, 1)) (hY : Y[o]? = some (4, n, z)) (hv : Int32.ofNat n = v)
    (kk : G K (pc + 1) L (.int v :: st) (Wd K Y σ)) : G K pc L (.ref (kad K o) :: st) (Wd K Y σ) := fun H locs ls hP hL => by
  have he : (wd (kcy K) (kad K) σ 0 Y)[o]? = some (kad K o, .inl (kcy K 3, n, .inr (.inr (.inr (.inr (fun j => if j < (z.headD (0, 0)).2 then some (kad K (o + (z.headD (0, 0)).1 + j)) else none)))))) := wd_at hY
  exact va_alen C.c.x C.c.b C.k hP.1 o 3 he rfl hv hd (kk H locs ls hP hL)
/-- a copy of so many numbers is within both rows -/
def cpB (sp dp n : Int32) (n0 n1 : Nat) : Bool := decide (¬ sp < 0) && (decide (¬ dp < 0) && (decide (¬ n < 0) && (decide (sp.toNatClampNeg + n.toNatClampNeg ≤ n0) && decide (dp.toNatClampNeg + n.toNatClampNeg ≤ n1))))
theorem ent_cp {cys : Nat → ClassId} {ad : Nat → Nat} {σ : Sg} {a0 a1 sp dp n n1 : Nat} {z : List (Nat × Nat)} : ent cys ad (wC σ a0 sp a1 dp n) a1 (1, n1, z) = .inl (cys 0, n1, .inl (va_cpy (rI σ a0) (rI σ a1) sp dp n)) := by
  show Sum.inl (cys 0, n1, Sum.inl (rI (wC σ a0 sp a1 dp n) a1)) = _
  congr 4
  funext j
  by_cases h : dp ≤ j ∧ j < dp + n
  · simp [rI, wC, va_cpy, h]
  · simp [rI, wC, va_cpy, h]
theorem g_copy (C : Cx K Y cc own nL d ret) {index o0 o1 n0 n1 : Nat} {z0 z1 : List (Nat × Nat)} {sp dp n : Int32} (hd : decode cc pc = .ok (.invokestatic index, 3)) (hw1 : Cond.methodLink own index arraycopyName ∈ AL) (hw2 : Cond.native arraycopyName ∈ AL) (hw3 : Cond.static arraycopyName ∈ AL) (hw4 : Cond.initialized "java/lang/System" ∈ AL)
    (hLn : L.length = nL) (hr : (st.map fun v => v.category).sum ≤ 8) (hd1 : 1 ≤ d) (hY0 : Y[o0]? = some (1, n0, z0)) (hY1 : Y[o1]? = some (1, n1, z1)) (h : cpB sp dp n n0 n1 = true)
    (kk : G K (pc + 3) L st (Wd K Y (wC σ o0 sp.toNatClampNeg o1 dp.toNatClampNeg n.toNatClampNeg))) : G K pc L (.int n :: .int dp :: .ref (kad K o1) :: .int sp :: .ref (kad K o0) :: st) (Wd K Y σ) := fun H locs ls hP hL => by
  have he0 : (wd (kcy K) (kad K) σ 0 Y)[o0]? = some (kad K o0, .inl (kcy K 0, n0, .inl (rI σ o0))) := wd_at hY0
  have he1 : (wd (kcy K) (kad K) σ 0 Y)[o1]? = some (kad K o1, .inl (kcy K 0, n1, .inl (rI σ o1))) := wd_at hY1
  unfold cpB at h
  simp only [Bool.and_eq_true, decide_eq_true_eq] at h
  have hw := wd_put (cys := kcy K) (ad := kad K) (σ := σ) (σ' := wC σ o0 sp.toNatClampNeg o1 dp.toNatClampNeg n.toNatClampNeg) hY1 (fun q sh h => ent_wC q sh h) ent_cp
  have hf := C.c.2.2.2.2.2.2.1
  have hlo := C.c.2.2.2.2.2.2.2
  have hnf : nativeFrameWords "java/lang/System" "arraycopy" 5 + 11 ≤ 32 := by decide +kernel
  exact va_copyi C.c.x C.c.b (C.c.2.2.1.trans (hLn.symm.trans hL.1.symm)) C.c.o (C.c.t hw1) (C.c.t hw2) (C.c.t hw3) (C.c.t hw4) C.k hP.1 (C.D σ) hP.2 o0 o1 0 0 he0 he1 rfl rfl rfl h.1 h.2.1 h.2.2.1 h.2.2.2.1 h.2.2.2.2 (fun _ _ => rfl) (by omega) (by omega) hd (fun H1 locs1 q1 q2 q3 => kk H1 locs1 ls ⟨hw ▸ q1, q3⟩ hL)
theorem g_stat (C : Cx K Y cc own nL d ret) {index : Nat} {n : String} {l : List Int32} (hd : decode cc pc = .ok (.getstatic index, 3)) (hw : Cond.fieldLink own index "IceForCoast$Coins" n "[I" ∈ AL) (hE : ∃ t, va_Z "IceForCoast$Coins" n "[I" (.ref t) (kA K) (ks K) (ks K).heap ∧ va_T .int t 3 (fun j => .int (stL l j)) (kA K) (ks K) (ks K).heap)
    (kk : ∀ t, va_T .int t 3 (fun j => .int (stL l j)) (kA K) (ks K) (ks K).heap → G K (pc + 3) L (.ref t :: st) (Wd K Y σ)) : G K pc L st (Wd K Y σ) := fun H locs ls hP hL => by
  obtain ⟨t, hZ, hT⟩ := hE
  exact va_gets C.c.x C.c.b hZ hP.2 C.c.o (C.c.t hw) (fun _ h => h) hd (kk t hT H locs ls hP hL)
theorem g_tld (C : Cx K Y cc own nL d ret) {t : Nat} {l : List Int32} {i : Int32} (hT : va_T .int t 3 (fun j => .int (stL l j)) (kA K) (ks K) (ks K).heap) (hd : decode cc pc = .ok (.iaload, 1)) (hi : inb i 3 = true)
    (kk : G K (pc + 1) L (.int (stL l i.toNatClampNeg) :: st) (Wd K Y σ)) : G K pc L (.int i :: .ref t :: st) (Wd K Y σ) := fun H locs ls hP hL =>
  va_ti C.c.x C.c.b hT hP.2 (inb_in hi) rfl hd (kk H locs ls hP hL)
end GH
section GM
variable {K : KT} {cc : ByteArray} {own : String} {nL d : Nat} {pc : Nat} {L : List (Option Value)} {st : List Value} {P : Heap → List Loc → Prop}
def imax (x y : Int32) : Int32 := if x < y then y else x
def imin (x y : Int32) : Int32 := if y < x then y else x
def lmax (x y : Int64) : Int64 := if y < x then x else y
theorem g_max (C : Cb K cc own nL d) {index : Nat} {x y : Int32} (hd : decode cc pc = .ok (.invokestatic index, 3)) (hw1 : Cond.methodLink own index Lib.Math.max.name ∈ AL) (hw2 : Cond.static Lib.Math.max.name ∈ AL) (hw3 : Cond.initialized "java/lang/Math" ∈ AL) (hw4 : Cond.code Lib.Math.max.name Lib.Math.max.code 2 (some .int) ∈ AL) (hLn : L.length = nL) (hr : (st.map fun v => v.category).sum ≤ 8) (hd1 : 1 ≤ d)
    (k : G K (pc + 3) L (.int (imax x y) :: st) P) : G K pc L (.int y :: .int x :: st) P := fun H locs ls hP hL => by
  have hf := C.2.2.2.2.2.2.1
  have hlo := C.2.2.2.2.2.2.2
  exact va_mmax C.x C.b (C.2.2.1.trans (hLn.symm.trans hL.1.symm)) C.o (C.t hw1) (C.t hw2) (C.t hw3) (C.t hw4) (by omega) (by omega) (Nat.zero_le _) (Nat.zero_le _) hd (k H locs ls hP hL)
theorem g_min (C : Cb K cc own nL d) {index : Nat} {x y : Int32} (hd : decode cc pc = .ok (.invokestatic index, 3)) (hw1 : Cond.methodLink own index Lib.Math.min.name ∈ AL) (hw2 : Cond.static Lib.Math.min.name ∈ AL) (hw3 : Cond.initialized "java/lang/Math" ∈ AL) (hw4 : Cond.code Lib.Math.min.name Lib.Math.min.code 2 (some .int) ∈ AL) (hLn : L.length = nL) (hr : (st.map fun v => v.category).sum ≤ 8) (hd1 : 1 ≤ d)
    (k : G K (pc + 3) L (.int (imin x y) :: st) P) : G K pc L (.int y :: .int x :: st) P := fun H locs ls hP hL => by
  have hf := C.2.2.2.2.2.2.1
  have hlo := C.2.2.2.2.2.2.2
  exact va_mmin C.x C.b (C.2.2.1.trans (hLn.symm.trans hL.1.symm)) C.o (C.t hw1) (C.t hw2) (C.t hw3) (C.t hw4) (by omega) (by omega) (Nat.zero_le _) (Nat.zero_le _) hd (k H locs ls hP hL)
theorem g_lmax (C : Cb K cc own nL d) {index : Nat} {x y : Int64} (hd : decode cc pc = .ok (.invokestatic index, 3)) (hw1 : Cond.methodLink own index Lib.MathLoose.max_long.x ∈ AL) (hw2 : Cond.static Lib.MathLoose.max_long.x ∈ AL) (hw3 : Cond.initialized "java/lang/Math" ∈ AL) (hw4 : Cond.code Lib.MathLoose.max_long.x Lib.MathLoose.max_long.code 4 (some .long) ∈ AL) (hLn : L.length = nL) (hr : (st.map fun v => v.category).sum ≤ 8) (hd1 : 1 ≤ d)
    (k : G K (pc + 3) L (.long (lmax x y) :: st) P) : G K pc L (.long y :: .long x :: st) P := fun H locs ls hP hL => by
  have hf := C.2.2.2.2.2.2.1
  have hlo := C.2.2.2.2.2.2.2
  exact va_mmax_long C.x C.b (C.2.2.1.trans (hLn.symm.trans hL.1.symm)) C.o (C.t hw1) (C.t hw2) (C.t hw3) (C.t hw4) (by omega) (by omega) (Nat.zero_le _) (Nat.zero_le _) hd (k H locs ls hP hL)
def iabs (x : Int32) : Int32 := if 0 ≤ x then x else 0 - x
theorem g_abs (C : Cb K cc own nL d) {index : Nat} {x : Int32} (hd : decode cc pc = .ok (.invokestatic index, 3)) (hw1 : Cond.methodLink own index Lib.Math.abs.name ∈ AL) (hw2 : Cond.static Lib.Math.abs.name ∈ AL) (hw3 : Cond.initialized "java/lang/Math" ∈ AL) (hw4 : Cond.code Lib.Math.abs.name Lib.Math.abs.code 1 (some .int) ∈ AL) (hLn : L.length = nL) (hr : (st.map fun v => v.category).sum ≤ 8) (hd1 : 1 ≤ d)
    (k : G K (pc + 3) L (.int (iabs x) :: st) P) : G K pc L (.int x :: st) P := fun H locs ls hP hL => by
  have hf := C.2.2.2.2.2.2.1
  have hlo := C.2.2.2.2.2.2.2
  exact va_mabs C.x C.b (C.2.2.1.trans (hLn.symm.trans hL.1.symm)) C.o (C.t hw1) (C.t hw2) (C.t hw3) (C.t hw4) (by omega) (by omega) (Nat.zero_le _) (Nat.zero_le _) hd (k H locs ls hP hL)
end GM
/-! ===== contracts, calls, returns ===== -/
abbrev Ok : Type := Option Value → Sg → Prop
def QX (D : va_G) (cys : Nat → ClassId) (ad : Nat → Nat) (Y : List Sh) (A : Nat → Prop) (ok : Ok) : Array Value → State → Outcome → State → Prop := fun _ st oc t =>
  ∃ (v : Option Value) (σ' : Sg), oc = .returned v ∧ ok v σ' ∧ va_P D vwCl (wd cys ad σ' 0 Y) t.heap ∧ va_F A st t
def Bx (D : va_G) (cys : Nat → ClassId) (ad : Nat → Nat) (Y : List Sh) (σ : Sg) (U : State) : Prop :=
  va_P D vwCl (wd cys ad σ 0 Y) U.heap ∧ va_K D vwCl (tysOf cys) U ∧ (∀ i j, i < Y.length → j < Y.length → ad i = ad j → i = j)
def rmd (d : Nat) : Room := { frames := d, cells := 0, slots := 0, locals := 40 * d }
/-- a method's contract: from the world σ, with these arguments, it comes to an end that ok allows -/
def Ct (Y : List Sh) (y : MethodName) (cc : ByteArray) (nL : Nat) (ret : Option FieldType) (d : Nat) (vals : (Nat → Nat) → List Value) (σ : Sg) (ok : Ok) : Prop :=
  ∀ (l : Launch) (D : va_G) (cys : Nat → ClassId) (ad : Nat → Nat) (sz : Nat), Met l y (.code y cc nL ret :: AL) (rmd d) (va_Pc (vals ad) (fun U => U.heap.size = sz ∧ Bx D cys ad Y σ U ∧ Ev (Aof ad Y.length sz) U)) (QX D cys ad Y (Aof ad Y.length sz) ok) 0 0 (Aof ad Y.length sz)
def Rk (K : KT) (Y : List Sh) (ok : Ok) : Prop := kQ K = MQ (kb K) (QX (kD K) (kcy K) (kad K) Y (kA K) ok) (ka K) (ks K) 0 0 (kA K)
/-- the locals with which a method begins -/
def lsl : List Value → List (Option Value)
  | [] => []
  | .long x :: t => some (.long x) :: none :: lsl t
  | .double x :: t => some (.double x) :: none :: lsl t
  | v :: t => some v :: lsl t
def pad (L : List (Option Value)) (n : Nat) : List (Option Value) := L ++ List.replicate (n - L.length) none
theorem lsl_args : ∀ (vs : List Value) (k i : Nat) (v : Value), (lsl vs)[i]? = some (some v) → (k + i, v) ∈ lv_args k vs
  | [], k, i, v, h => by simp [lsl] at h
  | a :: t, k, i, v, h => by
    have one : ∀ (x : Value), lsl (x :: t) = some x :: lsl t → x.category = 1 → (lsl (x :: t))[i]? = some (some v) → (k + i, v) ∈ lv_args k (x :: t) := by
      intro x e hc h
      rw [e] at h
      unfold lv_args
      rw [if_neg (by omega)]
      cases i with
      | zero => simp at h; subst h; exact List.mem_cons_self
      | succ i =>
        rw [List.getElem?_cons_succ] at h
        have := lsl_args t (k + 1) i v h
        rw [show k + 1 + i = k + (i + 1) by omega] at this
        exact List.mem_cons_of_mem _ this
    have two : ∀ (x : Value), lsl (x :: t) = some x :: none :: lsl t → x.category = 2 → (lsl (x :: t))[i]? = some (some v) → (k + i, v) ∈ lv_args k (x :: t) := by
      intro x e hc h
      rw [e] at h
      unfold lv_args
      rw [if_pos hc]
      cases i with
      | zero => simp at h; subst h; exact List.mem_cons_self
      | succ i =>
        cases i with
        | zero => simp at h
        | succ i =>
          rw [List.getElem?_cons_succ, List.getElem?_cons_succ] at h
          have := lsl_args t (k + 2) i v h
          rw [show k + 2 + i = k + (i + 1 + 1) by omega] at this
          exact List.mem_cons_of_mem _ this
    cases a with
    | long x => exact two _ rfl rfl h
    | double x => exact two _ rfl rfl h
    | _ => exact one _ rfl rfl h
theorem lsl_sl : ∀ (vs : List Value), (lg_sl vs).length = (lsl vs).length
  | [] => rfl
  | a :: t => by
    have ih := lsl_sl t
    unfold lg_sl at ih ⊢
    rw [List.flatMap_cons, List.length_append, ih]
    cases a <;> simp [lsl, Value.category] <;> omega
theorem lx_entry (vs : List Value) {n : Nat} (h : (lsl vs).length ≤ n) : LX ((lg_sl vs ++ List.replicate (n - (lg_sl vs).length) Slot.unset).toArray) (pad (lsl vs) n) := by
  have hl := lv_entry vs (n := n) (by rw [lsl_sl]; exact h)
  refine ⟨?_, hl.2.1, fun i v hi => ?_⟩
  · rw [hl.1]
    simp [pad]
    omega
  · unfold pad at hi
    by_cases hlt : i < (lsl vs).length
    · rw [List.getElem?_append_left hlt] at hi
      have := lsl_args vs 0 i v hi
      rw [Nat.zero_add] at this
      exact hl.2.2 _ this
    · rw [List.getElem?_append_right (by omega)] at hi
      have := List.eq_of_mem_replicate (List.mem_of_getElem? hi)
      cases this
theorem ct_of {Y : List Sh} {y : MethodName} {cc : ByteArray} {nL d : Nat} {ret : Option FieldType} {vals : (Nat → Nat) → List Value} {σ : Sg} {ok : Ok} {L0 : (Nat → Nat) → List (Option Value)} (hy : plainName y.cls = true) (hn : ∀ ad, (lsl (vals ad)).length ≤ nL) (hL : ∀ ad, pad (lsl (vals ad)) nL = L0 ad)
    (body : ∀ K, Cx K Y cc y.cls nL d ret → Rk K Y ok → G K 0 (L0 (kad K)) [] (Wd K Y σ)) : Ct Y y cc nL ret d vals σ ok := by
  intro l D cys ad sz
  refine Met.ofW (cc := cc) (maxL := nL) (ret := ret) hy rfl ?_
  intro p e s m args below meth c s₁ B hml hv
  obtain ⟨rfl, hsz, ⟨hP, hK, hi⟩, hE⟩ := hv
  subst hsz
  have hts := atoms_spec (ws := .code y cc nL ret :: AL) B.pre
  have hown : s.vm.findClass y.cls = some m.cls := findClass_of_methodNamed B.named
  let K : KT := (p, l, e, rmd d, s, m, (vals ad).toArray, below, meth, c, D, cys, ad, Aof ad Y.length s.heap.size, MQ below (QX D cys ad Y (Aof ad Y.length s.heap.size) ok) (vals ad).toArray s 0 0 (Aof ad Y.length s.heap.size))
  have C : Cx K Y cc y.cls nL d ret := ⟨⟨B.exec, B.bytes, hml, hown, fun w hw => hts w (List.mem_cons_of_mem _ hw), B.notSynchronized, Nat.le_refl _, Nat.le_refl _⟩, B.returns, hK, hi, rfl, hE⟩
  have hG := body K C rfl
  rw [lg_entry_eq]
  have := hG s.heap [] _ ⟨hP, va_S.rf⟩ (hL ad ▸ lx_entry (vals ad) (hn ad))
  exact this
section GRet
variable {K : KT} {Y : List Sh} {cc : ByteArray} {own : String} {nL d : Nat} {ret : Option FieldType} {pc : Nat} {L : List (Option Value)} {σ : Sg} {ok : Ok}
theorem g_q (C : Cx K Y cc own nL d ret) {v : Option Value} {H : Heap} {locs : List Loc} (ho : ok v σ) (hP : Wd K Y σ H locs) (t : State) (ht : t.heap = H) : QX (kD K) (kcy K) (kad K) Y (kA K) ok (ka K) (ks K) (.returned v) t :=
  ⟨v, σ, rfl, ho, by rw [ht]; exact hP.1, hP.2.F ht⟩
theorem g_iret {ty : FieldType} (C : Cx K Y cc own nL d (some ty)) (hQ : Rk K Y ok) {v : Int32} (hd : decode cc pc = .ok (.ireturn, 1)) (hn : narrow ty (.int v) = .int v) (ho : ok (some (.int v)) σ) : G K pc L [.int v] (Wd K Y σ) := fun H locs ls hP hL => by
  show W _ _ _ _ _ _ _ _ _ _ _ _ _ _ (kQ K) _
  rw [hQ]
  exact W.zret C.c.x C.c.b C.r hn (fun t ht _ => g_q C ho hP t ht) hP.2.2.2 hd C.c.2.2.2.2.2.1
theorem g_lret (C : Cx K Y cc own nL d (some .long)) (hQ : Rk K Y ok) {v : Int64} (hd : decode cc pc = .ok (.lreturn, 1)) (ho : ok (some (.long v)) σ) : G K pc L [.long v] (Wd K Y σ) := fun H locs ls hP hL => by
  show W _ _ _ _ _ _ _ _ _ _ _ _ _ _ (kQ K) _
  rw [hQ]
  exact W.lret C.c.x C.c.b C.r (fun t ht _ => g_q C ho hP t ht) hP.2.2.2 hd C.c.2.2.2.2.2.1
theorem g_vret (C : Cx K Y cc own nL d none) (hQ : Rk K Y ok) (hd : decode cc pc = .ok (.return_, 1)) (ho : ok none σ) : G K pc L [] (Wd K Y σ) := fun H locs ls hP hL => by
  show W _ _ _ _ _ _ _ _ _ _ _ _ _ _ (kQ K) _
  rw [hQ]
  exact W.vret C.c.x C.c.b C.r (fun t ht _ => g_q C ho hP t ht) hP.2.2.2 hd C.c.2.2.2.2.2.1
end GRet
theorem Ev.moved {A B : Nat → Prop} {s U : State} (hW : s.WarmedH U.vm) (hk : ∀ a : Nat, a < s.heap.size → ¬ A a → U.heap[a]? = s.heap[a]?) (hAB : ∀ q, B q → A q) (h : Ev A s) : Ev B U := by
  obtain ⟨h1, ⟨t, h2, h3⟩, ⟨t', h4, h5⟩⟩ := h
  refine ⟨fun w hw => ?_, ⟨t, ((h2.kept hk).moved hW.alike).narrow hAB, ((h3.kept hk).moved hW.alike).narrow hAB⟩, ⟨t', ((h4.kept hk).moved hW.alike).narrow hAB, ((h5.kept hk).moved hW.alike).narrow hAB⟩⟩
  have hn := (List.mem_filter.mp hw).2
  have hz := h1 w hw
  cases w with
  | fieldLinkNest a i b n d h => exact va_Nw.warmF hW hz
  | methodLinkNest a i x h => exact va_Nw.warmM hW hz
  | _ => cases hn
theorem Ev.frame {A : Nat → Prop} {U : State} {g : JFrame} {mk : MethodId} {a : Array Value} (h : Ev A U) : Ev A (U.calling g mk a) := by
  obtain ⟨h1, ⟨t, h2, h3⟩, ⟨t', h4, h5⟩⟩ := h
  have al : U.vm.Alike (U.calling g mk a).vm := Vm.Alike.refl U.vm
  refine ⟨fun w hw => ?_, ⟨t, h2.moved al, h3.moved al⟩, ⟨t', h4.moved al, h5.moved al⟩⟩
  have hn := (List.mem_filter.mp hw).2
  have hz := h1 w hw
  cases w with
  | fieldLinkNest a i b n d h => exact va_Nw.same rfl rfl hz
  | methodLinkNest a i x h => exact va_Nw.same rfl rfl hz
  | _ => cases hn
theorem ct_blind {Y : List Sh} {vals : (Nat → Nat) → List Value} {σ : Sg} {D : va_G} {cys : Nat → ClassId} {ad : Nat → Nat} {sz : Nat} : FrameBlind (va_Pc (vals ad) (fun U => U.heap.size = sz ∧ Bx D cys ad Y σ U ∧ Ev (Aof ad Y.length sz) U)) :=
  fun a U g mk q => ⟨q.1, q.2.1, ⟨q.2.2.1.1, va_K.moved (u := U) (U := U.calling g mk a) (Vm.Alike.refl U.vm) q.2.2.1.2.1, q.2.2.1.2.2⟩, q.2.2.2.frame⟩

section GCall
variable {K : KT} {Y : List Sh} {cc : ByteArray} {own : String} {nL d : Nat} {ret : Option FieldType} {pc : Nat} {L : List (Option Value)} {st : List Value} {σ : Sg}
/-- what holds of the callee's start -/
theorem ct_pre (C : Cx K Y cc own nL d ret) {vals : (Nat → Nat) → List Value} {H : Heap} {locs : List Loc} (hP : Wd K Y σ H locs) (U : State) (hU : U.heap = H) (hW : (ks K).WarmedH U.vm) : (va_Pc (vals (kad K)) (fun U => U.heap.size = H.size ∧ Bx (kD K) (kcy K) (kad K) Y σ U ∧ Ev (Aof (kad K) Y.length H.size) U)) (vals (kad K)).toArray U := by
  refine ⟨rfl, by rw [hU], ⟨by rw [hU]; exact hP.1, va_K.moved hW.alike C.k, C.i⟩, C.e.moved hW (fun a h1 h2 => by rw [hU]; exact hP.2.2.1 a h1 h2) (fun q h => ?_)⟩
  rw [C.a]
  rcases h with h | h
  · exact Or.inl h
  · exact Or.inr (Nat.le_trans hP.2.1 h)
/-- behind a call -/
theorem ct_go (C : Cx K Y cc own nL d ret) {H : Heap} {locs : List Loc} {ls : Array Slot} {st rest : List Value} {a : Array Value} {ok : Ok} (hP : Wd K Y σ H locs) (hL : LX ls L)
    (hr : va_Run (kp K) (kl K) (ke K) (kR K) (ks K) (km K) (ka K) (kb K) (kmeth K) (kc K) H locs 0 0 0 0 (F0 (km K) pc ls st) rest (QX (kD K) (kcy K) (kad K) Y (Aof (kad K) Y.length H.size) ok a) (Aof (kad K) Y.length H.size))
    (kk : ∀ v σ', ok v σ' → G K (pc + 3) L (v.toList ++ rest) (Wd K Y σ')) : Wk K H locs (F0 (km K) pc ls st) := by
  have hsub : ∀ q, Aof (kad K) Y.length H.size q → kA K q := fun q h => by
    rw [C.a]
    rcases h with h | h
    · exact Or.inl h
    · exact Or.inr (Nat.le_trans hP.2.1 h)
  intro T hT X
  obtain ⟨v, st₀, t, T', L2, h0, X', hL2, e1, e2, ⟨v', σ', hv, hok, hw, hz, hk⟩, stp⟩ := hr T hT X
  cases hv
  rw [h0] at hz hk
  have hS : va_S (kA K) (ks K).heap T'.heap (locs ++ L2) := ⟨Nat.le_trans hP.2.1 (by rw [e1]; exact hz), fun q h1 h2 => by rw [e1, hk q (Nat.lt_of_lt_of_le h1 hP.2.1) (fun z => h2 (hsub q z))]; exact hP.2.2.1 q h1 h2, fun q hq => by
      rcases List.mem_append.mp hq with h | h
      · exact hP.2.2.2 q h
      · exact hsub _ (hL2 q h)⟩
  obtain ⟨t2, a1, b1⟩ := kk v σ' hok T'.heap (locs ++ L2) ls ⟨by rw [e1]; exact hw, hS⟩ hL T' rfl X'
  exact ⟨t2, stp t2 a1, b1⟩
/-- what a callee asks of the tables, and its room -/
def Cw (y : MethodName) (cc : ByteArray) (nL : Nat) (ret : Option FieldType) (n : Nat) : Prop := (Cond.code y cc nL ret ∈ AL) ∧ (Cond.initialized y.cls ∈ AL) ∧ (y.cls ≠ "java/lang/invoke/MethodHandle" ∧ y.cls ≠ "java/lang/invoke/VarHandle") ∧ (parseMethodDescriptor y.desc).map (fun d => d.parameters.length) = some n ∧ nL ≤ 21
theorem ct_in {y : MethodName} {cc : ByteArray} {nL : Nat} {ret : Option FieldType} (h : Cond.code y cc nL ret ∈ AL) : GoodIn AL (.code y cc nL ret :: AL) := fun w hw => by
  rcases List.mem_cons.mp hw with rfl | hw
  · exact AL_good h
  · exact AL_good hw
theorem g_callV (C : Cx K Y cc own nL d ret) {index ci o n d' nL' N : Nat} {y : MethodName} {cc' : ByteArray} {ret' : Option FieldType} {vals : (Nat → Nat) → List Value} {ok : Ok} {As rest : List Value} {T : u_T} {sl : List (Nat × Nat)} (hd : decode cc pc = .ok (.invokevirtual index, 3)) (hM : Ct Y y cc' nL' ret' d' vals σ ok) (hw : Cw y cc' nL' ret' n) (hl : (Cond.methodLink own index y ∈ AL) ∨ ∃ host, Cond.methodLinkNest own index y host ∈ NW) (hi : Cond.instanceMethod y ∈ AL) (hse : Cond.selects y.cls y y ∈ AL)
    (hv : vals (kad K) = .ref (kad K o) :: As) (hst : st = As.reverse ++ .ref (kad K o) :: rest) (hn : As.length = n) (hdd : d' + 1 ≤ d) (hLn : L.length = nL) (hY : Y[o]? = some (0, ci, sl)) (hc : vwCl[ci]? = some (y.cls, T, N)) (hr : (rest.map fun v => v.category).sum ≤ 8)
    (kk : ∀ v σ', ok v σ' → G K (pc + 3) L (v.toList ++ rest) (Wd K Y σ')) : G K pc L st (Wd K Y σ) := fun H locs ls hP hL => by
  have he : (wd (kcy K) (kad K) σ 0 Y)[o]? = some (kad K o, .inr (ci, slv (kad K) σ o 0 sl)) := wd_at hY
  have hf := C.c.2.2.2.2.2.2.1
  have hlo := C.c.2.2.2.2.2.2.2
  have hR : (rmd d').frames + 1 ≤ (kR K).frames ∧ 8 + (nL' + 11) + (rmd d').locals ≤ (kR K).locals := ⟨by show d' + 1 ≤ _; omega, by have := hw.2.2.2.2; show 8 + (nL' + 11) + 40 * d' ≤ _; omega⟩
  have hM' := hM (kl K) (kD K) (kcy K) (kad K) H.size
  have hpre : PreV (ks K) H y.cls (kad K o) (va_Pc (vals (kad K)) (fun U => U.heap.size = H.size ∧ Bx (kD K) (kcy K) (kad K) Y σ U ∧ Ev (Aof (kad K) Y.length H.size) U)) As := ⟨ct_blind, va_recv C.k hP.1 hc he, fun U hU hW => by rw [← hv]; exact ct_pre C hP U hU hW⟩
  have hz : ls.size = nL := hL.1.trans hLn
  rcases hl with hl | ⟨host, hl⟩
  · have cb : CallB (kR K) (ks K) (ka K) own index y cc' nL' ret' (.code y cc' nL' ret' :: AL) (rmd d') 0 0 n := callB_of n C.c.2.2.2.2.1 (ct_in hw.1) rfl rfl rfl (C.c.t hw.2.1) (C.c.t hl) ⟨hw.2.2.1.1, hw.2.2.1.2, hw.2.2.2.1⟩ hR
    exact ct_go C hP hL (va_runV (As := As) (rest := rest) C.c.fix hM' ⟨cb, C.c.t hi, C.c.t hse⟩ hpre rfl hn hz hst (lv_room hr) hd ⟨Nat.zero_le _, Nat.zero_le _⟩) kk
  · have cb : va_CN (kR K) (ks K) (ka K) own index y host cc' nL' ret' (.code y cc' nL' ret' :: AL) (rmd d') 0 0 n := va_cnB n C.c.2.2.2.2.1 (ct_in hw.1) rfl rfl rfl (C.e.1 _ hl) (C.c.t hw.2.1) ⟨hw.2.2.1.1, hw.2.2.1.2, hw.2.2.2.1⟩ hR
    exact ct_go C hP hL (va_runVN (As := As) (rest := rest) C.c.fix hM' ⟨cb, C.c.t hi, C.c.t hse⟩ hpre rfl hn hz hst (lv_room hr) hd ⟨Nat.zero_le _, Nat.zero_le _⟩) kk
theorem g_callS (C : Cx K Y cc own nL d ret) {index n d' nL' : Nat} {y : MethodName} {cc' : ByteArray} {ret' : Option FieldType} {vals : (Nat → Nat) → List Value} {ok : Ok} {As rest : List Value} (hd : decode cc pc = .ok (.invokestatic index, 3)) (hM : Ct Y y cc' nL' ret' d' vals σ ok) (hw : Cw y cc' nL' ret' n) (hl : (Cond.methodLink own index y ∈ AL) ∨ ∃ host, Cond.methodLinkNest own index y host ∈ NW) (hi : Cond.static y ∈ AL)
    (hv : vals (kad K) = As) (hst : st = As.reverse ++ rest) (hn : As.length = n) (hdd : d' + 1 ≤ d) (hLn : L.length = nL) (hr : (rest.map fun v => v.category).sum ≤ 8)
    (kk : ∀ v σ', ok v σ' → G K (pc + 3) L (v.toList ++ rest) (Wd K Y σ')) : G K pc L st (Wd K Y σ) := fun H locs ls hP hL => by
  have hf := C.c.2.2.2.2.2.2.1
  have hlo := C.c.2.2.2.2.2.2.2
  have hR : (rmd d').frames + 1 ≤ (kR K).frames ∧ 8 + (nL' + 11) + (rmd d').locals ≤ (kR K).locals := ⟨by show d' + 1 ≤ _; omega, by have := hw.2.2.2.2; show 8 + (nL' + 11) + 40 * d' ≤ _; omega⟩
  have hM' := hM (kl K) (kD K) (kcy K) (kad K) H.size
  have hpre : PreS (ks K) H (va_Pc (vals (kad K)) (fun U => U.heap.size = H.size ∧ Bx (kD K) (kcy K) (kad K) Y σ U ∧ Ev (Aof (kad K) Y.length H.size) U)) As := ⟨ct_blind, fun U hU hW => by rw [← hv]; exact ct_pre C hP U hU hW⟩
  have hz : ls.size = nL := hL.1.trans hLn
  rcases hl with hl | ⟨host, hl⟩
  · have cb : CallB (kR K) (ks K) (ka K) own index y cc' nL' ret' (.code y cc' nL' ret' :: AL) (rmd d') 0 0 n := callB_of n C.c.2.2.2.2.1 (ct_in hw.1) rfl rfl rfl (C.c.t hw.2.1) (C.c.t hl) ⟨hw.2.2.1.1, hw.2.2.1.2, hw.2.2.2.1⟩ hR
    exact ct_go C hP hL (va_runS (As := As) (rest := rest) C.c.fix hM' ⟨cb, C.c.t hi⟩ hpre rfl hn hz hst (lv_room hr) hd ⟨Nat.zero_le _, Nat.zero_le _⟩) kk
  · have cb : va_CN (kR K) (ks K) (ka K) own index y host cc' nL' ret' (.code y cc' nL' ret' :: AL) (rmd d') 0 0 n := va_cnB n C.c.2.2.2.2.1 (ct_in hw.1) rfl rfl rfl (C.e.1 _ hl) (C.c.t hw.2.1) ⟨hw.2.2.1.1, hw.2.2.1.2, hw.2.2.2.1⟩ hR
    exact ct_go C hP hL (va_runSN (As := As) (rest := rest) C.c.fix hM' ⟨cb, C.c.t hi, trivial⟩ hpre rfl hn hz hst (lv_room hr) hd ⟨Nat.zero_le _, Nat.zero_le _⟩) kk
end GCall
end
section
/-! ===== small things for the printed functions ===== -/
def okI (p : Int32 × Sg) : Ok := fun v τ => v = some (.int p.1) ∧ τ = p.2
def okJ (p : Int64 × Sg) : Ok := fun v τ => v = some (.long p.1) ∧ τ = p.2
def okV (p : Sg) : Ok := fun v τ => v = none ∧ τ = p
/-- how deep the one recursion may go -/
abbrev FD : Nat := 12
def el {A B C : Type} (f : A → C) (g : B → C) : A ⊕ B → C
  | .inl a => f a
  | .inr b => g b
theorem el_l {A B C : Type} {f : A → C} {g : B → C} {a : A} {o : C} (h : el f g (.inl a) = o) : f a = o := h
theorem el_r {A B C : Type} {f : A → C} {g : B → C} {b : B} {o : C} (h : el f g (.inr b) = o) : g b = o := h
theorem lp_bind {S T R : Type} {f : S → Option (S ⊕ T)} {Gh : S → Prop} {k : T → Option R} {o : R} {n : Nat} {s : S} (h : Option.bind (lp f n s) k = some o) (hb : ∀ s o2, f s = some o2 → (∀ s', o2 = .inl s' → Gh s') → (∀ t, o2 = .inr t → k t = some o) → Gh s) : Gh s := by
  obtain ⟨t, e, h⟩ := Option.bind_eq_some_iff.mp h
  exact lp_ind (KK := fun t => k t = some o) hb n s t e h
theorem chk0 {c : Prop} {i : Decidable c} {α : Type} {x : Option α} {o : α} (h : (@ite _ c i none x) = some o) : ¬ c ∧ x = some o := by
  by_cases q : c
  · rw [if_pos q] at h; cases h
  · rw [if_neg q] at h; exact ⟨q, h⟩
def allNe (x : Int32) : List Int32 → Prop
  | [] => True
  | v :: t => ¬ x = v ∧ allNe x t
theorem allNe_at {x : Int32} : ∀ (l : List Int32) (i : Nat), allNe x l → i < l.length → ¬ x = l.getD i 0
  | [], _, _, h => by simp at h
  | v :: t, 0, h, _ => by simpa using h.1
  | v :: t, i + 1, h, hi => by
    have := allNe_at t i h.2 (by simpa using hi)
    simpa using this
def tblOk (lo hi : Int) (ks : List Int32) : Bool := (List.range ks.length).all (fun i => decide ((ks.getD i 0).toInt = lo + (i : Int))) && decide (hi + 1 = lo + (ks.length : Int))
theorem tbl_out {x : Int32} {lo hi : Int} {ks : List Int32} (hk : tblOk lo hi ks = true) (hne : allNe x ks) : x.toInt < lo ∨ hi < x.toInt := by
  unfold tblOk at hk
  rw [Bool.and_eq_true, List.all_eq_true, decide_eq_true_eq] at hk
  rcases Int.lt_or_le x.toInt lo with h | h
  · exact Or.inl h
  · rcases Int.lt_or_le hi x.toInt with h2 | h2
    · exact Or.inr h2
    · exfalso
      have h3 : (x.toInt - lo).toNat < ks.length := by omega
      have h4 := of_decide_eq_true (hk.1 _ (List.mem_range.mpr h3))
      exact allNe_at ks _ hne h3 (Int32.toInt_inj.mp (by rw [h4]; omega))
section GSw
variable {K : KT} {cc : ByteArray} {own : String} {nL d : Nat} {pc : Nat} {L : List (Option Value)} {st : List Value} {P : Heap → List Loc → Prop}
theorem g_tblIn (C : Cb K cc own nL d) {dflt lo hi off : Int} {offs : Array Int} {len tgt : Nat} {x v : Int32} (hx : x = v) (hd : decode cc pc = .ok (.tableswitch dflt lo hi offs, len)) (h1 : ¬ v.toInt < lo) (h2 : ¬ hi < v.toInt) (ho : offs[(v.toInt - lo).toNat]? = some off) (ht : (pc : Int) + off = (tgt : Int)) (k : G K tgt L st P) : G K pc L (.int x :: st) P := by
  subst hx
  exact g_tableIn C hd h1 h2 ho ht k
theorem g_tblOut (C : Cb K cc own nL d) {dflt lo hi : Int} {offs : Array Int} {len tgt : Nat} {x : Int32} (ks : List Int32) (hk : tblOk lo hi ks = true) (hne : allNe x ks) (hd : decode cc pc = .ok (.tableswitch dflt lo hi offs, len)) (ht : (pc : Int) + dflt = (tgt : Int)) (k : G K tgt L st P) : G K pc L (.int x :: st) P :=
  g_tableOut C hd (tbl_out hk hne) ht k
theorem g_lkIn (C : Cb K cc own nL d) {dflt off : Int} {ps : Array (Int × Int)} {len tgt : Nat} {x v : Int32} (hx : x = v) (hd : decode cc pc = .ok (.lookupswitch dflt ps, len)) (hp : (ps.toList.zip (ps.toList.drop 1)).all (fun (a, next) => a.1 < next.1) = true) (ho : Op.lookupswitch.offset ps.toList dflt v.toInt = off) (ht : (pc : Int) + off = (tgt : Int)) (k : G K tgt L st P) : G K pc L (.int x :: st) P := by
  subst hx
  exact g_lookup C hd hp ho ht k
theorem lk_out {x : Int32} {d : Int} : ∀ (r : List (Int × Int)) (ks : List Int32), r.map Prod.fst = ks.map Int32.toInt → allNe x ks → Op.lookupswitch.offset r d x.toInt = d
  | [], _, _, _ => rfl
  | (a, o) :: r, [], h, _ => by simp at h
  | (a, o) :: r, k :: ks, h, hne => by
    simp only [List.map_cons, List.cons.injEq] at h
    rw [lv_osw hne.1 h.1.symm]
    exact lk_out r ks h.2 hne.2
theorem g_lkOut (C : Cb K cc own nL d) {dflt : Int} {ps : Array (Int × Int)} {len tgt : Nat} {x : Int32} (ks : List Int32) (hk : ps.toList.map Prod.fst = ks.map Int32.toInt) (hne : allNe x ks) (hd : decode cc pc = .ok (.lookupswitch dflt ps, len)) (hp : (ps.toList.zip (ps.toList.drop 1)).all (fun (a, next) => a.1 < next.1) = true) (ht : (pc : Int) + dflt = (tgt : Int)) (k : G K tgt L st P) : G K pc L (.int x :: st) P :=
  g_lookup C hd hp (lk_out _ ks hk hne) ht k
end GSw

abbrev slX0 : List (Nat × Nat) := [(0, 0), (0, 0), (0, 0), (0, 0), (0, 0), (0, 0)]
abbrev slX1 : List (Nat × Nat) := [(2, 1)]
abbrev slX2 : List (Nat × Nat) := [(2, 1), (2, 2), (2, 3), (0, 0), (0, 0), (0, 0)]
abbrev slX3 : List (Nat × Nat) := [(2, 1), (2, 7), (2, 8), (2, 9)]
abbrev slX4 : List (Nat × Nat) := [(2, 1), (2, 2), (2, 3), (0, 0)]
abbrev slX5 : List (Nat × Nat) := [(2, 1), (1, 0), (1, 0), (0, 0)]
abbrev slX6 : List (Nat × Nat) := [(2, 1), (0, 0), (0, 0), (0, 0), (0, 0), (0, 0), (0, 0)]
abbrev slX7 : List (Nat × Nat) := [(2, 1), (2, 2), (2, 3), (2, 4), (2, 5), (0, 0), (0, 0), (0, 0)]
abbrev slX8 : List (Nat × Nat) := [(2, 1), (2, 37), (2, 39), (2, 40), (2, 41), (2, 42), (2, 43), (3, 0), (0, 0), (0, 0), (0, 0), (0, 0), (0, 0), (0, 0), (0, 0), (0, 0), (1, 0)]
abbrev slX9 : List (Nat × Nat) := [(2, 1), (2, 3), (2, 4), (2, 40), (2, 48), (2, 49), (2, 53), (2, 58), (2, 74), (0, 0), (0, 0), (0, 0)]
abbrev layC : List Sh := [(0, 9, slX9), (0, 6, slX6), (1, 64, []), (0, 8, slX8), (0, 7, slX7), (1, 30, []), (1, 30, []), (1, 30, []), (1, 30, []), (5, 30, [(1, 30)]), (1, 4, []), (1, 4, []), (1, 4, []), (1, 4, []), (1, 4, []), (1, 4, []), (1, 4, []), (1, 4, []), (1, 4, []), (1, 4, []), (1, 4, []), (1, 4, []), (1, 4, []), (1, 4, []), (1, 4, []), (1, 4, []), (1, 4, []), (1, 4, []), (1, 4, []), (1, 4, []), (1, 4, []), (1, 4, []), (1, 4, []), (1, 4, []), (1, 4, []), (1, 4, []), (1, 4, []), (1, 4, []), (1, 4, []), (1, 4, []), (0, 1, slX1), (1, 3, []), (1, 10, []), (1, 10, []), (1, 10, []), (1, 9, []), (1, 9, []), (0, 0, slX0), (4, 5, [(28, 5)]), (0, 4, slX4), (1, 10, []), (1, 10, []), (1, 10, []), (0, 2, slX2), (1, 5, []), (1, 5, []), (0, 1, slX1), (1, 3, []), (0, 3, slX3), (5, 5, [(1, 5)]), (1, 24, []), (1, 24, []), (1, 24, []), (1, 24, []), (1, 24, []), (3, 5, []), (3, 5, []), (5, 6, [(1, 6)]), (1, 12, []), (1, 12, []), (1, 12, []), (1, 12, []), (1, 12, []), (1, 12, []), (0, 5, slX5), (2, 1000, []), (0, 0, slX0), (0, 0, slX0), (0, 0, slX0), (0, 0, slX0), (0, 0, slX0)]
theorem rng {n : Nat} {f : Nat → Bool} (h : (List.range n).all f = true) {j : Nat} (hj : j < n) : f j = true := List.all_eq_true.mp h j (List.mem_range.mpr hj)
theorem rw_9 {j : Nat} (h : j < 30) : layC[10 + j]? = some (1, 4, []) := of_decide_eq_true (rng (f := fun j => decide (layC[10 + j]? = some (1, 4, []))) (by decide +kernel) h)
theorem rw_59 {j : Nat} (h : j < 5) : layC[60 + j]? = some (1, 24, []) := of_decide_eq_true (rng (f := fun j => decide (layC[60 + j]? = some (1, 24, []))) (by decide +kernel) h)
theorem rw_67 {j : Nat} (h : j < 6) : layC[68 + j]? = some (1, 12, []) := of_decide_eq_true (rng (f := fun j => decide (layC[68 + j]? = some (1, 12, []))) (by decide +kernel) h)
theorem rw_48 {j : Nat} (h : j < 5) : layC[76 + j]? = some (0, 0, slX0) := of_decide_eq_true (rng (f := fun j => decide (layC[76 + j]? = some (0, 0, slX0))) (by decide +kernel) h)
theorem lay_lt {Y : List Sh} {o : Nat} {s : Sh} (h : Y[o]? = some s) : o < Y.length := (List.getElem?_eq_some_iff.mp h).1
theorem cn_val {o : Nat} (h : layC[o]? = some (0, 1, slX1)) : layC[o + 1]? = some (1, 3, []) := by
  have h1 := rng (n := 81) (f := fun o => decide (layC[o]? = some (0, 1, slX1)) == false || decide (layC[o + 1]? = some (1, 3, []))) (by decide +kernel) (lay_lt h)
  have h2 : decide (layC[o]? = some (0, 1, slX1)) = true := decide_eq_true h
  rw [h2] at h1
  exact of_decide_eq_true (by simpa using h1)
end
section
/-! ===== constructors: worlds that grow ===== -/
def σz : Sg := (fun _ _ => 0, fun _ _ => 0, fun _ _ => 0)
def dfl : List (Nat × Nat) → List Value
  | [] => []
  | (0, _) :: t => .int 0 :: dfl t
  | (1, _) :: t => .long 0 :: dfl t
  | _ :: t => .null :: dfl t
def bare : List (Nat × Nat) → Bool
  | [] => true
  | s :: t => (s.1 == 0 || s.1 == 1 || s.1 == 4) && bare t
def Zb (σ : Sg) (N : Nat) : Prop := ∀ o k, N ≤ o → rI σ o k = 0 ∧ rJ σ o k = 0
theorem slv_dfl {ad : Nat → Nat} {σ : Sg} {i : Nat} (h : ∀ k, rI σ i k = 0 ∧ rJ σ i k = 0) : ∀ (l : List (Nat × Nat)) (k0 : Nat), bare l = true → slv ad σ i k0 l = dfl l
  | [], _, _ => rfl
  | (a, b) :: t, k0, hb => by
    simp only [bare, Bool.and_eq_true] at hb
    have ih := slv_dfl (ad := ad) h t (k0 + 1) hb.2
    simp only [slv, ih]
    match a, hb.1 with
    | 0, _ => simp [slotV, dfl, (h k0).1]
    | 1, _ => simp [slotV, dfl, (h k0).2]
    | 4, _ => simp [slotV, dfl]
    | 2, h2 => simp at h2
    | 3, h2 => simp at h2
    | n + 5, h2 => simp at h2
/-- all that the cell i refers to is below N -/
def slc (σ : Sg) (N i : Nat) : Nat → List (Nat × Nat) → Prop
  | _, [] => True
  | k, s :: t => (s.1 = 2 → i + s.2 < N) ∧ (s.1 = 3 → rR σ i k < N) ∧ slc σ N i (k + 1) t
def shc (σ : Sg) (N i : Nat) (sh : Sh) : Prop := (sh.1 = 0 → slc σ N i 0 sh.2.2) ∧ (sh.1 ≠ 0 → ∀ j, j < rowM sh → i + rowB sh + j < N)
def Cl (σ : Sg) (Y : List Sh) : Prop := ∀ i sh, Y[i]? = some sh → shc σ Y.length i sh
theorem slc_mono {σ : Sg} {N M i : Nat} (h : N ≤ M) : ∀ (l : List (Nat × Nat)) (k : Nat), slc σ N i k l → slc σ M i k l
  | [], _, _ => trivial
  | s :: t, k, q => ⟨fun e => Nat.lt_of_lt_of_le (q.1 e) h, fun e => Nat.lt_of_lt_of_le (q.2.1 e) h, slc_mono h t (k + 1) q.2.2⟩
theorem shc_mono {σ : Sg} {N M i : Nat} {sh : Sh} (h : N ≤ M) (q : shc σ N i sh) : shc σ M i sh := ⟨fun e => slc_mono h _ _ (q.1 e), fun e j hj => Nat.lt_of_lt_of_le (q.2 e j hj) h⟩
theorem slc_R {σ σ' : Sg} {N i : Nat} (h : ∀ k, rR σ' i k = rR σ i k) : ∀ (l : List (Nat × Nat)) (k : Nat), slc σ N i k l → slc σ' N i k l
  | [], _, _ => trivial
  | s :: t, k, q => ⟨q.1, fun e => by rw [h]; exact q.2.1 e, slc_R h t (k + 1) q.2.2⟩
theorem shc_R {σ σ' : Sg} {N i : Nat} {sh : Sh} (h : ∀ k, rR σ' i k = rR σ i k) (q : shc σ N i sh) : shc σ' N i sh := ⟨fun e => slc_R h _ _ (q.1 e), q.2⟩
theorem slc_bare {σ : Sg} {N i : Nat} : ∀ (l : List (Nat × Nat)) (k : Nat), bare l = true → slc σ N i k l
  | [], _, _ => trivial
  | s :: t, k, h => by
    simp only [bare, Bool.and_eq_true, Bool.or_eq_true, beq_iff_eq] at h
    exact ⟨fun e => by omega, fun e => by omega, slc_bare t (k + 1) h.2⟩
theorem slv_shift {ad ad' : Nat → Nat} {σ σ' : Sg} {n N i : Nat} (ha : ∀ j, j < N → ad' (n + j) = ad j) (h1 : rI σ' (n + i) = rI σ i) (h2 : rJ σ' (n + i) = rJ σ i) (h3 : ∀ k, rR σ' (n + i) k = n + rR σ i k) : ∀ (l : List (Nat × Nat)) (k : Nat), slc σ N i k l → slv ad' σ' (n + i) k l = slv ad σ i k l
  | [], _, _ => rfl
  | (a, b) :: t, k, q => by
    simp only [slv]
    rw [slv_shift ha h1 h2 h3 t (k + 1) q.2.2]
    congr 1
    unfold slotV
    split
    · rw [h1]
    · rw [h2]
    next e => rw [Nat.add_assoc, ha _ (q.1 e)]
    next e => rw [h3, ha _ (q.2.1 e)]
    · rfl
theorem ent_shift {cys : Nat → ClassId} {ad ad' : Nat → Nat} {σ σ' : Sg} {n N i : Nat} {sh : Sh} (hc : shc σ N i sh) (ha : ∀ j, j < N → ad' (n + j) = ad j) (h1 : rI σ' (n + i) = rI σ i) (h2 : rJ σ' (n + i) = rJ σ i) (h3 : ∀ k, rR σ' (n + i) k = n + rR σ i k) : ent cys ad' σ' (n + i) sh = ent cys ad σ i sh := by
  have rows : sh.1 ≠ 0 → (fun j => if j < rowM sh then some (ad' (n + i + rowB sh + j)) else none) = (fun j => if j < rowM sh then some (ad (i + rowB sh + j)) else none) := by
    intro hne
    funext j
    by_cases hj : j < rowM sh
    · rw [if_pos hj, if_pos hj, ← ha _ (hc.2 hne j hj)]
      congr 2
      omega
    · rw [if_neg hj, if_neg hj]
  unfold ent
  split
  next e => rw [slv_shift ha h1 h2 h3 _ _ (hc.1 e)]
  · rw [h1]
  · rw [h2]
  · rw [h1]
  next e => rw [rows (by rw [e]; decide)]
  next e1 e2 e3 e4 e5 => rw [rows e1]
theorem wd_shift {cys : Nat → ClassId} {ad ad' : Nat → Nat} {σ σ' : Sg} {n N : Nat} (ha : ∀ j, j < N → ad' (n + j) = ad j) : ∀ (Y : List Sh) (i0 : Nat), (∀ i sh, Y[i]? = some sh → i0 + i < N ∧ shc σ N (i0 + i) sh ∧ rI σ' (n + (i0 + i)) = rI σ (i0 + i) ∧ rJ σ' (n + (i0 + i)) = rJ σ (i0 + i) ∧ ∀ k, rR σ' (n + (i0 + i)) k = n + rR σ (i0 + i) k) → wd cys ad' σ' (n + i0) Y = wd cys ad σ i0 Y
  | [], _, _ => rfl
  | sh :: t, i0, h => by
    simp only [wd]
    obtain ⟨h0, h1, h2, h3, h4⟩ := h 0 sh rfl
    rw [Nat.add_zero] at h0 h1 h2 h3 h4
    rw [ha i0 h0, ent_shift h1 ha h2 h3 h4, Nat.add_assoc, wd_shift ha t (i0 + 1) (fun i s hs => by
      have := h (i + 1) s hs
      rw [show i0 + (i + 1) = i0 + 1 + i by omega] at this
      exact this)]
theorem wd_app {cys : Nat → ClassId} {ad : Nat → Nat} {σ : Sg} : ∀ (Y1 Y2 : List Sh) (i0 : Nat), wd cys ad σ i0 (Y1 ++ Y2) = wd cys ad σ i0 Y1 ++ wd cys ad σ (i0 + Y1.length) Y2
  | [], Y2, i0 => rfl
  | s :: t, Y2, i0 => by
    simp only [wd, List.cons_append, List.length_cons]
    rw [wd_app t Y2 (i0 + 1), show i0 + 1 + t.length = i0 + (t.length + 1) by omega]
/-- the same world under addresses that agree where they are asked -/
theorem wd_same {cys : Nat → ClassId} {ad ad' : Nat → Nat} {σ σ' : Sg} {Y : List Sh} (hc : Cl σ Y) (ha : ∀ j, j < Y.length → ad' j = ad j) (hs : ∀ i, i < Y.length → rI σ' i = rI σ i ∧ rJ σ' i = rJ σ i ∧ ∀ k, rR σ' i k = rR σ i k) : wd cys ad' σ' 0 Y = wd cys ad σ 0 Y := by
  have := wd_shift (cys := cys) (ad := ad) (ad' := ad') (σ := σ) (σ' := σ') (n := 0) (N := Y.length) (fun j hj => by rw [Nat.zero_add]; exact ha j hj) Y 0 (fun i sh h => by
    have hl : i < Y.length := (List.getElem?_eq_some_iff.mp h).1
    rw [Nat.zero_add, Nat.zero_add]
    obtain ⟨h1, h2, h3⟩ := hs i hl
    exact ⟨hl, hc i sh h, h1, h2, fun k => by rw [h3, Nat.zero_add]⟩)
  exact this
theorem wd_setY {cys : Nat → ClassId} {ad : Nat → Nat} {σ : Sg} {sh : Sh} : ∀ (Y : List Sh) (i0 o : Nat), (wd cys ad σ i0 Y).set o (ad (i0 + o), ent cys ad σ (i0 + o) sh) = wd cys ad σ i0 (Y.set o sh)
  | [], _, _ => rfl
  | s :: t, i0, 0 => rfl
  | s :: t, i0, o + 1 => by
    simp only [wd, List.set_cons_succ]
    rw [show i0 + (o + 1) = i0 + 1 + o by omega, wd_setY t (i0 + 1) o]
theorem slv_setS {ad : Nat → Nat} {σ : Sg} {i : Nat} {s : Nat × Nat} : ∀ (l : List (Nat × Nat)) (k0 k : Nat), (slv ad σ i k0 l).set k (slotV ad σ i (k0 + k) s) = slv ad σ i k0 (l.set k s)
  | [], _, _ => rfl
  | a :: t, k0, 0 => rfl
  | a :: t, k0, k + 1 => by
    simp only [slv, List.set_cons_succ]
    rw [show k0 + (k + 1) = k0 + 1 + k by omega, slv_setS t (k0 + 1) k]
/-! the state behind a callee's making -/
def sapp (n : Nat) (σ σ' : Sg) : Sg := (fun o k => if o < n then σ.1 o k else σ'.1 (o - n) k, fun o k => if o < n then σ.2.1 o k else σ'.2.1 (o - n) k, fun o k => if o < n then σ.2.2 o k else n + σ'.2.2 (o - n) k)
def va_AOA (ty : FieldType) (U : State) : Prop := (Cond.arrayOver (.array ty)).before #[] U = true
theorem va_AOA.use {ty : FieldType} {A : Array Value} {U : State} (h : va_AOA ty U) : (Cond.arrayOver (.array ty)).before A U = true := h
theorem va_AOA.of {ty : FieldType} {A : Array Value} {U : State} (h : (Cond.arrayOver (.array ty)).before A U = true) : va_AOA ty U := h
theorem vi_bare (vm : Vm) (comp : ClassId) : (vm.bare.classes.findIdx? fun (x : Class) => match x.kind with | .array component _ => component == comp | _ => false) = (vm.classes.findIdx? fun (x : Class) => match x.kind with | .array component _ => component == comp | _ => false) := by
  simp only [Vm.bare, Array.findIdx?_map]
  rfl
theorem va_AOA.spec {ty : FieldType} {U : State} (h : va_AOA ty U) : ∃ (comp c : ClassId) (k : Class), U.vm.findClass (FieldType.array ty).toString = some comp ∧ (U.vm.classes.findIdx? fun x => match x.kind with | .array component _ => component == comp | _ => false) = some c ∧ U.vm.classes[c]? = some k ∧ k.kind = .array comp (.array ty) ∧ U.vm.findClass ("[" ++ (FieldType.array ty).toString) = some c := by
  unfold va_AOA Cond.before Cond.holds at h
  simp only [Cond.value, beq_iff_eq] at h
  cases hc : U.vm.findClass (FieldType.array ty).toString with
  | none => simp [hc] at h
  | some comp =>
    simp only [hc, Option.bind_some, Option.bind_eq_some_iff, Option.map_eq_some_iff] at h
    obtain ⟨c, hi, k, hk, hb⟩ := h
    obtain ⟨hlt, hp, -⟩ := Array.findIdx?_eq_some_iff_getElem.mp hi
    have hkk : U.vm.classes[c] = k := (Array.getElem?_eq_some_iff.mp hk).2
    rw [hkk] at hp
    cases hkind : k.kind with
    | array component ty2 =>
      rw [hkind] at hb hp
      simp at hb hp
      exact ⟨comp, c, k, rfl, hi, hk, by rw [hkind, hp, hb.1], hb.2⟩
    | _ => rw [hkind] at hb; simp at hb
theorem va_AOA.moved {ty : FieldType} {u U : State} (hvm : u.vm.Alike U.vm) (h : va_AOA ty u) : va_AOA ty U := by
  obtain ⟨comp, c, k, h1, h2, h3, h4, h5⟩ := h.spec
  obtain ⟨k', hk', he⟩ := hvm.2.2 _ _ h3
  have hi : (U.vm.classes.findIdx? fun (x : Class) => match x.kind with | .array component _ => component == comp | _ => false) = some c := by
    rw [← vi_bare]
    first | rw [hvm.bare_eq] | rw [← hvm.bare_eq]
    rw [vi_bare]
    exact h2
  have hkind : k'.kind = .array comp (.array ty) := by rw [he]; exact h4
  have f1 : U.vm.findClass (FieldType.array ty).toString = some comp := by rw [hvm.findClass]; exact h1
  have f2 : U.vm.findClass ("[" ++ (FieldType.array ty).toString) = some c := by rw [hvm.findClass]; exact h5
  unfold va_AOA Cond.before Cond.holds
  simp only [Cond.value]
  rw [f1, Option.bind_some]
  refine (congrArg (fun o : Option Nat => (o.bind (fun c => (U.vm.classes[c]?).map fun (k : Class) => match k.kind with | .array _ ty2 => decide (ty2 = FieldType.array ty) && decide (U.vm.findClass ("[" ++ (FieldType.array ty).toString) = some c) | _ => false) == some true)) hi).trans ?_
  simp [hk', hkind, f2]
def Ei (U : State) : Prop := (∀ w ∈ NW, va_Nw w U) ∧ va_AO RX0 U ∧ va_AOA .int U
theorem Ei.moved {s U : State} (hW : s.WarmedH U.vm) (h : Ei s) : Ei U := by
  refine ⟨fun w hw => ?_, h.2.1.moved hW.alike, h.2.2.moved hW.alike⟩
  have hn := (List.mem_filter.mp hw).2
  have hz := h.1 w hw
  cases w with
  | fieldLinkNest a i b n d h => exact va_Nw.warmF hW hz
  | methodLinkNest a i x h => exact va_Nw.warmM hW hz
  | _ => cases hn
theorem Ei.frame {U : State} {g : JFrame} {mk : MethodId} {a : Array Value} (h : Ei U) : Ei (U.calling g mk a) := by
  have al : U.vm.Alike (U.calling g mk a).vm := Vm.Alike.refl U.vm
  refine ⟨fun w hw => ?_, h.2.1.moved al, h.2.2.moved al⟩
  have hn := (List.mem_filter.mp hw).2
  have hz := h.1 w hw
  cases w with
  | fieldLinkNest a i b n d h => exact va_Nw.same rfl rfl hz
  | methodLinkNest a i x h => exact va_Nw.same rfl rfl hz
  | _ => cases hn
def GW (K : KT) (pc : Nat) (L : List (Option Value)) (st : List Value) (ci si : Nat) (P : Heap → List Loc → Prop) : Prop :=
  ∀ (H : Heap) (locs : List Loc) (ls : Array Slot), P H locs → LX ls L → W (kp K) (kl K) (ke K) (kR K) (ks K) (km K) (ka K) (kb K) (kmeth K) (kc K) H locs ci si (kQ K) (F0 (km K) pc ls st)
def CxI (K : KT) (cc : ByteArray) (own : String) (nL d mc ms : Nat) : Prop := Cb K cc own nL d ∧ True ∧ va_K (kD K) vwCl (tysOf (kcy K)) (ks K) ∧ (∀ q, (ks K).heap.size ≤ q → kA K q) ∧ Ei (ks K) ∧ mc ≤ (kR K).cells ∧ ms ≤ (kR K).slots
def WI (K : KT) (Y : List Sh) (σ : Sg) (ad : Nat → Nat) : Heap → List Loc → Prop := fun H locs => va_P (kD K) vwCl (wd (kcy K) ad σ 0 Y) H ∧ va_S (kA K) (ks K).heap H locs ∧ (∀ i j, i < Y.length → j < Y.length → ad i = ad j → i = j) ∧ (∀ i, i < Y.length → kA K (ad i)) ∧ Zb σ Y.length ∧ Cl σ Y
theorem WI.D {K : KT} {Y : List Sh} {σ : Sg} {ad : Nat → Nat} {H : Heap} {locs : List Loc} (h : WI K Y σ ad H locs) : va_D (kA K) (wd (kcy K) ad σ 0 Y) := wd_D h.2.2.1 h.2.2.2.1
section GWP
variable {K : KT} {cc : ByteArray} {own : String} {nL d pc ci si : Nat} {L : List (Option Value)} {st : List Value} {P : Heap → List Loc → Prop}
theorem n_iconst (C : Cb K cc own nL d) {n : Int} {v : Int32} (hd : decode cc pc = .ok (.iconst n, 1)) (hv : Int32.ofInt n = v) (k : GW K (pc + 1) L (.int v :: st) ci si P) : GW K pc L st ci si P := fun H locs ls hP hL => lv_iconst C.x C.b hd hv (k H locs ls hP hL)
theorem n_bipush (C : Cb K cc own nL d) {n : Int} {v : Int32} (hd : decode cc pc = .ok (.bipush n, 2)) (hv : (Int8.ofInt n).toInt32 = v) (k : GW K (pc + 2) L (.int v :: st) ci si P) : GW K pc L st ci si P := fun H locs ls hP hL => lv_bipush C.x C.b hd hv (k H locs ls hP hL)
theorem n_sipush (C : Cb K cc own nL d) {n : Int} {v : Int32} (hd : decode cc pc = .ok (.sipush n, 3)) (hv : (Int16.ofInt n).toInt32 = v) (k : GW K (pc + 3) L (.int v :: st) ci si P) : GW K pc L st ci si P := fun H locs ls hP hL => lv_sipush C.x C.b hd hv (k H locs ls hP hL)
theorem n_aload_n (C : Cb K cc own nL d) {n : Fin 4} {i : Nat} {x : Nat} (hd : decode cc pc = .ok (.aload_n n, 1)) (hi : (n : Nat) = i) (hl : L[i]? = some (some (.ref x))) (k : GW K (pc + 1) L (.ref x :: st) ci si P) : GW K pc L st ci si P := fun H locs ls hP hL => lv_aload_n C.x C.b hd hi (hL.2.2 _ _ hl) (k H locs ls hP hL)
theorem n_iload_n (C : Cb K cc own nL d) {n : Fin 4} {i : Nat} {x : Int32} (hd : decode cc pc = .ok (.iload_n n, 1)) (hi : (n : Nat) = i) (hl : L[i]? = some (some (.int x))) (k : GW K (pc + 1) L (.int x :: st) ci si P) : GW K pc L st ci si P := fun H locs ls hP hL => lv_iload_n C.x C.b hd hi (hL.2.2 _ _ hl) (k H locs ls hP hL)
theorem n_istore_n (C : Cb K cc own nL d) {n : Fin 4} {i : Nat} {x : Int32} {L' : List (Option Value)} (hd : decode cc pc = .ok (.istore_n n, 1)) (hi : (n : Nat) = i) (hn : i < L.length) (hL' : st1 L i (.int x) = L') (k : GW K (pc + 1) L' st ci si P) : GW K pc L (.int x :: st) ci si P := fun H locs ls hP hL => lv_istore_n C.x C.b hd hi hL.has hn rfl (fun ls' h' => k H locs ls' hP (hL' ▸ LX.s1 hn h'))
theorem n_astore_n (C : Cb K cc own nL d) {n : Fin 4} {i : Nat} {x : Nat} {L' : List (Option Value)} (hd : decode cc pc = .ok (.astore_n n, 1)) (hi : (n : Nat) = i) (hn : i < L.length) (hL' : st1 L i (.ref x) = L') (k : GW K (pc + 1) L' st ci si P) : GW K pc L (.ref x :: st) ci si P := fun H locs ls hP hL => lv_astore_n C.x C.b hd hi hL.has hn rfl (fun ls' h' => k H locs ls' hP (hL' ▸ LX.s1 hn h'))
theorem n_iinc (C : Cb K cc own nL d) {i : Nat} {n : Int} {x y : Int32} {L' : List (Option Value)} (hd : decode cc pc = .ok (.iinc i n, 3)) (hl : L[i]? = some (some (.int x))) (hy : x + Int32.ofInt n = y) (hn : i < L.length) (hL' : st1 L i (.int y) = L') (k : GW K (pc + 3) L' st ci si P) : GW K pc L st ci si P := fun H locs ls hP hL => by
  obtain ⟨j, hj⟩ := List.getElem?_of_mem ((prs_iff (q := (i, .int x))).mpr hl)
  exact lv_iinc C.x C.b hd hL.has hj hy hn rfl (fun ls' h' => k H locs ls' hP (hL' ▸ LX.s1 hn h'))
theorem n_dup (C : Cb K cc own nL d) {v : Value} (hd : decode cc pc = .ok (.dup, 1)) (hv : v.category = 1) (k : GW K (pc + 1) L (v :: v :: st) ci si P) : GW K pc L (v :: st) ci si P := fun H locs ls hP hL => lv_dup C.x C.b hd hv (k H locs ls hP hL)
theorem n_goto (C : Cb K cc own nL d) {off : Int} {tgt : Nat} (hd : decode cc pc = .ok (.goto off, 3)) (ht : (pc : Int) + off = (tgt : Int)) (k : GW K tgt L st ci si P) : GW K pc L st ci si P := fun H locs ls hP hL => lv_goto C.x C.b hd ht (k H locs ls hP hL)
theorem n_ge_t (C : Cb K cc own nL d) {x y : Int32} {off : Int} {tgt : Nat} (hd : decode cc pc = .ok (.if_icmp .ge off, 3)) (ht : (pc : Int) + off = (tgt : Int)) (h : y ≤ x) (k : GW K tgt L st ci si P) : GW K pc L (.int y :: .int x :: st) ci si P := fun H locs ls hP hL => lv_icmp_ge C.x C.b hd ht (fun _ => k H locs ls hP hL) (fun q => absurd h q)
theorem n_ge_f (C : Cb K cc own nL d) {x y : Int32} {off : Int} {tgt : Nat} (hd : decode cc pc = .ok (.if_icmp .ge off, 3)) (ht : (pc : Int) + off = (tgt : Int)) (h : ¬ y ≤ x) (k : GW K (pc + 3) L st ci si P) : GW K pc L (.int y :: .int x :: st) ci si P := fun H locs ls hP hL => lv_icmp_ge C.x C.b hd ht (fun q => absurd q h) (fun _ => k H locs ls hP hL)
end GWP
section GWI
variable {K : KT} {cc : ByteArray} {own : String} {nL d mc ms pc ci si : Nat} {L : List (Option Value)} {st : List Value} {Y : List Sh} {σ : Sg} {ad : Nat → Nat}
theorem n_obj (C : CxI K cc own nL d mc ms) {a idx : Nat} (hd : decode cc pc = .ok (.invokespecial idx, 3)) (hl : Cond.methodLink own idx objectInit ∈ AL) (hi : Cond.instanceMethod objectInit ∈ AL) (hc : Cond.code objectInit ⟨#[0xb1]⟩ 1 none ∈ AL) (hLn : L.length = nL) (hd1 : 1 ≤ d) (hr : (st.map fun v => v.category).sum ≤ 8) {P : Heap → List Loc → Prop}
    (k : GW K (pc + 3) L st ci si P) : GW K pc L (.ref a :: st) ci si P := fun H locs ls hP hL => by
  have hf := C.1.2.2.2.2.2.2.1
  have hlo := C.1.2.2.2.2.2.2.2
  refine W.objInit C.1.x C.1.b C.1.o (C.1.t hl) (C.1.t hi) (C.1.t hc) rfl (by show ls.size = _; rw [C.1.2.2.1, hL.1, hLn]) rfl hd (by omega) (by show 2 * 0 + _ + 12 ≤ _; omega) ?_
  exact k H locs ls hP hL
theorem n_get (C : CxI K cc own nL d mc ms) {o kx k index N : Nat} {C0 : String} {T : u_T} {sl : List (Nat × Nat)} {s : Nat × Nat} {v : Value} (hd : decode cc pc = .ok (.getfield index, 3)) (hY : Y[o]? = some (0, kx, sl)) (hs : sl[k]? = some s) (hc : vwCl[kx]? = some (C0, T, N)) (hk : k < N) (hl : FL own index (T k).1 (T k).2.1 (T k).2.2.1) (hin : ∀ w ∈ u_ws C0 T N, w ∈ AL) (hv : slotV ad σ o k s = v)
    (kk : GW K (pc + 3) L (v :: st) ci si (WI K Y σ ad)) : GW K pc L (.ref (ad o) :: st) ci si (WI K Y σ ad) := fun H locs ls hP hL => by
  subst hv
  have he : (wd (kcy K) ad σ 0 Y)[o]? = some (ad o, .inr (kx, slv ad σ o 0 sl)) := wd_at hY
  have hv : (slv ad σ o 0 sl)[k]? = some (slotV ad σ o k s) := by rw [slv_get, hs, Nat.zero_add]; rfl
  rcases hl with hl | ⟨host, hl⟩
  · exact va_get C.1.x C.1.b C.1.fix.2.2.2.2 hin C.1.o C.2.2.1 hP.1 o he hc k hk (C.1.t hl) (fun _ h => h) hv hd (kk H locs ls hP hL)
  · exact va_getN C.1.x C.1.b C.1.fix.2.2.2.2 hin C.1.o C.2.2.1 hP.1 o he hc k hk (va_Nw.use rfl (C.2.2.2.2.1.1 _ hl)) (fun _ h => h) hv hd (kk H locs ls hP hL)
/-- a field of the object that is being made -/
theorem n_put (C : CxI K cc own nL d mc ms) {o kx k index N : Nat} {C0 : String} {T : u_T} {ty0 : Nat → FieldType} {sl : List (Nat × Nat)} {v : Value} {Y' : List Sh} {σ' : Sg} (hin2 : (kmeth K).name = "<init>") (hd : decode cc pc = .ok (.putfield index, 3)) (hY : Y[o]? = some (0, kx, sl)) (hlen : k < sl.length) (hc : vwCl[kx]? = some (C0, T, N)) (hk : k < N) (hl : Cond.fieldLink own index (T k).1 (T k).2.1 (T k).2.2.1 ∈ AL) (hin : ∀ w ∈ u_ws C0 T N, w ∈ AL)
    (hty : ∀ k, k < N → parseFieldDescriptor (T k).2.2.1 = some (ty0 k)) (hnm : ∀ a, a < N → ∀ b, b < N → a ≠ b → (T a).2.1 ≠ (T b).2.1) (hdecl : (T k).1 = own) (hn : narrow (ty0 k) v = v) (hf : fits (ty0 k) v = true)
    (hw : (wd (kcy K) ad σ 0 Y).set o (ad o, .inr (kx, (slv ad σ o 0 sl).set k v)) = wd (kcy K) ad σ' 0 Y') (hl' : Y'.length = Y.length) (hz : Zb σ Y.length → Zb σ' Y'.length) (hcl : Cl σ Y → Cl σ' Y')
    (kk : GW K (pc + 3) L st ci si (WI K Y' σ' ad)) : GW K pc L (v :: .ref (ad o) :: st) ci si (WI K Y σ ad) := fun H locs ls hP hL => by
  have he : (wd (kcy K) ad σ 0 Y)[o]? = some (ad o, .inr (kx, slv ad σ o 0 sl)) := wd_at hY
  have hlen2 : k < (slv ad σ o 0 sl).length := by rw [slv_len]; exact hlen
  have go : ∀ (H1 : Heap) (locs1 : List Loc), va_P (kD K) vwCl ((wd (kcy K) ad σ 0 Y).set o (ad o, .inr (kx, (slv ad σ o 0 sl).set k v))) H1 → va_S (kA K) (ks K).heap H1 locs1 → W (kp K) (kl K) (ke K) (kR K) (ks K) (km K) (ka K) (kb K) (kmeth K) (kc K) H1 locs1 ci si (kQ K) (F0 (km K) (pc + 3) ls st) := fun H1 locs1 q1 q3 => kk H1 locs1 ls ⟨hw ▸ q1, q3, by rw [hl']; exact hP.2.2.1, by rw [hl']; exact hP.2.2.2.1, hz hP.2.2.2.2.1, hcl hP.2.2.2.2.2⟩ hL
  cases hfin : (T k).2.2.2 with
  | false => exact va_put C.1.x C.1.b C.1.fix.2.2.2.2 hin ty0 hty hnm C.1.o C.2.2.1 hP.1 hP.D hP.2.1 o he hc k hk (C.1.t hl) (fun _ h => h) hfin (hty k hk) hn hf hlen2 hd (fun H1 locs1 q1 q2 q3 => go H1 locs1 q1 q3)
  | true => exact va_putF C.1.x C.1.b C.1.fix.2.2.2.2 hin ty0 hty hnm C.1.o C.2.2.1 hP.1 hP.D hP.2.1 o he hc k hk (C.1.t hl) (fun _ h => h) hfin hin2 hdecl (hty k hk) hn hf hlen2 hd (fun H1 locs1 q1 q2 q3 => go H1 locs1 q1 q3)
def adx (ad : Nat → Nat) (n : Nat) (f : Nat → Nat) : Nat → Nat := fun i => if i < n then ad i else f (i - n)
theorem adx_lo {ad f : Nat → Nat} {n i : Nat} (h : i < n) : adx ad n f i = ad i := if_pos h
theorem adx_hi {ad f : Nat → Nat} {n i : Nat} : adx ad n f (n + i) = f i := by
  unfold adx
  rw [if_neg (by omega)]
  congr 1
  omega
/-- cells come -/
theorem WI.push {H H1 : Heap} {locs locs1 : List Loc} (hP : WI K Y σ ad H locs) (Ys : List Sh) (f : Nat → Nat) (q1 : va_P (kD K) vwCl (wd (kcy K) ad σ 0 Y ++ wd (kcy K) (adx ad Y.length f) σ Y.length Ys) H1) (q2 : va_D (kA K) (wd (kcy K) ad σ 0 Y ++ wd (kcy K) (adx ad Y.length f) σ Y.length Ys)) (q3 : va_S (kA K) (ks K).heap H1 locs1)
    (hc : ∀ i sh, Ys[i]? = some sh → shc σ (Y.length + Ys.length) (Y.length + i) sh) : WI K (Y ++ Ys) σ (adx ad Y.length f) H1 locs1 := by
  have hw : wd (kcy K) (adx ad Y.length f) σ 0 (Y ++ Ys) = wd (kcy K) ad σ 0 Y ++ wd (kcy K) (adx ad Y.length f) σ Y.length Ys := by
    rw [wd_app, wd_same hP.2.2.2.2.2 (fun j hj => adx_lo hj) (fun i _ => ⟨rfl, rfl, fun _ => rfl⟩), Nat.zero_add]
  rw [← hw] at q1 q2
  have key : ∀ i, i < (Y ++ Ys).length → ∃ e, (wd (kcy K) (adx ad Y.length f) σ 0 (Y ++ Ys))[i]? = some (adx ad Y.length f i, e) := fun i hi => ⟨_, wd_at (List.getElem?_eq_getElem hi)⟩
  refine ⟨q1, q3, fun i j hi hj hij => ?_, fun i hi => ?_, fun o k ho => hP.2.2.2.2.1 o k (by rw [List.length_append] at ho; omega), fun i sh hi => ?_⟩
  · obtain ⟨e1, h1⟩ := key i hi
    obtain ⟨e2, h2⟩ := key j hj
    exact q2.1 i j _ _ h1 h2 hij
  · obtain ⟨e1, h1⟩ := key i hi
    exact q2.2 i _ h1
  · rw [List.length_append]
    by_cases h1 : i < Y.length
    · rw [List.getElem?_append_left h1] at hi
      exact shc_mono (by omega) (hP.2.2.2.2.2 i sh hi)
    · rw [List.getElem?_append_right (by omega)] at hi
      have := hc _ sh hi
      rw [show Y.length + (i - Y.length) = i by omega] at this
      exact this
/-- one cell comes -/
theorem WI.push1 {H H1 : Heap} {locs locs1 : List Loc} {sh : Sh} {e : va_E} {q : Nat} (hP : WI K Y σ ad H locs) (q1 : va_P (kD K) vwCl (wd (kcy K) ad σ 0 Y ++ [(q, e)]) H1) (q2 : va_D (kA K) (wd (kcy K) ad σ 0 Y ++ [(q, e)])) (q3 : va_S (kA K) (ks K).heap H1 locs1)
    (he : ∀ ad', ent (kcy K) ad' σ Y.length sh = e) (hc : shc σ (Y.length + 1) Y.length sh) : ∃ ad', (∀ i, i < Y.length → ad' i = ad i) ∧ ad' Y.length = q ∧ WI K (Y ++ [sh]) σ ad' H1 locs1 := by
  have eN : adx ad Y.length (fun _ => q) Y.length = q := by
    have := adx_hi (ad := ad) (f := fun _ => q) (n := Y.length) (i := 0)
    exact this
  have hw : wd (kcy K) (adx ad Y.length (fun _ => q)) σ Y.length [sh] = [(q, e)] := by
    show [(adx ad Y.length (fun _ => q) Y.length, ent (kcy K) (adx ad Y.length (fun _ => q)) σ Y.length sh)] = _
    rw [eN, he]
  refine ⟨adx ad Y.length (fun _ => q), fun i hi => adx_lo hi, eN, hP.push [sh] (fun _ => q) (by rw [hw]; exact q1) (by rw [hw]; exact q2) q3 (fun i s hi => ?_)⟩
  have hz0 : i < 1 := (List.getElem?_eq_some_iff.mp hi).1
  rw [show i = 0 by omega] at hi ⊢
  cases hi
  exact hc
theorem n_new (C : CxI K cc own nL d mc ms) {kx index N : Nat} {C0 : String} {T : u_T} {ty0 : Nat → FieldType} {sl : List (Nat × Nat)} (hd : decode cc pc = .ok (.new index, 3)) (hc : vwCl[kx]? = some (C0, T, N)) (hin : ∀ w ∈ u_ws C0 T N, w ∈ AL) (hty : ∀ k, k < N → parseFieldDescriptor (T k).2.2.1 = some (ty0 k)) (h1 : Cond.classLink own index C0 ∈ AL) (h2 : Cond.instantiable C0 N ∈ AL) (h3 : Cond.initialized C0 ∈ AL) (hb : bare sl = true) (hdf : ∀ j, j < N → defaultValue (ty0 j) = vp_V (dfl sl) j) (hci : ci + 1 ≤ mc) (hsi : si + N ≤ ms)
    (kk : ∀ ad', (∀ i, i < Y.length → ad' i = ad i) → (∀ k, rI σ Y.length k = 0 ∧ rJ σ Y.length k = 0) → GW K (pc + 3) L (.ref (ad' Y.length) :: st) (ci + 1) (si + N) (WI K (Y ++ [(0, kx, sl)]) σ ad')) : GW K pc L st ci si (WI K Y σ ad) := fun H locs ls hP hL => by
  have hm1 := C.2.2.2.2.2.1
  have hm2 := C.2.2.2.2.2.2
  refine va_new (fs := dfl sl) C.1.x C.1.b C.1.fix.2.2.2.2 hin ty0 hty C.1.o (C.1.t h1) (C.1.t h2) (C.1.t h3) C.2.2.1 hP.1 hP.D hP.2.1 C.2.2.2.1 hc hdf (by omega) (by omega) hd (fun q H1 q1 q2 q3 => ?_)
  obtain ⟨ad', e0, eN, hW⟩ := hP.push1 (sh := (0, kx, sl)) q1 q2 q3 (fun ad' => congrArg (fun z => Sum.inr (kx, z)) (slv_dfl (fun k => hP.2.2.2.2.1 _ k (Nat.le_refl _)) sl 0 hb)) ⟨fun _ => slc_bare sl 0 hb, fun e => absurd rfl e⟩
  have hk := kk ad' e0 (fun k => hP.2.2.2.2.1 _ k (Nat.le_refl _)) H1 locs ls hW hL
  rw [eN] at hk
  exact hk
theorem zI (hz : Zb σ Y.length) : rI σ Y.length = fun _ => 0 := funext fun k => (hz _ k (Nat.le_refl _)).1
theorem zJ (hz : Zb σ Y.length) : rJ σ Y.length = fun _ => 0 := funext fun k => (hz _ k (Nat.le_refl _)).2
theorem n_newI (C : CxI K cc own nL d mc ms) {n : Int32} {N : Nat} (hd : decode cc pc = .ok (.newarray .int, 2)) (hw : Cond.arrayClass .int ∈ AL) (hn : ¬ n < 0) (hN : n.toNatClampNeg = N) (hb : N * 4 ≤ 536870912) (hci : ci + 1 ≤ mc) (hsi : si + N ≤ ms)
    (kk : ∀ ad', (∀ i, i < Y.length → ad' i = ad i) → GW K (pc + 2) L (.ref (ad' Y.length) :: st) (ci + 1) (si + N) (WI K (Y ++ [(1, N, [])]) σ ad')) : GW K pc L (.int n :: st) ci si (WI K Y σ ad) := fun H locs ls hP hL => by
  have hm1 := C.2.2.2.2.2.1
  have hm2 := C.2.2.2.2.2.2
  refine va_newa (atype := .int) (ty := .int) (a0 := (N, .inl (fun _ => 0))) C.1.x C.1.b (C.1.t hw) rfl C.2.2.1 hP.1 hP.D hP.2.1 C.2.2.2.1 (fun cA => by rw [vp_cell_i]; rfl) hn hN (by show N * 4 ≤ _; exact hb) (by omega) (by omega) hd (fun q cA H1 qK q1 q2 q3 => ?_)
  have ec : cA = kcy K 0 := by
    have a1 : va_RA (ks K) cA .int := (qK.2 5 (cA, .int) rfl).2
    have a2 : va_RA (ks K) (kcy K 0) .int := (C.2.2.1.2 0 _ rfl).2
    exact Option.some.inj (a1.symm.trans a2)
  subst ec
  obtain ⟨ad', e0, eN, hW⟩ := hP.push1 (sh := (1, N, [])) q1 q2 q3 (fun ad' => by show Sum.inl (kcy K 0, N, Sum.inl (rI σ Y.length)) = _; rw [zI hP.2.2.2.2.1]) ⟨fun e => (by cases e), fun _ j hj => absurd hj (Nat.not_lt_zero _)⟩
  have hk := kk ad' e0 H1 locs ls hW hL
  rw [eN] at hk
  exact hk
theorem n_newJ (C : CxI K cc own nL d mc ms) {n : Int32} {N : Nat} (hd : decode cc pc = .ok (.newarray .long, 2)) (hw : Cond.arrayClass .long ∈ AL) (hn : ¬ n < 0) (hN : n.toNatClampNeg = N) (hb : N * 8 ≤ 536870912) (hci : ci + 1 ≤ mc) (hsi : si + N ≤ ms)
    (kk : ∀ ad', (∀ i, i < Y.length → ad' i = ad i) → GW K (pc + 2) L (.ref (ad' Y.length) :: st) (ci + 1) (si + N) (WI K (Y ++ [(2, N, [])]) σ ad')) : GW K pc L (.int n :: st) ci si (WI K Y σ ad) := fun H locs ls hP hL => by
  have hm1 := C.2.2.2.2.2.1
  have hm2 := C.2.2.2.2.2.2
  refine va_newa (atype := .long) (ty := .long) (a0 := (N, .inr (.inl (fun _ => 0)))) C.1.x C.1.b (C.1.t hw) rfl C.2.2.1 hP.1 hP.D hP.2.1 C.2.2.2.1 (fun cA => by rw [vp_cell_l]; rfl) hn hN (by show N * 8 ≤ _; exact hb) (by omega) (by omega) hd (fun q cA H1 qK q1 q2 q3 => ?_)
  have ec : cA = kcy K 1 := by
    have a1 : va_RA (ks K) cA .long := (qK.2 5 (cA, .long) rfl).2
    have a2 : va_RA (ks K) (kcy K 1) .long := (C.2.2.1.2 1 _ rfl).2
    exact Option.some.inj (a1.symm.trans a2)
  subst ec
  obtain ⟨ad', e0, eN, hW⟩ := hP.push1 (sh := (2, N, [])) q1 q2 q3 (fun ad' => by show Sum.inl (kcy K 1, N, Sum.inr (Sum.inl (rJ σ Y.length))) = _; rw [zJ hP.2.2.2.2.1]) ⟨fun e => (by cases e), fun _ j hj => absurd hj (Nat.not_lt_zero _)⟩
  have hk := kk ad' e0 H1 locs ls hW hL
  rw [eN] at hk
  exact hk
theorem n_newZ (C : CxI K cc own nL d mc ms) {n : Int32} {N : Nat} (hd : decode cc pc = .ok (.newarray .boolean, 2)) (hw : Cond.arrayClass .boolean ∈ AL) (hn : ¬ n < 0) (hN : n.toNatClampNeg = N) (hb : N * 1 ≤ 536870912) (hci : ci + 1 ≤ mc) (hsi : si + N ≤ ms)
    (kk : ∀ ad', (∀ i, i < Y.length → ad' i = ad i) → GW K (pc + 2) L (.ref (ad' Y.length) :: st) (ci + 1) (si + N) (WI K (Y ++ [(3, N, [])]) σ ad')) : GW K pc L (.int n :: st) ci si (WI K Y σ ad) := fun H locs ls hP hL => by
  have hm1 := C.2.2.2.2.2.1
  have hm2 := C.2.2.2.2.2.2
  refine va_newa (atype := .boolean) (ty := .boolean) (a0 := (N, .inl (fun _ => 0))) C.1.x C.1.b (C.1.t hw) rfl C.2.2.1 hP.1 hP.D hP.2.1 C.2.2.2.1 (fun cA => by rw [vp_cell_i]; rfl) hn hN (by show N * 1 ≤ _; exact hb) (by omega) (by omega) hd (fun q cA H1 qK q1 q2 q3 => ?_)
  have ec : cA = kcy K 2 := by
    have a1 : va_RA (ks K) cA .boolean := (qK.2 5 (cA, .boolean) rfl).2
    have a2 : va_RA (ks K) (kcy K 2) .boolean := (C.2.2.1.2 2 _ rfl).2
    exact Option.some.inj (a1.symm.trans a2)
  subst ec
  obtain ⟨ad', e0, eN, hW⟩ := hP.push1 (sh := (3, N, [])) q1 q2 q3 (fun ad' => by show Sum.inl (kcy K 2, N, Sum.inl (rI σ Y.length)) = _; rw [zI hP.2.2.2.2.1]) ⟨fun e => (by cases e), fun _ j hj => absurd hj (Nat.not_lt_zero _)⟩
  have hk := kk ad' e0 H1 locs ls hW hL
  rw [eN] at hk
  exact hk
theorem n_newA (C : CxI K cc own nL d mc ms) {n : Int32} {N b index : Nat} (hd : decode cc pc = .ok (.anewarray index, 3)) (hw : Cond.classLink own index RX0 ∈ AL) (hn : ¬ n < 0) (hN : n.toNatClampNeg = N) (hb : N * 4 ≤ 536870912) (hci : ci + 1 ≤ mc) (hsi : si + N ≤ ms)
    (kk : ∀ ad', (∀ i, i < Y.length → ad' i = ad i) → GW K (pc + 3) L (.ref (ad' Y.length) :: st) (ci + 1) (si + N) (WI K (Y ++ [(4, N, [(b, 0)])]) σ ad')) : GW K pc L (.int n :: st) ci si (WI K Y σ ad) := fun H locs ls hP hL => by
  have hm1 := C.2.2.2.2.2.1
  have hm2 := C.2.2.2.2.2.2
  refine va_newq (C := RX0) C.1.x C.1.b C.1.o (C.1.t hw) C.2.2.2.2.1.2.1 C.2.2.1 hP.1 hP.D hP.2.1 C.2.2.2.1 hn hN hb (by omega) (by omega) hd (fun q cA H1 qK q1 q2 q3 => ?_)
  have ec : cA = kcy K 3 := by
    obtain ⟨_, _, -, -, -, a1⟩ : va_RA (ks K) cA (.object RX0) := (qK.2 5 (cA, .object RX0) rfl).2
    obtain ⟨_, _, -, -, -, a2⟩ : va_RA (ks K) (kcy K 3) (.object RX0) := (C.2.2.1.2 3 _ rfl).2
    exact Option.some.inj (a1.symm.trans a2)
  subst ec
  obtain ⟨ad', e0, eN, hW⟩ := hP.push1 (sh := (4, N, [(b, 0)])) q1 q2 q3 (fun ad' => by
    show Sum.inl (kcy K 3, N, Sum.inr (Sum.inr (Sum.inr (Sum.inr (fun j => if j < 0 then some (ad' (Y.length + b + j)) else none))))) = _
    congr 8) ⟨fun e => (by cases e), fun _ j hj => absurd hj (Nat.not_lt_zero _)⟩
  have hk := kk ad' e0 H1 locs ls hW hL
  rw [eN] at hk
  exact hk
theorem n_iast (C : CxI K cc own nL d mc ms) {o n : Nat} {z : List (Nat × Nat)} {i x : Int32} (hd : decode cc pc = .ok (.iastore, 1)) (hY : Y[o]? = some (1, n, z)) (hi : inb i n = true)
    (kk : GW K (pc + 1) L st ci si (WI K Y (wI σ o i.toNatClampNeg x) ad)) : GW K pc L (.int x :: .int i :: .ref (ad o) :: st) ci si (WI K Y σ ad) := fun H locs ls hP hL => by
  have he : (wd (kcy K) ad σ 0 Y)[o]? = some (ad o, .inl (kcy K 0, n, .inl (rI σ o))) := wd_at hY
  have hlt : o < Y.length := lay_lt hY
  have hw := wd_put (cys := kcy K) (ad := ad) (σ := σ) (σ' := wI σ o i.toNatClampNeg x) (e := .inl (kcy K 0, n, .inl (upd (rI σ o) i.toNatClampNeg x))) hY (fun q sh h => ent_wI q sh h) (by show Sum.inl (kcy K 0, n, Sum.inl (rI _ o)) = _; rw [rI_upd])
  refine va_iast C.1.x C.1.b C.2.2.1 hP.1 hP.D hP.2.1 o 0 he rfl (inb_in hi) hd (fun H1 locs1 q1 q2 q3 => kk H1 locs1 ls ⟨hw ▸ q1, q3, hP.2.2.1, hP.2.2.2.1, fun p k hp => ?_, fun j sh hj => shc_R (σ := σ) (fun _ => rfl) (hP.2.2.2.2.2 j sh hj)⟩ hL)
  have := hP.2.2.2.2.1 p k hp
  refine ⟨?_, this.2⟩
  have hne : ¬ p = o := by omega
  show (if p = o ∧ k = _ then x else σ.1 p k) = 0
  rw [if_neg (fun q => hne q.1)]
  exact this.1
theorem n_aast (C : CxI K cc own nL d mc ms) {o v n b k : Nat} {sl : List (Nat × Nat)} {i : Int32} (hd : decode cc pc = .ok (.aastore, 1)) (hY : Y[o]? = some (4, n, [(b, k)])) (hv : Y[v]? = some (0, 0, sl)) (hi : inb i n = true) (hik : i.toNatClampNeg = k) (hvk : v = o + b + k)
    (kk : GW K (pc + 1) L st ci si (WI K (Y.set o (4, n, [(b, k + 1)])) σ ad)) : GW K pc L (.ref (ad v) :: .int i :: .ref (ad o) :: st) ci si (WI K Y σ ad) := fun H locs ls hP hL => by
  have he : (wd (kcy K) ad σ 0 Y)[o]? = some (ad o, .inl (kcy K 3, n, .inr (.inr (.inr (.inr (fun j => if j < k then some (ad (o + b + j)) else none)))))) := wd_at hY
  have hev : (wd (kcy K) ad σ 0 Y)[v]? = some (ad v, .inr (0, slv ad σ v 0 sl)) := wd_at hv
  have hlt : o < Y.length := lay_lt hY
  have hltv : v < Y.length := lay_lt hv
  have hw : (wd (kcy K) ad σ 0 Y).set o (ad o, .inl (kcy K 3, n, .inr (.inr (.inr (.inr (va_up (fun j => if j < k then some (ad (o + b + j)) else none) i.toNatClampNeg (some (ad v)))))))) = wd (kcy K) ad σ 0 (Y.set o (4, n, [(b, k + 1)])) := by
    have := wd_setY (cys := kcy K) (ad := ad) (σ := σ) (sh := (4, n, [(b, k + 1)])) Y 0 o
    rw [Nat.zero_add] at this
    rw [← this]
    congr 2
    show Sum.inl (kcy K 3, n, _) = Sum.inl (kcy K 3, n, Sum.inr (Sum.inr (Sum.inr (Sum.inr (fun j => if j < k + 1 then some (ad (o + b + j)) else none)))))
    congr 7
    funext j
    unfold va_up
    rw [hik, hvk]
    by_cases h1 : j = k
    · subst h1
      rw [if_pos rfl, if_pos (by omega)]
    · rw [if_neg h1]
      show (if j < k then some (ad (o + b + j)) else none) = _
      by_cases h2 : j < k
      · rw [if_pos h2, if_pos (by omega)]
      · rw [if_neg h2, if_neg (by omega)]
  refine va_astq (r := (RX0, TX0, 6)) C.1.x C.1.b C.2.2.1 hP.1 hP.D hP.2.1 o 3 v 0 he rfl hev rfl (inb_in hi) hd (fun H1 locs1 q1 q2 q3 => kk H1 locs1 ls ⟨hw ▸ q1, q3, ?_, ?_, ?_, ?_⟩ hL)
  · rw [List.length_set]; exact hP.2.2.1
  · rw [List.length_set]; exact hP.2.2.2.1
  · rw [List.length_set]; exact hP.2.2.2.2.1
  · intro j sh hj
    rw [List.length_set]
    rw [List.getElem?_set] at hj
    split at hj
    next e =>
      subst e
      first | cases hj | (rw [if_pos hlt] at hj; cases hj)
      refine ⟨fun e => (by cases e), fun _ q hq => ?_⟩
      have hc := hP.2.2.2.2.2 o _ hY
      have hq' : q < k + 1 := hq
      show o + b + q < Y.length
      by_cases h2 : q < k
      · exact hc.2 (fun e => by cases e) q h2
      · omega
    next e => exact hP.2.2.2.2.2 j sh hj
theorem vr_outer (c : ClassId) (N h0 : Nat) : ∀ i : Nat, Jvm.Free.Multi.outerC c N h0 i = arrV c N (fun j => va_rf (if j < i then some (h0 + 1 + j) else none))
  | 0 => by
    show ({ cls := c, slots := Array.replicate N .null, vm := .none } : Cell) = _
    rw [arrV_new]
    refine congrArg (arrV c N) (funext fun j => ?_)
    simp [va_rf]
  | i + 1 => by
    show (Jvm.Free.Multi.outerC c N h0 i).setSlot i (.ref (h0 + 1 + i)) = _
    rw [vr_outer c N h0 i, arrV_store]
    refine congrArg (arrV c N) (funext fun j => ?_)
    by_cases e : j = i
    · subst e
      simp [updV, va_rf]
    · by_cases h : j < i
      · simp [updV, e, h, Nat.lt_succ_of_lt h]
      · simp [updV, e, h, show ¬ j < i + 1 by omega]
theorem wd_rep {cys : Nat → ClassId} {ad : Nat → Nat} {σ : Sg} {sh : Sh} : ∀ (n i0 k : Nat) (q : Nat × va_E), (wd cys ad σ i0 (List.replicate n sh))[k]? = some q → k < n ∧ q = (ad (i0 + k), ent cys ad σ (i0 + k) sh) := by
  intro n i0 k q h
  rw [wd_get, List.getElem?_replicate] at h
  split at h
  next hk => cases h; exact ⟨hk, rfl⟩
  next => cases h
theorem n_alen (C : CxI K cc own nL d mc ms) {o n b k : Nat} {v : Int32} (hd : decode cc pc = .ok (.arraylength, 1)) (hY : Y[o]? = some (4, n, [(b, k)])) (hv : Int32.ofNat n = v)
    (kk : GW K (pc + 1) L (.int v :: st) ci si (WI K Y σ ad)) : GW K pc L (.ref (ad o) :: st) ci si (WI K Y σ ad) := fun H locs ls hP hL => by
  have he : (wd (kcy K) ad σ 0 Y)[o]? = some (ad o, .inl (kcy K 3, n, .inr (.inr (.inr (.inr (fun j => if j < k then some (ad (o + b + j)) else none)))))) := wd_at hY
  exact va_alen C.1.x C.1.b C.2.2.1 hP.1 o 3 he rfl hv hd (kk H locs ls hP hL)
theorem n_mna (C : CxI K cc own nL d mc ms) {n m : Int32} {N M index : Nat} (hd : decode cc pc = .ok (.multianewarray index 2, 4)) (hw : Cond.classLink own index ("[" ++ (FieldType.array .int).toString) ∈ AL) (hw2 : Cond.arrayClass .int ∈ AL) (hn : ¬ n < 0) (hm : ¬ m < 0) (hN : n.toNatClampNeg = N) (hM : m.toNatClampNeg = M) (hb1 : N * 4 ≤ 536870912) (hb2 : M * 4 ≤ 536870912) (hci : ci + (1 + N) ≤ mc) (hsi : si + (N + N * M) ≤ ms)
    (kk : ∀ ad', (∀ i, i < Y.length → ad' i = ad i) → GW K (pc + 4) L (.ref (ad' Y.length) :: st) (ci + 1 + N) (si + N + N * M) (WI K (Y ++ ((5, N, [(1, N)]) :: List.replicate N (1, M, []))) σ ad')) : GW K pc L (.int m :: .int n :: st) ci si (WI K Y σ ad) := fun H locs ls hP hL => by
  subst hN
  subst hM
  have hm1 := C.2.2.2.2.2.1
  have hm2 := C.2.2.2.2.2.2
  intro T hT Xs
  obtain ⟨vm₁, cA, comp, -, fA, fC, -, -, X', step⟩ := Xs.multianewarray2F C.1.x C.1.o (C.1.t hw) (va_AOA.use C.2.2.2.2.1.2.2) (C.1.t hw2) (g := F0 (km K) pc ls (.int m :: .int n :: st)) rfl (by rw [C.1.b]; exact hd) rfl hn hm hb1 (by show _ * 4 ≤ _; exact hb2) (by omega) rfl rfl (by omega) (by omega)
  have eA : cA = kcy K 4 := by
    have a2 : va_RA (ks K) (kcy K 4) (.array .int) := (C.2.2.1.2 4 _ rfl).2
    exact Option.some.inj (fA.symm.trans a2)
  have eC : comp = kcy K 0 := by
    have a2 : va_RA (ks K) (kcy K 0) .int := (C.2.2.1.2 0 _ rfl).2
    exact Option.some.inj (fC.symm.trans a2)
  subst eA
  subst eC
  generalize hF : Jvm.Free.Multi.fill (T.setVm vm₁) (kcy K 4) (kcy K 0) n.toNatClampNeg m.toNatClampNeg (defaultValue .int) n.toNatClampNeg = F at X' step
  have hTh : (T.setVm vm₁).heap = H := hT
  obtain ⟨f1, f2, -, -⟩ := Jvm.Free.Multi.fill_facts (T.setVm vm₁) (kcy K 4) (kcy K 0) n.toNatClampNeg m.toNatClampNeg (defaultValue .int) n.toNatClampNeg
  rw [hF, hTh] at f1 f2
  have hold : ∀ x : Nat, x < H.size → F.heap[x]? = H[x]? := fun x hx => by
    have := Jvm.Free.Multi.fill_old (T.setVm vm₁) (kcy K 4) (kcy K 0) n.toNatClampNeg m.toNatClampNeg (defaultValue .int) (a := x) (by rw [hTh]; exact hx) n.toNatClampNeg
    rw [hF, hTh] at this
    exact this
  have hrow : ∀ j : Nat, j < n.toNatClampNeg → F.heap[H.size + 1 + j]? = some (Jvm.Free.Multi.innerC (kcy K 0) m.toNatClampNeg (defaultValue .int)) := fun j hj => by
    have := Jvm.Free.Multi.fill_inner (T.setVm vm₁) (kcy K 4) (kcy K 0) n.toNatClampNeg m.toNatClampNeg (defaultValue .int) n.toNatClampNeg j hj
    rw [hF, hTh] at this
    exact this
  have hz := hP.2.2.2.2.1
  have fz : ∀ j, rI σ (Y.length + j) = fun _ => 0 := fun j => funext fun k => (hz _ k (by omega)).1
  -- the new cells' addresses
  have hN0 : adx ad Y.length (fun i => H.size + i) Y.length = H.size := adx_hi (i := 0)
  have hNj : ∀ j, adx ad Y.length (fun i => H.size + i) (Y.length + j) = H.size + j := fun j => adx_hi
  have hat : ∀ (k : Nat) (q : Nat × va_E), (wd (kcy K) (adx ad Y.length (fun i => H.size + i)) σ Y.length ((5, n.toNatClampNeg, [(1, n.toNatClampNeg)]) :: List.replicate n.toNatClampNeg (1, m.toNatClampNeg, [])))[k]? = some q → q.1 = H.size + k ∧ va_at (kD K) vwCl q F.heap := by
    intro k q h
    simp only [wd] at h
    cases k with
    | zero =>
      rw [List.getElem?_cons_zero] at h
      cases h
      refine ⟨hN0, ?_⟩
      show F.heap[adx ad Y.length (fun i => H.size + i) Y.length]? = some (vp_cell (kcy K 4) (n.toNatClampNeg, .inr (.inr (.inr (.inr (fun j => if j < n.toNatClampNeg then some (adx ad Y.length (fun i => H.size + i) (Y.length + 1 + j)) else none))))))
      rw [hN0, f2, vr_outer, vp_cell_q]
      congr 3
      funext j
      have e9 : adx ad Y.length (fun i => H.size + i) (Y.length + 1 + j) = H.size + 1 + j := by rw [Nat.add_assoc, hNj]; omega
      rw [e9]
    | succ k =>
      rw [List.getElem?_cons_succ] at h
      obtain ⟨hk, hq⟩ := wd_rep _ _ _ _ h
      subst hq
      have e1 : adx ad Y.length (fun i => H.size + i) (Y.length + 1 + k) = H.size + (k + 1) := by rw [Nat.add_assoc, hNj]; omega
      refine ⟨e1, ?_⟩
      show F.heap[adx ad Y.length (fun i => H.size + i) (Y.length + 1 + k)]? = some (vp_cell (kcy K 0) (m.toNatClampNeg, .inl (rI σ (Y.length + 1 + k))))
      rw [e1, show H.size + (k + 1) = H.size + 1 + k by omega, hrow k hk, Nat.add_assoc, fz, vp_cell_i]
      exact congrArg some (by show ({ cls := kcy K 0, slots := Array.replicate m.toNatClampNeg (.int 0), vm := .none } : Cell) = _; rw [arrV_new])
  have hPold : va_P (kD K) vwCl (wd (kcy K) ad σ 0 Y) F.heap := hP.1.kept (fun k x hx => hold x.1 ((hP.1 k x hx).lt))
  have hPnew : va_P (kD K) vwCl (wd (kcy K) (adx ad Y.length (fun i => H.size + i)) σ Y.length ((5, n.toNatClampNeg, [(1, n.toNatClampNeg)]) :: List.replicate n.toNatClampNeg (1, m.toNatClampNeg, []))) F.heap := fun k q h => (hat k q h).2
  have hS0 := hP.2.1.1
  have hDD : va_D (kA K) (wd (kcy K) ad σ 0 Y ++ wd (kcy K) (adx ad Y.length (fun i => H.size + i)) σ Y.length ((5, n.toNatClampNeg, [(1, n.toNatClampNeg)]) :: List.replicate n.toNatClampNeg (1, m.toNatClampNeg, []))) :=
    va_D.app hP.D ⟨fun i j p q h1 h2 h3 => by have := (hat i p h1).1; have := (hat j q h2).1; omega, fun k q h => C.2.2.2.1 _ (by have := (hat k q h).1; omega)⟩
      (fun i j p q h1 h2 => by have := (hP.1 i p h1).lt; have := (hat j q h2).1; omega)
  have hSn : va_S (kA K) (ks K).heap F.heap locs := ⟨by rw [f1]; omega, fun x h1 h2 => by rw [hold x (Nat.lt_of_lt_of_le h1 hS0)]; exact hP.2.1.2.1 x h1 h2, hP.2.1.2.2⟩
  have hW := hP.push ((5, n.toNatClampNeg, [(1, n.toNatClampNeg)]) :: List.replicate n.toNatClampNeg (1, m.toNatClampNeg, [])) (fun i => H.size + i) (hPold.app hPnew) hDD hSn (fun i sh hi => by
    rw [List.length_cons, List.length_replicate]
    cases i with
    | zero =>
      rw [List.getElem?_cons_zero] at hi
      cases hi
      refine ⟨fun e => (by cases e), fun _ j hj => ?_⟩
      have hj' : j < n.toNatClampNeg := hj
      show Y.length + 0 + 1 + j < _
      omega
    | succ i =>
      rw [List.getElem?_cons_succ, List.getElem?_replicate] at hi
      split at hi
      · cases hi
        exact ⟨fun e => (by cases e), fun _ j hj => absurd hj (Nat.not_lt_zero _)⟩
      · cases hi)
  have hk := kk _ (fun i hi => adx_lo hi) F.heap locs ls hW hL
  rw [hN0] at hk
  obtain ⟨t, a1, b1⟩ := hk F rfl X'
  refine ⟨t, step t ?_, b1⟩
  have e : T.heap.size = H.size := by rw [hT]
  rw [e]
  exact a1
end GWI
section GPut
variable {K : KT} {cc : ByteArray} {own : String} {nL d mc ms pc ci si : Nat} {L : List (Option Value)} {st : List Value} {Y : List Sh} {σ : Sg} {ad : Nat → Nat}
theorem wd_putS {cys : Nat → ClassId} {o kx k : Nat} {sl : List (Nat × Nat)} {s : Nat × Nat} {v : Value} (hv : slotV ad σ o k s = v) : (wd cys ad σ 0 Y).set o (ad o, .inr (kx, (slv ad σ o 0 sl).set k v)) = wd cys ad σ 0 (Y.set o (0, kx, sl.set k s)) := by
  have h1 := wd_setY (cys := cys) (ad := ad) (σ := σ) (sh := (0, kx, sl.set k s)) Y 0 o
  have h2 := slv_setS (ad := ad) (σ := σ) (i := o) (s := s) sl 0 k
  rw [Nat.zero_add] at h1 h2
  rw [← h1, ← hv, h2]
  rfl
theorem slc_set {N i : Nat} {s : Nat × Nat} : ∀ (l : List (Nat × Nat)) (k0 k : Nat), slc σ N i k0 l → (s.1 = 2 → i + s.2 < N) → (s.1 = 3 → rR σ i (k0 + k) < N) → slc σ N i k0 (l.set k s)
  | [], _, _, _, _, _ => trivial
  | a :: t, k0, 0, q, h1, h2 => ⟨h1, h2, q.2.2⟩
  | a :: t, k0, k + 1, q, h1, h2 => ⟨q.1, q.2.1, slc_set t (k0 + 1) k q.2.2 h1 (by rw [show k0 + 1 + k = k0 + (k + 1) by omega]; exact h2)⟩
theorem Cl_set {o kx k : Nat} {sl : List (Nat × Nat)} {s : Nat × Nat} (hc : Cl σ Y) (hY : Y[o]? = some (0, kx, sl)) (h1 : s.1 = 2 → o + s.2 < Y.length) (h2 : s.1 = 3 → rR σ o k < Y.length) : Cl σ (Y.set o (0, kx, sl.set k s)) := by
  intro i sh hi
  rw [List.length_set]
  rw [List.getElem?_set] at hi
  split at hi
  next e =>
    subst e
    have hlt := lay_lt hY
    first | cases hi | (rw [if_pos hlt] at hi; cases hi)
    exact ⟨fun _ => slc_set sl 0 k ((hc o _ hY).1 rfl) h1 (by rw [Nat.zero_add]; exact h2), fun e => absurd rfl e⟩
  next e => exact hc i sh hi
theorem slv_setS' {ad : Nat → Nat} {σ σ' : Sg} {i : Nat} {s : Nat × Nat} : ∀ (l : List (Nat × Nat)) (k0 k : Nat) {s0 : Nat × Nat}, l[k]? = some s0 → (∀ q t, q ≠ k0 + k → slotV ad σ' i q t = slotV ad σ i q t) → (slv ad σ i k0 l).set k (slotV ad σ' i (k0 + k) s) = slv ad σ' i k0 (l.set k s)
  | [], _, _, _, h, _ => by simp at h
  | a :: t, k0, 0, _, _, hq => by
    simp only [slv, List.set_cons_zero, Nat.add_zero]
    rw [slv_eq t (k0 + 1) (fun q u hu => (hq q u (by omega)))]
  | a :: t, k0, k + 1, s0, h, hq => by
    rw [List.getElem?_cons_succ] at h
    simp only [slv, List.set_cons_succ]
    rw [hq k0 a (by omega), show k0 + (k + 1) = k0 + 1 + k by omega, slv_setS' t (k0 + 1) k h (fun q u hu => hq q u (by omega))]
theorem slc_R2 {σ σ' : Sg} {N i k : Nat} (h : ∀ q, q ≠ k → rR σ' i q = rR σ i q) : ∀ (l : List (Nat × Nat)) (k0 : Nat), (∀ j, k0 + j = k → l[j]? = some (4, 0) ∨ l.length ≤ j) → slc σ N i k0 l → slc σ' N i k0 l
  | [], _, _, _ => trivial
  | s :: t, k0, h4, q => by
    refine ⟨q.1, fun e => ?_, slc_R2 h t (k0 + 1) (fun j hj => ?_) q.2.2⟩
    · by_cases hk : k0 = k
      · rcases h4 0 (by omega) with h5 | h5
        · rw [List.getElem?_cons_zero] at h5
          cases h5
          cases e
        · simp at h5
      · rw [h k0 hk]; exact q.2.1 e
    · rcases h4 (j + 1) (by omega) with h5 | h5
      · exact Or.inl (by rw [List.getElem?_cons_succ] at h5; exact h5)
      · exact Or.inr (by simp at h5; exact h5)
/-- a reference to a cell further on -/
theorem n_putC (C : CxI K cc own nL d mc ms) {o kx k index N off v : Nat} {C0 : String} {T : u_T} {ty0 : Nat → FieldType} {sl : List (Nat × Nat)} (hin2 : (kmeth K).name = "<init>") (hd : decode cc pc = .ok (.putfield index, 3)) (hY : Y[o]? = some (0, kx, sl)) (hlen : k < sl.length) (hc : vwCl[kx]? = some (C0, T, N)) (hk : k < N) (hl : Cond.fieldLink own index (T k).1 (T k).2.1 (T k).2.2.1 ∈ AL) (hin : ∀ w ∈ u_ws C0 T N, w ∈ AL)
    (hty : ∀ k, k < N → parseFieldDescriptor (T k).2.2.1 = some (ty0 k)) (hnm : ∀ a, a < N → ∀ b, b < N → a ≠ b → (T a).2.1 ≠ (T b).2.1) (hdecl : (T k).1 = own) (hn : ∀ a, narrow (ty0 k) (.ref a) = .ref a) (hf : ∀ a, fits (ty0 k) (.ref a) = true) (hv : o + off = v) (hb : v < Y.length)
    (kk : GW K (pc + 3) L st ci si (WI K (Y.set o (0, kx, sl.set k (2, off))) σ ad)) : GW K pc L (.ref (ad v) :: .ref (ad o) :: st) ci si (WI K Y σ ad) := by
  subst hv
  exact n_put C hin2 hd hY hlen hc hk hl hin hty hnm hdecl (hn _) (hf _) (wd_putS rfl) (by rw [List.length_set]) (fun h => by rw [List.length_set]; exact h) (fun h => Cl_set h hY (fun _ => hb) (fun e => (by cases e))) kk
theorem n_putI (C : CxI K cc own nL d mc ms) {o kx k index N z : Nat} {C0 : String} {T : u_T} {ty0 : Nat → FieldType} {sl : List (Nat × Nat)} {v : Int32} (hin2 : (kmeth K).name = "<init>") (hd : decode cc pc = .ok (.putfield index, 3)) (hY : Y[o]? = some (0, kx, sl)) (hs : sl[k]? = some (0, z)) (hc : vwCl[kx]? = some (C0, T, N)) (hk : k < N) (hl : Cond.fieldLink own index (T k).1 (T k).2.1 (T k).2.2.1 ∈ AL) (hin : ∀ w ∈ u_ws C0 T N, w ∈ AL)
    (hty : ∀ k, k < N → parseFieldDescriptor (T k).2.2.1 = some (ty0 k)) (hnm : ∀ a, a < N → ∀ b, b < N → a ≠ b → (T a).2.1 ≠ (T b).2.1) (hdecl : (T k).1 = own) (hn : narrow (ty0 k) (.int v) = .int v) (hf : fits (ty0 k) (.int v) = true)
    (kk : GW K (pc + 3) L st ci si (WI K Y (wI σ o k v) ad)) : GW K pc L (.int v :: .ref (ad o) :: st) ci si (WI K Y σ ad) := by
  have hset : (slv ad σ o 0 sl).set k (.int v) = slv ad (wI σ o k v) o 0 sl := slv_set sl 0 k _ hs (fun q t hq => slot_wI q t (by omega)) (by rw [Nat.zero_add]; simp [slotV, rI, wI])
  refine n_put C hin2 hd hY (List.getElem?_eq_some_iff.mp hs).1 hc hk hl hin hty hnm hdecl hn hf (σ' := wI σ o k v) (Y' := Y) ?_ rfl (fun h p q hp => ?_) (fun h j sh hj => shc_R (σ := σ) (fun _ => rfl) (h j sh hj)) kk
  · rw [hset]
    exact wd_put hY (fun q sh h => ent_wI q sh h) rfl
  · have := h p q hp
    have hlt := lay_lt hY
    refine ⟨?_, this.2⟩
    show (if p = o ∧ q = k then v else σ.1 p q) = 0
    rw [if_neg (fun z => by omega)]
    exact this.1
/-- a moving reference, for the first time -/
theorem n_putM (C : CxI K cc own nL d mc ms) {o kx k index N v : Nat} {C0 : String} {T : u_T} {ty0 : Nat → FieldType} {sl : List (Nat × Nat)} (hin2 : (kmeth K).name = "<init>") (hd : decode cc pc = .ok (.putfield index, 3)) (hY : Y[o]? = some (0, kx, sl)) (hlen : k < sl.length) (hc : vwCl[kx]? = some (C0, T, N)) (hk : k < N) (hl : Cond.fieldLink own index (T k).1 (T k).2.1 (T k).2.2.1 ∈ AL) (hin : ∀ w ∈ u_ws C0 T N, w ∈ AL)
    (hty : ∀ k, k < N → parseFieldDescriptor (T k).2.2.1 = some (ty0 k)) (hnm : ∀ a, a < N → ∀ b, b < N → a ≠ b → (T a).2.1 ≠ (T b).2.1) (hdecl : (T k).1 = own) (hn : ∀ a, narrow (ty0 k) (.ref a) = .ref a) (hf : ∀ a, fits (ty0 k) (.ref a) = true) (hb : v < Y.length) (hs4 : sl[k]? = some (4, 0))
    (kk : GW K (pc + 3) L st ci si (WI K (Y.set o (0, kx, sl.set k (3, 0))) (wR σ o k v) ad)) : GW K pc L (.ref (ad v) :: .ref (ad o) :: st) ci si (WI K Y σ ad) := by
  have hR : ∀ q, q ≠ k → rR (wR σ o k v) o q = rR σ o q := fun q h => by simp [rR, wR, h]
  have hlt := lay_lt hY
  have hs1 : slv ad (wR σ o k v) o 0 (sl.set k (3, 0)) = (slv ad σ o 0 sl).set k (.ref (ad v)) := by
    rw [← slv_setS' (σ := σ) (σ' := wR σ o k v) (s := (3, 0)) sl 0 k hs4 (fun q t hq => slot_wR q t (by omega))]
    congr 1
    rw [Nat.zero_add]
    simp [slotV, rR, wR]
  refine n_put C hin2 hd hY hlen hc hk hl hin hty hnm hdecl (hn _) (hf _) (σ' := wR σ o k v) (Y' := Y.set o (0, kx, sl.set k (3, 0))) ?_ (by rw [List.length_set]) (fun h => by rw [List.length_set]; exact h) (fun h => ?_) kk
  · rw [← hs1]
    have h1 := wd_setY (cys := kcy K) (ad := ad) (σ := wR σ o k v) (sh := (0, kx, sl.set k (3, 0))) Y 0 o
    rw [Nat.zero_add] at h1
    rw [← h1]
    have h2 : ∀ e, (wd (kcy K) ad σ 0 Y).set o (ad o, e) = (wd (kcy K) ad (wR σ o k v) 0 Y).set o (ad o, e) := fun e => by
      have a1 := wd_put (cys := kcy K) (ad := ad) (σ := σ) (σ' := wR σ o k v) (e := ent (kcy K) ad (wR σ o k v) o (0, kx, sl)) hY (fun q sh h => ent_wR q sh h) rfl
      rw [← a1, List.set_set]
    exact h2 _
  · have h3 : Cl (wR σ o k v) (Y.set o (0, kx, sl.set k (4, 0))) := fun i sh hi => by
      rw [List.length_set]
      rw [List.getElem?_set] at hi
      split at hi
      next e =>
        subst e
        first | cases hi | (rw [if_pos hlt] at hi; cases hi)
        have he : sl.set k (4, 0) = sl := by
          have := List.getElem?_eq_some_iff.mp hs4
          obtain ⟨h1, h2⟩ := this
          rw [← h2]
          exact List.set_getElem_self h1
        rw [he]
        exact ⟨fun _ => slc_R2 (k := k) hR sl 0 (fun j hj => Or.inl (by rw [show j = k by omega]; exact hs4)) ((h o _ hY).1 rfl), fun e => absurd rfl e⟩
      next e => exact shc_R (σ := σ) (fun q => by have e' : ¬ i = o := fun z => e z.symm; simp [rR, wR, e']) (h i sh hi)
    have h4 : (Y.set o (0, kx, sl.set k (4, 0)))[o]? = some (0, kx, sl.set k (4, 0)) := by rw [List.getElem?_set_self hlt]
    have h5 := Cl_set (k := k) (s := (3, 0)) h3 h4 (fun e => (by cases e)) (fun _ => by rw [List.length_set]; simp [rR, wR]; exact hb)
    rw [List.set_set, List.set_set] at h5
    exact h5
end GPut
/-! ===== contracts of constructors ===== -/
def Aq (q sz : Nat) : Nat → Prop := fun p => p = q ∨ sz ≤ p
def QI (D : va_G) (cys : Nat → ClassId) (YF : List Sh) (σF : Sg) (q sz : Nat) : Array Value → State → Outcome → State → Prop := fun _ st oc t =>
  oc = .returned none ∧ (∃ ad : Nat → Nat, ad 0 = q ∧ va_P D vwCl (wd cys ad σF 0 YF) t.heap ∧ (∀ i j, i < YF.length → j < YF.length → ad i = ad j → i = j) ∧ ∀ i, 0 < i → i < YF.length → sz ≤ ad i) ∧ (Zb σF YF.length ∧ Cl σF YF) ∧ va_F (Aq q sz) st t
def rmi (d mc ms : Nat) : Room := { frames := d, cells := mc, slots := ms, locals := 40 * d }
def Cn (y : MethodName) (cc : ByteArray) (nL d kx : Nat) (nsl : List (Nat × Nat)) (YF : List Sh) (σF : Sg) (mc ms : Nat) : Prop :=
  ∀ (l : Launch) (D : va_G) (cys : Nat → ClassId) (q sz : Nat), Met l y (.code y cc nL none :: AL) (rmi d mc ms) (va_Pc [.ref q] (fun U => U.heap.size = sz ∧ va_P D vwCl [(q, .inr (kx, dfl nsl))] U.heap ∧ va_K D vwCl (tysOf cys) U ∧ Ei U)) (QI D cys YF σF q sz) mc ms (Aq q sz)
def Rki (K : KT) (YF : List Sh) (σF : Sg) (mc ms : Nat) : Prop := kQ K = MQ (kb K) (QI (kD K) (kcy K) YF σF (kad K 0) (ks K).heap.size) (ka K) (ks K) mc ms (kA K) ∧ kA K = Aq (kad K 0) (ks K).heap.size ∧ (kmeth K).sig.returnType = none
theorem cn_of {y : MethodName} {cc : ByteArray} {nL d kx mc ms : Nat} {nsl : List (Nat × Nat)} {YF : List Sh} {σF : Sg} (hy : plainName y.cls = true) (hy1 : y.name = "<init>") (hn : 1 ≤ nL) (hb : bare nsl = true)
    (body : ∀ K, CxI K cc y.cls nL d mc ms → (kmeth K).name = "<init>" → Rki K YF σF mc ms → GW K 0 (pad [some (.ref (kad K 0))] nL) [] 0 0 (WI K [(0, kx, nsl)] σz (kad K))) : Cn y cc nL d kx nsl YF σF mc ms := by
  intro l D cys q sz
  refine Met.ofW (cc := cc) (maxL := nL) (ret := none) hy rfl ?_
  intro p e s m args below meth c s₁ B hml hv
  obtain ⟨rfl, hsz, hP, hK, hE⟩ := hv
  subst hsz
  have hts := atoms_spec (ws := .code y cc nL none :: AL) B.pre
  have hown : s.vm.findClass y.cls = some m.cls := findClass_of_methodNamed B.named
  have hin : meth.name = "<init>" := (name_of_methodNamed B.named B.method).1.trans hy1
  let K : KT := (p, l, e, rmi d mc ms, s, m, [Value.ref q].toArray, below, meth, c, D, cys, fun _ => q, Aq q s.heap.size, MQ below (QI D cys YF σF q s.heap.size) [Value.ref q].toArray s mc ms (Aq q s.heap.size))
  have C : CxI K cc y.cls nL d mc ms := ⟨⟨B.exec, B.bytes, hml, hown, fun w hw => hts w (List.mem_cons_of_mem _ hw), B.notSynchronized, Nat.le_refl _, Nat.le_refl _⟩, trivial, hK, fun p h => Or.inr h, hE, Nat.le_refl _, Nat.le_refl _⟩
  have hG := body K C hin ⟨rfl, rfl, B.returns⟩
  rw [lg_entry_eq]
  have hz : ∀ k, rI σz 0 k = 0 ∧ rJ σz 0 k = 0 := fun k => ⟨rfl, rfl⟩
  have hw : wd cys (fun _ => q) σz 0 [(0, kx, nsl)] = [(q, .inr (kx, dfl nsl))] := by
    show [(q, Sum.inr (kx, slv (fun _ => q) σz 0 0 nsl))] = _
    rw [slv_dfl hz nsl 0 hb]
  have hW : WI K [(0, kx, nsl)] σz (kad K) s.heap [] := by
    refine ⟨by rw [← hw] at hP; exact hP, va_S.rf, fun i j hi hj _ => ?_, fun i hi => Or.inl rfl, fun o k _ => ⟨rfl, rfl⟩, fun i sh hi => ?_⟩
    · have hi' : i < 1 := hi
      have hj' : j < 1 := hj
      omega
    · have hz0 : i < 1 := (List.getElem?_eq_some_iff.mp hi).1
      rw [show i = 0 by omega] at hi ⊢
      cases hi
      exact ⟨fun _ => slc_bare nsl 0 hb, fun e => absurd rfl e⟩
  exact hG s.heap [] _ hW (lx_entry [.ref q] hn)
section GIR
variable {K : KT} {cc : ByteArray} {own : String} {nL d mc ms pc ci si : Nat} {L : List (Option Value)} {st : List Value} {Y : List Sh} {σ : Sg} {ad : Nat → Nat}
theorem n_vret (C : CxI K cc own nL d mc ms) (hQ : Rki K Y σ mc ms) (h0 : ad 0 = kad K 0) (hY : 0 < Y.length) (hd : decode cc pc = .ok (.return_, 1)) : GW K pc L [] mc ms (WI K Y σ ad) := fun H locs ls hP hL => by
  show W _ _ _ _ _ _ _ _ _ _ _ _ _ _ (kQ K) _
  rw [hQ.1]
  refine W.vret C.1.x C.1.b hQ.2.2 (fun t ht _ => ⟨rfl, ⟨ad, h0, by rw [ht]; exact hP.1, hP.2.2.1, fun i h1 h2 => ?_⟩, ⟨hP.2.2.2.2.1, hP.2.2.2.2.2⟩, by rw [← hQ.2.1]; exact hP.2.1.F ht⟩) hP.2.1.2.2 hd C.1.2.2.2.2.2.1
  have hA := hP.2.2.2.1 i h2
  rw [hQ.2.1] at hA
  rcases hA with h | h
  · have := hP.2.2.1 i 0 h2 hY (h.trans h0.symm)
    omega
  · exact h
def Cwi (y : MethodName) (cc : ByteArray) (nL : Nat) : Prop := (Cond.code y cc nL none ∈ AL) ∧ (Cond.initialized y.cls ∈ AL) ∧ (y.cls ≠ "java/lang/invoke/MethodHandle" ∧ y.cls ≠ "java/lang/invoke/VarHandle") ∧ (parseMethodDescriptor y.desc).map (fun d => d.parameters.length) = some 0 ∧ nL ≤ 21 ∧ y.name = "<init>"
theorem sapp_I {n o : Nat} {σ σ' : Sg} (h : o < n) : rI (sapp n σ σ') o = rI σ o := funext fun k => if_pos h
theorem sapp_J {n o : Nat} {σ σ' : Sg} (h : o < n) : rJ (sapp n σ σ') o = rJ σ o := funext fun k => if_pos h
theorem sapp_R {n o : Nat} {σ σ' : Sg} (h : o < n) (k : Nat) : rR (sapp n σ σ') o k = rR σ o k := if_pos h
theorem sapp_I2 {n o : Nat} {σ σ' : Sg} : rI (sapp n σ σ') (n + o) = rI σ' o := funext fun k => by
  show (if n + o < n then _ else σ'.1 (n + o - n) k) = _
  rw [if_neg (by omega), Nat.add_sub_cancel_left]; rfl
theorem sapp_J2 {n o : Nat} {σ σ' : Sg} : rJ (sapp n σ σ') (n + o) = rJ σ' o := funext fun k => by
  show (if n + o < n then _ else σ'.2.1 (n + o - n) k) = _
  rw [if_neg (by omega), Nat.add_sub_cancel_left]; rfl
theorem sapp_R2 {n o : Nat} {σ σ' : Sg} (k : Nat) : rR (sapp n σ σ') (n + o) k = n + rR σ' o k := by
  show (if n + o < n then _ else n + σ'.2.2 (n + o - n) k) = _
  rw [if_neg (by omega), Nat.add_sub_cancel_left]; rfl
theorem slc_sapp {σ σF : Sg} {n N i : Nat} : ∀ (l : List (Nat × Nat)) (k : Nat), slc σF N i k l → slc (sapp n σ σF) (n + N) (n + i) k l
  | [], _, _ => trivial
  | s :: t, k, q => ⟨fun e => by have := q.1 e; omega, fun e => by rw [sapp_R2]; have := q.2.1 e; omega, slc_sapp t (k + 1) q.2.2⟩
/-- a constructor's call, behind 'new' -/
theorem n_call (C : CxI K cc own nL d mc ms) {index d' nL' kx mc' ms' N : Nat} {y : MethodName} {cc' : ByteArray} {T : u_T} {nsl : List (Nat × Nat)} {YF : List Sh} {σF : Sg} (hM : Cn y cc' nL' d' kx nsl YF σF mc' ms') (hd : decode cc pc = .ok (.invokespecial index, 3)) (hw : Cwi y cc' nL') (hl : (Cond.methodLink own index y ∈ AL) ∨ ∃ host, Cond.methodLinkNest own index y host ∈ NW) (hi : Cond.instanceMethod y ∈ AL) (hb : bare nsl = true)
    (hdd : d' + 1 ≤ d) (hLn : L.length = nL) (hc : vwCl[kx]? = some (y.cls, T, N)) (hr : (st.map fun v => v.category).sum ≤ 8) (hci : ci + mc' ≤ mc) (hsi : si + ms' ≤ ms) (hF0 : 0 < YF.length) {n : Nat} (hYn : Y.length = n) (hzn : ∀ k, rI σ n k = 0 ∧ rJ σ n k = 0)
    (kk : ∀ ad', (∀ i, i < n + 1 → ad' i = ad i) → Cl σF YF → GW K (pc + 3) L st (ci + mc') (si + ms') (WI K (Y ++ YF) (sapp n σ σF) ad')) : GW K pc L (.ref (ad n) :: st) ci si (WI K (Y ++ [(0, kx, nsl)]) σ ad) := fun H locs ls hP hL => by
  subst hYn
  have hm1 := C.2.2.2.2.2.1
  have hm2 := C.2.2.2.2.2.2
  have hlen : (Y ++ [((0, kx, nsl) : Sh)]).length = Y.length + 1 := by simp
  have hz := hP.2.2.2.2.1
  have hYN : (Y ++ [((0, kx, nsl) : Sh)])[Y.length]? = some (0, kx, nsl) := by rw [List.getElem?_append_right (Nat.le_refl _), Nat.sub_self]; rfl
  have hNobj : ∀ k, rI σ Y.length k = 0 ∧ rJ σ Y.length k = 0 := hzn
  have he : (wd (kcy K) ad σ 0 (Y ++ [(0, kx, nsl)]))[Y.length]? = some (ad Y.length, .inr (kx, dfl nsl)) := by
    rw [wd_at hYN]
    show some (ad Y.length, Sum.inr (kx, slv ad σ Y.length 0 nsl)) = _
    rw [slv_dfl hNobj nsl 0 hb]
  have hf := C.1.2.2.2.2.2.2.1
  have hlo := C.1.2.2.2.2.2.2.2
  have hR : (rmi d' mc' ms').frames + 1 ≤ (kR K).frames ∧ 8 + (nL' + 11) + (rmi d' mc' ms').locals ≤ (kR K).locals := ⟨by show d' + 1 ≤ _; omega, by have := hw.2.2.2.2.1; show 8 + (nL' + 11) + 40 * d' ≤ _; omega⟩
  have hM' := hM (kl K) (kD K) (kcy K) (ad Y.length) H.size
  have hPq : va_P (kD K) vwCl [(ad Y.length, .inr (kx, dfl nsl))] H := fun k q h => by
    have hz0 : k < 1 := (List.getElem?_eq_some_iff.mp h).1
    rw [show k = 0 by omega] at h
    cases h
    exact hP.1 _ _ he
  have hpre : PreS (ks K) H (va_Pc [.ref (ad Y.length)] (fun U => U.heap.size = H.size ∧ va_P (kD K) vwCl [(ad Y.length, .inr (kx, dfl nsl))] U.heap ∧ va_K (kD K) vwCl (tysOf (kcy K)) U ∧ Ei U)) [.ref (ad Y.length)] :=
    ⟨fun a U g mk q => ⟨q.1, q.2.1, q.2.2.1, va_K.moved (u := U) (U := U.calling g mk a) (Vm.Alike.refl U.vm) q.2.2.2.1, q.2.2.2.2.frame⟩, fun U hU hW => ⟨rfl, by rw [hU], by rw [hU]; exact hPq, va_K.moved hW.alike C.2.2.1, C.2.2.2.2.1.moved hW⟩⟩
  have hz1 : ls.size = nL := hL.1.trans hLn
  have hrun : va_Run (kp K) (kl K) (ke K) (kR K) (ks K) (km K) (ka K) (kb K) (kmeth K) (kc K) H locs ci si mc' ms' (F0 (km K) pc ls (.ref (ad Y.length) :: st)) st (QI (kD K) (kcy K) YF σF (ad Y.length) H.size (Value.ref (ad Y.length) :: []).toArray) (Aq (ad Y.length) H.size) := by
    rcases hl with hl | ⟨host, hl⟩
    · have cb : CallB (kR K) (ks K) (ka K) own index y cc' nL' none (.code y cc' nL' none :: AL) (rmi d' mc' ms') mc' ms' 0 := callB_of 0 C.1.2.2.2.2.1 (ct_in hw.1) rfl rfl rfl (C.1.t hw.2.1) (C.1.t hl) ⟨hw.2.2.1.1, hw.2.2.1.2, hw.2.2.2.1⟩ hR
      exact va_runI (As := []) (rest := st) C.1.fix hM' ⟨cb, hw.2.2.2.2.2, C.1.t hi⟩ hpre rfl rfl hz1 rfl (lv_room hr) hd ⟨by omega, by omega⟩
    · have cb : va_CN (kR K) (ks K) (ka K) own index y host cc' nL' none (.code y cc' nL' none :: AL) (rmi d' mc' ms') mc' ms' 0 := va_cnB 0 C.1.2.2.2.2.1 (ct_in hw.1) rfl rfl rfl (C.2.2.2.2.1.1 _ hl) (C.1.t hw.2.1) ⟨hw.2.2.1.1, hw.2.2.1.2, hw.2.2.2.1⟩ hR
      exact va_runIN (As := []) (rest := st) C.1.fix hM' ⟨cb, hw.2.2.2.2.2, C.1.t hi⟩ hpre rfl rfl hz1 rfl (lv_room hr) hd ⟨by omega, by omega⟩
  intro Tm hT X
  obtain ⟨v, st₀, t, T', L2, hst0, X', hL2, e1, e2, ⟨hv, ⟨adc, a0, aP, ai, an⟩, ⟨hFz, hFc⟩, hzz, hkk⟩, stp⟩ := hrun Tm hT X
  cases hv
  rw [hst0] at hzz hkk
  have hS0 := hP.2.1.1
  have hqA : kA K (ad Y.length) := hP.2.2.2.1 _ (by omega)
  have hsub : ∀ p, Aq (ad Y.length) H.size p → kA K p := fun p h => by
    rcases h with h | h
    · rw [h]; exact hqA
    · exact C.2.2.2.1 p (Nat.le_trans hS0 h)
  have hold : ∀ i, i < Y.length → ad i < H.size ∧ ad i ≠ ad Y.length := fun i h => by
    have hi : i < (Y ++ [((0, kx, nsl) : Sh)]).length := by omega
    refine ⟨(hP.1 i _ (wd_at (List.getElem?_eq_getElem hi))).lt, fun e => ?_⟩
    have := hP.2.2.1 i Y.length hi (by omega) e
    omega
  have hkeep : ∀ i, i < Y.length → t.heap[ad i]? = H[ad i]? := fun i h => hkk _ (hold i h).1 (fun z => by
    rcases z with z | z
    · exact (hold i h).2 z
    · have := (hold i h).1; omega)
  have alo : ∀ i, i < Y.length + 1 → adx ad Y.length adc i = ad i := fun i h => by
    by_cases h1 : i < Y.length
    · exact adx_lo h1
    · rw [show i = Y.length + 0 by omega, adx_hi, a0]; rfl
  have hw1 : wd (kcy K) (adx ad Y.length adc) (sapp Y.length σ σF) 0 Y = wd (kcy K) ad σ 0 Y := by
    have := wd_shift (cys := kcy K) (ad := ad) (ad' := adx ad Y.length adc) (σ := σ) (σ' := sapp Y.length σ σF) (n := 0) (N := Y.length + 1) (fun j hj => by rw [Nat.zero_add]; exact alo j hj) Y 0 (fun i sh h => by
      have hl : i < Y.length := lay_lt h
      rw [Nat.zero_add, Nat.zero_add]
      refine ⟨by omega, ?_, sapp_I hl, sapp_J hl, fun k => by rw [sapp_R hl, Nat.zero_add]⟩
      have h2 := hP.2.2.2.2.2 i sh (by rw [List.getElem?_append_left hl]; exact h)
      rw [hlen] at h2
      exact h2)
    exact this
  have hw2 : wd (kcy K) (adx ad Y.length adc) (sapp Y.length σ σF) Y.length YF = wd (kcy K) adc σF 0 YF := by
    have := wd_shift (cys := kcy K) (ad := adc) (ad' := adx ad Y.length adc) (σ := σF) (σ' := sapp Y.length σ σF) (n := Y.length) (N := YF.length) (fun j hj => adx_hi) YF 0 (fun i sh h => by
      rw [Nat.zero_add]
      exact ⟨lay_lt h, hFc i sh h, sapp_I2, sapp_J2, fun k => sapp_R2 k⟩)
    exact this
  have hpart : va_P (kD K) vwCl (wd (kcy K) ad σ 0 Y) H := fun k q h => hP.1 k q (by
    rw [wd_app]
    have hl : k < (wd (kcy K) ad σ 0 Y).length := (List.getElem?_eq_some_iff.mp h).1
    rw [List.getElem?_append_left hl]; exact h)
  have hW : WI K (Y ++ YF) (sapp Y.length σ σF) (adx ad Y.length adc) T'.heap (locs ++ L2) := by
    refine ⟨?_, ?_, ?_, ?_, ?_, ?_⟩
    · rw [wd_app, hw1, Nat.zero_add, hw2, e1]
      refine va_P.app (fun k q h => ?_) aP
      have hl : k < Y.length := by have := (List.getElem?_eq_some_iff.mp h).1; rw [wd_len] at this; exact this
      have hq := h
      rw [wd_at (List.getElem?_eq_getElem hl)] at hq
      cases hq
      exact (hpart k _ h).kept (hkeep k hl)
    · exact ⟨Nat.le_trans hS0 (by rw [e1]; exact hzz), fun p h1 h2 => by rw [e1, hkk p (Nat.lt_of_lt_of_le h1 hS0) (fun z => h2 (hsub p z))]; exact hP.2.1.2.1 p h1 h2, fun p hp => by
        rcases List.mem_append.mp hp with h | h
        · exact hP.2.1.2.2 p h
        · exact hsub _ (hL2 p h)⟩
    · have ahi : ∀ j, j < YF.length → adc j = ad Y.length ∨ H.size ≤ adc j := fun j hj => by
        cases j with
        | zero => exact Or.inl a0
        | succ j => exact Or.inr (an _ (Nat.succ_pos _) hj)
      intro i j hi hj hij
      rw [List.length_append] at hi hj
      by_cases h1 : i < Y.length <;> by_cases h2 : j < Y.length
      · rw [adx_lo h1, adx_lo h2] at hij
        exact hP.2.2.1 i j (by omega) (by omega) hij
      · rw [adx_lo h1, show j = Y.length + (j - Y.length) by omega, adx_hi] at hij
        rcases ahi (j - Y.length) (by omega) with h | h
        · exact absurd (hij.trans h) (hold i h1).2
        · have := (hold i h1).1; omega
      · rw [adx_lo h2, show i = Y.length + (i - Y.length) by omega, adx_hi] at hij
        rcases ahi (i - Y.length) (by omega) with h | h
        · exact absurd (hij.symm.trans h) (hold j h2).2
        · have := (hold j h2).1; omega
      · rw [show i = Y.length + (i - Y.length) by omega, show j = Y.length + (j - Y.length) by omega, adx_hi, adx_hi] at hij
        have := ai _ _ (by omega) (by omega) hij
        omega
    · intro i hi
      rw [List.length_append] at hi
      by_cases h1 : i < Y.length
      · rw [adx_lo h1]; exact hP.2.2.2.1 i (by omega)
      · rw [show i = Y.length + (i - Y.length) by omega, adx_hi]
        refine hsub _ ?_
        cases h3 : i - Y.length with
        | zero => exact Or.inl a0
        | succ j => exact Or.inr (an _ (Nat.succ_pos _) (by omega))
    · intro o k ho
      rw [List.length_append] at ho
      rw [show o = Y.length + (o - Y.length) by omega, sapp_I2, sapp_J2]
      exact hFz _ k (by omega)
    · intro i sh hi2
      rw [List.length_append]
      by_cases h1 : i < Y.length
      · rw [List.getElem?_append_left h1] at hi2
        have h2 := hP.2.2.2.2.2 i sh (by rw [List.getElem?_append_left h1]; exact hi2)
        rw [hlen] at h2
        exact shc_mono (by omega) (shc_R (σ := σ) (fun k => sapp_R h1 k) h2)
      · rw [List.getElem?_append_right (by omega)] at hi2
        have h2 := hFc _ sh hi2
        rw [show i = Y.length + (i - Y.length) by omega]
        exact ⟨fun e => slc_sapp _ _ (h2.1 e), fun e j hj => by have := h2.2 e j hj; omega⟩
  obtain ⟨t2, b1, b2⟩ := kk _ alo hFc T'.heap (locs ++ L2) ls hW hL T' rfl X'
  exact ⟨t2, stp t2 b1, b2⟩
end GIR
end
section
/-! ===== the constructors ===== -/
abbrev layS0 : List Sh := [(0, 0, slX0)]
abbrev layS1 : List Sh := [(0, 1, slX1), (1, 3, [])]
abbrev layS6 : List Sh := [(0, 6, slX6), (1, 64, [])]
abbrev layS7 : List Sh := [(0, 7, slX7), (1, 30, []), (1, 30, []), (1, 30, []), (1, 30, []), (5, 30, [(1, 30)]), (1, 4, []), (1, 4, []), (1, 4, []), (1, 4, []), (1, 4, []), (1, 4, []), (1, 4, []), (1, 4, []), (1, 4, []), (1, 4, []), (1, 4, []), (1, 4, []), (1, 4, []), (1, 4, []), (1, 4, []), (1, 4, []), (1, 4, []), (1, 4, []), (1, 4, []), (1, 4, []), (1, 4, []), (1, 4, []), (1, 4, []), (1, 4, []), (1, 4, []), (1, 4, []), (1, 4, []), (1, 4, []), (1, 4, []), (1, 4, [])]
abbrev layS8 : List Sh := [(0, 8, slX8), (0, 7, slX7), (1, 30, []), (1, 30, []), (1, 30, []), (1, 30, []), (5, 30, [(1, 30)]), (1, 4, []), (1, 4, []), (1, 4, []), (1, 4, []), (1, 4, []), (1, 4, []), (1, 4, []), (1, 4, []), (1, 4, []), (1, 4, []), (1, 4, []), (1, 4, []), (1, 4, []), (1, 4, []), (1, 4, []), (1, 4, []), (1, 4, []), (1, 4, []), (1, 4, []), (1, 4, []), (1, 4, []), (1, 4, []), (1, 4, []), (1, 4, []), (1, 4, []), (1, 4, []), (1, 4, []), (1, 4, []), (1, 4, []), (1, 4, []), (0, 1, slX1), (1, 3, []), (1, 10, []), (1, 10, []), (1, 10, []), (1, 9, []), (1, 9, []), (0, 0, slX0)]
abbrev layS4 : List Sh := [(0, 4, slX4), (1, 10, []), (1, 10, []), (1, 10, [])]
abbrev layS2 : List Sh := [(0, 2, slX2), (1, 5, []), (1, 5, []), (0, 1, slX1), (1, 3, [])]
abbrev layS3 : List Sh := [(0, 3, slX3), (5, 5, [(1, 5)]), (1, 24, []), (1, 24, []), (1, 24, []), (1, 24, []), (1, 24, []), (3, 5, []), (3, 5, []), (5, 6, [(1, 6)]), (1, 12, []), (1, 12, []), (1, 12, []), (1, 12, []), (1, 12, []), (1, 12, [])]
abbrev layS5 : List Sh := [(0, 5, slX5), (2, 1000, [])]
abbrev layS9 : List Sh := layC
theorem dX0_init_0 : decode cX0_init 0 = .ok (.aload_n 0, 1) := by decide +kernel
theorem dX0_init_1 : decode cX0_init 1 = .ok (.invokespecial 1, 3) := by decide +kernel
theorem dX0_init_4 : decode cX0_init 4 = .ok (.return_, 1) := by decide +kernel
def σX0 : Sg := σz
theorem df0 : ∀ j, j < 6 → defaultValue (tyX0 j) = vp_V (dfl [(0, 0), (0, 0), (0, 0), (0, 0), (0, 0), (0, 0)]) j := by decide +kernel
theorem cwi_X0 : Cwi yX0_init cX0_init 1 := ⟨aw_131, aw_24, ⟨by decide, by decide⟩, by decide +kernel, by decide, rfl⟩
set_option maxRecDepth 8000 in
theorem bn_X0 {K : KT} (C : CxI K cX0_init RX0 1 1 0 0) (hN : (kmeth K).name = "<init>") (hQ : Rki K layS0 σX0 0 0) : GW K 0 (pad [some (.ref (kad K 0))] 1) [] 0 0 (WI K [(0, 0, [(0, 0), (0, 0), (0, 0), (0, 0), (0, 0), (0, 0)])] σz (kad K)) := by
  show GW K 0 [some (.ref (kad K 0))] [] 0 0 (WI K _ _ (kad K))
  refine n_aload_n C.1 dX0_init_0 rfl (i := 0) rfl ?_
  refine n_obj C dX0_init_1 aw_132 aw_37 aw_38 rfl (Nat.le_of_ble_eq_true rfl) (Nat.le_of_ble_eq_true rfl) ?_
  exact n_vret C hQ rfl (Nat.le_of_ble_eq_true rfl) dX0_init_4
theorem cn_X0 : Cn yX0_init cX0_init 1 1 0 [(0, 0), (0, 0), (0, 0), (0, 0), (0, 0), (0, 0)] layS0 σX0 0 0 := cn_of (by decide) rfl (by decide) (by decide) (fun K C hN hQ => bn_X0 C hN hQ)
theorem dX1_init_0 : decode cX1_init 0 = .ok (.aload_n 0, 1) := by decide +kernel
theorem dX1_init_1 : decode cX1_init 1 = .ok (.invokespecial 1, 3) := by decide +kernel
theorem dX1_init_4 : decode cX1_init 4 = .ok (.aload_n 0, 1) := by decide +kernel
theorem dX1_init_5 : decode cX1_init 5 = .ok (.iconst 3, 1) := by decide +kernel
theorem dX1_init_6 : decode cX1_init 6 = .ok (.newarray .int, 2) := by decide +kernel
theorem dX1_init_8 : decode cX1_init 8 = .ok (.dup, 1) := by decide +kernel
theorem dX1_init_9 : decode cX1_init 9 = .ok (.iconst 0, 1) := by decide +kernel
theorem dX1_init_10 : decode cX1_init 10 = .ok (.iconst 3, 1) := by decide +kernel
theorem dX1_init_11 : decode cX1_init 11 = .ok (.iastore, 1) := by decide +kernel
theorem dX1_init_12 : decode cX1_init 12 = .ok (.dup, 1) := by decide +kernel
theorem dX1_init_13 : decode cX1_init 13 = .ok (.iconst 1, 1) := by decide +kernel
theorem dX1_init_14 : decode cX1_init 14 = .ok (.iconst 1, 1) := by decide +kernel
theorem dX1_init_15 : decode cX1_init 15 = .ok (.iastore, 1) := by decide +kernel
theorem dX1_init_16 : decode cX1_init 16 = .ok (.dup, 1) := by decide +kernel
theorem dX1_init_17 : decode cX1_init 17 = .ok (.iconst 2, 1) := by decide +kernel
theorem dX1_init_18 : decode cX1_init 18 = .ok (.bipush 20, 2) := by decide +kernel
theorem dX1_init_20 : decode cX1_init 20 = .ok (.iastore, 1) := by decide +kernel
theorem dX1_init_21 : decode cX1_init 21 = .ok (.putfield 7, 3) := by decide +kernel
theorem dX1_init_24 : decode cX1_init 24 = .ok (.return_, 1) := by decide +kernel
def σX1 : Sg := (wI (wI (wI σz 1 ((0 : Int32)).toNatClampNeg (3 : Int32)) 1 ((1 : Int32)).toNatClampNeg (1 : Int32)) 1 ((2 : Int32)).toNatClampNeg (20 : Int32))
theorem df1 : ∀ j, j < 1 → defaultValue (tyX1 j) = vp_V (dfl [(4, 0)]) j := by decide +kernel
theorem cwi_X1 : Cwi yX1_init cX1_init 1 := ⟨aw_121, aw_23, ⟨by decide, by decide⟩, by decide +kernel, by decide, rfl⟩
set_option maxRecDepth 8000 in
theorem bn_X1 {K : KT} (C : CxI K cX1_init RX1 1 1 1 3) (hN : (kmeth K).name = "<init>") (hQ : Rki K layS1 σX1 1 3) : GW K 0 (pad [some (.ref (kad K 0))] 1) [] 0 0 (WI K [(0, 1, [(4, 0)])] σz (kad K)) := by
  show GW K 0 [some (.ref (kad K 0))] [] 0 0 (WI K _ _ (kad K))
  refine n_aload_n C.1 dX1_init_0 rfl (i := 0) rfl ?_
  refine n_obj C dX1_init_1 aw_122 aw_37 aw_38 rfl (Nat.le_of_ble_eq_true rfl) (Nat.le_of_ble_eq_true rfl) ?_
  refine n_aload_n C.1 dX1_init_4 rfl (i := 0) rfl ?_
  refine n_iconst C.1 dX1_init_5 (v := (3 : Int32)) (by decide) ?_
  refine n_newI C (N := 3) dX1_init_6 aw_68 (by decide) (by decide) (Nat.le_of_ble_eq_true rfl) (Nat.le_of_ble_eq_true rfl) (Nat.le_of_ble_eq_true rfl) (fun a1 e1 => ?_)
  rw [← e1 0 (Nat.le_of_ble_eq_true rfl)]
  have z1 : a1 0 = kad K 0 := (e1 0 (Nat.le_of_ble_eq_true rfl)).trans rfl
  show GW K 8 [some (.ref (a1 0))] [.ref (a1 1), .ref (a1 0)] 1 3 (WI K _ _ a1)
  refine n_dup C.1 dX1_init_8 rfl ?_
  refine n_iconst C.1 dX1_init_9 (v := (0 : Int32)) (by decide) ?_
  refine n_iconst C.1 dX1_init_10 (v := (3 : Int32)) (by decide) ?_
  refine n_iast C (o := 1) dX1_init_11 rfl (by decide) ?_
  refine n_dup C.1 dX1_init_12 rfl ?_
  refine n_iconst C.1 dX1_init_13 (v := (1 : Int32)) (by decide) ?_
  refine n_iconst C.1 dX1_init_14 (v := (1 : Int32)) (by decide) ?_
  refine n_iast C (o := 1) dX1_init_15 rfl (by decide) ?_
  refine n_dup C.1 dX1_init_16 rfl ?_
  refine n_iconst C.1 dX1_init_17 (v := (2 : Int32)) (by decide) ?_
  refine n_bipush C.1 dX1_init_18 (v := (20 : Int32)) (by decide) ?_
  refine n_iast C (o := 1) dX1_init_20 rfl (by decide) ?_
  refine n_putC C (o := 0) (kx := 1) (k := 0) (off := 1) (v := 1) hN dX1_init_21 rfl (Nat.le_of_ble_eq_true rfl) rfl (by decide) aw_123 inA1 tyX1_ok nmX1 rfl (fun _ => rfl) (fun _ => rfl) rfl (Nat.le_of_ble_eq_true rfl) ?_
  exact n_vret C hQ z1 (Nat.le_of_ble_eq_true rfl) dX1_init_24
theorem cn_X1 : Cn yX1_init cX1_init 1 1 1 [(4, 0)] layS1 σX1 1 3 := cn_of (by decide) rfl (by decide) (by decide) (fun K C hN hQ => bn_X1 C hN hQ)
theorem dX6_init_0 : decode cX6_init 0 = .ok (.aload_n 0, 1) := by decide +kernel
theorem dX6_init_1 : decode cX6_init 1 = .ok (.invokespecial 3, 3) := by decide +kernel
theorem dX6_init_4 : decode cX6_init 4 = .ok (.aload_n 0, 1) := by decide +kernel
theorem dX6_init_5 : decode cX6_init 5 = .ok (.bipush 64, 2) := by decide +kernel
theorem dX6_init_7 : decode cX6_init 7 = .ok (.newarray .int, 2) := by decide +kernel
theorem dX6_init_9 : decode cX6_init 9 = .ok (.putfield 11, 3) := by decide +kernel
theorem dX6_init_12 : decode cX6_init 12 = .ok (.return_, 1) := by decide +kernel
def σX6 : Sg := σz
theorem df6 : ∀ j, j < 7 → defaultValue (tyX6 j) = vp_V (dfl [(4, 0), (0, 0), (0, 0), (0, 0), (0, 0), (0, 0), (0, 0)]) j := by decide +kernel
theorem cwi_X6 : Cwi yX6_init cX6_init 1 := ⟨aw_43, aw_20, ⟨by decide, by decide⟩, by decide +kernel, by decide, rfl⟩
set_option maxRecDepth 8000 in
theorem bn_X6 {K : KT} (C : CxI K cX6_init RX6 1 1 1 64) (hN : (kmeth K).name = "<init>") (hQ : Rki K layS6 σX6 1 64) : GW K 0 (pad [some (.ref (kad K 0))] 1) [] 0 0 (WI K [(0, 6, [(4, 0), (0, 0), (0, 0), (0, 0), (0, 0), (0, 0), (0, 0)])] σz (kad K)) := by
  show GW K 0 [some (.ref (kad K 0))] [] 0 0 (WI K _ _ (kad K))
  refine n_aload_n C.1 dX6_init_0 rfl (i := 0) rfl ?_
  refine n_obj C dX6_init_1 aw_44 aw_37 aw_38 rfl (Nat.le_of_ble_eq_true rfl) (Nat.le_of_ble_eq_true rfl) ?_
  refine n_aload_n C.1 dX6_init_4 rfl (i := 0) rfl ?_
  refine n_bipush C.1 dX6_init_5 (v := (64 : Int32)) (by decide) ?_
  refine n_newI C (N := 64) dX6_init_7 aw_68 (by decide) (by decide) (Nat.le_of_ble_eq_true rfl) (Nat.le_of_ble_eq_true rfl) (Nat.le_of_ble_eq_true rfl) (fun a1 e1 => ?_)
  rw [← e1 0 (Nat.le_of_ble_eq_true rfl)]
  have z1 : a1 0 = kad K 0 := (e1 0 (Nat.le_of_ble_eq_true rfl)).trans rfl
  show GW K 9 [some (.ref (a1 0))] [.ref (a1 1), .ref (a1 0)] 1 64 (WI K _ _ a1)
  refine n_putC C (o := 0) (kx := 6) (k := 0) (off := 1) (v := 1) hN dX6_init_9 rfl (Nat.le_of_ble_eq_true rfl) rfl (by decide) aw_45 inA6 tyX6_ok nmX6 rfl (fun _ => rfl) (fun _ => rfl) rfl (Nat.le_of_ble_eq_true rfl) ?_
  exact n_vret C hQ z1 (Nat.le_of_ble_eq_true rfl) dX6_init_12
theorem cn_X6 : Cn yX6_init cX6_init 1 1 6 [(4, 0), (0, 0), (0, 0), (0, 0), (0, 0), (0, 0), (0, 0)] layS6 σX6 1 64 := cn_of (by decide) rfl (by decide) (by decide) (fun K C hN hQ => bn_X6 C hN hQ)
theorem dX7_init_0 : decode cX7_init 0 = .ok (.aload_n 0, 1) := by decide +kernel
theorem dX7_init_1 : decode cX7_init 1 = .ok (.invokespecial 5, 3) := by decide +kernel
theorem dX7_init_4 : decode cX7_init 4 = .ok (.aload_n 0, 1) := by decide +kernel
theorem dX7_init_5 : decode cX7_init 5 = .ok (.bipush 30, 2) := by decide +kernel
theorem dX7_init_7 : decode cX7_init 7 = .ok (.newarray .int, 2) := by decide +kernel
theorem dX7_init_9 : decode cX7_init 9 = .ok (.putfield 11, 3) := by decide +kernel
theorem dX7_init_12 : decode cX7_init 12 = .ok (.aload_n 0, 1) := by decide +kernel
theorem dX7_init_13 : decode cX7_init 13 = .ok (.bipush 30, 2) := by decide +kernel
theorem dX7_init_15 : decode cX7_init 15 = .ok (.newarray .int, 2) := by decide +kernel
theorem dX7_init_17 : decode cX7_init 17 = .ok (.putfield 15, 3) := by decide +kernel
theorem dX7_init_20 : decode cX7_init 20 = .ok (.aload_n 0, 1) := by decide +kernel
theorem dX7_init_21 : decode cX7_init 21 = .ok (.bipush 30, 2) := by decide +kernel
theorem dX7_init_23 : decode cX7_init 23 = .ok (.newarray .int, 2) := by decide +kernel
theorem dX7_init_25 : decode cX7_init 25 = .ok (.putfield 18, 3) := by decide +kernel
theorem dX7_init_28 : decode cX7_init 28 = .ok (.aload_n 0, 1) := by decide +kernel
theorem dX7_init_29 : decode cX7_init 29 = .ok (.bipush 30, 2) := by decide +kernel
theorem dX7_init_31 : decode cX7_init 31 = .ok (.newarray .int, 2) := by decide +kernel
theorem dX7_init_33 : decode cX7_init 33 = .ok (.putfield 21, 3) := by decide +kernel
theorem dX7_init_36 : decode cX7_init 36 = .ok (.aload_n 0, 1) := by decide +kernel
theorem dX7_init_37 : decode cX7_init 37 = .ok (.bipush 30, 2) := by decide +kernel
theorem dX7_init_39 : decode cX7_init 39 = .ok (.iconst 4, 1) := by decide +kernel
theorem dX7_init_40 : decode cX7_init 40 = .ok (.multianewarray 24 2, 4) := by decide +kernel
theorem dX7_init_44 : decode cX7_init 44 = .ok (.putfield 26, 3) := by decide +kernel
theorem dX7_init_47 : decode cX7_init 47 = .ok (.return_, 1) := by decide +kernel
def σX7 : Sg := σz
theorem df7 : ∀ j, j < 8 → defaultValue (tyX7 j) = vp_V (dfl [(4, 0), (4, 0), (4, 0), (4, 0), (4, 0), (0, 0), (0, 0), (0, 0)]) j := by decide +kernel
theorem cwi_X7 : Cwi yX7_init cX7_init 1 := ⟨aw_79, aw_22, ⟨by decide, by decide⟩, by decide +kernel, by decide, rfl⟩
set_option maxRecDepth 8000 in
theorem bn_X7 {K : KT} (C : CxI K cX7_init RX7 1 1 35 270) (hN : (kmeth K).name = "<init>") (hQ : Rki K layS7 σX7 35 270) : GW K 0 (pad [some (.ref (kad K 0))] 1) [] 0 0 (WI K [(0, 7, [(4, 0), (4, 0), (4, 0), (4, 0), (4, 0), (0, 0), (0, 0), (0, 0)])] σz (kad K)) := by
  show GW K 0 [some (.ref (kad K 0))] [] 0 0 (WI K _ _ (kad K))
  refine n_aload_n C.1 dX7_init_0 rfl (i := 0) rfl ?_
  refine n_obj C dX7_init_1 aw_80 aw_37 aw_38 rfl (Nat.le_of_ble_eq_true rfl) (Nat.le_of_ble_eq_true rfl) ?_
  refine n_aload_n C.1 dX7_init_4 rfl (i := 0) rfl ?_
  refine n_bipush C.1 dX7_init_5 (v := (30 : Int32)) (by decide) ?_
  refine n_newI C (N := 30) dX7_init_7 aw_68 (by decide) (by decide) (Nat.le_of_ble_eq_true rfl) (Nat.le_of_ble_eq_true rfl) (Nat.le_of_ble_eq_true rfl) (fun a1 e1 => ?_)
  rw [← e1 0 (Nat.le_of_ble_eq_true rfl)]
  have z1 : a1 0 = kad K 0 := (e1 0 (Nat.le_of_ble_eq_true rfl)).trans rfl
  show GW K 9 [some (.ref (a1 0))] [.ref (a1 1), .ref (a1 0)] 1 30 (WI K _ _ a1)
  refine n_putC C (o := 0) (kx := 7) (k := 0) (off := 1) (v := 1) hN dX7_init_9 rfl (Nat.le_of_ble_eq_true rfl) rfl (by decide) aw_83 inA7 tyX7_ok nmX7 rfl (fun _ => rfl) (fun _ => rfl) rfl (Nat.le_of_ble_eq_true rfl) ?_
  refine n_aload_n C.1 dX7_init_12 rfl (i := 0) rfl ?_
  refine n_bipush C.1 dX7_init_13 (v := (30 : Int32)) (by decide) ?_
  refine n_newI C (N := 30) dX7_init_15 aw_68 (by decide) (by decide) (Nat.le_of_ble_eq_true rfl) (Nat.le_of_ble_eq_true rfl) (Nat.le_of_ble_eq_true rfl) (fun a2 e2 => ?_)
  rw [← e2 0 (Nat.le_of_ble_eq_true rfl)]
  have z2 : a2 0 = kad K 0 := (e2 0 (Nat.le_of_ble_eq_true rfl)).trans z1
  show GW K 17 [some (.ref (a2 0))] [.ref (a2 2), .ref (a2 0)] 2 60 (WI K _ _ a2)
  refine n_putC C (o := 0) (kx := 7) (k := 1) (off := 2) (v := 2) hN dX7_init_17 rfl (Nat.le_of_ble_eq_true rfl) rfl (by decide) aw_86 inA7 tyX7_ok nmX7 rfl (fun _ => rfl) (fun _ => rfl) rfl (Nat.le_of_ble_eq_true rfl) ?_
  refine n_aload_n C.1 dX7_init_20 rfl (i := 0) rfl ?_
  refine n_bipush C.1 dX7_init_21 (v := (30 : Int32)) (by decide) ?_
  refine n_newI C (N := 30) dX7_init_23 aw_68 (by decide) (by decide) (Nat.le_of_ble_eq_true rfl) (Nat.le_of_ble_eq_true rfl) (Nat.le_of_ble_eq_true rfl) (fun a3 e3 => ?_)
  rw [← e3 0 (Nat.le_of_ble_eq_true rfl)]
  have z3 : a3 0 = kad K 0 := (e3 0 (Nat.le_of_ble_eq_true rfl)).trans z2
  show GW K 25 [some (.ref (a3 0))] [.ref (a3 3), .ref (a3 0)] 3 90 (WI K _ _ a3)
  refine n_putC C (o := 0) (kx := 7) (k := 2) (off := 3) (v := 3) hN dX7_init_25 rfl (Nat.le_of_ble_eq_true rfl) rfl (by decide) aw_89 inA7 tyX7_ok nmX7 rfl (fun _ => rfl) (fun _ => rfl) rfl (Nat.le_of_ble_eq_true rfl) ?_
  refine n_aload_n C.1 dX7_init_28 rfl (i := 0) rfl ?_
  refine n_bipush C.1 dX7_init_29 (v := (30 : Int32)) (by decide) ?_
  refine n_newI C (N := 30) dX7_init_31 aw_68 (by decide) (by decide) (Nat.le_of_ble_eq_true rfl) (Nat.le_of_ble_eq_true rfl) (Nat.le_of_ble_eq_true rfl) (fun a4 e4 => ?_)
  rw [← e4 0 (Nat.le_of_ble_eq_true rfl)]
  have z4 : a4 0 = kad K 0 := (e4 0 (Nat.le_of_ble_eq_true rfl)).trans z3
  show GW K 33 [some (.ref (a4 0))] [.ref (a4 4), .ref (a4 0)] 4 120 (WI K _ _ a4)
  refine n_putC C (o := 0) (kx := 7) (k := 3) (off := 4) (v := 4) hN dX7_init_33 rfl (Nat.le_of_ble_eq_true rfl) rfl (by decide) aw_91 inA7 tyX7_ok nmX7 rfl (fun _ => rfl) (fun _ => rfl) rfl (Nat.le_of_ble_eq_true rfl) ?_
  refine n_aload_n C.1 dX7_init_36 rfl (i := 0) rfl ?_
  refine n_bipush C.1 dX7_init_37 (v := (30 : Int32)) (by decide) ?_
  refine n_iconst C.1 dX7_init_39 (v := (4 : Int32)) (by decide) ?_
  refine n_mna C (N := 30) (M := 4) dX7_init_40 aw_81 aw_68 (by decide) (by decide) (by decide) (by decide) (Nat.le_of_ble_eq_true rfl) (Nat.le_of_ble_eq_true rfl) (Nat.le_of_ble_eq_true rfl) (Nat.le_of_ble_eq_true rfl) (fun a5 e5 => ?_)
  rw [← e5 0 (Nat.le_of_ble_eq_true rfl)]
  have z5 : a5 0 = kad K 0 := (e5 0 (Nat.le_of_ble_eq_true rfl)).trans z4
  show GW K 44 [some (.ref (a5 0))] [.ref (a5 5), .ref (a5 0)] 35 270 (WI K _ _ a5)
  refine n_putC C (o := 0) (kx := 7) (k := 4) (off := 5) (v := 5) hN dX7_init_44 rfl (Nat.le_of_ble_eq_true rfl) rfl (by decide) aw_93 inA7 tyX7_ok nmX7 rfl (fun _ => rfl) (fun _ => rfl) rfl (Nat.le_of_ble_eq_true rfl) ?_
  exact n_vret C hQ z5 (Nat.le_of_ble_eq_true rfl) dX7_init_47
theorem cn_X7 : Cn yX7_init cX7_init 1 1 7 [(4, 0), (4, 0), (4, 0), (4, 0), (4, 0), (0, 0), (0, 0), (0, 0)] layS7 σX7 35 270 := cn_of (by decide) rfl (by decide) (by decide) (fun K C hN hQ => bn_X7 C hN hQ)
theorem dX8_init_0 : decode cX8_init 0 = .ok (.aload_n 0, 1) := by decide +kernel
theorem dX8_init_1 : decode cX8_init 1 = .ok (.invokespecial 5, 3) := by decide +kernel
theorem dX8_init_4 : decode cX8_init 4 = .ok (.aload_n 0, 1) := by decide +kernel
theorem dX8_init_5 : decode cX8_init 5 = .ok (.new 1, 3) := by decide +kernel
theorem dX8_init_8 : decode cX8_init 8 = .ok (.dup, 1) := by decide +kernel
theorem dX8_init_9 : decode cX8_init 9 = .ok (.invokespecial 11, 3) := by decide +kernel
theorem dX8_init_12 : decode cX8_init 12 = .ok (.putfield 12, 3) := by decide +kernel
theorem dX8_init_15 : decode cX8_init 15 = .ok (.aload_n 0, 1) := by decide +kernel
theorem dX8_init_16 : decode cX8_init 16 = .ok (.new 18, 3) := by decide +kernel
theorem dX8_init_19 : decode cX8_init 19 = .ok (.dup, 1) := by decide +kernel
theorem dX8_init_20 : decode cX8_init 20 = .ok (.invokespecial 20, 3) := by decide +kernel
theorem dX8_init_23 : decode cX8_init 23 = .ok (.putfield 21, 3) := by decide +kernel
theorem dX8_init_26 : decode cX8_init 26 = .ok (.aload_n 0, 1) := by decide +kernel
theorem dX8_init_27 : decode cX8_init 27 = .ok (.bipush 10, 2) := by decide +kernel
theorem dX8_init_29 : decode cX8_init 29 = .ok (.newarray .int, 2) := by decide +kernel
theorem dX8_init_31 : decode cX8_init 31 = .ok (.putfield 25, 3) := by decide +kernel
theorem dX8_init_34 : decode cX8_init 34 = .ok (.aload_n 0, 1) := by decide +kernel
theorem dX8_init_35 : decode cX8_init 35 = .ok (.bipush 10, 2) := by decide +kernel
theorem dX8_init_37 : decode cX8_init 37 = .ok (.newarray .int, 2) := by decide +kernel
theorem dX8_init_39 : decode cX8_init 39 = .ok (.putfield 29, 3) := by decide +kernel
theorem dX8_init_42 : decode cX8_init 42 = .ok (.aload_n 0, 1) := by decide +kernel
theorem dX8_init_43 : decode cX8_init 43 = .ok (.bipush 10, 2) := by decide +kernel
theorem dX8_init_45 : decode cX8_init 45 = .ok (.newarray .int, 2) := by decide +kernel
theorem dX8_init_47 : decode cX8_init 47 = .ok (.putfield 32, 3) := by decide +kernel
theorem dX8_init_50 : decode cX8_init 50 = .ok (.aload_n 0, 1) := by decide +kernel
theorem dX8_init_51 : decode cX8_init 51 = .ok (.bipush 9, 2) := by decide +kernel
theorem dX8_init_53 : decode cX8_init 53 = .ok (.newarray .int, 2) := by decide +kernel
theorem dX8_init_55 : decode cX8_init 55 = .ok (.putfield 35, 3) := by decide +kernel
theorem dX8_init_58 : decode cX8_init 58 = .ok (.aload_n 0, 1) := by decide +kernel
theorem dX8_init_59 : decode cX8_init 59 = .ok (.bipush 9, 2) := by decide +kernel
theorem dX8_init_61 : decode cX8_init 61 = .ok (.newarray .int, 2) := by decide +kernel
theorem dX8_init_63 : decode cX8_init 63 = .ok (.putfield 38, 3) := by decide +kernel
theorem dX8_init_66 : decode cX8_init 66 = .ok (.aload_n 0, 1) := by decide +kernel
theorem dX8_init_67 : decode cX8_init 67 = .ok (.new 41, 3) := by decide +kernel
theorem dX8_init_70 : decode cX8_init 70 = .ok (.dup, 1) := by decide +kernel
theorem dX8_init_71 : decode cX8_init 71 = .ok (.invokespecial 43, 3) := by decide +kernel
theorem dX8_init_74 : decode cX8_init 74 = .ok (.putfield 44, 3) := by decide +kernel
theorem dX8_init_77 : decode cX8_init 77 = .ok (.aload_n 0, 1) := by decide +kernel
theorem dX8_init_78 : decode cX8_init 78 = .ok (.iconst 1, 1) := by decide +kernel
theorem dX8_init_79 : decode cX8_init 79 = .ok (.putfield 48, 3) := by decide +kernel
theorem dX8_init_82 : decode cX8_init 82 = .ok (.return_, 1) := by decide +kernel
def σX8 : Sg := (wI (wR (sapp 44 (sapp 37 (sapp 1 σz σX7) σX1) σX0) 0 7 44) 0 8 (1 : Int32))
theorem df8 : ∀ j, j < 17 → defaultValue (tyX8 j) = vp_V (dfl [(4, 0), (4, 0), (4, 0), (4, 0), (4, 0), (4, 0), (4, 0), (4, 0), (0, 0), (0, 0), (0, 0), (0, 0), (0, 0), (0, 0), (0, 0), (0, 0), (1, 0)]) j := by decide +kernel
theorem cwi_X8 : Cwi yX8_init cX8_init 1 := ⟨aw_73, aw_21, ⟨by decide, by decide⟩, by decide +kernel, by decide, rfl⟩
set_option maxRecDepth 8000 in
theorem bn_X8 {K : KT} (C : CxI K cX8_init RX8 1 2 44 336) (hN : (kmeth K).name = "<init>") (hQ : Rki K layS8 σX8 44 336) : GW K 0 (pad [some (.ref (kad K 0))] 1) [] 0 0 (WI K [(0, 8, [(4, 0), (4, 0), (4, 0), (4, 0), (4, 0), (4, 0), (4, 0), (4, 0), (0, 0), (0, 0), (0, 0), (0, 0), (0, 0), (0, 0), (0, 0), (0, 0), (1, 0)])] σz (kad K)) := by
  show GW K 0 [some (.ref (kad K 0))] [] 0 0 (WI K _ _ (kad K))
  refine n_aload_n C.1 dX8_init_0 rfl (i := 0) rfl ?_
  refine n_obj C dX8_init_1 aw_74 aw_37 aw_38 rfl (Nat.le_of_ble_eq_true rfl) (Nat.le_of_ble_eq_true rfl) ?_
  refine n_aload_n C.1 dX8_init_4 rfl (i := 0) rfl ?_
  refine n_new C (kx := 7) (sl := [(4, 0), (4, 0), (4, 0), (4, 0), (4, 0), (0, 0), (0, 0), (0, 0)]) dX8_init_5 rfl inA7 tyX7_ok aw_75 aw_76 aw_22 (by decide) df7 (Nat.le_of_ble_eq_true rfl) (Nat.le_of_ble_eq_true rfl) (fun a1 e1 y1 => ?_)
  rw [← e1 0 (Nat.le_of_ble_eq_true rfl)]
  have z1 : a1 0 = kad K 0 := (e1 0 (Nat.le_of_ble_eq_true rfl)).trans rfl
  show GW K 8 [some (.ref (a1 0))] [.ref (a1 1), .ref (a1 0)] 1 8 (WI K _ _ a1)
  refine n_dup C.1 dX8_init_8 rfl ?_
  refine n_call C (n := 1) (Y := _) cn_X7 dX8_init_9 cwi_X7 (Or.inr ⟨_, aw_77⟩) aw_78 (by decide) (Nat.le_of_ble_eq_true rfl) rfl rfl (Nat.le_of_ble_eq_true rfl) (Nat.le_of_ble_eq_true rfl) (Nat.le_of_ble_eq_true rfl) (Nat.le_of_ble_eq_true rfl) rfl y1 (fun a2 e2 _ => ?_)
  rw [← e2 0 (Nat.le_of_ble_eq_true rfl)]
  rw [← e2 1 (Nat.le_of_ble_eq_true rfl)]
  have z2 : a2 0 = kad K 0 := (e2 0 (Nat.le_of_ble_eq_true rfl)).trans z1
  show GW K 12 [some (.ref (a2 0))] [.ref (a2 1), .ref (a2 0)] 36 278 (WI K _ _ a2)
  refine n_putC C (o := 0) (kx := 8) (k := 0) (off := 1) (v := 1) hN dX8_init_12 rfl (Nat.le_of_ble_eq_true rfl) rfl (by decide) aw_160 inA8 tyX8_ok nmX8 rfl (fun _ => rfl) (fun _ => rfl) rfl (Nat.le_of_ble_eq_true rfl) ?_
  refine n_aload_n C.1 dX8_init_15 rfl (i := 0) rfl ?_
  refine n_new C (kx := 1) (sl := [(4, 0)]) dX8_init_16 rfl inA1 tyX1_ok aw_117 aw_118 aw_23 (by decide) df1 (Nat.le_of_ble_eq_true rfl) (Nat.le_of_ble_eq_true rfl) (fun a3 e3 y3 => ?_)
  rw [← e3 0 (Nat.le_of_ble_eq_true rfl)]
  have z3 : a3 0 = kad K 0 := (e3 0 (Nat.le_of_ble_eq_true rfl)).trans z2
  show GW K 19 [some (.ref (a3 0))] [.ref (a3 37), .ref (a3 0)] 37 279 (WI K _ _ a3)
  refine n_dup C.1 dX8_init_19 rfl ?_
  refine n_call C (n := 37) (Y := _) cn_X1 dX8_init_20 cwi_X1 (Or.inr ⟨_, aw_119⟩) aw_120 (by decide) (Nat.le_of_ble_eq_true rfl) rfl rfl (Nat.le_of_ble_eq_true rfl) (Nat.le_of_ble_eq_true rfl) (Nat.le_of_ble_eq_true rfl) (Nat.le_of_ble_eq_true rfl) rfl y3 (fun a4 e4 _ => ?_)
  rw [← e4 0 (Nat.le_of_ble_eq_true rfl)]
  rw [← e4 37 (Nat.le_of_ble_eq_true rfl)]
  have z4 : a4 0 = kad K 0 := (e4 0 (Nat.le_of_ble_eq_true rfl)).trans z3
  show GW K 23 [some (.ref (a4 0))] [.ref (a4 37), .ref (a4 0)] 38 282 (WI K _ _ a4)
  refine n_putC C (o := 0) (kx := 8) (k := 1) (off := 37) (v := 37) hN dX8_init_23 rfl (Nat.le_of_ble_eq_true rfl) rfl (by decide) aw_162 inA8 tyX8_ok nmX8 rfl (fun _ => rfl) (fun _ => rfl) rfl (Nat.le_of_ble_eq_true rfl) ?_
  refine n_aload_n C.1 dX8_init_26 rfl (i := 0) rfl ?_
  refine n_bipush C.1 dX8_init_27 (v := (10 : Int32)) (by decide) ?_
  refine n_newI C (N := 10) dX8_init_29 aw_68 (by decide) (by decide) (Nat.le_of_ble_eq_true rfl) (Nat.le_of_ble_eq_true rfl) (Nat.le_of_ble_eq_true rfl) (fun a5 e5 => ?_)
  rw [← e5 0 (Nat.le_of_ble_eq_true rfl)]
  have z5 : a5 0 = kad K 0 := (e5 0 (Nat.le_of_ble_eq_true rfl)).trans z4
  show GW K 31 [some (.ref (a5 0))] [.ref (a5 39), .ref (a5 0)] 39 292 (WI K _ _ a5)
  refine n_putC C (o := 0) (kx := 8) (k := 2) (off := 39) (v := 39) hN dX8_init_31 rfl (Nat.le_of_ble_eq_true rfl) rfl (by decide) aw_164 inA8 tyX8_ok nmX8 rfl (fun _ => rfl) (fun _ => rfl) rfl (Nat.le_of_ble_eq_true rfl) ?_
  refine n_aload_n C.1 dX8_init_34 rfl (i := 0) rfl ?_
  refine n_bipush C.1 dX8_init_35 (v := (10 : Int32)) (by decide) ?_
  refine n_newI C (N := 10) dX8_init_37 aw_68 (by decide) (by decide) (Nat.le_of_ble_eq_true rfl) (Nat.le_of_ble_eq_true rfl) (Nat.le_of_ble_eq_true rfl) (fun a6 e6 => ?_)
  rw [← e6 0 (Nat.le_of_ble_eq_true rfl)]
  have z6 : a6 0 = kad K 0 := (e6 0 (Nat.le_of_ble_eq_true rfl)).trans z5
  show GW K 39 [some (.ref (a6 0))] [.ref (a6 40), .ref (a6 0)] 40 302 (WI K _ _ a6)
  refine n_putC C (o := 0) (kx := 8) (k := 3) (off := 40) (v := 40) hN dX8_init_39 rfl (Nat.le_of_ble_eq_true rfl) rfl (by decide) aw_165 inA8 tyX8_ok nmX8 rfl (fun _ => rfl) (fun _ => rfl) rfl (Nat.le_of_ble_eq_true rfl) ?_
  refine n_aload_n C.1 dX8_init_42 rfl (i := 0) rfl ?_
  refine n_bipush C.1 dX8_init_43 (v := (10 : Int32)) (by decide) ?_
  refine n_newI C (N := 10) dX8_init_45 aw_68 (by decide) (by decide) (Nat.le_of_ble_eq_true rfl) (Nat.le_of_ble_eq_true rfl) (Nat.le_of_ble_eq_true rfl) (fun a7 e7 => ?_)
  rw [← e7 0 (Nat.le_of_ble_eq_true rfl)]
  have z7 : a7 0 = kad K 0 := (e7 0 (Nat.le_of_ble_eq_true rfl)).trans z6
  show GW K 47 [some (.ref (a7 0))] [.ref (a7 41), .ref (a7 0)] 41 312 (WI K _ _ a7)
  refine n_putC C (o := 0) (kx := 8) (k := 4) (off := 41) (v := 41) hN dX8_init_47 rfl (Nat.le_of_ble_eq_true rfl) rfl (by decide) aw_166 inA8 tyX8_ok nmX8 rfl (fun _ => rfl) (fun _ => rfl) rfl (Nat.le_of_ble_eq_true rfl) ?_
  refine n_aload_n C.1 dX8_init_50 rfl (i := 0) rfl ?_
  refine n_bipush C.1 dX8_init_51 (v := (9 : Int32)) (by decide) ?_
  refine n_newI C (N := 9) dX8_init_53 aw_68 (by decide) (by decide) (Nat.le_of_ble_eq_true rfl) (Nat.le_of_ble_eq_true rfl) (Nat.le_of_ble_eq_true rfl) (fun a8 e8 => ?_)
  rw [← e8 0 (Nat.le_of_ble_eq_true rfl)]
  have z8 : a8 0 = kad K 0 := (e8 0 (Nat.le_of_ble_eq_true rfl)).trans z7
  show GW K 55 [some (.ref (a8 0))] [.ref (a8 42), .ref (a8 0)] 42 321 (WI K _ _ a8)
  refine n_putC C (o := 0) (kx := 8) (k := 5) (off := 42) (v := 42) hN dX8_init_55 rfl (Nat.le_of_ble_eq_true rfl) rfl (by decide) aw_167 inA8 tyX8_ok nmX8 rfl (fun _ => rfl) (fun _ => rfl) rfl (Nat.le_of_ble_eq_true rfl) ?_
  refine n_aload_n C.1 dX8_init_58 rfl (i := 0) rfl ?_
  refine n_bipush C.1 dX8_init_59 (v := (9 : Int32)) (by decide) ?_
  refine n_newI C (N := 9) dX8_init_61 aw_68 (by decide) (by decide) (Nat.le_of_ble_eq_true rfl) (Nat.le_of_ble_eq_true rfl) (Nat.le_of_ble_eq_true rfl) (fun a9 e9 => ?_)
  rw [← e9 0 (Nat.le_of_ble_eq_true rfl)]
  have z9 : a9 0 = kad K 0 := (e9 0 (Nat.le_of_ble_eq_true rfl)).trans z8
  show GW K 63 [some (.ref (a9 0))] [.ref (a9 43), .ref (a9 0)] 43 330 (WI K _ _ a9)
  refine n_putC C (o := 0) (kx := 8) (k := 6) (off := 43) (v := 43) hN dX8_init_63 rfl (Nat.le_of_ble_eq_true rfl) rfl (by decide) aw_168 inA8 tyX8_ok nmX8 rfl (fun _ => rfl) (fun _ => rfl) rfl (Nat.le_of_ble_eq_true rfl) ?_
  refine n_aload_n C.1 dX8_init_66 rfl (i := 0) rfl ?_
  refine n_new C (kx := 0) (sl := [(0, 0), (0, 0), (0, 0), (0, 0), (0, 0), (0, 0)]) dX8_init_67 rfl inA0 tyX0_ok aw_127 aw_128 aw_24 (by decide) df0 (Nat.le_of_ble_eq_true rfl) (Nat.le_of_ble_eq_true rfl) (fun a10 e10 y10 => ?_)
  rw [← e10 0 (Nat.le_of_ble_eq_true rfl)]
  have z10 : a10 0 = kad K 0 := (e10 0 (Nat.le_of_ble_eq_true rfl)).trans z9
  show GW K 70 [some (.ref (a10 0))] [.ref (a10 44), .ref (a10 0)] 44 336 (WI K _ _ a10)
  refine n_dup C.1 dX8_init_70 rfl ?_
  refine n_call C (n := 44) (Y := _) cn_X0 dX8_init_71 cwi_X0 (Or.inr ⟨_, aw_129⟩) aw_130 (by decide) (Nat.le_of_ble_eq_true rfl) rfl rfl (Nat.le_of_ble_eq_true rfl) (Nat.le_of_ble_eq_true rfl) (Nat.le_of_ble_eq_true rfl) (Nat.le_of_ble_eq_true rfl) rfl y10 (fun a11 e11 _ => ?_)
  rw [← e11 0 (Nat.le_of_ble_eq_true rfl)]
  rw [← e11 44 (Nat.le_of_ble_eq_true rfl)]
  have z11 : a11 0 = kad K 0 := (e11 0 (Nat.le_of_ble_eq_true rfl)).trans z10
  show GW K 74 [some (.ref (a11 0))] [.ref (a11 44), .ref (a11 0)] 44 336 (WI K _ _ a11)
  refine n_putM C (o := 0) (kx := 8) (k := 7) (v := 44) hN dX8_init_74 rfl (Nat.le_of_ble_eq_true rfl) rfl (by decide) aw_169 inA8 tyX8_ok nmX8 rfl (fun _ => rfl) (fun _ => rfl) (Nat.le_of_ble_eq_true rfl) rfl ?_
  refine n_aload_n C.1 dX8_init_77 rfl (i := 0) rfl ?_
  refine n_iconst C.1 dX8_init_78 (v := (1 : Int32)) (by decide) ?_
  refine n_putI C (o := 0) (kx := 8) (k := 8) hN dX8_init_79 rfl rfl rfl (by decide) aw_170 inA8 tyX8_ok nmX8 rfl rfl rfl ?_
  exact n_vret C hQ z11 (Nat.le_of_ble_eq_true rfl) dX8_init_82
theorem cn_X8 : Cn yX8_init cX8_init 1 2 8 [(4, 0), (4, 0), (4, 0), (4, 0), (4, 0), (4, 0), (4, 0), (4, 0), (0, 0), (0, 0), (0, 0), (0, 0), (0, 0), (0, 0), (0, 0), (0, 0), (1, 0)] layS8 σX8 44 336 := cn_of (by decide) rfl (by decide) (by decide) (fun K C hN hQ => bn_X8 C hN hQ)
theorem dX4_init_0 : decode cX4_init 0 = .ok (.aload_n 0, 1) := by decide +kernel
theorem dX4_init_1 : decode cX4_init 1 = .ok (.invokespecial 3, 3) := by decide +kernel
theorem dX4_init_4 : decode cX4_init 4 = .ok (.aload_n 0, 1) := by decide +kernel
theorem dX4_init_5 : decode cX4_init 5 = .ok (.bipush 10, 2) := by decide +kernel
theorem dX4_init_7 : decode cX4_init 7 = .ok (.newarray .int, 2) := by decide +kernel
theorem dX4_init_9 : decode cX4_init 9 = .ok (.putfield 11, 3) := by decide +kernel
theorem dX4_init_12 : decode cX4_init 12 = .ok (.aload_n 0, 1) := by decide +kernel
theorem dX4_init_13 : decode cX4_init 13 = .ok (.bipush 10, 2) := by decide +kernel
theorem dX4_init_15 : decode cX4_init 15 = .ok (.newarray .int, 2) := by decide +kernel
theorem dX4_init_17 : decode cX4_init 17 = .ok (.putfield 15, 3) := by decide +kernel
theorem dX4_init_20 : decode cX4_init 20 = .ok (.aload_n 0, 1) := by decide +kernel
theorem dX4_init_21 : decode cX4_init 21 = .ok (.bipush 10, 2) := by decide +kernel
theorem dX4_init_23 : decode cX4_init 23 = .ok (.newarray .int, 2) := by decide +kernel
theorem dX4_init_25 : decode cX4_init 25 = .ok (.putfield 18, 3) := by decide +kernel
theorem dX4_init_28 : decode cX4_init 28 = .ok (.return_, 1) := by decide +kernel
def σX4 : Sg := σz
theorem df4 : ∀ j, j < 4 → defaultValue (tyX4 j) = vp_V (dfl [(4, 0), (4, 0), (4, 0), (0, 0)]) j := by decide +kernel
theorem cwi_X4 : Cwi yX4_init cX4_init 1 := ⟨aw_225, aw_25, ⟨by decide, by decide⟩, by decide +kernel, by decide, rfl⟩
set_option maxRecDepth 8000 in
theorem bn_X4 {K : KT} (C : CxI K cX4_init RX4 1 1 3 30) (hN : (kmeth K).name = "<init>") (hQ : Rki K layS4 σX4 3 30) : GW K 0 (pad [some (.ref (kad K 0))] 1) [] 0 0 (WI K [(0, 4, [(4, 0), (4, 0), (4, 0), (0, 0)])] σz (kad K)) := by
  show GW K 0 [some (.ref (kad K 0))] [] 0 0 (WI K _ _ (kad K))
  refine n_aload_n C.1 dX4_init_0 rfl (i := 0) rfl ?_
  refine n_obj C dX4_init_1 aw_226 aw_37 aw_38 rfl (Nat.le_of_ble_eq_true rfl) (Nat.le_of_ble_eq_true rfl) ?_
  refine n_aload_n C.1 dX4_init_4 rfl (i := 0) rfl ?_
  refine n_bipush C.1 dX4_init_5 (v := (10 : Int32)) (by decide) ?_
  refine n_newI C (N := 10) dX4_init_7 aw_68 (by decide) (by decide) (Nat.le_of_ble_eq_true rfl) (Nat.le_of_ble_eq_true rfl) (Nat.le_of_ble_eq_true rfl) (fun a1 e1 => ?_)
  rw [← e1 0 (Nat.le_of_ble_eq_true rfl)]
  have z1 : a1 0 = kad K 0 := (e1 0 (Nat.le_of_ble_eq_true rfl)).trans rfl
  show GW K 9 [some (.ref (a1 0))] [.ref (a1 1), .ref (a1 0)] 1 10 (WI K _ _ a1)
  refine n_putC C (o := 0) (kx := 4) (k := 0) (off := 1) (v := 1) hN dX4_init_9 rfl (Nat.le_of_ble_eq_true rfl) rfl (by decide) aw_227 inA4 tyX4_ok nmX4 rfl (fun _ => rfl) (fun _ => rfl) rfl (Nat.le_of_ble_eq_true rfl) ?_
  refine n_aload_n C.1 dX4_init_12 rfl (i := 0) rfl ?_
  refine n_bipush C.1 dX4_init_13 (v := (10 : Int32)) (by decide) ?_
  refine n_newI C (N := 10) dX4_init_15 aw_68 (by decide) (by decide) (Nat.le_of_ble_eq_true rfl) (Nat.le_of_ble_eq_true rfl) (Nat.le_of_ble_eq_true rfl) (fun a2 e2 => ?_)
  rw [← e2 0 (Nat.le_of_ble_eq_true rfl)]
  have z2 : a2 0 = kad K 0 := (e2 0 (Nat.le_of_ble_eq_true rfl)).trans z1
  show GW K 17 [some (.ref (a2 0))] [.ref (a2 2), .ref (a2 0)] 2 20 (WI K _ _ a2)
  refine n_putC C (o := 0) (kx := 4) (k := 1) (off := 2) (v := 2) hN dX4_init_17 rfl (Nat.le_of_ble_eq_true rfl) rfl (by decide) aw_228 inA4 tyX4_ok nmX4 rfl (fun _ => rfl) (fun _ => rfl) rfl (Nat.le_of_ble_eq_true rfl) ?_
  refine n_aload_n C.1 dX4_init_20 rfl (i := 0) rfl ?_
  refine n_bipush C.1 dX4_init_21 (v := (10 : Int32)) (by decide) ?_
  refine n_newI C (N := 10) dX4_init_23 aw_68 (by decide) (by decide) (Nat.le_of_ble_eq_true rfl) (Nat.le_of_ble_eq_true rfl) (Nat.le_of_ble_eq_true rfl) (fun a3 e3 => ?_)
  rw [← e3 0 (Nat.le_of_ble_eq_true rfl)]
  have z3 : a3 0 = kad K 0 := (e3 0 (Nat.le_of_ble_eq_true rfl)).trans z2
  show GW K 25 [some (.ref (a3 0))] [.ref (a3 3), .ref (a3 0)] 3 30 (WI K _ _ a3)
  refine n_putC C (o := 0) (kx := 4) (k := 2) (off := 3) (v := 3) hN dX4_init_25 rfl (Nat.le_of_ble_eq_true rfl) rfl (by decide) aw_229 inA4 tyX4_ok nmX4 rfl (fun _ => rfl) (fun _ => rfl) rfl (Nat.le_of_ble_eq_true rfl) ?_
  exact n_vret C hQ z3 (Nat.le_of_ble_eq_true rfl) dX4_init_28
theorem cn_X4 : Cn yX4_init cX4_init 1 1 4 [(4, 0), (4, 0), (4, 0), (0, 0)] layS4 σX4 3 30 := cn_of (by decide) rfl (by decide) (by decide) (fun K C hN hQ => bn_X4 C hN hQ)
theorem dX2_init_0 : decode cX2_init 0 = .ok (.aload_n 0, 1) := by decide +kernel
theorem dX2_init_1 : decode cX2_init 1 = .ok (.invokespecial 3, 3) := by decide +kernel
theorem dX2_init_4 : decode cX2_init 4 = .ok (.aload_n 0, 1) := by decide +kernel
theorem dX2_init_5 : decode cX2_init 5 = .ok (.iconst 5, 1) := by decide +kernel
theorem dX2_init_6 : decode cX2_init 6 = .ok (.newarray .int, 2) := by decide +kernel
theorem dX2_init_8 : decode cX2_init 8 = .ok (.putfield 9, 3) := by decide +kernel
theorem dX2_init_11 : decode cX2_init 11 = .ok (.aload_n 0, 1) := by decide +kernel
theorem dX2_init_12 : decode cX2_init 12 = .ok (.iconst 5, 1) := by decide +kernel
theorem dX2_init_13 : decode cX2_init 13 = .ok (.newarray .int, 2) := by decide +kernel
theorem dX2_init_15 : decode cX2_init 15 = .ok (.putfield 15, 3) := by decide +kernel
theorem dX2_init_18 : decode cX2_init 18 = .ok (.aload_n 0, 1) := by decide +kernel
theorem dX2_init_19 : decode cX2_init 19 = .ok (.new 18, 3) := by decide +kernel
theorem dX2_init_22 : decode cX2_init 22 = .ok (.dup, 1) := by decide +kernel
theorem dX2_init_23 : decode cX2_init 23 = .ok (.invokespecial 20, 3) := by decide +kernel
theorem dX2_init_26 : decode cX2_init 26 = .ok (.putfield 21, 3) := by decide +kernel
theorem dX2_init_29 : decode cX2_init 29 = .ok (.return_, 1) := by decide +kernel
def σX2 : Sg := (sapp 3 σz σX1)
theorem df2 : ∀ j, j < 6 → defaultValue (tyX2 j) = vp_V (dfl [(4, 0), (4, 0), (4, 0), (0, 0), (0, 0), (0, 0)]) j := by decide +kernel
theorem cwi_X2 : Cwi yX2_init cX2_init 1 := ⟨aw_244, aw_26, ⟨by decide, by decide⟩, by decide +kernel, by decide, rfl⟩
set_option maxRecDepth 8000 in
theorem bn_X2 {K : KT} (C : CxI K cX2_init RX2 1 2 4 14) (hN : (kmeth K).name = "<init>") (hQ : Rki K layS2 σX2 4 14) : GW K 0 (pad [some (.ref (kad K 0))] 1) [] 0 0 (WI K [(0, 2, [(4, 0), (4, 0), (4, 0), (0, 0), (0, 0), (0, 0)])] σz (kad K)) := by
  show GW K 0 [some (.ref (kad K 0))] [] 0 0 (WI K _ _ (kad K))
  refine n_aload_n C.1 dX2_init_0 rfl (i := 0) rfl ?_
  refine n_obj C dX2_init_1 aw_245 aw_37 aw_38 rfl (Nat.le_of_ble_eq_true rfl) (Nat.le_of_ble_eq_true rfl) ?_
  refine n_aload_n C.1 dX2_init_4 rfl (i := 0) rfl ?_
  refine n_iconst C.1 dX2_init_5 (v := (5 : Int32)) (by decide) ?_
  refine n_newI C (N := 5) dX2_init_6 aw_68 (by decide) (by decide) (Nat.le_of_ble_eq_true rfl) (Nat.le_of_ble_eq_true rfl) (Nat.le_of_ble_eq_true rfl) (fun a1 e1 => ?_)
  rw [← e1 0 (Nat.le_of_ble_eq_true rfl)]
  have z1 : a1 0 = kad K 0 := (e1 0 (Nat.le_of_ble_eq_true rfl)).trans rfl
  show GW K 8 [some (.ref (a1 0))] [.ref (a1 1), .ref (a1 0)] 1 5 (WI K _ _ a1)
  refine n_putC C (o := 0) (kx := 2) (k := 0) (off := 1) (v := 1) hN dX2_init_8 rfl (Nat.le_of_ble_eq_true rfl) rfl (by decide) aw_248 inA2 tyX2_ok nmX2 rfl (fun _ => rfl) (fun _ => rfl) rfl (Nat.le_of_ble_eq_true rfl) ?_
  refine n_aload_n C.1 dX2_init_11 rfl (i := 0) rfl ?_
  refine n_iconst C.1 dX2_init_12 (v := (5 : Int32)) (by decide) ?_
  refine n_newI C (N := 5) dX2_init_13 aw_68 (by decide) (by decide) (Nat.le_of_ble_eq_true rfl) (Nat.le_of_ble_eq_true rfl) (Nat.le_of_ble_eq_true rfl) (fun a2 e2 => ?_)
  rw [← e2 0 (Nat.le_of_ble_eq_true rfl)]
  have z2 : a2 0 = kad K 0 := (e2 0 (Nat.le_of_ble_eq_true rfl)).trans z1
  show GW K 15 [some (.ref (a2 0))] [.ref (a2 2), .ref (a2 0)] 2 10 (WI K _ _ a2)
  refine n_putC C (o := 0) (kx := 2) (k := 1) (off := 2) (v := 2) hN dX2_init_15 rfl (Nat.le_of_ble_eq_true rfl) rfl (by decide) aw_249 inA2 tyX2_ok nmX2 rfl (fun _ => rfl) (fun _ => rfl) rfl (Nat.le_of_ble_eq_true rfl) ?_
  refine n_aload_n C.1 dX2_init_18 rfl (i := 0) rfl ?_
  refine n_new C (kx := 1) (sl := [(4, 0)]) dX2_init_19 rfl inA1 tyX1_ok aw_246 aw_118 aw_23 (by decide) df1 (Nat.le_of_ble_eq_true rfl) (Nat.le_of_ble_eq_true rfl) (fun a3 e3 y3 => ?_)
  rw [← e3 0 (Nat.le_of_ble_eq_true rfl)]
  have z3 : a3 0 = kad K 0 := (e3 0 (Nat.le_of_ble_eq_true rfl)).trans z2
  show GW K 22 [some (.ref (a3 0))] [.ref (a3 3), .ref (a3 0)] 3 11 (WI K _ _ a3)
  refine n_dup C.1 dX2_init_22 rfl ?_
  refine n_call C (n := 3) (Y := _) cn_X1 dX2_init_23 cwi_X1 (Or.inr ⟨_, aw_247⟩) aw_120 (by decide) (Nat.le_of_ble_eq_true rfl) rfl rfl (Nat.le_of_ble_eq_true rfl) (Nat.le_of_ble_eq_true rfl) (Nat.le_of_ble_eq_true rfl) (Nat.le_of_ble_eq_true rfl) rfl y3 (fun a4 e4 _ => ?_)
  rw [← e4 0 (Nat.le_of_ble_eq_true rfl)]
  rw [← e4 3 (Nat.le_of_ble_eq_true rfl)]
  have z4 : a4 0 = kad K 0 := (e4 0 (Nat.le_of_ble_eq_true rfl)).trans z3
  show GW K 26 [some (.ref (a4 0))] [.ref (a4 3), .ref (a4 0)] 4 14 (WI K _ _ a4)
  refine n_putC C (o := 0) (kx := 2) (k := 2) (off := 3) (v := 3) hN dX2_init_26 rfl (Nat.le_of_ble_eq_true rfl) rfl (by decide) aw_250 inA2 tyX2_ok nmX2 rfl (fun _ => rfl) (fun _ => rfl) rfl (Nat.le_of_ble_eq_true rfl) ?_
  exact n_vret C hQ z4 (Nat.le_of_ble_eq_true rfl) dX2_init_29
theorem cn_X2 : Cn yX2_init cX2_init 1 2 2 [(4, 0), (4, 0), (4, 0), (0, 0), (0, 0), (0, 0)] layS2 σX2 4 14 := cn_of (by decide) rfl (by decide) (by decide) (fun K C hN hQ => bn_X2 C hN hQ)
theorem dX3_init_0 : decode cX3_init 0 = .ok (.aload_n 0, 1) := by decide +kernel
theorem dX3_init_1 : decode cX3_init 1 = .ok (.invokespecial 3, 3) := by decide +kernel
theorem dX3_init_4 : decode cX3_init 4 = .ok (.aload_n 0, 1) := by decide +kernel
theorem dX3_init_5 : decode cX3_init 5 = .ok (.iconst 5, 1) := by decide +kernel
theorem dX3_init_6 : decode cX3_init 6 = .ok (.bipush 24, 2) := by decide +kernel
theorem dX3_init_8 : decode cX3_init 8 = .ok (.multianewarray 11 2, 4) := by decide +kernel
theorem dX3_init_12 : decode cX3_init 12 = .ok (.putfield 13, 3) := by decide +kernel
theorem dX3_init_15 : decode cX3_init 15 = .ok (.aload_n 0, 1) := by decide +kernel
theorem dX3_init_16 : decode cX3_init 16 = .ok (.iconst 5, 1) := by decide +kernel
theorem dX3_init_17 : decode cX3_init 17 = .ok (.newarray .boolean, 2) := by decide +kernel
theorem dX3_init_19 : decode cX3_init 19 = .ok (.putfield 16, 3) := by decide +kernel
theorem dX3_init_22 : decode cX3_init 22 = .ok (.aload_n 0, 1) := by decide +kernel
theorem dX3_init_23 : decode cX3_init 23 = .ok (.iconst 5, 1) := by decide +kernel
theorem dX3_init_24 : decode cX3_init 24 = .ok (.newarray .boolean, 2) := by decide +kernel
theorem dX3_init_26 : decode cX3_init 26 = .ok (.putfield 20, 3) := by decide +kernel
theorem dX3_init_29 : decode cX3_init 29 = .ok (.aload_n 0, 1) := by decide +kernel
theorem dX3_init_30 : decode cX3_init 30 = .ok (.bipush 6, 2) := by decide +kernel
theorem dX3_init_32 : decode cX3_init 32 = .ok (.bipush 12, 2) := by decide +kernel
theorem dX3_init_34 : decode cX3_init 34 = .ok (.multianewarray 11 2, 4) := by decide +kernel
theorem dX3_init_38 : decode cX3_init 38 = .ok (.putfield 23, 3) := by decide +kernel
theorem dX3_init_41 : decode cX3_init 41 = .ok (.return_, 1) := by decide +kernel
def σX3 : Sg := σz
theorem df3 : ∀ j, j < 4 → defaultValue (tyX3 j) = vp_V (dfl [(4, 0), (4, 0), (4, 0), (4, 0)]) j := by decide +kernel
theorem cwi_X3 : Cwi yX3_init cX3_init 1 := ⟨aw_268, aw_27, ⟨by decide, by decide⟩, by decide +kernel, by decide, rfl⟩
set_option maxRecDepth 8000 in
theorem bn_X3 {K : KT} (C : CxI K cX3_init RX3 1 1 15 213) (hN : (kmeth K).name = "<init>") (hQ : Rki K layS3 σX3 15 213) : GW K 0 (pad [some (.ref (kad K 0))] 1) [] 0 0 (WI K [(0, 3, [(4, 0), (4, 0), (4, 0), (4, 0)])] σz (kad K)) := by
  show GW K 0 [some (.ref (kad K 0))] [] 0 0 (WI K _ _ (kad K))
  refine n_aload_n C.1 dX3_init_0 rfl (i := 0) rfl ?_
  refine n_obj C dX3_init_1 aw_269 aw_37 aw_38 rfl (Nat.le_of_ble_eq_true rfl) (Nat.le_of_ble_eq_true rfl) ?_
  refine n_aload_n C.1 dX3_init_4 rfl (i := 0) rfl ?_
  refine n_iconst C.1 dX3_init_5 (v := (5 : Int32)) (by decide) ?_
  refine n_bipush C.1 dX3_init_6 (v := (24 : Int32)) (by decide) ?_
  refine n_mna C (N := 5) (M := 24) dX3_init_8 aw_270 aw_68 (by decide) (by decide) (by decide) (by decide) (Nat.le_of_ble_eq_true rfl) (Nat.le_of_ble_eq_true rfl) (Nat.le_of_ble_eq_true rfl) (Nat.le_of_ble_eq_true rfl) (fun a1 e1 => ?_)
  rw [← e1 0 (Nat.le_of_ble_eq_true rfl)]
  have z1 : a1 0 = kad K 0 := (e1 0 (Nat.le_of_ble_eq_true rfl)).trans rfl
  show GW K 12 [some (.ref (a1 0))] [.ref (a1 1), .ref (a1 0)] 6 125 (WI K _ _ a1)
  refine n_putC C (o := 0) (kx := 3) (k := 0) (off := 1) (v := 1) hN dX3_init_12 rfl (Nat.le_of_ble_eq_true rfl) rfl (by decide) aw_271 inA3 tyX3_ok nmX3 rfl (fun _ => rfl) (fun _ => rfl) rfl (Nat.le_of_ble_eq_true rfl) ?_
  refine n_aload_n C.1 dX3_init_15 rfl (i := 0) rfl ?_
  refine n_iconst C.1 dX3_init_16 (v := (5 : Int32)) (by decide) ?_
  refine n_newZ C (N := 5) dX3_init_17 aw_288 (by decide) (by decide) (Nat.le_of_ble_eq_true rfl) (Nat.le_of_ble_eq_true rfl) (Nat.le_of_ble_eq_true rfl) (fun a2 e2 => ?_)
  rw [← e2 0 (Nat.le_of_ble_eq_true rfl)]
  have z2 : a2 0 = kad K 0 := (e2 0 (Nat.le_of_ble_eq_true rfl)).trans z1
  show GW K 19 [some (.ref (a2 0))] [.ref (a2 7), .ref (a2 0)] 7 130 (WI K _ _ a2)
  refine n_putC C (o := 0) (kx := 3) (k := 1) (off := 7) (v := 7) hN dX3_init_19 rfl (Nat.le_of_ble_eq_true rfl) rfl (by decide) aw_273 inA3 tyX3_ok nmX3 rfl (fun _ => rfl) (fun _ => rfl) rfl (Nat.le_of_ble_eq_true rfl) ?_
  refine n_aload_n C.1 dX3_init_22 rfl (i := 0) rfl ?_
  refine n_iconst C.1 dX3_init_23 (v := (5 : Int32)) (by decide) ?_
  refine n_newZ C (N := 5) dX3_init_24 aw_288 (by decide) (by decide) (Nat.le_of_ble_eq_true rfl) (Nat.le_of_ble_eq_true rfl) (Nat.le_of_ble_eq_true rfl) (fun a3 e3 => ?_)
  rw [← e3 0 (Nat.le_of_ble_eq_true rfl)]
  have z3 : a3 0 = kad K 0 := (e3 0 (Nat.le_of_ble_eq_true rfl)).trans z2
  show GW K 26 [some (.ref (a3 0))] [.ref (a3 8), .ref (a3 0)] 8 135 (WI K _ _ a3)
  refine n_putC C (o := 0) (kx := 3) (k := 2) (off := 8) (v := 8) hN dX3_init_26 rfl (Nat.le_of_ble_eq_true rfl) rfl (by decide) aw_275 inA3 tyX3_ok nmX3 rfl (fun _ => rfl) (fun _ => rfl) rfl (Nat.le_of_ble_eq_true rfl) ?_
  refine n_aload_n C.1 dX3_init_29 rfl (i := 0) rfl ?_
  refine n_bipush C.1 dX3_init_30 (v := (6 : Int32)) (by decide) ?_
  refine n_bipush C.1 dX3_init_32 (v := (12 : Int32)) (by decide) ?_
  refine n_mna C (N := 6) (M := 12) dX3_init_34 aw_270 aw_68 (by decide) (by decide) (by decide) (by decide) (Nat.le_of_ble_eq_true rfl) (Nat.le_of_ble_eq_true rfl) (Nat.le_of_ble_eq_true rfl) (Nat.le_of_ble_eq_true rfl) (fun a4 e4 => ?_)
  rw [← e4 0 (Nat.le_of_ble_eq_true rfl)]
  have z4 : a4 0 = kad K 0 := (e4 0 (Nat.le_of_ble_eq_true rfl)).trans z3
  show GW K 38 [some (.ref (a4 0))] [.ref (a4 9), .ref (a4 0)] 15 213 (WI K _ _ a4)
  refine n_putC C (o := 0) (kx := 3) (k := 3) (off := 9) (v := 9) hN dX3_init_38 rfl (Nat.le_of_ble_eq_true rfl) rfl (by decide) aw_277 inA3 tyX3_ok nmX3 rfl (fun _ => rfl) (fun _ => rfl) rfl (Nat.le_of_ble_eq_true rfl) ?_
  exact n_vret C hQ z4 (Nat.le_of_ble_eq_true rfl) dX3_init_41
theorem cn_X3 : Cn yX3_init cX3_init 1 1 3 [(4, 0), (4, 0), (4, 0), (4, 0)] layS3 σX3 15 213 := cn_of (by decide) rfl (by decide) (by decide) (fun K C hN hQ => bn_X3 C hN hQ)
theorem dX5_init_0 : decode cX5_init 0 = .ok (.aload_n 0, 1) := by decide +kernel
theorem dX5_init_1 : decode cX5_init 1 = .ok (.invokespecial 3, 3) := by decide +kernel
theorem dX5_init_4 : decode cX5_init 4 = .ok (.aload_n 0, 1) := by decide +kernel
theorem dX5_init_5 : decode cX5_init 5 = .ok (.sipush 1000, 3) := by decide +kernel
theorem dX5_init_8 : decode cX5_init 8 = .ok (.newarray .long, 2) := by decide +kernel
theorem dX5_init_10 : decode cX5_init 10 = .ok (.putfield 9, 3) := by decide +kernel
theorem dX5_init_13 : decode cX5_init 13 = .ok (.return_, 1) := by decide +kernel
def σX5 : Sg := σz
theorem df5 : ∀ j, j < 4 → defaultValue (tyX5 j) = vp_V (dfl [(4, 0), (1, 0), (1, 0), (0, 0)]) j := by decide +kernel
theorem cwi_X5 : Cwi yX5_init cX5_init 1 := ⟨aw_293, aw_28, ⟨by decide, by decide⟩, by decide +kernel, by decide, rfl⟩
set_option maxRecDepth 8000 in
theorem bn_X5 {K : KT} (C : CxI K cX5_init RX5 1 1 1 1000) (hN : (kmeth K).name = "<init>") (hQ : Rki K layS5 σX5 1 1000) : GW K 0 (pad [some (.ref (kad K 0))] 1) [] 0 0 (WI K [(0, 5, [(4, 0), (1, 0), (1, 0), (0, 0)])] σz (kad K)) := by
  show GW K 0 [some (.ref (kad K 0))] [] 0 0 (WI K _ _ (kad K))
  refine n_aload_n C.1 dX5_init_0 rfl (i := 0) rfl ?_
  refine n_obj C dX5_init_1 aw_294 aw_37 aw_38 rfl (Nat.le_of_ble_eq_true rfl) (Nat.le_of_ble_eq_true rfl) ?_
  refine n_aload_n C.1 dX5_init_4 rfl (i := 0) rfl ?_
  refine n_sipush C.1 dX5_init_5 (v := (1000 : Int32)) (by decide) ?_
  refine n_newJ C (N := 1000) dX5_init_8 aw_305 (by decide) (by decide) (Nat.le_of_ble_eq_true rfl) (Nat.le_of_ble_eq_true rfl) (Nat.le_of_ble_eq_true rfl) (fun a1 e1 => ?_)
  rw [← e1 0 (Nat.le_of_ble_eq_true rfl)]
  have z1 : a1 0 = kad K 0 := (e1 0 (Nat.le_of_ble_eq_true rfl)).trans rfl
  show GW K 10 [some (.ref (a1 0))] [.ref (a1 1), .ref (a1 0)] 1 1000 (WI K _ _ a1)
  refine n_putC C (o := 0) (kx := 5) (k := 0) (off := 1) (v := 1) hN dX5_init_10 rfl (Nat.le_of_ble_eq_true rfl) rfl (by decide) aw_295 inA5 tyX5_ok nmX5 rfl (fun _ => rfl) (fun _ => rfl) rfl (Nat.le_of_ble_eq_true rfl) ?_
  exact n_vret C hQ z1 (Nat.le_of_ble_eq_true rfl) dX5_init_13
theorem cn_X5 : Cn yX5_init cX5_init 1 1 5 [(4, 0), (1, 0), (1, 0), (0, 0)] layS5 σX5 1 1000 := cn_of (by decide) rfl (by decide) (by decide) (fun K C hN hQ => bn_X5 C hN hQ)
theorem dX9_init_0 : decode cX9_init 0 = .ok (.aload_n 0, 1) := by decide +kernel
theorem dX9_init_1 : decode cX9_init 1 = .ok (.invokespecial 1, 3) := by decide +kernel
theorem dX9_init_4 : decode cX9_init 4 = .ok (.aload_n 0, 1) := by decide +kernel
theorem dX9_init_5 : decode cX9_init 5 = .ok (.new 7, 3) := by decide +kernel
theorem dX9_init_8 : decode cX9_init 8 = .ok (.dup, 1) := by decide +kernel
theorem dX9_init_9 : decode cX9_init 9 = .ok (.invokespecial 9, 3) := by decide +kernel
theorem dX9_init_12 : decode cX9_init 12 = .ok (.putfield 10, 3) := by decide +kernel
theorem dX9_init_15 : decode cX9_init 15 = .ok (.aload_n 0, 1) := by decide +kernel
theorem dX9_init_16 : decode cX9_init 16 = .ok (.new 16, 3) := by decide +kernel
theorem dX9_init_19 : decode cX9_init 19 = .ok (.dup, 1) := by decide +kernel
theorem dX9_init_20 : decode cX9_init 20 = .ok (.invokespecial 18, 3) := by decide +kernel
theorem dX9_init_23 : decode cX9_init 23 = .ok (.putfield 19, 3) := by decide +kernel
theorem dX9_init_26 : decode cX9_init 26 = .ok (.aload_n 0, 1) := by decide +kernel
theorem dX9_init_27 : decode cX9_init 27 = .ok (.aload_n 0, 1) := by decide +kernel
theorem dX9_init_28 : decode cX9_init 28 = .ok (.getfield 19, 3) := by decide +kernel
theorem dX9_init_31 : decode cX9_init 31 = .ok (.getfield 23, 3) := by decide +kernel
theorem dX9_init_34 : decode cX9_init 34 = .ok (.putfield 27, 3) := by decide +kernel
theorem dX9_init_37 : decode cX9_init 37 = .ok (.aload_n 0, 1) := by decide +kernel
theorem dX9_init_38 : decode cX9_init 38 = .ok (.aload_n 0, 1) := by decide +kernel
theorem dX9_init_39 : decode cX9_init 39 = .ok (.getfield 19, 3) := by decide +kernel
theorem dX9_init_42 : decode cX9_init 42 = .ok (.getfield 30, 3) := by decide +kernel
theorem dX9_init_45 : decode cX9_init 45 = .ok (.putfield 34, 3) := by decide +kernel
theorem dX9_init_48 : decode cX9_init 48 = .ok (.aload_n 0, 1) := by decide +kernel
theorem dX9_init_49 : decode cX9_init 49 = .ok (.iconst 5, 1) := by decide +kernel
theorem dX9_init_50 : decode cX9_init 50 = .ok (.anewarray 35, 3) := by decide +kernel
theorem dX9_init_53 : decode cX9_init 53 = .ok (.putfield 37, 3) := by decide +kernel
theorem dX9_init_56 : decode cX9_init 56 = .ok (.aload_n 0, 1) := by decide +kernel
theorem dX9_init_57 : decode cX9_init 57 = .ok (.new 41, 3) := by decide +kernel
theorem dX9_init_60 : decode cX9_init 60 = .ok (.dup, 1) := by decide +kernel
theorem dX9_init_61 : decode cX9_init 61 = .ok (.invokespecial 43, 3) := by decide +kernel
theorem dX9_init_64 : decode cX9_init 64 = .ok (.putfield 44, 3) := by decide +kernel
theorem dX9_init_67 : decode cX9_init 67 = .ok (.aload_n 0, 1) := by decide +kernel
theorem dX9_init_68 : decode cX9_init 68 = .ok (.new 48, 3) := by decide +kernel
theorem dX9_init_71 : decode cX9_init 71 = .ok (.dup, 1) := by decide +kernel
theorem dX9_init_72 : decode cX9_init 72 = .ok (.invokespecial 50, 3) := by decide +kernel
theorem dX9_init_75 : decode cX9_init 75 = .ok (.putfield 51, 3) := by decide +kernel
theorem dX9_init_78 : decode cX9_init 78 = .ok (.aload_n 0, 1) := by decide +kernel
theorem dX9_init_79 : decode cX9_init 79 = .ok (.new 55, 3) := by decide +kernel
theorem dX9_init_82 : decode cX9_init 82 = .ok (.dup, 1) := by decide +kernel
theorem dX9_init_83 : decode cX9_init 83 = .ok (.invokespecial 57, 3) := by decide +kernel
theorem dX9_init_86 : decode cX9_init 86 = .ok (.putfield 58, 3) := by decide +kernel
theorem dX9_init_89 : decode cX9_init 89 = .ok (.aload_n 0, 1) := by decide +kernel
theorem dX9_init_90 : decode cX9_init 90 = .ok (.new 62, 3) := by decide +kernel
theorem dX9_init_93 : decode cX9_init 93 = .ok (.dup, 1) := by decide +kernel
theorem dX9_init_94 : decode cX9_init 94 = .ok (.invokespecial 64, 3) := by decide +kernel
theorem dX9_init_97 : decode cX9_init 97 = .ok (.putfield 65, 3) := by decide +kernel
theorem dX9_init_100 : decode cX9_init 100 = .ok (.iconst 0, 1) := by decide +kernel
theorem dX9_init_101 : decode cX9_init 101 = .ok (.istore_n 1, 1) := by decide +kernel
theorem dX9_init_102 : decode cX9_init 102 = .ok (.iload_n 1, 1) := by decide +kernel
theorem dX9_init_103 : decode cX9_init 103 = .ok (.aload_n 0, 1) := by decide +kernel
theorem dX9_init_104 : decode cX9_init 104 = .ok (.getfield 37, 3) := by decide +kernel
theorem dX9_init_107 : decode cX9_init 107 = .ok (.arraylength, 1) := by decide +kernel
theorem dX9_init_108 : decode cX9_init 108 = .ok (.if_icmp .ge 22, 3) := by decide +kernel
theorem dX9_init_111 : decode cX9_init 111 = .ok (.aload_n 0, 1) := by decide +kernel
theorem dX9_init_112 : decode cX9_init 112 = .ok (.getfield 37, 3) := by decide +kernel
theorem dX9_init_115 : decode cX9_init 115 = .ok (.iload_n 1, 1) := by decide +kernel
theorem dX9_init_116 : decode cX9_init 116 = .ok (.new 35, 3) := by decide +kernel
theorem dX9_init_119 : decode cX9_init 119 = .ok (.dup, 1) := by decide +kernel
theorem dX9_init_120 : decode cX9_init 120 = .ok (.invokespecial 69, 3) := by decide +kernel
theorem dX9_init_123 : decode cX9_init 123 = .ok (.aastore, 1) := by decide +kernel
theorem dX9_init_124 : decode cX9_init 124 = .ok (.iinc 1 1, 3) := by decide +kernel
theorem dX9_init_127 : decode cX9_init 127 = .ok (.goto (-25), 3) := by decide +kernel
theorem dX9_init_130 : decode cX9_init 130 = .ok (.return_, 1) := by decide +kernel
def σX9 : Sg := (sapp 80 (sapp 79 (sapp 78 (sapp 77 (sapp 76 (sapp 74 (sapp 58 (sapp 53 (sapp 49 (sapp 3 (sapp 1 σz σX6) σX8) σX4) σX2) σX3) σX5) σX0) σX0) σX0) σX0) σX0)
theorem df9 : ∀ j, j < 12 → defaultValue (tyX9 j) = vp_V (dfl [(4, 0), (4, 0), (4, 0), (4, 0), (4, 0), (4, 0), (4, 0), (4, 0), (4, 0), (0, 0), (0, 0), (0, 0)]) j := by decide +kernel
theorem cwi_X9 : Cwi yX9_init cX9_init 2 := ⟨aw_35, aw_19, ⟨by decide, by decide⟩, by decide +kernel, by decide, rfl⟩
set_option maxRecDepth 8000 in
theorem bn_X9 {K : KT} (C : CxI K cX9_init RX9 2 3 80 1734) (hN : (kmeth K).name = "<init>") (hQ : Rki K layS9 σX9 80 1734) : GW K 0 (pad [some (.ref (kad K 0))] 2) [] 0 0 (WI K [(0, 9, [(4, 0), (4, 0), (4, 0), (4, 0), (4, 0), (4, 0), (4, 0), (4, 0), (4, 0), (0, 0), (0, 0), (0, 0)])] σz (kad K)) := by
  show GW K 0 [some (.ref (kad K 0)), none] [] 0 0 (WI K _ _ (kad K))
  refine n_aload_n C.1 dX9_init_0 rfl (i := 0) rfl ?_
  refine n_obj C dX9_init_1 aw_36 aw_37 aw_38 rfl (Nat.le_of_ble_eq_true rfl) (Nat.le_of_ble_eq_true rfl) ?_
  refine n_aload_n C.1 dX9_init_4 rfl (i := 0) rfl ?_
  refine n_new C (kx := 6) (sl := [(4, 0), (0, 0), (0, 0), (0, 0), (0, 0), (0, 0), (0, 0)]) dX9_init_5 rfl inA6 tyX6_ok aw_39 aw_40 aw_20 (by decide) df6 (Nat.le_of_ble_eq_true rfl) (Nat.le_of_ble_eq_true rfl) (fun a1 e1 y1 => ?_)
  rw [← e1 0 (Nat.le_of_ble_eq_true rfl)]
  have z1 : a1 0 = kad K 0 := (e1 0 (Nat.le_of_ble_eq_true rfl)).trans rfl
  show GW K 8 [some (.ref (a1 0)), none] [.ref (a1 1), .ref (a1 0)] 1 7 (WI K _ _ a1)
  refine n_dup C.1 dX9_init_8 rfl ?_
  refine n_call C (n := 1) (Y := _) cn_X6 dX9_init_9 cwi_X6 (Or.inr ⟨_, aw_41⟩) aw_42 (by decide) (Nat.le_of_ble_eq_true rfl) rfl rfl (Nat.le_of_ble_eq_true rfl) (Nat.le_of_ble_eq_true rfl) (Nat.le_of_ble_eq_true rfl) (Nat.le_of_ble_eq_true rfl) rfl y1 (fun a2 e2 _ => ?_)
  rw [← e2 0 (Nat.le_of_ble_eq_true rfl)]
  rw [← e2 1 (Nat.le_of_ble_eq_true rfl)]
  have z2 : a2 0 = kad K 0 := (e2 0 (Nat.le_of_ble_eq_true rfl)).trans z1
  show GW K 12 [some (.ref (a2 0)), none] [.ref (a2 1), .ref (a2 0)] 2 71 (WI K _ _ a2)
  refine n_putC C (o := 0) (kx := 9) (k := 0) (off := 1) (v := 1) hN dX9_init_12 rfl (Nat.le_of_ble_eq_true rfl) rfl (by decide) aw_307 inA9 tyX9_ok nmX9 rfl (fun _ => rfl) (fun _ => rfl) rfl (Nat.le_of_ble_eq_true rfl) ?_
  refine n_aload_n C.1 dX9_init_15 rfl (i := 0) rfl ?_
  refine n_new C (kx := 8) (sl := [(4, 0), (4, 0), (4, 0), (4, 0), (4, 0), (4, 0), (4, 0), (4, 0), (0, 0), (0, 0), (0, 0), (0, 0), (0, 0), (0, 0), (0, 0), (0, 0), (1, 0)]) dX9_init_16 rfl inA8 tyX8_ok aw_69 aw_70 aw_21 (by decide) df8 (Nat.le_of_ble_eq_true rfl) (Nat.le_of_ble_eq_true rfl) (fun a3 e3 y3 => ?_)
  rw [← e3 0 (Nat.le_of_ble_eq_true rfl)]
  have z3 : a3 0 = kad K 0 := (e3 0 (Nat.le_of_ble_eq_true rfl)).trans z2
  show GW K 19 [some (.ref (a3 0)), none] [.ref (a3 3), .ref (a3 0)] 3 88 (WI K _ _ a3)
  refine n_dup C.1 dX9_init_19 rfl ?_
  refine n_call C (n := 3) (Y := _) cn_X8 dX9_init_20 cwi_X8 (Or.inr ⟨_, aw_71⟩) aw_72 (by decide) (Nat.le_of_ble_eq_true rfl) rfl rfl (Nat.le_of_ble_eq_true rfl) (Nat.le_of_ble_eq_true rfl) (Nat.le_of_ble_eq_true rfl) (Nat.le_of_ble_eq_true rfl) rfl y3 (fun a4 e4 _ => ?_)
  rw [← e4 0 (Nat.le_of_ble_eq_true rfl)]
  rw [← e4 3 (Nat.le_of_ble_eq_true rfl)]
  have z4 : a4 0 = kad K 0 := (e4 0 (Nat.le_of_ble_eq_true rfl)).trans z3
  show GW K 23 [some (.ref (a4 0)), none] [.ref (a4 3), .ref (a4 0)] 47 424 (WI K _ _ a4)
  refine n_putC C (o := 0) (kx := 9) (k := 1) (off := 3) (v := 3) hN dX9_init_23 rfl (Nat.le_of_ble_eq_true rfl) rfl (by decide) aw_308 inA9 tyX9_ok nmX9 rfl (fun _ => rfl) (fun _ => rfl) rfl (Nat.le_of_ble_eq_true rfl) ?_
  refine n_aload_n C.1 dX9_init_26 rfl (i := 0) rfl ?_
  refine n_aload_n C.1 dX9_init_27 rfl (i := 0) rfl ?_
  refine n_get C (o := 0) (kx := 9) (k := 1) (v := .ref (a4 3)) dX9_init_28 rfl rfl rfl (by decide) (Or.inl aw_308) inA9 rfl ?_
  refine n_get C (o := 3) (kx := 8) (k := 0) (v := .ref (a4 4)) dX9_init_31 rfl rfl rfl (by decide) (Or.inr ⟨_, aw_161⟩) inA8 rfl ?_
  refine n_putC C (o := 0) (kx := 9) (k := 2) (off := 4) (v := 4) hN dX9_init_34 rfl (Nat.le_of_ble_eq_true rfl) rfl (by decide) aw_309 inA9 tyX9_ok nmX9 rfl (fun _ => rfl) (fun _ => rfl) rfl (Nat.le_of_ble_eq_true rfl) ?_
  refine n_aload_n C.1 dX9_init_37 rfl (i := 0) rfl ?_
  refine n_aload_n C.1 dX9_init_38 rfl (i := 0) rfl ?_
  refine n_get C (o := 0) (kx := 9) (k := 1) (v := .ref (a4 3)) dX9_init_39 rfl rfl rfl (by decide) (Or.inl aw_308) inA9 rfl ?_
  refine n_get C (o := 3) (kx := 8) (k := 1) (v := .ref (a4 40)) dX9_init_42 rfl rfl rfl (by decide) (Or.inr ⟨_, aw_163⟩) inA8 rfl ?_
  refine n_putC C (o := 0) (kx := 9) (k := 3) (off := 40) (v := 40) hN dX9_init_45 rfl (Nat.le_of_ble_eq_true rfl) rfl (by decide) aw_310 inA9 tyX9_ok nmX9 rfl (fun _ => rfl) (fun _ => rfl) rfl (Nat.le_of_ble_eq_true rfl) ?_
  refine n_aload_n C.1 dX9_init_48 rfl (i := 0) rfl ?_
  refine n_iconst C.1 dX9_init_49 (v := (5 : Int32)) (by decide) ?_
  refine n_newA C (N := 5) (b := 28) dX9_init_50 aw_219 (by decide) (by decide) (Nat.le_of_ble_eq_true rfl) (Nat.le_of_ble_eq_true rfl) (Nat.le_of_ble_eq_true rfl) (fun a5 e5 => ?_)
  rw [← e5 0 (Nat.le_of_ble_eq_true rfl)]
  have z5 : a5 0 = kad K 0 := (e5 0 (Nat.le_of_ble_eq_true rfl)).trans z4
  show GW K 53 [some (.ref (a5 0)), none] [.ref (a5 48), .ref (a5 0)] 48 429 (WI K _ _ a5)
  refine n_putC C (o := 0) (kx := 9) (k := 4) (off := 48) (v := 48) hN dX9_init_53 rfl (Nat.le_of_ble_eq_true rfl) rfl (by decide) aw_311 inA9 tyX9_ok nmX9 rfl (fun _ => rfl) (fun _ => rfl) rfl (Nat.le_of_ble_eq_true rfl) ?_
  refine n_aload_n C.1 dX9_init_56 rfl (i := 0) rfl ?_
  refine n_new C (kx := 4) (sl := [(4, 0), (4, 0), (4, 0), (0, 0)]) dX9_init_57 rfl inA4 tyX4_ok aw_221 aw_222 aw_25 (by decide) df4 (Nat.le_of_ble_eq_true rfl) (Nat.le_of_ble_eq_true rfl) (fun a6 e6 y6 => ?_)
  rw [← e6 0 (Nat.le_of_ble_eq_true rfl)]
  have z6 : a6 0 = kad K 0 := (e6 0 (Nat.le_of_ble_eq_true rfl)).trans z5
  show GW K 60 [some (.ref (a6 0)), none] [.ref (a6 49), .ref (a6 0)] 49 433 (WI K _ _ a6)
  refine n_dup C.1 dX9_init_60 rfl ?_
  refine n_call C (n := 49) (Y := _) cn_X4 dX9_init_61 cwi_X4 (Or.inr ⟨_, aw_223⟩) aw_224 (by decide) (Nat.le_of_ble_eq_true rfl) rfl rfl (Nat.le_of_ble_eq_true rfl) (Nat.le_of_ble_eq_true rfl) (Nat.le_of_ble_eq_true rfl) (Nat.le_of_ble_eq_true rfl) rfl y6 (fun a7 e7 _ => ?_)
  rw [← e7 0 (Nat.le_of_ble_eq_true rfl)]
  rw [← e7 49 (Nat.le_of_ble_eq_true rfl)]
  have z7 : a7 0 = kad K 0 := (e7 0 (Nat.le_of_ble_eq_true rfl)).trans z6
  show GW K 64 [some (.ref (a7 0)), none] [.ref (a7 49), .ref (a7 0)] 52 463 (WI K _ _ a7)
  refine n_putC C (o := 0) (kx := 9) (k := 5) (off := 49) (v := 49) hN dX9_init_64 rfl (Nat.le_of_ble_eq_true rfl) rfl (by decide) aw_312 inA9 tyX9_ok nmX9 rfl (fun _ => rfl) (fun _ => rfl) rfl (Nat.le_of_ble_eq_true rfl) ?_
  refine n_aload_n C.1 dX9_init_67 rfl (i := 0) rfl ?_
  refine n_new C (kx := 2) (sl := [(4, 0), (4, 0), (4, 0), (0, 0), (0, 0), (0, 0)]) dX9_init_68 rfl inA2 tyX2_ok aw_240 aw_241 aw_26 (by decide) df2 (Nat.le_of_ble_eq_true rfl) (Nat.le_of_ble_eq_true rfl) (fun a8 e8 y8 => ?_)
  rw [← e8 0 (Nat.le_of_ble_eq_true rfl)]
  have z8 : a8 0 = kad K 0 := (e8 0 (Nat.le_of_ble_eq_true rfl)).trans z7
  show GW K 71 [some (.ref (a8 0)), none] [.ref (a8 53), .ref (a8 0)] 53 469 (WI K _ _ a8)
  refine n_dup C.1 dX9_init_71 rfl ?_
  refine n_call C (n := 53) (Y := _) cn_X2 dX9_init_72 cwi_X2 (Or.inr ⟨_, aw_242⟩) aw_243 (by decide) (Nat.le_of_ble_eq_true rfl) rfl rfl (Nat.le_of_ble_eq_true rfl) (Nat.le_of_ble_eq_true rfl) (Nat.le_of_ble_eq_true rfl) (Nat.le_of_ble_eq_true rfl) rfl y8 (fun a9 e9 _ => ?_)
  rw [← e9 0 (Nat.le_of_ble_eq_true rfl)]
  rw [← e9 53 (Nat.le_of_ble_eq_true rfl)]
  have z9 : a9 0 = kad K 0 := (e9 0 (Nat.le_of_ble_eq_true rfl)).trans z8
  show GW K 75 [some (.ref (a9 0)), none] [.ref (a9 53), .ref (a9 0)] 57 483 (WI K _ _ a9)
  refine n_putC C (o := 0) (kx := 9) (k := 6) (off := 53) (v := 53) hN dX9_init_75 rfl (Nat.le_of_ble_eq_true rfl) rfl (by decide) aw_313 inA9 tyX9_ok nmX9 rfl (fun _ => rfl) (fun _ => rfl) rfl (Nat.le_of_ble_eq_true rfl) ?_
  refine n_aload_n C.1 dX9_init_78 rfl (i := 0) rfl ?_
  refine n_new C (kx := 3) (sl := [(4, 0), (4, 0), (4, 0), (4, 0)]) dX9_init_79 rfl inA3 tyX3_ok aw_264 aw_265 aw_27 (by decide) df3 (Nat.le_of_ble_eq_true rfl) (Nat.le_of_ble_eq_true rfl) (fun a10 e10 y10 => ?_)
  rw [← e10 0 (Nat.le_of_ble_eq_true rfl)]
  have z10 : a10 0 = kad K 0 := (e10 0 (Nat.le_of_ble_eq_true rfl)).trans z9
  show GW K 82 [some (.ref (a10 0)), none] [.ref (a10 58), .ref (a10 0)] 58 487 (WI K _ _ a10)
  refine n_dup C.1 dX9_init_82 rfl ?_
  refine n_call C (n := 58) (Y := _) cn_X3 dX9_init_83 cwi_X3 (Or.inr ⟨_, aw_266⟩) aw_267 (by decide) (Nat.le_of_ble_eq_true rfl) rfl rfl (Nat.le_of_ble_eq_true rfl) (Nat.le_of_ble_eq_true rfl) (Nat.le_of_ble_eq_true rfl) (Nat.le_of_ble_eq_true rfl) rfl y10 (fun a11 e11 _ => ?_)
  rw [← e11 0 (Nat.le_of_ble_eq_true rfl)]
  rw [← e11 58 (Nat.le_of_ble_eq_true rfl)]
  have z11 : a11 0 = kad K 0 := (e11 0 (Nat.le_of_ble_eq_true rfl)).trans z10
  show GW K 86 [some (.ref (a11 0)), none] [.ref (a11 58), .ref (a11 0)] 73 700 (WI K _ _ a11)
  refine n_putC C (o := 0) (kx := 9) (k := 7) (off := 58) (v := 58) hN dX9_init_86 rfl (Nat.le_of_ble_eq_true rfl) rfl (by decide) aw_314 inA9 tyX9_ok nmX9 rfl (fun _ => rfl) (fun _ => rfl) rfl (Nat.le_of_ble_eq_true rfl) ?_
  refine n_aload_n C.1 dX9_init_89 rfl (i := 0) rfl ?_
  refine n_new C (kx := 5) (sl := [(4, 0), (1, 0), (1, 0), (0, 0)]) dX9_init_90 rfl inA5 tyX5_ok aw_289 aw_290 aw_28 (by decide) df5 (Nat.le_of_ble_eq_true rfl) (Nat.le_of_ble_eq_true rfl) (fun a12 e12 y12 => ?_)
  rw [← e12 0 (Nat.le_of_ble_eq_true rfl)]
  have z12 : a12 0 = kad K 0 := (e12 0 (Nat.le_of_ble_eq_true rfl)).trans z11
  show GW K 93 [some (.ref (a12 0)), none] [.ref (a12 74), .ref (a12 0)] 74 704 (WI K _ _ a12)
  refine n_dup C.1 dX9_init_93 rfl ?_
  refine n_call C (n := 74) (Y := _) cn_X5 dX9_init_94 cwi_X5 (Or.inr ⟨_, aw_291⟩) aw_292 (by decide) (Nat.le_of_ble_eq_true rfl) rfl rfl (Nat.le_of_ble_eq_true rfl) (Nat.le_of_ble_eq_true rfl) (Nat.le_of_ble_eq_true rfl) (Nat.le_of_ble_eq_true rfl) rfl y12 (fun a13 e13 _ => ?_)
  rw [← e13 0 (Nat.le_of_ble_eq_true rfl)]
  rw [← e13 74 (Nat.le_of_ble_eq_true rfl)]
  have z13 : a13 0 = kad K 0 := (e13 0 (Nat.le_of_ble_eq_true rfl)).trans z12
  show GW K 97 [some (.ref (a13 0)), none] [.ref (a13 74), .ref (a13 0)] 75 1704 (WI K _ _ a13)
  refine n_putC C (o := 0) (kx := 9) (k := 8) (off := 74) (v := 74) hN dX9_init_97 rfl (Nat.le_of_ble_eq_true rfl) rfl (by decide) aw_315 inA9 tyX9_ok nmX9 rfl (fun _ => rfl) (fun _ => rfl) rfl (Nat.le_of_ble_eq_true rfl) ?_
  refine n_iconst C.1 dX9_init_100 (v := (0 : Int32)) (by decide) ?_
  refine n_istore_n C.1 (i := 1) (L' := [some (.ref (a13 0)), some (.int (0 : Int32))]) dX9_init_101 rfl (Nat.le_of_ble_eq_true rfl) rfl ?_
  refine n_iload_n C.1 dX9_init_102 rfl (i := 1) rfl ?_
  refine n_aload_n C.1 dX9_init_103 rfl (i := 0) rfl ?_
  refine n_get C (o := 0) (kx := 9) (k := 4) (v := .ref (a13 48)) dX9_init_104 rfl rfl rfl (by decide) (Or.inl aw_311) inA9 rfl ?_
  refine n_alen C (v := (5 : Int32)) (o := 48) dX9_init_107 rfl rfl ?_
  refine n_ge_f C.1 (tgt := 130) dX9_init_108 (by decide) (by decide) ?_
  refine n_aload_n C.1 dX9_init_111 rfl (i := 0) rfl ?_
  refine n_get C (o := 0) (kx := 9) (k := 4) (v := .ref (a13 48)) dX9_init_112 rfl rfl rfl (by decide) (Or.inl aw_311) inA9 rfl ?_
  refine n_iload_n C.1 dX9_init_115 rfl (i := 1) rfl ?_
  refine n_new C (kx := 0) (sl := [(0, 0), (0, 0), (0, 0), (0, 0), (0, 0), (0, 0)]) dX9_init_116 rfl inA0 tyX0_ok aw_219 aw_128 aw_24 (by decide) df0 (Nat.le_of_ble_eq_true rfl) (Nat.le_of_ble_eq_true rfl) (fun a14 e14 y14 => ?_)
  rw [← e14 0 (Nat.le_of_ble_eq_true rfl)]
  rw [← e14 48 (Nat.le_of_ble_eq_true rfl)]
  have z14 : a14 0 = kad K 0 := (e14 0 (Nat.le_of_ble_eq_true rfl)).trans z13
  show GW K 119 [some (.ref (a14 0)), some (.int (0 : Int32))] [.ref (a14 76), .int (0 : Int32), .ref (a14 48)] 76 1710 (WI K _ _ a14)
  refine n_dup C.1 dX9_init_119 rfl ?_
  refine n_call C (n := 76) (Y := _) cn_X0 dX9_init_120 cwi_X0 (Or.inr ⟨_, aw_306⟩) aw_130 (by decide) (Nat.le_of_ble_eq_true rfl) rfl rfl (Nat.le_of_ble_eq_true rfl) (Nat.le_of_ble_eq_true rfl) (Nat.le_of_ble_eq_true rfl) (Nat.le_of_ble_eq_true rfl) rfl y14 (fun a15 e15 _ => ?_)
  rw [← e15 0 (Nat.le_of_ble_eq_true rfl)]
  rw [← e15 48 (Nat.le_of_ble_eq_true rfl)]
  rw [← e15 76 (Nat.le_of_ble_eq_true rfl)]
  have z15 : a15 0 = kad K 0 := (e15 0 (Nat.le_of_ble_eq_true rfl)).trans z14
  show GW K 123 [some (.ref (a15 0)), some (.int (0 : Int32))] [.ref (a15 76), .int (0 : Int32), .ref (a15 48)] 76 1710 (WI K _ _ a15)
  refine n_aast C (o := 48) (v := 76) (b := 28) (k := 0) dX9_init_123 rfl rfl (by decide) (by decide) rfl ?_
  refine n_iinc C.1 (i := 1) (y := (1 : Int32)) (L' := [some (.ref (a15 0)), some (.int (1 : Int32))]) dX9_init_124 rfl (by decide) (Nat.le_of_ble_eq_true rfl) rfl ?_
  refine n_goto C.1 (tgt := 102) dX9_init_127 (by decide) ?_
  refine n_iload_n C.1 dX9_init_102 rfl (i := 1) rfl ?_
  refine n_aload_n C.1 dX9_init_103 rfl (i := 0) rfl ?_
  refine n_get C (o := 0) (kx := 9) (k := 4) (v := .ref (a15 48)) dX9_init_104 rfl rfl rfl (by decide) (Or.inl aw_311) inA9 rfl ?_
  refine n_alen C (v := (5 : Int32)) (o := 48) dX9_init_107 rfl rfl ?_
  refine n_ge_f C.1 (tgt := 130) dX9_init_108 (by decide) (by decide) ?_
  refine n_aload_n C.1 dX9_init_111 rfl (i := 0) rfl ?_
  refine n_get C (o := 0) (kx := 9) (k := 4) (v := .ref (a15 48)) dX9_init_112 rfl rfl rfl (by decide) (Or.inl aw_311) inA9 rfl ?_
  refine n_iload_n C.1 dX9_init_115 rfl (i := 1) rfl ?_
  refine n_new C (kx := 0) (sl := [(0, 0), (0, 0), (0, 0), (0, 0), (0, 0), (0, 0)]) dX9_init_116 rfl inA0 tyX0_ok aw_219 aw_128 aw_24 (by decide) df0 (Nat.le_of_ble_eq_true rfl) (Nat.le_of_ble_eq_true rfl) (fun a16 e16 y16 => ?_)
  rw [← e16 0 (Nat.le_of_ble_eq_true rfl)]
  rw [← e16 48 (Nat.le_of_ble_eq_true rfl)]
  have z16 : a16 0 = kad K 0 := (e16 0 (Nat.le_of_ble_eq_true rfl)).trans z15
  show GW K 119 [some (.ref (a16 0)), some (.int (1 : Int32))] [.ref (a16 77), .int (1 : Int32), .ref (a16 48)] 77 1716 (WI K _ _ a16)
  refine n_dup C.1 dX9_init_119 rfl ?_
  refine n_call C (n := 77) (Y := _) cn_X0 dX9_init_120 cwi_X0 (Or.inr ⟨_, aw_306⟩) aw_130 (by decide) (Nat.le_of_ble_eq_true rfl) rfl rfl (Nat.le_of_ble_eq_true rfl) (Nat.le_of_ble_eq_true rfl) (Nat.le_of_ble_eq_true rfl) (Nat.le_of_ble_eq_true rfl) rfl y16 (fun a17 e17 _ => ?_)
  rw [← e17 0 (Nat.le_of_ble_eq_true rfl)]
  rw [← e17 48 (Nat.le_of_ble_eq_true rfl)]
  rw [← e17 77 (Nat.le_of_ble_eq_true rfl)]
  have z17 : a17 0 = kad K 0 := (e17 0 (Nat.le_of_ble_eq_true rfl)).trans z16
  show GW K 123 [some (.ref (a17 0)), some (.int (1 : Int32))] [.ref (a17 77), .int (1 : Int32), .ref (a17 48)] 77 1716 (WI K _ _ a17)
  refine n_aast C (o := 48) (v := 77) (b := 28) (k := 1) dX9_init_123 rfl rfl (by decide) (by decide) rfl ?_
  refine n_iinc C.1 (i := 1) (y := (2 : Int32)) (L' := [some (.ref (a17 0)), some (.int (2 : Int32))]) dX9_init_124 rfl (by decide) (Nat.le_of_ble_eq_true rfl) rfl ?_
  refine n_goto C.1 (tgt := 102) dX9_init_127 (by decide) ?_
  refine n_iload_n C.1 dX9_init_102 rfl (i := 1) rfl ?_
  refine n_aload_n C.1 dX9_init_103 rfl (i := 0) rfl ?_
  refine n_get C (o := 0) (kx := 9) (k := 4) (v := .ref (a17 48)) dX9_init_104 rfl rfl rfl (by decide) (Or.inl aw_311) inA9 rfl ?_
  refine n_alen C (v := (5 : Int32)) (o := 48) dX9_init_107 rfl rfl ?_
  refine n_ge_f C.1 (tgt := 130) dX9_init_108 (by decide) (by decide) ?_
  refine n_aload_n C.1 dX9_init_111 rfl (i := 0) rfl ?_
  refine n_get C (o := 0) (kx := 9) (k := 4) (v := .ref (a17 48)) dX9_init_112 rfl rfl rfl (by decide) (Or.inl aw_311) inA9 rfl ?_
  refine n_iload_n C.1 dX9_init_115 rfl (i := 1) rfl ?_
  refine n_new C (kx := 0) (sl := [(0, 0), (0, 0), (0, 0), (0, 0), (0, 0), (0, 0)]) dX9_init_116 rfl inA0 tyX0_ok aw_219 aw_128 aw_24 (by decide) df0 (Nat.le_of_ble_eq_true rfl) (Nat.le_of_ble_eq_true rfl) (fun a18 e18 y18 => ?_)
  rw [← e18 0 (Nat.le_of_ble_eq_true rfl)]
  rw [← e18 48 (Nat.le_of_ble_eq_true rfl)]
  have z18 : a18 0 = kad K 0 := (e18 0 (Nat.le_of_ble_eq_true rfl)).trans z17
  show GW K 119 [some (.ref (a18 0)), some (.int (2 : Int32))] [.ref (a18 78), .int (2 : Int32), .ref (a18 48)] 78 1722 (WI K _ _ a18)
  refine n_dup C.1 dX9_init_119 rfl ?_
  refine n_call C (n := 78) (Y := _) cn_X0 dX9_init_120 cwi_X0 (Or.inr ⟨_, aw_306⟩) aw_130 (by decide) (Nat.le_of_ble_eq_true rfl) rfl rfl (Nat.le_of_ble_eq_true rfl) (Nat.le_of_ble_eq_true rfl) (Nat.le_of_ble_eq_true rfl) (Nat.le_of_ble_eq_true rfl) rfl y18 (fun a19 e19 _ => ?_)
  rw [← e19 0 (Nat.le_of_ble_eq_true rfl)]
  rw [← e19 48 (Nat.le_of_ble_eq_true rfl)]
  rw [← e19 78 (Nat.le_of_ble_eq_true rfl)]
  have z19 : a19 0 = kad K 0 := (e19 0 (Nat.le_of_ble_eq_true rfl)).trans z18
  show GW K 123 [some (.ref (a19 0)), some (.int (2 : Int32))] [.ref (a19 78), .int (2 : Int32), .ref (a19 48)] 78 1722 (WI K _ _ a19)
  refine n_aast C (o := 48) (v := 78) (b := 28) (k := 2) dX9_init_123 rfl rfl (by decide) (by decide) rfl ?_
  refine n_iinc C.1 (i := 1) (y := (3 : Int32)) (L' := [some (.ref (a19 0)), some (.int (3 : Int32))]) dX9_init_124 rfl (by decide) (Nat.le_of_ble_eq_true rfl) rfl ?_
  refine n_goto C.1 (tgt := 102) dX9_init_127 (by decide) ?_
  refine n_iload_n C.1 dX9_init_102 rfl (i := 1) rfl ?_
  refine n_aload_n C.1 dX9_init_103 rfl (i := 0) rfl ?_
  refine n_get C (o := 0) (kx := 9) (k := 4) (v := .ref (a19 48)) dX9_init_104 rfl rfl rfl (by decide) (Or.inl aw_311) inA9 rfl ?_
  refine n_alen C (v := (5 : Int32)) (o := 48) dX9_init_107 rfl rfl ?_
  refine n_ge_f C.1 (tgt := 130) dX9_init_108 (by decide) (by decide) ?_
  refine n_aload_n C.1 dX9_init_111 rfl (i := 0) rfl ?_
  refine n_get C (o := 0) (kx := 9) (k := 4) (v := .ref (a19 48)) dX9_init_112 rfl rfl rfl (by decide) (Or.inl aw_311) inA9 rfl ?_
  refine n_iload_n C.1 dX9_init_115 rfl (i := 1) rfl ?_
  refine n_new C (kx := 0) (sl := [(0, 0), (0, 0), (0, 0), (0, 0), (0, 0), (0, 0)]) dX9_init_116 rfl inA0 tyX0_ok aw_219 aw_128 aw_24 (by decide) df0 (Nat.le_of_ble_eq_true rfl) (Nat.le_of_ble_eq_true rfl) (fun a20 e20 y20 => ?_)
  rw [← e20 0 (Nat.le_of_ble_eq_true rfl)]
  rw [← e20 48 (Nat.le_of_ble_eq_true rfl)]
  have z20 : a20 0 = kad K 0 := (e20 0 (Nat.le_of_ble_eq_true rfl)).trans z19
  show GW K 119 [some (.ref (a20 0)), some (.int (3 : Int32))] [.ref (a20 79), .int (3 : Int32), .ref (a20 48)] 79 1728 (WI K _ _ a20)
  refine n_dup C.1 dX9_init_119 rfl ?_
  refine n_call C (n := 79) (Y := _) cn_X0 dX9_init_120 cwi_X0 (Or.inr ⟨_, aw_306⟩) aw_130 (by decide) (Nat.le_of_ble_eq_true rfl) rfl rfl (Nat.le_of_ble_eq_true rfl) (Nat.le_of_ble_eq_true rfl) (Nat.le_of_ble_eq_true rfl) (Nat.le_of_ble_eq_true rfl) rfl y20 (fun a21 e21 _ => ?_)
  rw [← e21 0 (Nat.le_of_ble_eq_true rfl)]
  rw [← e21 48 (Nat.le_of_ble_eq_true rfl)]
  rw [← e21 79 (Nat.le_of_ble_eq_true rfl)]
  have z21 : a21 0 = kad K 0 := (e21 0 (Nat.le_of_ble_eq_true rfl)).trans z20
  show GW K 123 [some (.ref (a21 0)), some (.int (3 : Int32))] [.ref (a21 79), .int (3 : Int32), .ref (a21 48)] 79 1728 (WI K _ _ a21)
  refine n_aast C (o := 48) (v := 79) (b := 28) (k := 3) dX9_init_123 rfl rfl (by decide) (by decide) rfl ?_
  refine n_iinc C.1 (i := 1) (y := (4 : Int32)) (L' := [some (.ref (a21 0)), some (.int (4 : Int32))]) dX9_init_124 rfl (by decide) (Nat.le_of_ble_eq_true rfl) rfl ?_
  refine n_goto C.1 (tgt := 102) dX9_init_127 (by decide) ?_
  refine n_iload_n C.1 dX9_init_102 rfl (i := 1) rfl ?_
  refine n_aload_n C.1 dX9_init_103 rfl (i := 0) rfl ?_
  refine n_get C (o := 0) (kx := 9) (k := 4) (v := .ref (a21 48)) dX9_init_104 rfl rfl rfl (by decide) (Or.inl aw_311) inA9 rfl ?_
  refine n_alen C (v := (5 : Int32)) (o := 48) dX9_init_107 rfl rfl ?_
  refine n_ge_f C.1 (tgt := 130) dX9_init_108 (by decide) (by decide) ?_
  refine n_aload_n C.1 dX9_init_111 rfl (i := 0) rfl ?_
  refine n_get C (o := 0) (kx := 9) (k := 4) (v := .ref (a21 48)) dX9_init_112 rfl rfl rfl (by decide) (Or.inl aw_311) inA9 rfl ?_
  refine n_iload_n C.1 dX9_init_115 rfl (i := 1) rfl ?_
  refine n_new C (kx := 0) (sl := [(0, 0), (0, 0), (0, 0), (0, 0), (0, 0), (0, 0)]) dX9_init_116 rfl inA0 tyX0_ok aw_219 aw_128 aw_24 (by decide) df0 (Nat.le_of_ble_eq_true rfl) (Nat.le_of_ble_eq_true rfl) (fun a22 e22 y22 => ?_)
  rw [← e22 0 (Nat.le_of_ble_eq_true rfl)]
  rw [← e22 48 (Nat.le_of_ble_eq_true rfl)]
  have z22 : a22 0 = kad K 0 := (e22 0 (Nat.le_of_ble_eq_true rfl)).trans z21
  show GW K 119 [some (.ref (a22 0)), some (.int (4 : Int32))] [.ref (a22 80), .int (4 : Int32), .ref (a22 48)] 80 1734 (WI K _ _ a22)
  refine n_dup C.1 dX9_init_119 rfl ?_
  refine n_call C (n := 80) (Y := _) cn_X0 dX9_init_120 cwi_X0 (Or.inr ⟨_, aw_306⟩) aw_130 (by decide) (Nat.le_of_ble_eq_true rfl) rfl rfl (Nat.le_of_ble_eq_true rfl) (Nat.le_of_ble_eq_true rfl) (Nat.le_of_ble_eq_true rfl) (Nat.le_of_ble_eq_true rfl) rfl y22 (fun a23 e23 _ => ?_)
  rw [← e23 0 (Nat.le_of_ble_eq_true rfl)]
  rw [← e23 48 (Nat.le_of_ble_eq_true rfl)]
  rw [← e23 80 (Nat.le_of_ble_eq_true rfl)]
  have z23 : a23 0 = kad K 0 := (e23 0 (Nat.le_of_ble_eq_true rfl)).trans z22
  show GW K 123 [some (.ref (a23 0)), some (.int (4 : Int32))] [.ref (a23 80), .int (4 : Int32), .ref (a23 48)] 80 1734 (WI K _ _ a23)
  refine n_aast C (o := 48) (v := 80) (b := 28) (k := 4) dX9_init_123 rfl rfl (by decide) (by decide) rfl ?_
  refine n_iinc C.1 (i := 1) (y := (5 : Int32)) (L' := [some (.ref (a23 0)), some (.int (5 : Int32))]) dX9_init_124 rfl (by decide) (Nat.le_of_ble_eq_true rfl) rfl ?_
  refine n_goto C.1 (tgt := 102) dX9_init_127 (by decide) ?_
  refine n_iload_n C.1 dX9_init_102 rfl (i := 1) rfl ?_
  refine n_aload_n C.1 dX9_init_103 rfl (i := 0) rfl ?_
  refine n_get C (o := 0) (kx := 9) (k := 4) (v := .ref (a23 48)) dX9_init_104 rfl rfl rfl (by decide) (Or.inl aw_311) inA9 rfl ?_
  refine n_alen C (v := (5 : Int32)) (o := 48) dX9_init_107 rfl rfl ?_
  refine n_ge_t C.1 (tgt := 130) dX9_init_108 (by decide) (by decide) ?_
  exact n_vret C hQ z23 (Nat.le_of_ble_eq_true rfl) dX9_init_130
theorem cn_X9 : Cn yX9_init cX9_init 2 3 9 [(4, 0), (4, 0), (4, 0), (4, 0), (4, 0), (4, 0), (4, 0), (4, 0), (4, 0), (0, 0), (0, 0), (0, 0)] layS9 σX9 80 1734 := cn_of (by decide) rfl (by decide) (by decide) (fun K C hN hQ => bn_X9 C hN hQ)
end
section
-- X0_isKind
theorem dX0_isKind_0 : decode cX0_isKind 0 = .ok (.iload_n 0, 1) := by decide +kernel
theorem dX0_isKind_1 : decode cX0_isKind 1 = .ok (.ifCond .lt 12, 3) := by decide +kernel
theorem dX0_isKind_4 : decode cX0_isKind 4 = .ok (.iload_n 0, 1) := by decide +kernel
theorem dX0_isKind_5 : decode cX0_isKind 5 = .ok (.iconst 4, 1) := by decide +kernel
theorem dX0_isKind_6 : decode cX0_isKind 6 = .ok (.if_icmp .gt 7, 3) := by decide +kernel
theorem dX0_isKind_9 : decode cX0_isKind 9 = .ok (.iconst 1, 1) := by decide +kernel
theorem dX0_isKind_10 : decode cX0_isKind 10 = .ok (.goto 4, 3) := by decide +kernel
theorem dX0_isKind_13 : decode cX0_isKind 13 = .ok (.iconst 0, 1) := by decide +kernel
theorem dX0_isKind_14 : decode cX0_isKind 14 = .ok (.ireturn, 1) := by decide +kernel
theorem cw_X0_isKind : Cw yX0_isKind cX0_isKind 1 (some .boolean) 1 := ⟨aw_436, aw_24, ⟨by decide, by decide⟩, by decide +kernel, by decide⟩
def fX0_isKind_b0 (x0 : Int32) (σ : Sg) : Option (Int32 × Sg) :=
  if x0 < 0 then (some ((0 : Int32), σ)) else (if (4 : Int32) < x0 then (some ((0 : Int32), σ)) else (some ((1 : Int32), σ)))
set_option maxRecDepth 4000 in
theorem bX0_isKind_b0 {K : KT} {x0 : Int32} {σ : Sg} {o : Int32 × Sg} (C : Cx K layC cX0_isKind RX0 1 (1) (some .boolean))  (hQ : Rk K layC (okI o)) (h : fX0_isKind_b0 x0 σ = some o) : G K 0 [some (.int x0)] [] (Wd K layC σ) := by
  unfold fX0_isKind_b0 at h
  refine g_iload_n C.c dX0_isKind_0 rfl (i := 0) rfl ?_
  refine g_if_lt C.c (tgt := 13) dX0_isKind_1 (by decide) (fun c => ?_) (fun c => ?_)
  · replace h := ite_t c h
    refine g_iconst C.c dX0_isKind_13 (v := (0 : Int32)) (by decide) ?_
    obtain rfl := Option.some.inj h
    exact g_iret C hQ dX0_isKind_14 rfl ⟨rfl, rfl⟩
  · replace h := ite_f c h
    refine g_iload_n C.c dX0_isKind_4 rfl (i := 0) rfl ?_
    refine g_iconst C.c dX0_isKind_5 (v := (4 : Int32)) (by decide) ?_
    refine g_icmp_gt C.c (tgt := 13) dX0_isKind_6 (by decide) (fun c => ?_) (fun c => ?_)
    · replace h := ite_t c h
      refine g_iconst C.c dX0_isKind_13 (v := (0 : Int32)) (by decide) ?_
      obtain rfl := Option.some.inj h
      exact g_iret C hQ dX0_isKind_14 rfl ⟨rfl, rfl⟩
    · replace h := ite_f c h
      refine g_iconst C.c dX0_isKind_9 (v := (1 : Int32)) (by decide) ?_
      refine g_goto C.c (tgt := 14) dX0_isKind_10 (by decide) ?_
      obtain rfl := Option.some.inj h
      exact g_iret C hQ dX0_isKind_14 rfl ⟨rfl, rfl⟩
def fX0_isKind (a0 : Int32) (σ : Sg) : Option (Int32 × Sg) := fX0_isKind_b0 a0 σ
theorem ct_X0_isKind {a0 : Int32} {σ : Sg} {p : Int32 × Sg} (h : fX0_isKind a0 σ = some p) : Ct layC yX0_isKind cX0_isKind 1 (some .boolean) 1 (fun ad => [.int a0]) σ (okI p) :=
 ct_of (L0 := fun ad => [some (.int a0)]) (by decide) (fun _ => Nat.le_of_ble_eq_true rfl) (fun _ => rfl) (fun K C hQ => g_mask [true] rfl (bX0_isKind_b0 C hQ h))
-- X0_mayBreak
theorem dX0_mayBreak_0 : decode cX0_mayBreak 0 = .ok (.iload_n 0, 1) := by decide +kernel
theorem dX0_mayBreak_1 : decode cX0_mayBreak 1 = .ok (.iconst 2, 1) := by decide +kernel
theorem dX0_mayBreak_2 : decode cX0_mayBreak 2 = .ok (.if_icmp .ne 22, 3) := by decide +kernel
theorem dX0_mayBreak_5 : decode cX0_mayBreak 5 = .ok (.iload_n 1, 1) := by decide +kernel
theorem dX0_mayBreak_6 : decode cX0_mayBreak 6 = .ok (.iconst 2, 1) := by decide +kernel
theorem dX0_mayBreak_7 : decode cX0_mayBreak 7 = .ok (.if_icmp .lt 13, 3) := by decide +kernel
theorem dX0_mayBreak_10 : decode cX0_mayBreak 10 = .ok (.iload_n 1, 1) := by decide +kernel
theorem dX0_mayBreak_11 : decode cX0_mayBreak 11 = .ok (.bipush 9, 2) := by decide +kernel
theorem dX0_mayBreak_13 : decode cX0_mayBreak 13 = .ok (.if_icmp .gt 7, 3) := by decide +kernel
theorem dX0_mayBreak_16 : decode cX0_mayBreak 16 = .ok (.iconst 1, 1) := by decide +kernel
theorem dX0_mayBreak_17 : decode cX0_mayBreak 17 = .ok (.goto 16, 3) := by decide +kernel
theorem dX0_mayBreak_20 : decode cX0_mayBreak 20 = .ok (.iconst 0, 1) := by decide +kernel
theorem dX0_mayBreak_21 : decode cX0_mayBreak 21 = .ok (.goto 12, 3) := by decide +kernel
theorem dX0_mayBreak_24 : decode cX0_mayBreak 24 = .ok (.iload_n 1, 1) := by decide +kernel
theorem dX0_mayBreak_25 : decode cX0_mayBreak 25 = .ok (.ifCond .ne 7, 3) := by decide +kernel
theorem dX0_mayBreak_28 : decode cX0_mayBreak 28 = .ok (.iconst 1, 1) := by decide +kernel
theorem dX0_mayBreak_29 : decode cX0_mayBreak 29 = .ok (.goto 4, 3) := by decide +kernel
theorem dX0_mayBreak_32 : decode cX0_mayBreak 32 = .ok (.iconst 0, 1) := by decide +kernel
theorem dX0_mayBreak_33 : decode cX0_mayBreak 33 = .ok (.ireturn, 1) := by decide +kernel
theorem cw_X0_mayBreak : Cw yX0_mayBreak cX0_mayBreak 2 (some .boolean) 2 := ⟨aw_650, aw_24, ⟨by decide, by decide⟩, by decide +kernel, by decide⟩
def fX0_mayBreak_b20  (σ : Sg) : Option (Int32 × Sg) :=
  some ((0 : Int32), σ)
def fX0_mayBreak_b0 (x0 : Int32) (x1 : Int32) (σ : Sg) : Option (Int32 × Sg) :=
  if x0 = (2 : Int32) then (if x1 < (2 : Int32) then (fX0_mayBreak_b20 σ) else (if (9 : Int32) < x1 then (fX0_mayBreak_b20 σ) else (some ((1 : Int32), σ)))) else (if x1 = 0 then (some ((1 : Int32), σ)) else (some ((0 : Int32), σ)))
set_option maxRecDepth 4000 in
theorem bX0_mayBreak_b20 {K : KT}  {σ : Sg} {o : Int32 × Sg} (C : Cx K layC cX0_mayBreak RX0 2 (1) (some .boolean))  (hQ : Rk K layC (okI o)) (h : fX0_mayBreak_b20  σ = some o) : G K 20 [none, none] [] (Wd K layC σ) := by
  unfold fX0_mayBreak_b20 at h
  refine g_iconst C.c dX0_mayBreak_20 (v := (0 : Int32)) (by decide) ?_
  refine g_goto C.c (tgt := 33) dX0_mayBreak_21 (by decide) ?_
  obtain rfl := Option.some.inj h
  exact g_iret C hQ dX0_mayBreak_33 rfl ⟨rfl, rfl⟩
set_option maxRecDepth 4000 in
theorem bX0_mayBreak_b0 {K : KT} {x0 : Int32} {x1 : Int32} {σ : Sg} {o : Int32 × Sg} (C : Cx K layC cX0_mayBreak RX0 2 (1) (some .boolean))  (hQ : Rk K layC (okI o)) (h : fX0_mayBreak_b0 x0 x1 σ = some o) : G K 0 [some (.int x0), some (.int x1)] [] (Wd K layC σ) := by
  unfold fX0_mayBreak_b0 at h
  refine g_iload_n C.c dX0_mayBreak_0 rfl (i := 0) rfl ?_
  refine g_iconst C.c dX0_mayBreak_1 (v := (2 : Int32)) (by decide) ?_
  refine g_icmp_ne C.c (tgt := 24) dX0_mayBreak_2 (by decide) (fun c => ?_) (fun c => ?_)
  · replace h := ite_f c h
    refine g_iload_n C.c dX0_mayBreak_24 rfl (i := 1) rfl ?_
    refine g_if_ne C.c (tgt := 32) dX0_mayBreak_25 (by decide) (fun c => ?_) (fun c => ?_)
    · replace h := ite_f c h
      refine g_iconst C.c dX0_mayBreak_32 (v := (0 : Int32)) (by decide) ?_
      obtain rfl := Option.some.inj h
      exact g_iret C hQ dX0_mayBreak_33 rfl ⟨rfl, rfl⟩
    · replace h := ite_t c h
      refine g_iconst C.c dX0_mayBreak_28 (v := (1 : Int32)) (by decide) ?_
      refine g_goto C.c (tgt := 33) dX0_mayBreak_29 (by decide) ?_
      obtain rfl := Option.some.inj h
      exact g_iret C hQ dX0_mayBreak_33 rfl ⟨rfl, rfl⟩
  · replace h := ite_t c h
    refine g_iload_n C.c dX0_mayBreak_5 rfl (i := 1) rfl ?_
    refine g_iconst C.c dX0_mayBreak_6 (v := (2 : Int32)) (by decide) ?_
    refine g_icmp_lt C.c (tgt := 20) dX0_mayBreak_7 (by decide) (fun c => ?_) (fun c => ?_)
    · replace h := ite_t c h
      exact g_mask [false, false] rfl (bX0_mayBreak_b20 C hQ h)
    · replace h := ite_f c h
      refine g_iload_n C.c dX0_mayBreak_10 rfl (i := 1) rfl ?_
      refine g_bipush C.c dX0_mayBreak_11 (v := (9 : Int32)) (by decide) ?_
      refine g_icmp_gt C.c (tgt := 20) dX0_mayBreak_13 (by decide) (fun c => ?_) (fun c => ?_)
      · replace h := ite_t c h
        exact g_mask [false, false] rfl (bX0_mayBreak_b20 C hQ h)
      · replace h := ite_f c h
        refine g_iconst C.c dX0_mayBreak_16 (v := (1 : Int32)) (by decide) ?_
        refine g_goto C.c (tgt := 33) dX0_mayBreak_17 (by decide) ?_
        obtain rfl := Option.some.inj h
        exact g_iret C hQ dX0_mayBreak_33 rfl ⟨rfl, rfl⟩
def fX0_mayBreak (a0 : Int32) (a1 : Int32) (σ : Sg) : Option (Int32 × Sg) := fX0_mayBreak_b0 a0 a1 σ
theorem ct_X0_mayBreak {a0 : Int32} {a1 : Int32} {σ : Sg} {p : Int32 × Sg} (h : fX0_mayBreak a0 a1 σ = some p) : Ct layC yX0_mayBreak cX0_mayBreak 2 (some .boolean) 1 (fun ad => [.int a0, .int a1]) σ (okI p) :=
 ct_of (L0 := fun ad => [some (.int a0), some (.int a1)]) (by decide) (fun _ => Nat.le_of_ble_eq_true rfl) (fun _ => rfl) (fun K C hQ => g_mask [true, true] rfl (bX0_mayBreak_b0 C hQ h))
-- X0_become
theorem dX0_become_0 : decode cX0_become 0 = .ok (.aload_n 0, 1) := by decide +kernel
theorem dX0_become_1 : decode cX0_become 1 = .ok (.iload_n 1, 1) := by decide +kernel
theorem dX0_become_2 : decode cX0_become 2 = .ok (.putfield 9, 3) := by decide +kernel
theorem dX0_become_5 : decode cX0_become 5 = .ok (.aload_n 0, 1) := by decide +kernel
theorem dX0_become_6 : decode cX0_become 6 = .ok (.iload_n 2, 1) := by decide +kernel
theorem dX0_become_7 : decode cX0_become 7 = .ok (.putfield 13, 3) := by decide +kernel
theorem dX0_become_10 : decode cX0_become 10 = .ok (.aload_n 0, 1) := by decide +kernel
theorem dX0_become_11 : decode cX0_become 11 = .ok (.iload_n 3, 1) := by decide +kernel
theorem dX0_become_12 : decode cX0_become 12 = .ok (.putfield 16, 3) := by decide +kernel
theorem dX0_become_15 : decode cX0_become 15 = .ok (.aload_n 0, 1) := by decide +kernel
theorem dX0_become_16 : decode cX0_become 16 = .ok (.iload 4, 2) := by decide +kernel
theorem dX0_become_18 : decode cX0_become 18 = .ok (.putfield 19, 3) := by decide +kernel
theorem dX0_become_21 : decode cX0_become 21 = .ok (.aload_n 0, 1) := by decide +kernel
theorem dX0_become_22 : decode cX0_become 22 = .ok (.iload 5, 2) := by decide +kernel
theorem dX0_become_24 : decode cX0_become 24 = .ok (.putfield 22, 3) := by decide +kernel
theorem dX0_become_27 : decode cX0_become 27 = .ok (.aload_n 0, 1) := by decide +kernel
theorem dX0_become_28 : decode cX0_become 28 = .ok (.iload_n 1, 1) := by decide +kernel
theorem dX0_become_29 : decode cX0_become 29 = .ok (.iconst 1, 1) := by decide +kernel
theorem dX0_become_30 : decode cX0_become 30 = .ok (.if_icmp .eq 8, 3) := by decide +kernel
theorem dX0_become_33 : decode cX0_become 33 = .ok (.iload_n 1, 1) := by decide +kernel
theorem dX0_become_34 : decode cX0_become 34 = .ok (.iconst 4, 1) := by decide +kernel
theorem dX0_become_35 : decode cX0_become 35 = .ok (.if_icmp .ne 7, 3) := by decide +kernel
theorem dX0_become_38 : decode cX0_become 38 = .ok (.iconst 1, 1) := by decide +kernel
theorem dX0_become_39 : decode cX0_become 39 = .ok (.goto 4, 3) := by decide +kernel
theorem dX0_become_42 : decode cX0_become 42 = .ok (.iconst 0, 1) := by decide +kernel
theorem dX0_become_43 : decode cX0_become 43 = .ok (.putfield 25, 3) := by decide +kernel
theorem dX0_become_46 : decode cX0_become 46 = .ok (.return_, 1) := by decide +kernel
theorem cw_X0_become : Cw yX0_become cX0_become 6 none 5 := ⟨aw_654, aw_24, ⟨by decide, by decide⟩, by decide +kernel, by decide⟩
theorem pf_0_9d {K : KT} {cc : ByteArray} {nL d pc : Nat} {ret : Option FieldType} {L : List (Option Value)} {st : List Value} {σ : Sg} (C : Cx K layC cc RX0 nL d ret) {o : Nat} (hY : layC[o]? = some (0, 0, slX0)) {v : Int32}  (hd : decode cc pc = .ok (.putfield 9, 3)) (k : G K (pc + 3) L st (Wd K layC (wI σ o 0 v))) : G K pc L (.int v :: .ref (kad K o) :: st) (Wd K layC σ) := g_putI C (o := o) (ci := 0) (k := 0) hd hY rfl rfl (by decide) (Or.inl aw_133) inA0 tyX0_ok nmX0 rfl rfl rfl k
theorem pf_0_13d {K : KT} {cc : ByteArray} {nL d pc : Nat} {ret : Option FieldType} {L : List (Option Value)} {st : List Value} {σ : Sg} (C : Cx K layC cc RX0 nL d ret) {o : Nat} (hY : layC[o]? = some (0, 0, slX0)) {v : Int32}  (hd : decode cc pc = .ok (.putfield 13, 3)) (k : G K (pc + 3) L st (Wd K layC (wI σ o 1 v))) : G K pc L (.int v :: .ref (kad K o) :: st) (Wd K layC σ) := g_putI C (o := o) (ci := 0) (k := 1) hd hY rfl rfl (by decide) (Or.inl aw_137) inA0 tyX0_ok nmX0 rfl rfl rfl k
theorem pf_0_16d {K : KT} {cc : ByteArray} {nL d pc : Nat} {ret : Option FieldType} {L : List (Option Value)} {st : List Value} {σ : Sg} (C : Cx K layC cc RX0 nL d ret) {o : Nat} (hY : layC[o]? = some (0, 0, slX0)) {v : Int32}  (hd : decode cc pc = .ok (.putfield 16, 3)) (k : G K (pc + 3) L st (Wd K layC (wI σ o 2 v))) : G K pc L (.int v :: .ref (kad K o) :: st) (Wd K layC σ) := g_putI C (o := o) (ci := 0) (k := 2) hd hY rfl rfl (by decide) (Or.inl aw_139) inA0 tyX0_ok nmX0 rfl rfl rfl k
theorem pf_0_19d {K : KT} {cc : ByteArray} {nL d pc : Nat} {ret : Option FieldType} {L : List (Option Value)} {st : List Value} {σ : Sg} (C : Cx K layC cc RX0 nL d ret) {o : Nat} (hY : layC[o]? = some (0, 0, slX0)) {v : Int32}  (hd : decode cc pc = .ok (.putfield 19, 3)) (k : G K (pc + 3) L st (Wd K layC (wI σ o 3 v))) : G K pc L (.int v :: .ref (kad K o) :: st) (Wd K layC σ) := g_putI C (o := o) (ci := 0) (k := 3) hd hY rfl rfl (by decide) (Or.inl aw_142) inA0 tyX0_ok nmX0 rfl rfl rfl k
theorem pf_0_22d {K : KT} {cc : ByteArray} {nL d pc : Nat} {ret : Option FieldType} {L : List (Option Value)} {st : List Value} {σ : Sg} (C : Cx K layC cc RX0 nL d ret) {o : Nat} (hY : layC[o]? = some (0, 0, slX0)) {v : Int32}  (hd : decode cc pc = .ok (.putfield 22, 3)) (k : G K (pc + 3) L st (Wd K layC (wI σ o 4 v))) : G K pc L (.int v :: .ref (kad K o) :: st) (Wd K layC σ) := g_putI C (o := o) (ci := 0) (k := 4) hd hY rfl rfl (by decide) (Or.inl aw_144) inA0 tyX0_ok nmX0 rfl rfl rfl k
theorem pf_0_25d {K : KT} {cc : ByteArray} {nL d pc : Nat} {ret : Option FieldType} {L : List (Option Value)} {st : List Value} {σ : Sg} (C : Cx K layC cc RX0 nL d ret) {o : Nat} (hY : layC[o]? = some (0, 0, slX0)) {v : Int32} (hb : isB v = true) (hd : decode cc pc = .ok (.putfield 25, 3)) (k : G K (pc + 3) L st (Wd K layC (wI σ o 5 v))) : G K pc L (.int v :: .ref (kad K o) :: st) (Wd K layC σ) := g_putI C (o := o) (ci := 0) (k := 5) hd hY rfl rfl (by decide) (Or.inl aw_146) inA0 tyX0_ok nmX0 rfl (isB_n hb) (isB_f hb) k
def fX0_become_b38 (u0 : Nat) (σ : Sg) : Option (Sg) :=
  some (wI σ u0 5 (1 : Int32))
def fX0_become_b0 (w0 : Nat) (x1 : Int32) (x2 : Int32) (x3 : Int32) (x4 : Int32) (x5 : Int32) (σ : Sg) : Option (Sg) :=
  if x1 = (1 : Int32) then (fX0_become_b38 w0 (wI (wI (wI (wI (wI σ w0 0 x1) w0 1 x2) w0 2 x3) w0 3 x4) w0 4 x5)) else (if x1 = (4 : Int32) then (fX0_become_b38 w0 (wI (wI (wI (wI (wI σ w0 0 x1) w0 1 x2) w0 2 x3) w0 3 x4) w0 4 x5)) else (some (wI (wI (wI (wI (wI (wI σ w0 0 x1) w0 1 x2) w0 2 x3) w0 3 x4) w0 4 x5) w0 5 (0 : Int32))))
set_option maxRecDepth 4000 in
theorem bX0_become_b38 {K : KT} {u0 : Nat} {σ : Sg} {o : Sg} (C : Cx K layC cX0_become RX0 6 (1) none) (hu0 : layC[u0]? = some (0, 0, slX0)) (hQ : Rk K layC (okV o)) (h : fX0_become_b38 u0 σ = some o) : G K 38 [none, none, none, none, none, none] [.ref (kad K u0)] (Wd K layC σ) := by
  unfold fX0_become_b38 at h
  refine g_iconst C.c dX0_become_38 (v := (1 : Int32)) (by decide) ?_
  refine g_goto C.c (tgt := 43) dX0_become_39 (by decide) ?_
  refine pf_0_25d C hu0 (by decide) dX0_become_43 ?_
  obtain rfl := Option.some.inj h
  exact g_vret C hQ dX0_become_46 ⟨rfl, rfl⟩
set_option maxRecDepth 4000 in
theorem bX0_become_b0 {K : KT} {w0 : Nat} {x1 : Int32} {x2 : Int32} {x3 : Int32} {x4 : Int32} {x5 : Int32} {σ : Sg} {o : Sg} (C : Cx K layC cX0_become RX0 6 (1) none) (hw0 : layC[w0]? = some (0, 0, slX0)) (hQ : Rk K layC (okV o)) (h : fX0_become_b0 w0 x1 x2 x3 x4 x5 σ = some o) : G K 0 [some (.ref (kad K w0)), some (.int x1), some (.int x2), some (.int x3), some (.int x4), some (.int x5)] [] (Wd K layC σ) := by
  unfold fX0_become_b0 at h
  refine g_aload_n C.c dX0_become_0 rfl (i := 0) rfl ?_
  refine g_iload_n C.c dX0_become_1 rfl (i := 1) rfl ?_
  refine pf_0_9d C hw0 dX0_become_2 ?_
  refine g_aload_n C.c dX0_become_5 rfl (i := 0) rfl ?_
  refine g_iload_n C.c dX0_become_6 rfl (i := 2) rfl ?_
  refine pf_0_13d C hw0 dX0_become_7 ?_
  refine g_aload_n C.c dX0_become_10 rfl (i := 0) rfl ?_
  refine g_iload_n C.c dX0_become_11 rfl (i := 3) rfl ?_
  refine pf_0_16d C hw0 dX0_become_12 ?_
  refine g_aload_n C.c dX0_become_15 rfl (i := 0) rfl ?_
  refine g_iload C.c dX0_become_16 (i := 4) rfl ?_
  refine pf_0_19d C hw0 dX0_become_18 ?_
  refine g_aload_n C.c dX0_become_21 rfl (i := 0) rfl ?_
  refine g_iload C.c dX0_become_22 (i := 5) rfl ?_
  refine pf_0_22d C hw0 dX0_become_24 ?_
  refine g_aload_n C.c dX0_become_27 rfl (i := 0) rfl ?_
  refine g_iload_n C.c dX0_become_28 rfl (i := 1) rfl ?_
  refine g_iconst C.c dX0_become_29 (v := (1 : Int32)) (by decide) ?_
  refine g_icmp_eq C.c (tgt := 38) dX0_become_30 (by decide) (fun c => ?_) (fun c => ?_)
  · replace h := ite_t c h
    exact g_mask [false, false, false, false, false, false] rfl (bX0_become_b38 C hw0 hQ h)
  · replace h := ite_f c h
    refine g_iload_n C.c dX0_become_33 rfl (i := 1) rfl ?_
    refine g_iconst C.c dX0_become_34 (v := (4 : Int32)) (by decide) ?_
    refine g_icmp_ne C.c (tgt := 42) dX0_become_35 (by decide) (fun c => ?_) (fun c => ?_)
    · replace h := ite_f c h
      refine g_iconst C.c dX0_become_42 (v := (0 : Int32)) (by decide) ?_
      refine pf_0_25d C hw0 (by decide) dX0_become_43 ?_
      obtain rfl := Option.some.inj h
      exact g_vret C hQ dX0_become_46 ⟨rfl, rfl⟩
    · replace h := ite_t c h
      exact g_mask [false, false, false, false, false, false] rfl (bX0_become_b38 C hw0 hQ h)
def fX0_become (o0 : Nat) (a0 : Int32) (a1 : Int32) (a2 : Int32) (a3 : Int32) (a4 : Int32) (σ : Sg) : Option (Sg) := fX0_become_b0 o0 a0 a1 a2 a3 a4 σ
theorem ct_X0_become {o0 : Nat} {a0 : Int32} {a1 : Int32} {a2 : Int32} {a3 : Int32} {a4 : Int32} {σ : Sg} {p : Sg} (hY0 : layC[o0]? = some (0, 0, slX0)) (h : fX0_become o0 a0 a1 a2 a3 a4 σ = some p) : Ct layC yX0_become cX0_become 6 none 1 (fun ad => [.ref (ad o0), .int a0, .int a1, .int a2, .int a3, .int a4]) σ (okV p) :=
 ct_of (L0 := fun ad => [some (.ref (ad o0)), some (.int a0), some (.int a1), some (.int a2), some (.int a3), some (.int a4)]) (by decide) (fun _ => Nat.le_of_ble_eq_true rfl) (fun _ => rfl) (fun K C hQ => g_mask [true, true, true, true, true, true] rfl (bX0_become_b0 C hY0 hQ h))
-- X0_isA
theorem dX0_isA_0 : decode cX0_isA 0 = .ok (.iload_n 1, 1) := by decide +kernel
theorem dX0_isA_1 : decode cX0_isA 1 = .ok (.ifCond .eq 23, 3) := by decide +kernel
theorem dX0_isA_4 : decode cX0_isA 4 = .ok (.iload_n 1, 1) := by decide +kernel
theorem dX0_isA_5 : decode cX0_isA 5 = .ok (.aload_n 0, 1) := by decide +kernel
theorem dX0_isA_6 : decode cX0_isA 6 = .ok (.getfield 9, 3) := by decide +kernel
theorem dX0_isA_9 : decode cX0_isA 9 = .ok (.if_icmp .eq 15, 3) := by decide +kernel
theorem dX0_isA_12 : decode cX0_isA 12 = .ok (.iload_n 1, 1) := by decide +kernel
theorem dX0_isA_13 : decode cX0_isA 13 = .ok (.iconst 1, 1) := by decide +kernel
theorem dX0_isA_14 : decode cX0_isA 14 = .ok (.if_icmp .ne 14, 3) := by decide +kernel
theorem dX0_isA_17 : decode cX0_isA 17 = .ok (.aload_n 0, 1) := by decide +kernel
theorem dX0_isA_18 : decode cX0_isA 18 = .ok (.getfield 25, 3) := by decide +kernel
theorem dX0_isA_21 : decode cX0_isA 21 = .ok (.ifCond .eq 7, 3) := by decide +kernel
theorem dX0_isA_24 : decode cX0_isA 24 = .ok (.iconst 1, 1) := by decide +kernel
theorem dX0_isA_25 : decode cX0_isA 25 = .ok (.goto 4, 3) := by decide +kernel
theorem dX0_isA_28 : decode cX0_isA 28 = .ok (.iconst 0, 1) := by decide +kernel
theorem dX0_isA_29 : decode cX0_isA 29 = .ok (.ireturn, 1) := by decide +kernel
theorem cw_X0_isA : Cw yX0_isA cX0_isA 2 (some .boolean) 1 := ⟨aw_440, aw_24, ⟨by decide, by decide⟩, by decide +kernel, by decide⟩
theorem gf_0_9d {K : KT} {cc : ByteArray} {nL d pc : Nat} {ret : Option FieldType} {L : List (Option Value)} {st : List Value} {σ : Sg} (C : Cx K layC cc RX0 nL d ret) {o : Nat} (hY : layC[o]? = some (0, 0, slX0)) (hd : decode cc pc = .ok (.getfield 9, 3)) (k : G K (pc + 3) L (.int (rI σ o 0) :: st) (Wd K layC σ)) : G K pc L (.ref (kad K o) :: st) (Wd K layC σ) := g_get C (o := o) (ci := 0) (k := 0) hd hY rfl rfl (by decide) (Or.inl aw_133) inA0 rfl k
theorem gf_0_25d {K : KT} {cc : ByteArray} {nL d pc : Nat} {ret : Option FieldType} {L : List (Option Value)} {st : List Value} {σ : Sg} (C : Cx K layC cc RX0 nL d ret) {o : Nat} (hY : layC[o]? = some (0, 0, slX0)) (hd : decode cc pc = .ok (.getfield 25, 3)) (k : G K (pc + 3) L (.int (rI σ o 5) :: st) (Wd K layC σ)) : G K pc L (.ref (kad K o) :: st) (Wd K layC σ) := g_get C (o := o) (ci := 0) (k := 5) hd hY rfl rfl (by decide) (Or.inl aw_146) inA0 rfl k
def fX0_isA_b24  (σ : Sg) : Option (Int32 × Sg) :=
  some ((1 : Int32), σ)
def fX0_isA_b0 (w0 : Nat) (x1 : Int32) (σ : Sg) : Option (Int32 × Sg) :=
  if x1 = 0 then (fX0_isA_b24 σ) else (if x1 = (rI σ w0 0) then (fX0_isA_b24 σ) else (if x1 = (1 : Int32) then (if (rI σ w0 5) = 0 then (some ((0 : Int32), σ)) else (fX0_isA_b24 σ)) else (some ((0 : Int32), σ))))
set_option maxRecDepth 4000 in
theorem bX0_isA_b24 {K : KT}  {σ : Sg} {o : Int32 × Sg} (C : Cx K layC cX0_isA RX0 2 (1) (some .boolean))  (hQ : Rk K layC (okI o)) (h : fX0_isA_b24  σ = some o) : G K 24 [none, none] [] (Wd K layC σ) := by
  unfold fX0_isA_b24 at h
  refine g_iconst C.c dX0_isA_24 (v := (1 : Int32)) (by decide) ?_
  refine g_goto C.c (tgt := 29) dX0_isA_25 (by decide) ?_
  obtain rfl := Option.some.inj h
  exact g_iret C hQ dX0_isA_29 rfl ⟨rfl, rfl⟩
set_option maxRecDepth 4000 in
theorem bX0_isA_b0 {K : KT} {w0 : Nat} {x1 : Int32} {σ : Sg} {o : Int32 × Sg} (C : Cx K layC cX0_isA RX0 2 (1) (some .boolean)) (hw0 : layC[w0]? = some (0, 0, slX0)) (hQ : Rk K layC (okI o)) (h : fX0_isA_b0 w0 x1 σ = some o) : G K 0 [some (.ref (kad K w0)), some (.int x1)] [] (Wd K layC σ) := by
  unfold fX0_isA_b0 at h
  refine g_iload_n C.c dX0_isA_0 rfl (i := 1) rfl ?_
  refine g_if_eq C.c (tgt := 24) dX0_isA_1 (by decide) (fun c => ?_) (fun c => ?_)
  · replace h := ite_t c h
    exact g_mask [false, false] rfl (bX0_isA_b24 C hQ h)
  · replace h := ite_f c h
    refine g_iload_n C.c dX0_isA_4 rfl (i := 1) rfl ?_
    refine g_aload_n C.c dX0_isA_5 rfl (i := 0) rfl ?_
    refine gf_0_9d C hw0 dX0_isA_6 ?_
    refine g_icmp_eq C.c (tgt := 24) dX0_isA_9 (by decide) (fun c => ?_) (fun c => ?_)
    · replace h := ite_t c h
      exact g_mask [false, false] rfl (bX0_isA_b24 C hQ h)
    · replace h := ite_f c h
      refine g_iload_n C.c dX0_isA_12 rfl (i := 1) rfl ?_
      refine g_iconst C.c dX0_isA_13 (v := (1 : Int32)) (by decide) ?_
      refine g_icmp_ne C.c (tgt := 28) dX0_isA_14 (by decide) (fun c => ?_) (fun c => ?_)
      · replace h := ite_f c h
        refine g_iconst C.c dX0_isA_28 (v := (0 : Int32)) (by decide) ?_
        obtain rfl := Option.some.inj h
        exact g_iret C hQ dX0_isA_29 rfl ⟨rfl, rfl⟩
      · replace h := ite_t c h
        refine g_aload_n C.c dX0_isA_17 rfl (i := 0) rfl ?_
        refine gf_0_25d C hw0 dX0_isA_18 ?_
        refine g_if_eq C.c (tgt := 28) dX0_isA_21 (by decide) (fun c => ?_) (fun c => ?_)
        · replace h := ite_t c h
          refine g_iconst C.c dX0_isA_28 (v := (0 : Int32)) (by decide) ?_
          obtain rfl := Option.some.inj h
          exact g_iret C hQ dX0_isA_29 rfl ⟨rfl, rfl⟩
        · replace h := ite_f c h
          exact g_mask [false, false] rfl (bX0_isA_b24 C hQ h)
def fX0_isA (o0 : Nat) (a0 : Int32) (σ : Sg) : Option (Int32 × Sg) := fX0_isA_b0 o0 a0 σ
theorem ct_X0_isA {o0 : Nat} {a0 : Int32} {σ : Sg} {p : Int32 × Sg} (hY0 : layC[o0]? = some (0, 0, slX0)) (h : fX0_isA o0 a0 σ = some p) : Ct layC yX0_isA cX0_isA 2 (some .boolean) 1 (fun ad => [.ref (ad o0), .int a0]) σ (okI p) :=
 ct_of (L0 := fun ad => [some (.ref (ad o0)), some (.int a0)]) (by decide) (fun _ => Nat.le_of_ble_eq_true rfl) (fun _ => rfl) (fun K C hQ => g_mask [true, true] rfl (bX0_isA_b0 C hY0 hQ h))
-- X0_meltOf
theorem dX0_meltOf_0 : decode cX0_meltOf 0 = .ok (.aload_n 0, 1) := by decide +kernel
theorem dX0_meltOf_1 : decode cX0_meltOf 1 = .ok (.getfield 9, 3) := by decide +kernel
theorem dX0_meltOf_4 : decode cX0_meltOf 4 = .ok (.iconst 3, 1) := by decide +kernel
theorem dX0_meltOf_5 : decode cX0_meltOf 5 = .ok (.if_icmp .ne 9, 3) := by decide +kernel
theorem dX0_meltOf_8 : decode cX0_meltOf 8 = .ok (.iload_n 1, 1) := by decide +kernel
theorem dX0_meltOf_9 : decode cX0_meltOf 9 = .ok (.iconst 1, 1) := by decide +kernel
theorem dX0_meltOf_10 : decode cX0_meltOf 10 = .ok (.iadd, 1) := by decide +kernel
theorem dX0_meltOf_11 : decode cX0_meltOf 11 = .ok (.goto 4, 3) := by decide +kernel
theorem dX0_meltOf_14 : decode cX0_meltOf 14 = .ok (.iload_n 1, 1) := by decide +kernel
theorem dX0_meltOf_15 : decode cX0_meltOf 15 = .ok (.istore_n 3, 1) := by decide +kernel
theorem dX0_meltOf_16 : decode cX0_meltOf 16 = .ok (.iconst 1, 1) := by decide +kernel
theorem dX0_meltOf_17 : decode cX0_meltOf 17 = .ok (.iload_n 3, 1) := by decide +kernel
theorem dX0_meltOf_18 : decode cX0_meltOf 18 = .ok (.iload_n 2, 1) := by decide +kernel
theorem dX0_meltOf_19 : decode cX0_meltOf 19 = .ok (.imul, 1) := by decide +kernel
theorem dX0_meltOf_20 : decode cX0_meltOf 20 = .ok (.bipush 100, 2) := by decide +kernel
theorem dX0_meltOf_22 : decode cX0_meltOf 22 = .ok (.idiv, 1) := by decide +kernel
theorem dX0_meltOf_23 : decode cX0_meltOf 23 = .ok (.iadd, 1) := by decide +kernel
theorem dX0_meltOf_24 : decode cX0_meltOf 24 = .ok (.istore 4, 2) := by decide +kernel
theorem dX0_meltOf_26 : decode cX0_meltOf 26 = .ok (.aload_n 0, 1) := by decide +kernel
theorem dX0_meltOf_27 : decode cX0_meltOf 27 = .ok (.getfield 25, 3) := by decide +kernel
theorem dX0_meltOf_30 : decode cX0_meltOf 30 = .ok (.ifCond .eq 12, 3) := by decide +kernel
theorem dX0_meltOf_33 : decode cX0_meltOf 33 = .ok (.iload 4, 2) := by decide +kernel
theorem dX0_meltOf_35 : decode cX0_meltOf 35 = .ok (.iconst 1, 1) := by decide +kernel
theorem dX0_meltOf_36 : decode cX0_meltOf 36 = .ok (.iadd, 1) := by decide +kernel
theorem dX0_meltOf_37 : decode cX0_meltOf 37 = .ok (.iconst 2, 1) := by decide +kernel
theorem dX0_meltOf_38 : decode cX0_meltOf 38 = .ok (.idiv, 1) := by decide +kernel
theorem dX0_meltOf_39 : decode cX0_meltOf 39 = .ok (.goto 5, 3) := by decide +kernel
theorem dX0_meltOf_42 : decode cX0_meltOf 42 = .ok (.iload 4, 2) := by decide +kernel
theorem dX0_meltOf_44 : decode cX0_meltOf 44 = .ok (.ireturn, 1) := by decide +kernel
theorem cw_X0_meltOf : Cw yX0_meltOf cX0_meltOf 5 (some .int) 2 := ⟨aw_536, aw_24, ⟨by decide, by decide⟩, by decide +kernel, by decide⟩
def fX0_meltOf_b15 (w0 : Nat) (x2 : Int32) (y0 : Int32) (σ : Sg) : Option (Int32 × Sg) :=
  if (rI σ w0 5) = 0 then (some (((1 : Int32) + ((y0 * x2) / (100 : Int32))), σ)) else (some (((((1 : Int32) + ((y0 * x2) / (100 : Int32))) + (1 : Int32)) / (2 : Int32)), σ))
def fX0_meltOf_b0 (w0 : Nat) (x1 : Int32) (x2 : Int32) (σ : Sg) : Option (Int32 × Sg) :=
  if (rI σ w0 0) = (3 : Int32) then (fX0_meltOf_b15 w0 x2 (x1 + (1 : Int32)) σ) else (fX0_meltOf_b15 w0 x2 x1 σ)
set_option maxRecDepth 4000 in
theorem bX0_meltOf_b15 {K : KT} {w0 : Nat} {x2 : Int32} {y0 : Int32} {σ : Sg} {o : Int32 × Sg} (C : Cx K layC cX0_meltOf RX0 5 (1) (some .int)) (hw0 : layC[w0]? = some (0, 0, slX0)) (hQ : Rk K layC (okI o)) (h : fX0_meltOf_b15 w0 x2 y0 σ = some o) : G K 15 [some (.ref (kad K w0)), none, some (.int x2), none, none] [.int y0] (Wd K layC σ) := by
  unfold fX0_meltOf_b15 at h
  refine g_istore_n C.c (i := 3) (L' := [some (.ref (kad K w0)), none, some (.int x2), some (.int y0), none]) dX0_meltOf_15 rfl (Nat.le_of_ble_eq_true rfl) rfl ?_
  refine g_iconst C.c dX0_meltOf_16 (v := (1 : Int32)) (by decide) ?_
  refine g_iload_n C.c dX0_meltOf_17 rfl (i := 3) rfl ?_
  refine g_iload_n C.c dX0_meltOf_18 rfl (i := 2) rfl ?_
  refine g_imul C.c dX0_meltOf_19 ?_
  refine g_bipush C.c dX0_meltOf_20 (v := (100 : Int32)) (by decide) ?_
  refine g_idiv C.c dX0_meltOf_22 (by decide) ?_
  refine g_iadd C.c dX0_meltOf_23 ?_
  refine g_istore C.c (i := 4) (L' := [some (.ref (kad K w0)), none, some (.int x2), some (.int y0), some (.int ((1 : Int32) + ((y0 * x2) / (100 : Int32))))]) dX0_meltOf_24 (Nat.le_of_ble_eq_true rfl) rfl ?_
  refine g_aload_n C.c dX0_meltOf_26 rfl (i := 0) rfl ?_
  refine gf_0_25d C hw0 dX0_meltOf_27 ?_
  refine g_if_eq C.c (tgt := 42) dX0_meltOf_30 (by decide) (fun c => ?_) (fun c => ?_)
  · replace h := ite_t c h
    refine g_iload C.c dX0_meltOf_42 (i := 4) rfl ?_
    obtain rfl := Option.some.inj h
    exact g_iret C hQ dX0_meltOf_44 rfl ⟨rfl, rfl⟩
  · replace h := ite_f c h
    refine g_iload C.c dX0_meltOf_33 (i := 4) rfl ?_
    refine g_iconst C.c dX0_meltOf_35 (v := (1 : Int32)) (by decide) ?_
    refine g_iadd C.c dX0_meltOf_36 ?_
    refine g_iconst C.c dX0_meltOf_37 (v := (2 : Int32)) (by decide) ?_
    refine g_idiv C.c dX0_meltOf_38 (by decide) ?_
    refine g_goto C.c (tgt := 44) dX0_meltOf_39 (by decide) ?_
    obtain rfl := Option.some.inj h
    exact g_iret C hQ dX0_meltOf_44 rfl ⟨rfl, rfl⟩
set_option maxRecDepth 4000 in
theorem bX0_meltOf_b0 {K : KT} {w0 : Nat} {x1 : Int32} {x2 : Int32} {σ : Sg} {o : Int32 × Sg} (C : Cx K layC cX0_meltOf RX0 5 (1) (some .int)) (hw0 : layC[w0]? = some (0, 0, slX0)) (hQ : Rk K layC (okI o)) (h : fX0_meltOf_b0 w0 x1 x2 σ = some o) : G K 0 [some (.ref (kad K w0)), some (.int x1), some (.int x2), none, none] [] (Wd K layC σ) := by
  unfold fX0_meltOf_b0 at h
  refine g_aload_n C.c dX0_meltOf_0 rfl (i := 0) rfl ?_
  refine gf_0_9d C hw0 dX0_meltOf_1 ?_
  refine g_iconst C.c dX0_meltOf_4 (v := (3 : Int32)) (by decide) ?_
  refine g_icmp_ne C.c (tgt := 14) dX0_meltOf_5 (by decide) (fun c => ?_) (fun c => ?_)
  · replace h := ite_f c h
    refine g_iload_n C.c dX0_meltOf_14 rfl (i := 1) rfl ?_
    exact g_mask [true, false, true, false, false] rfl (bX0_meltOf_b15 C hw0 hQ h)
  · replace h := ite_t c h
    refine g_iload_n C.c dX0_meltOf_8 rfl (i := 1) rfl ?_
    refine g_iconst C.c dX0_meltOf_9 (v := (1 : Int32)) (by decide) ?_
    refine g_iadd C.c dX0_meltOf_10 ?_
    refine g_goto C.c (tgt := 15) dX0_meltOf_11 (by decide) ?_
    exact g_mask [true, false, true, false, false] rfl (bX0_meltOf_b15 C hw0 hQ h)
def fX0_meltOf (o0 : Nat) (a0 : Int32) (a1 : Int32) (σ : Sg) : Option (Int32 × Sg) := fX0_meltOf_b0 o0 a0 a1 σ
theorem ct_X0_meltOf {o0 : Nat} {a0 : Int32} {a1 : Int32} {σ : Sg} {p : Int32 × Sg} (hY0 : layC[o0]? = some (0, 0, slX0)) (h : fX0_meltOf o0 a0 a1 σ = some p) : Ct layC yX0_meltOf cX0_meltOf 5 (some .int) 1 (fun ad => [.ref (ad o0), .int a0, .int a1]) σ (okI p) :=
 ct_of (L0 := fun ad => [some (.ref (ad o0)), some (.int a0), some (.int a1), none, none]) (by decide) (fun _ => Nat.le_of_ble_eq_true rfl) (fun _ => rfl) (fun K C hQ => g_mask [true, true, true, false, false] rfl (bX0_meltOf_b0 C hY0 hQ h))
-- X0_breaksOn
theorem dX0_breaksOn_0 : decode cX0_breaksOn 0 = .ok (.aload_n 0, 1) := by decide +kernel
theorem dX0_breaksOn_1 : decode cX0_breaksOn 1 = .ok (.getfield 9, 3) := by decide +kernel
theorem dX0_breaksOn_4 : decode cX0_breaksOn 4 = .ok (.iconst 2, 1) := by decide +kernel
theorem dX0_breaksOn_5 : decode cX0_breaksOn 5 = .ok (.if_icmp .ne 23, 3) := by decide +kernel
theorem dX0_breaksOn_8 : decode cX0_breaksOn 8 = .ok (.aload_n 0, 1) := by decide +kernel
theorem dX0_breaksOn_9 : decode cX0_breaksOn 9 = .ok (.getfield 22, 3) := by decide +kernel
theorem dX0_breaksOn_12 : decode cX0_breaksOn 12 = .ok (.ifCond .le 16, 3) := by decide +kernel
theorem dX0_breaksOn_15 : decode cX0_breaksOn 15 = .ok (.iload_n 1, 1) := by decide +kernel
theorem dX0_breaksOn_16 : decode cX0_breaksOn 16 = .ok (.aload_n 0, 1) := by decide +kernel
theorem dX0_breaksOn_17 : decode cX0_breaksOn 17 = .ok (.getfield 22, 3) := by decide +kernel
theorem dX0_breaksOn_20 : decode cX0_breaksOn 20 = .ok (.irem, 1) := by decide +kernel
theorem dX0_breaksOn_21 : decode cX0_breaksOn 21 = .ok (.ifCond .ne 7, 3) := by decide +kernel
theorem dX0_breaksOn_24 : decode cX0_breaksOn 24 = .ok (.iconst 1, 1) := by decide +kernel
theorem dX0_breaksOn_25 : decode cX0_breaksOn 25 = .ok (.goto 4, 3) := by decide +kernel
theorem dX0_breaksOn_28 : decode cX0_breaksOn 28 = .ok (.iconst 0, 1) := by decide +kernel
theorem dX0_breaksOn_29 : decode cX0_breaksOn 29 = .ok (.ireturn, 1) := by decide +kernel
theorem cw_X0_breaksOn : Cw yX0_breaksOn cX0_breaksOn 2 (some .boolean) 1 := ⟨aw_540, aw_24, ⟨by decide, by decide⟩, by decide +kernel, by decide⟩
theorem gf_0_22d {K : KT} {cc : ByteArray} {nL d pc : Nat} {ret : Option FieldType} {L : List (Option Value)} {st : List Value} {σ : Sg} (C : Cx K layC cc RX0 nL d ret) {o : Nat} (hY : layC[o]? = some (0, 0, slX0)) (hd : decode cc pc = .ok (.getfield 22, 3)) (k : G K (pc + 3) L (.int (rI σ o 4) :: st) (Wd K layC σ)) : G K pc L (.ref (kad K o) :: st) (Wd K layC σ) := g_get C (o := o) (ci := 0) (k := 4) hd hY rfl rfl (by decide) (Or.inl aw_144) inA0 rfl k
def fX0_breaksOn_b0 (w0 : Nat) (x1 : Int32) (σ : Sg) : Option (Int32 × Sg) :=
  if (rI σ w0 0) = (2 : Int32) then (if (rI σ w0 4) ≤ 0 then (some ((0 : Int32), σ)) else (if (rI σ w0 4) = 0 then none else if (x1 - x1 / (rI σ w0 4) * (rI σ w0 4)) = 0 then (some ((1 : Int32), σ)) else (some ((0 : Int32), σ)))) else (some ((0 : Int32), σ))
set_option maxRecDepth 4000 in
theorem bX0_breaksOn_b0 {K : KT} {w0 : Nat} {x1 : Int32} {σ : Sg} {o : Int32 × Sg} (C : Cx K layC cX0_breaksOn RX0 2 (1) (some .boolean)) (hw0 : layC[w0]? = some (0, 0, slX0)) (hQ : Rk K layC (okI o)) (h : fX0_breaksOn_b0 w0 x1 σ = some o) : G K 0 [some (.ref (kad K w0)), some (.int x1)] [] (Wd K layC σ) := by
  unfold fX0_breaksOn_b0 at h
  refine g_aload_n C.c dX0_breaksOn_0 rfl (i := 0) rfl ?_
  refine gf_0_9d C hw0 dX0_breaksOn_1 ?_
  refine g_iconst C.c dX0_breaksOn_4 (v := (2 : Int32)) (by decide) ?_
  refine g_icmp_ne C.c (tgt := 28) dX0_breaksOn_5 (by decide) (fun c => ?_) (fun c => ?_)
  · replace h := ite_f c h
    refine g_iconst C.c dX0_breaksOn_28 (v := (0 : Int32)) (by decide) ?_
    obtain rfl := Option.some.inj h
    exact g_iret C hQ dX0_breaksOn_29 rfl ⟨rfl, rfl⟩
  · replace h := ite_t c h
    refine g_aload_n C.c dX0_breaksOn_8 rfl (i := 0) rfl ?_
    refine gf_0_22d C hw0 dX0_breaksOn_9 ?_
    refine g_if_le C.c (tgt := 28) dX0_breaksOn_12 (by decide) (fun c => ?_) (fun c => ?_)
    · replace h := ite_t c h
      refine g_iconst C.c dX0_breaksOn_28 (v := (0 : Int32)) (by decide) ?_
      obtain rfl := Option.some.inj h
      exact g_iret C hQ dX0_breaksOn_29 rfl ⟨rfl, rfl⟩
    · replace h := ite_f c h
      refine g_iload_n C.c dX0_breaksOn_15 rfl (i := 1) rfl ?_
      refine g_aload_n C.c dX0_breaksOn_16 rfl (i := 0) rfl ?_
      refine gf_0_22d C hw0 dX0_breaksOn_17 ?_
      obtain ⟨c1, h⟩ := chk0 h
      refine g_irem C.c dX0_breaksOn_20 c1 ?_
      refine g_if_ne C.c (tgt := 28) dX0_breaksOn_21 (by decide) (fun c => ?_) (fun c => ?_)
      · replace h := ite_f c h
        refine g_iconst C.c dX0_breaksOn_28 (v := (0 : Int32)) (by decide) ?_
        obtain rfl := Option.some.inj h
        exact g_iret C hQ dX0_breaksOn_29 rfl ⟨rfl, rfl⟩
      · replace h := ite_t c h
        refine g_iconst C.c dX0_breaksOn_24 (v := (1 : Int32)) (by decide) ?_
        refine g_goto C.c (tgt := 29) dX0_breaksOn_25 (by decide) ?_
        obtain rfl := Option.some.inj h
        exact g_iret C hQ dX0_breaksOn_29 rfl ⟨rfl, rfl⟩
def fX0_breaksOn (o0 : Nat) (a0 : Int32) (σ : Sg) : Option (Int32 × Sg) := fX0_breaksOn_b0 o0 a0 σ
theorem ct_X0_breaksOn {o0 : Nat} {a0 : Int32} {σ : Sg} {p : Int32 × Sg} (hY0 : layC[o0]? = some (0, 0, slX0)) (h : fX0_breaksOn o0 a0 σ = some p) : Ct layC yX0_breaksOn cX0_breaksOn 2 (some .boolean) 1 (fun ad => [.ref (ad o0), .int a0]) σ (okI p) :=
 ct_of (L0 := fun ad => [some (.ref (ad o0)), some (.int a0)]) (by decide) (fun _ => Nat.le_of_ble_eq_true rfl) (fun _ => rfl) (fun K C hQ => g_mask [true, true] rfl (bX0_breaksOn_b0 C hY0 hQ h))
-- X1_mayBe
theorem dX1_mayBe_0 : decode cX1_mayBe 0 = .ok (.iload_n 1, 1) := by decide +kernel
theorem dX1_mayBe_1 : decode cX1_mayBe 1 = .ok (.ifCond .lt 30, 3) := by decide +kernel
theorem dX1_mayBe_4 : decode cX1_mayBe 4 = .ok (.iload_n 1, 1) := by decide +kernel
theorem dX1_mayBe_5 : decode cX1_mayBe 5 = .ok (.iconst 2, 1) := by decide +kernel
theorem dX1_mayBe_6 : decode cX1_mayBe 6 = .ok (.if_icmp .gt 25, 3) := by decide +kernel
theorem dX1_mayBe_9 : decode cX1_mayBe 9 = .ok (.iload_n 2, 1) := by decide +kernel
theorem dX1_mayBe_10 : decode cX1_mayBe 10 = .ok (.getstatic 13, 3) := by decide +kernel
theorem dX1_mayBe_13 : decode cX1_mayBe 13 = .ok (.iload_n 1, 1) := by decide +kernel
theorem dX1_mayBe_14 : decode cX1_mayBe 14 = .ok (.iaload, 1) := by decide +kernel
theorem dX1_mayBe_15 : decode cX1_mayBe 15 = .ok (.if_icmp .lt 16, 3) := by decide +kernel
theorem dX1_mayBe_18 : decode cX1_mayBe 18 = .ok (.iload_n 2, 1) := by decide +kernel
theorem dX1_mayBe_19 : decode cX1_mayBe 19 = .ok (.getstatic 16, 3) := by decide +kernel
theorem dX1_mayBe_22 : decode cX1_mayBe 22 = .ok (.iload_n 1, 1) := by decide +kernel
theorem dX1_mayBe_23 : decode cX1_mayBe 23 = .ok (.iaload, 1) := by decide +kernel
theorem dX1_mayBe_24 : decode cX1_mayBe 24 = .ok (.if_icmp .gt 7, 3) := by decide +kernel
theorem dX1_mayBe_27 : decode cX1_mayBe 27 = .ok (.iconst 1, 1) := by decide +kernel
theorem dX1_mayBe_28 : decode cX1_mayBe 28 = .ok (.goto 4, 3) := by decide +kernel
theorem dX1_mayBe_31 : decode cX1_mayBe 31 = .ok (.iconst 0, 1) := by decide +kernel
theorem dX1_mayBe_32 : decode cX1_mayBe 32 = .ok (.ireturn, 1) := by decide +kernel
theorem cw_X1_mayBe : Cw yX1_mayBe cX1_mayBe 3 (some .boolean) 2 := ⟨aw_466, aw_23, ⟨by decide, by decide⟩, by decide +kernel, by decide⟩
def fX1_mayBe_b0 (x1 : Int32) (x2 : Int32) (σ : Sg) : Option (Int32 × Sg) :=
  if x1 < 0 then (some ((0 : Int32), σ)) else (if (2 : Int32) < x1 then (some ((0 : Int32), σ)) else (if inb x1 3 = true then (if x2 < (stL [1, 0, 0] (x1).toNatClampNeg) then (some ((0 : Int32), σ)) else (if inb x1 3 = true then (if (stL [9, 9, 99] (x1).toNatClampNeg) < x2 then (some ((0 : Int32), σ)) else (some ((1 : Int32), σ))) else none)) else none))
set_option maxRecDepth 4000 in
theorem bX1_mayBe_b0 {K : KT} {x1 : Int32} {x2 : Int32} {σ : Sg} {o : Int32 × Sg} (C : Cx K layC cX1_mayBe RX1 3 (1) (some .boolean))  (hQ : Rk K layC (okI o)) (h : fX1_mayBe_b0 x1 x2 σ = some o) : G K 0 [none, some (.int x1), some (.int x2)] [] (Wd K layC σ) := by
  unfold fX1_mayBe_b0 at h
  refine g_iload_n C.c dX1_mayBe_0 rfl (i := 1) rfl ?_
  refine g_if_lt C.c (tgt := 31) dX1_mayBe_1 (by decide) (fun c => ?_) (fun c => ?_)
  · replace h := ite_t c h
    refine g_iconst C.c dX1_mayBe_31 (v := (0 : Int32)) (by decide) ?_
    obtain rfl := Option.some.inj h
    exact g_iret C hQ dX1_mayBe_32 rfl ⟨rfl, rfl⟩
  · replace h := ite_f c h
    refine g_iload_n C.c dX1_mayBe_4 rfl (i := 1) rfl ?_
    refine g_iconst C.c dX1_mayBe_5 (v := (2 : Int32)) (by decide) ?_
    refine g_icmp_gt C.c (tgt := 31) dX1_mayBe_6 (by decide) (fun c => ?_) (fun c => ?_)
    · replace h := ite_t c h
      refine g_iconst C.c dX1_mayBe_31 (v := (0 : Int32)) (by decide) ?_
      obtain rfl := Option.some.inj h
      exact g_iret C hQ dX1_mayBe_32 rfl ⟨rfl, rfl⟩
    · replace h := ite_f c h
      refine g_iload_n C.c dX1_mayBe_9 rfl (i := 2) rfl ?_
      refine g_stat C dX1_mayBe_10 aw_467 C.e.2.1 (fun g1 hg2 => ?_)
      refine g_iload_n C.c dX1_mayBe_13 rfl (i := 1) rfl ?_
      obtain ⟨c3, h⟩ := chk h
      refine g_tld C hg2 dX1_mayBe_14 c3 ?_
      refine g_icmp_lt C.c (tgt := 31) dX1_mayBe_15 (by decide) (fun c => ?_) (fun c => ?_)
      · replace h := ite_t c h
        refine g_iconst C.c dX1_mayBe_31 (v := (0 : Int32)) (by decide) ?_
        obtain rfl := Option.some.inj h
        exact g_iret C hQ dX1_mayBe_32 rfl ⟨rfl, rfl⟩
      · replace h := ite_f c h
        refine g_iload_n C.c dX1_mayBe_18 rfl (i := 2) rfl ?_
        refine g_stat C dX1_mayBe_19 aw_469 C.e.2.2 (fun g4 hg5 => ?_)
        refine g_iload_n C.c dX1_mayBe_22 rfl (i := 1) rfl ?_
        obtain ⟨c6, h⟩ := chk h
        refine g_tld C hg5 dX1_mayBe_23 c6 ?_
        refine g_icmp_gt C.c (tgt := 31) dX1_mayBe_24 (by decide) (fun c => ?_) (fun c => ?_)
        · replace h := ite_t c h
          refine g_iconst C.c dX1_mayBe_31 (v := (0 : Int32)) (by decide) ?_
          obtain rfl := Option.some.inj h
          exact g_iret C hQ dX1_mayBe_32 rfl ⟨rfl, rfl⟩
        · replace h := ite_f c h
          refine g_iconst C.c dX1_mayBe_27 (v := (1 : Int32)) (by decide) ?_
          refine g_goto C.c (tgt := 32) dX1_mayBe_28 (by decide) ?_
          obtain rfl := Option.some.inj h
          exact g_iret C hQ dX1_mayBe_32 rfl ⟨rfl, rfl⟩
def fX1_mayBe (o0 : Nat) (a0 : Int32) (a1 : Int32) (σ : Sg) : Option (Int32 × Sg) := fX1_mayBe_b0 a0 a1 σ
theorem ct_X1_mayBe {o0 : Nat} {a0 : Int32} {a1 : Int32} {σ : Sg} {p : Int32 × Sg} (hY0 : layC[o0]? = some (0, 1, slX1)) (h : fX1_mayBe o0 a0 a1 σ = some p) : Ct layC yX1_mayBe cX1_mayBe 3 (some .boolean) 1 (fun ad => [.ref (ad o0), .int a0, .int a1]) σ (okI p) :=
 ct_of (L0 := fun ad => [some (.ref (ad o0)), some (.int a0), some (.int a1)]) (by decide) (fun _ => Nat.le_of_ble_eq_true rfl) (fun _ => rfl) (fun K C hQ => g_mask [false, true, true] rfl (bX1_mayBe_b0 C hQ h))
-- X1_put
theorem dX1_put_0 : decode cX1_put 0 = .ok (.aload_n 0, 1) := by decide +kernel
theorem dX1_put_1 : decode cX1_put 1 = .ok (.getfield 7, 3) := by decide +kernel
theorem dX1_put_4 : decode cX1_put 4 = .ok (.iload_n 1, 1) := by decide +kernel
theorem dX1_put_5 : decode cX1_put 5 = .ok (.iaload, 1) := by decide +kernel
theorem dX1_put_6 : decode cX1_put 6 = .ok (.istore_n 3, 1) := by decide +kernel
theorem dX1_put_7 : decode cX1_put 7 = .ok (.aload_n 0, 1) := by decide +kernel
theorem dX1_put_8 : decode cX1_put 8 = .ok (.getfield 7, 3) := by decide +kernel
theorem dX1_put_11 : decode cX1_put 11 = .ok (.iload_n 1, 1) := by decide +kernel
theorem dX1_put_12 : decode cX1_put 12 = .ok (.iload_n 2, 1) := by decide +kernel
theorem dX1_put_13 : decode cX1_put 13 = .ok (.iastore, 1) := by decide +kernel
theorem dX1_put_14 : decode cX1_put 14 = .ok (.iload_n 3, 1) := by decide +kernel
theorem dX1_put_15 : decode cX1_put 15 = .ok (.ireturn, 1) := by decide +kernel
theorem cw_X1_put : Cw yX1_put cX1_put 4 (some .int) 2 := ⟨aw_478, aw_23, ⟨by decide, by decide⟩, by decide +kernel, by decide⟩
theorem gf_1_7d {K : KT} {cc : ByteArray} {nL d pc : Nat} {ret : Option FieldType} {L : List (Option Value)} {st : List Value} {σ : Sg} (C : Cx K layC cc RX1 nL d ret) {o : Nat} (hY : layC[o]? = some (0, 1, slX1)) (hd : decode cc pc = .ok (.getfield 7, 3)) (k : G K (pc + 3) L (.ref (kad K (o + 1)) :: st) (Wd K layC σ)) : G K pc L (.ref (kad K o) :: st) (Wd K layC σ) := g_get C (o := o) (ci := 1) (k := 0) hd hY rfl rfl (by decide) (Or.inl aw_123) inA1 rfl k
def fX1_put_b0 (w0 : Nat) (x1 : Int32) (x2 : Int32) (σ : Sg) : Option (Int32 × Sg) :=
  if inb x1 3 = true then (if inb x1 3 = true then (some ((rI σ (w0 + 1) (x1).toNatClampNeg), (wI σ (w0 + 1) (x1).toNatClampNeg x2))) else none) else none
set_option maxRecDepth 4000 in
theorem bX1_put_b0 {K : KT} {w0 : Nat} {x1 : Int32} {x2 : Int32} {σ : Sg} {o : Int32 × Sg} (C : Cx K layC cX1_put RX1 4 (1) (some .int)) (hw0 : layC[w0]? = some (0, 1, slX1)) (hQ : Rk K layC (okI o)) (h : fX1_put_b0 w0 x1 x2 σ = some o) : G K 0 [some (.ref (kad K w0)), some (.int x1), some (.int x2), none] [] (Wd K layC σ) := by
  unfold fX1_put_b0 at h
  refine g_aload_n C.c dX1_put_0 rfl (i := 0) rfl ?_
  refine gf_1_7d C hw0 dX1_put_1 ?_
  refine g_iload_n C.c dX1_put_4 rfl (i := 1) rfl ?_
  obtain ⟨c1, h⟩ := chk h
  refine g_iald C dX1_put_5 (cn_val hw0) c1 ?_
  refine g_istore_n C.c (i := 3) (L' := [some (.ref (kad K w0)), some (.int x1), some (.int x2), some (.int (rI σ (w0 + 1) (x1).toNatClampNeg))]) dX1_put_6 rfl (Nat.le_of_ble_eq_true rfl) rfl ?_
  refine g_aload_n C.c dX1_put_7 rfl (i := 0) rfl ?_
  refine gf_1_7d C hw0 dX1_put_8 ?_
  refine g_iload_n C.c dX1_put_11 rfl (i := 1) rfl ?_
  refine g_iload_n C.c dX1_put_12 rfl (i := 2) rfl ?_
  obtain ⟨c2, h⟩ := chk h
  refine g_iast C dX1_put_13 (cn_val hw0) c2 ?_
  refine g_iload_n C.c dX1_put_14 rfl (i := 3) rfl ?_
  obtain rfl := Option.some.inj h
  exact g_iret C hQ dX1_put_15 rfl ⟨rfl, rfl⟩
def fX1_put (o0 : Nat) (a0 : Int32) (a1 : Int32) (σ : Sg) : Option (Int32 × Sg) := fX1_put_b0 o0 a0 a1 σ
theorem ct_X1_put {o0 : Nat} {a0 : Int32} {a1 : Int32} {σ : Sg} {p : Int32 × Sg} (hY0 : layC[o0]? = some (0, 1, slX1)) (h : fX1_put o0 a0 a1 σ = some p) : Ct layC yX1_put cX1_put 4 (some .int) 1 (fun ad => [.ref (ad o0), .int a0, .int a1]) σ (okI p) :=
 ct_of (L0 := fun ad => [some (.ref (ad o0)), some (.int a0), some (.int a1), none]) (by decide) (fun _ => Nat.le_of_ble_eq_true rfl) (fun _ => rfl) (fun K C hQ => g_mask [true, true, true, false] rfl (bX1_put_b0 C hY0 hQ h))
-- X1_gainOf
theorem dX1_gainOf_0 : decode cX1_gainOf 0 = .ok (.aload_n 0, 1) := by decide +kernel
theorem dX1_gainOf_1 : decode cX1_gainOf 1 = .ok (.getfield 7, 3) := by decide +kernel
theorem dX1_gainOf_4 : decode cX1_gainOf 4 = .ok (.iconst 0, 1) := by decide +kernel
theorem dX1_gainOf_5 : decode cX1_gainOf 5 = .ok (.iaload, 1) := by decide +kernel
theorem dX1_gainOf_6 : decode cX1_gainOf 6 = .ok (.iload_n 1, 1) := by decide +kernel
theorem dX1_gainOf_7 : decode cX1_gainOf 7 = .ok (.imul, 1) := by decide +kernel
theorem dX1_gainOf_8 : decode cX1_gainOf 8 = .ok (.aload_n 0, 1) := by decide +kernel
theorem dX1_gainOf_9 : decode cX1_gainOf 9 = .ok (.getfield 7, 3) := by decide +kernel
theorem dX1_gainOf_12 : decode cX1_gainOf 12 = .ok (.iconst 1, 1) := by decide +kernel
theorem dX1_gainOf_13 : decode cX1_gainOf 13 = .ok (.iaload, 1) := by decide +kernel
theorem dX1_gainOf_14 : decode cX1_gainOf 14 = .ok (.iload_n 2, 1) := by decide +kernel
theorem dX1_gainOf_15 : decode cX1_gainOf 15 = .ok (.imul, 1) := by decide +kernel
theorem dX1_gainOf_16 : decode cX1_gainOf 16 = .ok (.iload_n 3, 1) := by decide +kernel
theorem dX1_gainOf_17 : decode cX1_gainOf 17 = .ok (.imul, 1) := by decide +kernel
theorem dX1_gainOf_18 : decode cX1_gainOf 18 = .ok (.isub, 1) := by decide +kernel
theorem dX1_gainOf_19 : decode cX1_gainOf 19 = .ok (.iload 4, 2) := by decide +kernel
theorem dX1_gainOf_21 : decode cX1_gainOf 21 = .ok (.ifCond .eq 12, 3) := by decide +kernel
theorem dX1_gainOf_24 : decode cX1_gainOf 24 = .ok (.aload_n 0, 1) := by decide +kernel
theorem dX1_gainOf_25 : decode cX1_gainOf 25 = .ok (.getfield 7, 3) := by decide +kernel
theorem dX1_gainOf_28 : decode cX1_gainOf 28 = .ok (.iconst 2, 1) := by decide +kernel
theorem dX1_gainOf_29 : decode cX1_gainOf 29 = .ok (.iaload, 1) := by decide +kernel
theorem dX1_gainOf_30 : decode cX1_gainOf 30 = .ok (.goto 4, 3) := by decide +kernel
theorem dX1_gainOf_33 : decode cX1_gainOf 33 = .ok (.iconst 0, 1) := by decide +kernel
theorem dX1_gainOf_34 : decode cX1_gainOf 34 = .ok (.isub, 1) := by decide +kernel
theorem dX1_gainOf_35 : decode cX1_gainOf 35 = .ok (.ireturn, 1) := by decide +kernel
theorem cw_X1_gainOf : Cw yX1_gainOf cX1_gainOf 5 (some .int) 4 := ⟨aw_508, aw_23, ⟨by decide, by decide⟩, by decide +kernel, by decide⟩
def fX1_gainOf_b0 (w0 : Nat) (x1 : Int32) (x2 : Int32) (x3 : Int32) (x4 : Int32) (σ : Sg) : Option (Int32 × Sg) :=
  if x4 = 0 then (some (((((rI σ (w0 + 1) ((0 : Int32)).toNatClampNeg) * x1) - (((rI σ (w0 + 1) ((1 : Int32)).toNatClampNeg) * x2) * x3)) - (0 : Int32)), σ)) else (some (((((rI σ (w0 + 1) ((0 : Int32)).toNatClampNeg) * x1) - (((rI σ (w0 + 1) ((1 : Int32)).toNatClampNeg) * x2) * x3)) - (rI σ (w0 + 1) ((2 : Int32)).toNatClampNeg)), σ))
set_option maxRecDepth 4000 in
theorem bX1_gainOf_b0 {K : KT} {w0 : Nat} {x1 : Int32} {x2 : Int32} {x3 : Int32} {x4 : Int32} {σ : Sg} {o : Int32 × Sg} (C : Cx K layC cX1_gainOf RX1 5 (1) (some .int)) (hw0 : layC[w0]? = some (0, 1, slX1)) (hQ : Rk K layC (okI o)) (h : fX1_gainOf_b0 w0 x1 x2 x3 x4 σ = some o) : G K 0 [some (.ref (kad K w0)), some (.int x1), some (.int x2), some (.int x3), some (.int x4)] [] (Wd K layC σ) := by
  unfold fX1_gainOf_b0 at h
  refine g_aload_n C.c dX1_gainOf_0 rfl (i := 0) rfl ?_
  refine gf_1_7d C hw0 dX1_gainOf_1 ?_
  refine g_iconst C.c dX1_gainOf_4 (v := (0 : Int32)) (by decide) ?_
  refine g_iald C dX1_gainOf_5 (cn_val hw0) (by decide) ?_
  refine g_iload_n C.c dX1_gainOf_6 rfl (i := 1) rfl ?_
  refine g_imul C.c dX1_gainOf_7 ?_
  refine g_aload_n C.c dX1_gainOf_8 rfl (i := 0) rfl ?_
  refine gf_1_7d C hw0 dX1_gainOf_9 ?_
  refine g_iconst C.c dX1_gainOf_12 (v := (1 : Int32)) (by decide) ?_
  refine g_iald C dX1_gainOf_13 (cn_val hw0) (by decide) ?_
  refine g_iload_n C.c dX1_gainOf_14 rfl (i := 2) rfl ?_
  refine g_imul C.c dX1_gainOf_15 ?_
  refine g_iload_n C.c dX1_gainOf_16 rfl (i := 3) rfl ?_
  refine g_imul C.c dX1_gainOf_17 ?_
  refine g_isub C.c dX1_gainOf_18 ?_
  refine g_iload C.c dX1_gainOf_19 (i := 4) rfl ?_
  refine g_if_eq C.c (tgt := 33) dX1_gainOf_21 (by decide) (fun c => ?_) (fun c => ?_)
  · replace h := ite_t c h
    refine g_iconst C.c dX1_gainOf_33 (v := (0 : Int32)) (by decide) ?_
    refine g_isub C.c dX1_gainOf_34 ?_
    obtain rfl := Option.some.inj h
    exact g_iret C hQ dX1_gainOf_35 rfl ⟨rfl, rfl⟩
  · replace h := ite_f c h
    refine g_aload_n C.c dX1_gainOf_24 rfl (i := 0) rfl ?_
    refine gf_1_7d C hw0 dX1_gainOf_25 ?_
    refine g_iconst C.c dX1_gainOf_28 (v := (2 : Int32)) (by decide) ?_
    refine g_iald C dX1_gainOf_29 (cn_val hw0) (by decide) ?_
    refine g_goto C.c (tgt := 34) dX1_gainOf_30 (by decide) ?_
    refine g_isub C.c dX1_gainOf_34 ?_
    obtain rfl := Option.some.inj h
    exact g_iret C hQ dX1_gainOf_35 rfl ⟨rfl, rfl⟩
def fX1_gainOf (o0 : Nat) (a0 : Int32) (a1 : Int32) (a2 : Int32) (a3 : Int32) (σ : Sg) : Option (Int32 × Sg) := fX1_gainOf_b0 o0 a0 a1 a2 a3 σ
theorem ct_X1_gainOf {o0 : Nat} {a0 : Int32} {a1 : Int32} {a2 : Int32} {a3 : Int32} {σ : Sg} {p : Int32 × Sg} (hY0 : layC[o0]? = some (0, 1, slX1)) (h : fX1_gainOf o0 a0 a1 a2 a3 σ = some p) : Ct layC yX1_gainOf cX1_gainOf 5 (some .int) 1 (fun ad => [.ref (ad o0), .int a0, .int a1, .int a2, .int a3]) σ (okI p) :=
 ct_of (L0 := fun ad => [some (.ref (ad o0)), some (.int a0), some (.int a1), some (.int a2), some (.int a3)]) (by decide) (fun _ => Nat.le_of_ble_eq_true rfl) (fun _ => rfl) (fun K C hQ => g_mask [true, true, true, true, true] rfl (bX1_gainOf_b0 C hY0 hQ h))
end
section
-- X6_byteOf
theorem dX6_byteOf_0 : decode cX6_byteOf 0 = .ok (.lload_n 0, 1) := by decide +kernel
theorem dX6_byteOf_1 : decode cX6_byteOf 1 = .ok (.bipush 8, 2) := by decide +kernel
theorem dX6_byteOf_3 : decode cX6_byteOf 3 = .ok (.iload_n 2, 1) := by decide +kernel
theorem dX6_byteOf_4 : decode cX6_byteOf 4 = .ok (.imul, 1) := by decide +kernel
theorem dX6_byteOf_5 : decode cX6_byteOf 5 = .ok (.lushr, 1) := by decide +kernel
theorem dX6_byteOf_6 : decode cX6_byteOf 6 = .ok (.l2i, 1) := by decide +kernel
theorem dX6_byteOf_7 : decode cX6_byteOf 7 = .ok (.sipush 255, 3) := by decide +kernel
theorem dX6_byteOf_10 : decode cX6_byteOf 10 = .ok (.iand, 1) := by decide +kernel
theorem dX6_byteOf_11 : decode cX6_byteOf 11 = .ok (.ireturn, 1) := by decide +kernel
theorem cw_X6_byteOf : Cw yX6_byteOf cX6_byteOf 3 (some .int) 2 := ⟨aw_632, aw_20, ⟨by decide, by decide⟩, by decide +kernel, by decide⟩
def fX6_byteOf_b0 (x0 : Int64) (x2 : Int32) (σ : Sg) : Option (Int32 × Sg) :=
  some ((((lushr x0 ((8 : Int32) * x2))).toInt32 &&& (255 : Int32)), σ)
set_option maxRecDepth 4000 in
theorem bX6_byteOf_b0 {K : KT} {x0 : Int64} {x2 : Int32} {σ : Sg} {o : Int32 × Sg} (C : Cx K layC cX6_byteOf RX6 3 (1) (some .int))  (hQ : Rk K layC (okI o)) (h : fX6_byteOf_b0 x0 x2 σ = some o) : G K 0 [some (.long x0), none, some (.int x2)] [] (Wd K layC σ) := by
  unfold fX6_byteOf_b0 at h
  refine g_lload_n C.c dX6_byteOf_0 rfl (i := 0) rfl ?_
  refine g_bipush C.c dX6_byteOf_1 (v := (8 : Int32)) (by decide) ?_
  refine g_iload_n C.c dX6_byteOf_3 rfl (i := 2) rfl ?_
  refine g_imul C.c dX6_byteOf_4 ?_
  refine g_lushr C.c dX6_byteOf_5 ?_
  refine g_l2i C.c dX6_byteOf_6 ?_
  refine g_sipush C.c dX6_byteOf_7 (v := (255 : Int32)) (by decide) ?_
  refine g_iand C.c dX6_byteOf_10 ?_
  obtain rfl := Option.some.inj h
  exact g_iret C hQ dX6_byteOf_11 rfl ⟨rfl, rfl⟩
def fX6_byteOf (a0 : Int64) (a1 : Int32) (σ : Sg) : Option (Int32 × Sg) := fX6_byteOf_b0 a0 a1 σ
theorem ct_X6_byteOf {a0 : Int64} {a1 : Int32} {σ : Sg} {p : Int32 × Sg} (h : fX6_byteOf a0 a1 σ = some p) : Ct layC yX6_byteOf cX6_byteOf 3 (some .int) 1 (fun ad => [.long a0, .int a1]) σ (okI p) :=
 ct_of (L0 := fun ad => [some (.long a0), none, some (.int a1)]) (by decide) (fun _ => Nat.le_of_ble_eq_true rfl) (fun _ => rfl) (fun K C hQ => g_mask [true, false, true] rfl (bX6_byteOf_b0 C hQ h))
-- X6_append
theorem dX6_append_0 : decode cX6_append 0 = .ok (.iconst 0, 1) := by decide +kernel
theorem dX6_append_1 : decode cX6_append 1 = .ok (.istore_n 3, 1) := by decide +kernel
theorem dX6_append_2 : decode cX6_append 2 = .ok (.iconst 0, 1) := by decide +kernel
theorem dX6_append_3 : decode cX6_append 3 = .ok (.istore 4, 2) := by decide +kernel
theorem dX6_append_5 : decode cX6_append 5 = .ok (.iconst 0, 1) := by decide +kernel
theorem dX6_append_6 : decode cX6_append 6 = .ok (.istore 5, 2) := by decide +kernel
theorem dX6_append_8 : decode cX6_append 8 = .ok (.iload 5, 2) := by decide +kernel
theorem dX6_append_10 : decode cX6_append 10 = .ok (.bipush 8, 2) := by decide +kernel
theorem dX6_append_12 : decode cX6_append 12 = .ok (.if_icmp .ge 62, 3) := by decide +kernel
theorem dX6_append_15 : decode cX6_append 15 = .ok (.lload_n 1, 1) := by decide +kernel
theorem dX6_append_16 : decode cX6_append 16 = .ok (.iload 5, 2) := by decide +kernel
theorem dX6_append_18 : decode cX6_append 18 = .ok (.invokestatic 15, 3) := by decide +kernel
theorem dX6_append_21 : decode cX6_append 21 = .ok (.istore 6, 2) := by decide +kernel
theorem dX6_append_23 : decode cX6_append 23 = .ok (.iload 6, 2) := by decide +kernel
theorem dX6_append_25 : decode cX6_append 25 = .ok (.bipush 126, 2) := by decide +kernel
theorem dX6_append_27 : decode cX6_append 27 = .ok (.if_icmp .gt 13, 3) := by decide +kernel
theorem dX6_append_30 : decode cX6_append 30 = .ok (.iload 4, 2) := by decide +kernel
theorem dX6_append_32 : decode cX6_append 32 = .ok (.ifCond .eq 11, 3) := by decide +kernel
theorem dX6_append_35 : decode cX6_append 35 = .ok (.iload 6, 2) := by decide +kernel
theorem dX6_append_37 : decode cX6_append 37 = .ok (.ifCond .eq 6, 3) := by decide +kernel
theorem dX6_append_40 : decode cX6_append 40 = .ok (.bipush (-102), 2) := by decide +kernel
theorem dX6_append_42 : decode cX6_append 42 = .ok (.ireturn, 1) := by decide +kernel
theorem dX6_append_43 : decode cX6_append 43 = .ok (.iload 6, 2) := by decide +kernel
theorem dX6_append_45 : decode cX6_append 45 = .ok (.ifCond .ne 7, 3) := by decide +kernel
theorem dX6_append_48 : decode cX6_append 48 = .ok (.iconst 1, 1) := by decide +kernel
theorem dX6_append_49 : decode cX6_append 49 = .ok (.goto 4, 3) := by decide +kernel
theorem dX6_append_52 : decode cX6_append 52 = .ok (.iconst 0, 1) := by decide +kernel
theorem dX6_append_53 : decode cX6_append 53 = .ok (.istore 4, 2) := by decide +kernel
theorem dX6_append_55 : decode cX6_append 55 = .ok (.iload_n 3, 1) := by decide +kernel
theorem dX6_append_56 : decode cX6_append 56 = .ok (.iload 4, 2) := by decide +kernel
theorem dX6_append_58 : decode cX6_append 58 = .ok (.ifCond .eq 7, 3) := by decide +kernel
theorem dX6_append_61 : decode cX6_append 61 = .ok (.iconst 0, 1) := by decide +kernel
theorem dX6_append_62 : decode cX6_append 62 = .ok (.goto 4, 3) := by decide +kernel
theorem dX6_append_65 : decode cX6_append 65 = .ok (.iconst 1, 1) := by decide +kernel
theorem dX6_append_66 : decode cX6_append 66 = .ok (.iadd, 1) := by decide +kernel
theorem dX6_append_67 : decode cX6_append 67 = .ok (.istore_n 3, 1) := by decide +kernel
theorem dX6_append_68 : decode cX6_append 68 = .ok (.iinc 5 1, 3) := by decide +kernel
theorem dX6_append_71 : decode cX6_append 71 = .ok (.goto (-63), 3) := by decide +kernel
theorem dX6_append_74 : decode cX6_append 74 = .ok (.aload_n 0, 1) := by decide +kernel
theorem dX6_append_75 : decode cX6_append 75 = .ok (.getfield 19, 3) := by decide +kernel
theorem dX6_append_78 : decode cX6_append 78 = .ok (.iload_n 3, 1) := by decide +kernel
theorem dX6_append_79 : decode cX6_append 79 = .ok (.iadd, 1) := by decide +kernel
theorem dX6_append_80 : decode cX6_append 80 = .ok (.bipush 64, 2) := by decide +kernel
theorem dX6_append_82 : decode cX6_append 82 = .ok (.if_icmp .le 6, 3) := by decide +kernel
theorem dX6_append_85 : decode cX6_append 85 = .ok (.bipush (-104), 2) := by decide +kernel
theorem dX6_append_87 : decode cX6_append 87 = .ok (.ireturn, 1) := by decide +kernel
theorem dX6_append_88 : decode cX6_append 88 = .ok (.iconst 0, 1) := by decide +kernel
theorem dX6_append_89 : decode cX6_append 89 = .ok (.istore 5, 2) := by decide +kernel
theorem dX6_append_91 : decode cX6_append 91 = .ok (.iload 5, 2) := by decide +kernel
theorem dX6_append_93 : decode cX6_append 93 = .ok (.iload_n 3, 1) := by decide +kernel
theorem dX6_append_94 : decode cX6_append 94 = .ok (.if_icmp .ge 34, 3) := by decide +kernel
theorem dX6_append_97 : decode cX6_append 97 = .ok (.aload_n 0, 1) := by decide +kernel
theorem dX6_append_98 : decode cX6_append 98 = .ok (.getfield 11, 3) := by decide +kernel
theorem dX6_append_101 : decode cX6_append 101 = .ok (.aload_n 0, 1) := by decide +kernel
theorem dX6_append_102 : decode cX6_append 102 = .ok (.getfield 19, 3) := by decide +kernel
theorem dX6_append_105 : decode cX6_append 105 = .ok (.lload_n 1, 1) := by decide +kernel
theorem dX6_append_106 : decode cX6_append 106 = .ok (.iload 5, 2) := by decide +kernel
theorem dX6_append_108 : decode cX6_append 108 = .ok (.invokestatic 15, 3) := by decide +kernel
theorem dX6_append_111 : decode cX6_append 111 = .ok (.iastore, 1) := by decide +kernel
theorem dX6_append_112 : decode cX6_append 112 = .ok (.aload_n 0, 1) := by decide +kernel
theorem dX6_append_113 : decode cX6_append 113 = .ok (.dup, 1) := by decide +kernel
theorem dX6_append_114 : decode cX6_append 114 = .ok (.getfield 19, 3) := by decide +kernel
theorem dX6_append_117 : decode cX6_append 117 = .ok (.iconst 1, 1) := by decide +kernel
theorem dX6_append_118 : decode cX6_append 118 = .ok (.iadd, 1) := by decide +kernel
theorem dX6_append_119 : decode cX6_append 119 = .ok (.putfield 19, 3) := by decide +kernel
theorem dX6_append_122 : decode cX6_append 122 = .ok (.iinc 5 1, 3) := by decide +kernel
theorem dX6_append_125 : decode cX6_append 125 = .ok (.goto (-34), 3) := by decide +kernel
theorem dX6_append_128 : decode cX6_append 128 = .ok (.aload_n 0, 1) := by decide +kernel
theorem dX6_append_129 : decode cX6_append 129 = .ok (.getfield 19, 3) := by decide +kernel
theorem dX6_append_132 : decode cX6_append 132 = .ok (.ireturn, 1) := by decide +kernel
theorem cw_X6_append : Cw yX6_append cX6_append 7 (some .int) 1 := ⟨aw_629, aw_20, ⟨by decide, by decide⟩, by decide +kernel, by decide⟩
theorem kc_6_15 {K : KT} {cc : ByteArray} {nL d pc : Nat} {ret : Option FieldType} {L : List (Option Value)} {st : List Value} {σ : Sg} (C : Cx K layC cc RX6 nL d ret)  {a0 : Int64} {a1 : Int32}  {p : Int32 × Sg} (hd : decode cc pc = .ok (.invokestatic 15, 3)) (e : fX6_byteOf a0 a1 σ = some p) (hdd : 1 + 1 ≤ d) (hLn : L.length = nL) (hr : (st.map fun v => v.category).sum ≤ 8) (k : G K (pc + 3) L (.int p.1 :: st) (Wd K layC p.2)) : G K pc L (.int a1 :: .long a0 :: st) (Wd K layC σ) :=
  g_callS C (As := [.long a0, .int a1]) (rest := st) hd (ct_X6_byteOf e) cw_X6_byteOf (Or.inl aw_630) aw_631 rfl rfl rfl hdd hLn hr (fun v τ q => by obtain ⟨rfl, rfl⟩ := q; exact k)
theorem gf_6_19 {K : KT} {cc : ByteArray} {nL d pc : Nat} {ret : Option FieldType} {L : List (Option Value)} {st : List Value} {σ : Sg} (C : Cx K layC cc RX6 nL d ret)  (hd : decode cc pc = .ok (.getfield 19, 3)) (k : G K (pc + 3) L (.int (rI σ 1 1) :: st) (Wd K layC σ)) : G K pc L (.ref (kad K 1) :: st) (Wd K layC σ) := g_get C (o := 1) (ci := 6) (k := 1) hd rfl rfl rfl (by decide) (Or.inl aw_46) inA6 rfl k
theorem gf_6_11 {K : KT} {cc : ByteArray} {nL d pc : Nat} {ret : Option FieldType} {L : List (Option Value)} {st : List Value} {σ : Sg} (C : Cx K layC cc RX6 nL d ret)  (hd : decode cc pc = .ok (.getfield 11, 3)) (k : G K (pc + 3) L (.ref (kad K 2) :: st) (Wd K layC σ)) : G K pc L (.ref (kad K 1) :: st) (Wd K layC σ) := g_get C (o := 1) (ci := 6) (k := 0) hd rfl rfl rfl (by decide) (Or.inl aw_45) inA6 rfl k
theorem pf_6_19 {K : KT} {cc : ByteArray} {nL d pc : Nat} {ret : Option FieldType} {L : List (Option Value)} {st : List Value} {σ : Sg} (C : Cx K layC cc RX6 nL d ret)  {v : Int32}  (hd : decode cc pc = .ok (.putfield 19, 3)) (k : G K (pc + 3) L st (Wd K layC (wI σ 1 1 v))) : G K pc L (.int v :: .ref (kad K 1) :: st) (Wd K layC σ) := g_putI C (o := 1) (ci := 6) (k := 1) hd rfl rfl rfl (by decide) (Or.inl aw_46) inA6 tyX6_ok nmX6 rfl rfl rfl k
def fX6_append_b66 (x1 : Int64) (x4 : Int32) (x5 : Int32) (y0 : Int32) (y1 : Int32) (σ : Sg) : Option ((Int32 × Int32 × Int32 × Sg) ⊕ (((Sg) ⊕ (Int32 × Sg)))) :=
  some (.inl ((y1 + y0), x4, (x5 + (1 : Int32)), σ))
def fX6_append_b53 (x1 : Int64) (x3 : Int32) (x5 : Int32) (y0 : Int32) (σ : Sg) : Option ((Int32 × Int32 × Int32 × Sg) ⊕ (((Sg) ⊕ (Int32 × Sg)))) :=
  if y0 = 0 then (fX6_append_b66 x1 y0 x5 (1 : Int32) x3 σ) else (fX6_append_b66 x1 y0 x5 (0 : Int32) x3 σ)
def fX6_append_b43 (x1 : Int64) (x3 : Int32) (x5 : Int32) (x6 : Int32) (σ : Sg) : Option ((Int32 × Int32 × Int32 × Sg) ⊕ (((Sg) ⊕ (Int32 × Sg)))) :=
  if x6 = 0 then (fX6_append_b53 x1 x3 x5 (1 : Int32) σ) else (fX6_append_b53 x1 x3 x5 (0 : Int32) σ)
def fX6_append_b8 (x1 : Int64) (x3 : Int32) (x4 : Int32) (x5 : Int32) (σ : Sg) : Option ((Int32 × Int32 × Int32 × Sg) ⊕ (((Sg) ⊕ (Int32 × Sg)))) :=
  if (8 : Int32) ≤ x5 then (some (.inr (.inr (x3, σ)))) else (Option.bind (fX6_byteOf x1 x5 σ) fun p1 => (if (126 : Int32) < p1.1 then (some (.inr (.inl p1.2))) else (if x4 = 0 then (fX6_append_b43 x1 x3 x5 p1.1 p1.2) else (if p1.1 = 0 then (fX6_append_b43 x1 x3 x5 p1.1 p1.2) else (some (.inr (.inl p1.2)))))))
def fX6_append_b91 (x1 : Int64) (x3 : Int32) (x5 : Int32) (σ : Sg) : Option ((Int32 × Sg) ⊕ ((Sg))) :=
  if x3 ≤ x5 then (some (.inr σ)) else (Option.bind (fX6_byteOf x1 x5 σ) fun p5 => (if inb (rI σ 1 1) 64 = true then (some (.inl ((x5 + (1 : Int32)), (wI (wI p5.2 2 ((rI σ 1 1)).toNatClampNeg p5.1) 1 1 ((rI (wI p5.2 2 ((rI σ 1 1)).toNatClampNeg p5.1) 1 1) + (1 : Int32)))))) else none))
def fX6_append_b0 (x1 : Int64) (σ : Sg) : Option (Int32 × Sg) :=
  Option.bind (lp (fun s => fX6_append_b8 x1 s.1 s.2.1 s.2.2.1 s.2.2.2) FU ((0 : Int32), (0 : Int32), (0 : Int32), σ)) (el (fun t3 => some ((-102 : Int32), t3)) (fun t3 => if ((rI t3.2 1 1) + t3.1) ≤ (64 : Int32) then (Option.bind (lp (fun s => fX6_append_b91 x1 t3.1 s.1 s.2) FU ((0 : Int32), t3.2)) fun t8 => some ((rI t8 1 1), t8)) else (some ((-104 : Int32), t3.2))))
set_option maxRecDepth 4000 in
theorem bX6_append_b66 {K : KT} {x1 : Int64} {x4 : Int32} {x5 : Int32} {y0 : Int32} {y1 : Int32} {σ : Sg} {o : (Int32 × Int32 × Int32 × Sg) ⊕ (((Sg) ⊕ (Int32 × Sg)))} (C : Cx K layC cX6_append RX6 7 (2) (some .int))  (hI : ∀ s' : Int32 × Int32 × Int32 × Sg, o = .inl s' → G K 8 [some (.ref (kad K 1)), some (.long x1), none, some (.int s'.1), some (.int s'.2.1), some (.int s'.2.2.1), none] [] (Wd K layC s'.2.2.2)) (hE0 : ∀ t : Sg, o = .inr (.inl t) → G K 40 [none, none, none, none, none, none, none] [] (Wd K layC t)) (hE1 : ∀ t : Int32 × Sg, o = .inr (.inr t) → G K 74 [some (.ref (kad K 1)), some (.long x1), none, some (.int t.1), none, none, none] [] (Wd K layC t.2)) (h : fX6_append_b66 x1 x4 x5 y0 y1 σ = some o) : G K 66 [some (.ref (kad K 1)), some (.long x1), none, none, some (.int x4), some (.int x5), none] [.int y0, .int y1] (Wd K layC σ) := by
  unfold fX6_append_b66 at h
  refine g_iadd C.c dX6_append_66 ?_
  refine g_istore_n C.c (i := 3) (L' := [some (.ref (kad K 1)), some (.long x1), none, some (.int (y1 + y0)), some (.int x4), some (.int x5), none]) dX6_append_67 rfl (Nat.le_of_ble_eq_true rfl) rfl ?_
  refine g_iinc C.c (i := 5) (y := (1 : Int32)) (L' := [some (.ref (kad K 1)), some (.long x1), none, some (.int (y1 + y0)), some (.int x4), some (.int (x5 + (1 : Int32))), none]) dX6_append_68 rfl (by decide) (Nat.le_of_ble_eq_true rfl) rfl ?_
  refine g_goto C.c (tgt := 8) dX6_append_71 (by decide) ?_
  have g9 := hI _ (Option.some.inj h).symm
  exact g_mask [true, true, false, true, true, true, false] rfl g9
set_option maxRecDepth 4000 in
theorem bX6_append_b53 {K : KT} {x1 : Int64} {x3 : Int32} {x5 : Int32} {y0 : Int32} {σ : Sg} {o : (Int32 × Int32 × Int32 × Sg) ⊕ (((Sg) ⊕ (Int32 × Sg)))} (C : Cx K layC cX6_append RX6 7 (2) (some .int))  (hI : ∀ s' : Int32 × Int32 × Int32 × Sg, o = .inl s' → G K 8 [some (.ref (kad K 1)), some (.long x1), none, some (.int s'.1), some (.int s'.2.1), some (.int s'.2.2.1), none] [] (Wd K layC s'.2.2.2)) (hE0 : ∀ t : Sg, o = .inr (.inl t) → G K 40 [none, none, none, none, none, none, none] [] (Wd K layC t)) (hE1 : ∀ t : Int32 × Sg, o = .inr (.inr t) → G K 74 [some (.ref (kad K 1)), some (.long x1), none, some (.int t.1), none, none, none] [] (Wd K layC t.2)) (h : fX6_append_b53 x1 x3 x5 y0 σ = some o) : G K 53 [some (.ref (kad K 1)), some (.long x1), none, some (.int x3), none, some (.int x5), none] [.int y0] (Wd K layC σ) := by
  unfold fX6_append_b53 at h
  refine g_istore C.c (i := 4) (L' := [some (.ref (kad K 1)), some (.long x1), none, some (.int x3), some (.int y0), some (.int x5), none]) dX6_append_53 (Nat.le_of_ble_eq_true rfl) rfl ?_
  refine g_iload_n C.c dX6_append_55 rfl (i := 3) rfl ?_
  refine g_iload C.c dX6_append_56 (i := 4) rfl ?_
  refine g_if_eq C.c (tgt := 65) dX6_append_58 (by decide) (fun c => ?_) (fun c => ?_)
  · replace h := ite_t c h
    refine g_iconst C.c dX6_append_65 (v := (1 : Int32)) (by decide) ?_
    exact g_mask [true, true, false, false, true, true, false] rfl (bX6_append_b66 C hI hE0 hE1 h)
  · replace h := ite_f c h
    refine g_iconst C.c dX6_append_61 (v := (0 : Int32)) (by decide) ?_
    refine g_goto C.c (tgt := 66) dX6_append_62 (by decide) ?_
    exact g_mask [true, true, false, false, true, true, false] rfl (bX6_append_b66 C hI hE0 hE1 h)
set_option maxRecDepth 4000 in
theorem bX6_append_b43 {K : KT} {x1 : Int64} {x3 : Int32} {x5 : Int32} {x6 : Int32} {σ : Sg} {o : (Int32 × Int32 × Int32 × Sg) ⊕ (((Sg) ⊕ (Int32 × Sg)))} (C : Cx K layC cX6_append RX6 7 (2) (some .int))  (hI : ∀ s' : Int32 × Int32 × Int32 × Sg, o = .inl s' → G K 8 [some (.ref (kad K 1)), some (.long x1), none, some (.int s'.1), some (.int s'.2.1), some (.int s'.2.2.1), none] [] (Wd K layC s'.2.2.2)) (hE0 : ∀ t : Sg, o = .inr (.inl t) → G K 40 [none, none, none, none, none, none, none] [] (Wd K layC t)) (hE1 : ∀ t : Int32 × Sg, o = .inr (.inr t) → G K 74 [some (.ref (kad K 1)), some (.long x1), none, some (.int t.1), none, none, none] [] (Wd K layC t.2)) (h : fX6_append_b43 x1 x3 x5 x6 σ = some o) : G K 43 [some (.ref (kad K 1)), some (.long x1), none, some (.int x3), none, some (.int x5), some (.int x6)] [] (Wd K layC σ) := by
  unfold fX6_append_b43 at h
  refine g_iload C.c dX6_append_43 (i := 6) rfl ?_
  refine g_if_ne C.c (tgt := 52) dX6_append_45 (by decide) (fun c => ?_) (fun c => ?_)
  · replace h := ite_f c h
    refine g_iconst C.c dX6_append_52 (v := (0 : Int32)) (by decide) ?_
    exact g_mask [true, true, false, true, false, true, false] rfl (bX6_append_b53 C hI hE0 hE1 h)
  · replace h := ite_t c h
    refine g_iconst C.c dX6_append_48 (v := (1 : Int32)) (by decide) ?_
    refine g_goto C.c (tgt := 53) dX6_append_49 (by decide) ?_
    exact g_mask [true, true, false, true, false, true, false] rfl (bX6_append_b53 C hI hE0 hE1 h)
set_option maxRecDepth 4000 in
theorem bX6_append_b8 {K : KT} {x1 : Int64} {x3 : Int32} {x4 : Int32} {x5 : Int32} {σ : Sg} {o : (Int32 × Int32 × Int32 × Sg) ⊕ (((Sg) ⊕ (Int32 × Sg)))} (C : Cx K layC cX6_append RX6 7 (2) (some .int))  (hI : ∀ s' : Int32 × Int32 × Int32 × Sg, o = .inl s' → G K 8 [some (.ref (kad K 1)), some (.long x1), none, some (.int s'.1), some (.int s'.2.1), some (.int s'.2.2.1), none] [] (Wd K layC s'.2.2.2)) (hE0 : ∀ t : Sg, o = .inr (.inl t) → G K 40 [none, none, none, none, none, none, none] [] (Wd K layC t)) (hE1 : ∀ t : Int32 × Sg, o = .inr (.inr t) → G K 74 [some (.ref (kad K 1)), some (.long x1), none, some (.int t.1), none, none, none] [] (Wd K layC t.2)) (h : fX6_append_b8 x1 x3 x4 x5 σ = some o) : G K 8 [some (.ref (kad K 1)), some (.long x1), none, some (.int x3), some (.int x4), some (.int x5), none] [] (Wd K layC σ) := by
  unfold fX6_append_b8 at h
  refine g_iload C.c dX6_append_8 (i := 5) rfl ?_
  refine g_bipush C.c dX6_append_10 (v := (8 : Int32)) (by decide) ?_
  refine g_icmp_ge C.c (tgt := 74) dX6_append_12 (by decide) (fun c => ?_) (fun c => ?_)
  · replace h := ite_t c h
    have g9 := hE1 _ (Option.some.inj h).symm
    exact g_mask [true, true, false, true, false, false, false] rfl g9
  · replace h := ite_f c h
    refine g_lload_n C.c dX6_append_15 rfl (i := 1) rfl ?_
    refine g_iload C.c dX6_append_16 (i := 5) rfl ?_
    obtain ⟨p1, e2, h⟩ := Option.bind_eq_some_iff.mp h
    refine kc_6_15 C dX6_append_18 e2 (Nat.le_of_ble_eq_true rfl) rfl (Nat.le_of_ble_eq_true rfl) ?_
    refine g_istore C.c (i := 6) (L' := [some (.ref (kad K 1)), some (.long x1), none, some (.int x3), some (.int x4), some (.int x5), some (.int p1.1)]) dX6_append_21 (Nat.le_of_ble_eq_true rfl) rfl ?_
    refine g_iload C.c dX6_append_23 (i := 6) rfl ?_
    refine g_bipush C.c dX6_append_25 (v := (126 : Int32)) (by decide) ?_
    refine g_icmp_gt C.c (tgt := 40) dX6_append_27 (by decide) (fun c => ?_) (fun c => ?_)
    · replace h := ite_t c h
      have g9 := hE0 _ (Option.some.inj h).symm
      exact g_mask [false, false, false, false, false, false, false] rfl g9
    · replace h := ite_f c h
      refine g_iload C.c dX6_append_30 (i := 4) rfl ?_
      refine g_if_eq C.c (tgt := 43) dX6_append_32 (by decide) (fun c => ?_) (fun c => ?_)
      · replace h := ite_t c h
        exact g_mask [true, true, false, true, false, true, true] rfl (bX6_append_b43 C hI hE0 hE1 h)
      · replace h := ite_f c h
        refine g_iload C.c dX6_append_35 (i := 6) rfl ?_
        refine g_if_eq C.c (tgt := 43) dX6_append_37 (by decide) (fun c => ?_) (fun c => ?_)
        · replace h := ite_t c h
          exact g_mask [true, true, false, true, false, true, true] rfl (bX6_append_b43 C hI hE0 hE1 h)
        · replace h := ite_f c h
          have g9 := hE0 _ (Option.some.inj h).symm
          exact g_mask [false, false, false, false, false, false, false] rfl g9
set_option maxRecDepth 4000 in
theorem bX6_append_b91 {K : KT} {x1 : Int64} {x3 : Int32} {x5 : Int32} {σ : Sg} {o : (Int32 × Sg) ⊕ ((Sg))} (C : Cx K layC cX6_append RX6 7 (2) (some .int))  (hI : ∀ s' : Int32 × Sg, o = .inl s' → G K 91 [some (.ref (kad K 1)), some (.long x1), none, some (.int x3), none, some (.int s'.1), none] [] (Wd K layC s'.2)) (hE0 : ∀ t : Sg, o = .inr t → G K 128 [some (.ref (kad K 1)), none, none, none, none, none, none] [] (Wd K layC t)) (h : fX6_append_b91 x1 x3 x5 σ = some o) : G K 91 [some (.ref (kad K 1)), some (.long x1), none, some (.int x3), none, some (.int x5), none] [] (Wd K layC σ) := by
  unfold fX6_append_b91 at h
  refine g_iload C.c dX6_append_91 (i := 5) rfl ?_
  refine g_iload_n C.c dX6_append_93 rfl (i := 3) rfl ?_
  refine g_icmp_ge C.c (tgt := 128) dX6_append_94 (by decide) (fun c => ?_) (fun c => ?_)
  · replace h := ite_t c h
    have g9 := hE0 _ (Option.some.inj h).symm
    exact g_mask [true, false, false, false, false, false, false] rfl g9
  · replace h := ite_f c h
    refine g_aload_n C.c dX6_append_97 rfl (i := 0) rfl ?_
    refine gf_6_11 C dX6_append_98 ?_
    refine g_aload_n C.c dX6_append_101 rfl (i := 0) rfl ?_
    refine gf_6_19 C dX6_append_102 ?_
    refine g_lload_n C.c dX6_append_105 rfl (i := 1) rfl ?_
    refine g_iload C.c dX6_append_106 (i := 5) rfl ?_
    obtain ⟨p5, e6, h⟩ := Option.bind_eq_some_iff.mp h
    refine kc_6_15 C dX6_append_108 e6 (Nat.le_of_ble_eq_true rfl) rfl (Nat.le_of_ble_eq_true rfl) ?_
    obtain ⟨c7, h⟩ := chk h
    refine g_iast C dX6_append_111 rfl c7 ?_
    refine g_aload_n C.c dX6_append_112 rfl (i := 0) rfl ?_
    refine g_dup C.c dX6_append_113 rfl ?_
    refine gf_6_19 C dX6_append_114 ?_
    refine g_iconst C.c dX6_append_117 (v := (1 : Int32)) (by decide) ?_
    refine g_iadd C.c dX6_append_118 ?_
    refine pf_6_19 C dX6_append_119 ?_
    refine g_iinc C.c (i := 5) (y := (1 : Int32)) (L' := [some (.ref (kad K 1)), some (.long x1), none, some (.int x3), none, some (.int (x5 + (1 : Int32))), none]) dX6_append_122 rfl (by decide) (Nat.le_of_ble_eq_true rfl) rfl ?_
    refine g_goto C.c (tgt := 91) dX6_append_125 (by decide) ?_
    have g9 := hI _ (Option.some.inj h).symm
    exact g_mask [true, true, false, true, false, true, false] rfl g9
set_option maxRecDepth 4000 in
theorem bX6_append_b0 {K : KT} {x1 : Int64} {σ : Sg} {o : Int32 × Sg} (C : Cx K layC cX6_append RX6 7 (2) (some .int))  (hQ : Rk K layC (okI o)) (h : fX6_append_b0 x1 σ = some o) : G K 0 [some (.ref (kad K 1)), some (.long x1), none, none, none, none, none] [] (Wd K layC σ) := by
  unfold fX6_append_b0 at h
  refine g_iconst C.c dX6_append_0 (v := (0 : Int32)) (by decide) ?_
  refine g_istore_n C.c (i := 3) (L' := [some (.ref (kad K 1)), some (.long x1), none, some (.int (0 : Int32)), none, none, none]) dX6_append_1 rfl (Nat.le_of_ble_eq_true rfl) rfl ?_
  refine g_iconst C.c dX6_append_2 (v := (0 : Int32)) (by decide) ?_
  refine g_istore C.c (i := 4) (L' := [some (.ref (kad K 1)), some (.long x1), none, some (.int (0 : Int32)), some (.int (0 : Int32)), none, none]) dX6_append_3 (Nat.le_of_ble_eq_true rfl) rfl ?_
  refine g_iconst C.c dX6_append_5 (v := (0 : Int32)) (by decide) ?_
  refine g_istore C.c (i := 5) (L' := [some (.ref (kad K 1)), some (.long x1), none, some (.int (0 : Int32)), some (.int (0 : Int32)), some (.int (0 : Int32)), none]) dX6_append_6 (Nat.le_of_ble_eq_true rfl) rfl ?_
  refine g_mask [true, true, false, true, true, true, false] rfl ?_
  refine lp_bind (Gh := fun s => G K 8 [some (.ref (kad K 1)), some (.long x1), none, some (.int s.1), some (.int s.2.1), some (.int s.2.2.1), none] [] (Wd K layC s.2.2.2)) h (fun s o2 hf gI gE => ?_)
  refine bX6_append_b8 C gI (fun t3 e => ?_) (fun t3 e => ?_) hf
  · have h := el_l (gE _ e)
    refine g_bipush C.c dX6_append_40 (v := (-102 : Int32)) (by decide) ?_
    obtain rfl := Option.some.inj h
    exact g_iret C hQ dX6_append_42 rfl ⟨rfl, rfl⟩
  · have h := el_r (gE _ e)
    refine g_aload_n C.c dX6_append_74 rfl (i := 0) rfl ?_
    refine gf_6_19 C dX6_append_75 ?_
    refine g_iload_n C.c dX6_append_78 rfl (i := 3) rfl ?_
    refine g_iadd C.c dX6_append_79 ?_
    refine g_bipush C.c dX6_append_80 (v := (64 : Int32)) (by decide) ?_
    refine g_icmp_le C.c (tgt := 88) dX6_append_82 (by decide) (fun c => ?_) (fun c => ?_)
    · replace h := ite_t c h
      refine g_iconst C.c dX6_append_88 (v := (0 : Int32)) (by decide) ?_
      refine g_istore C.c (i := 5) (L' := [some (.ref (kad K 1)), some (.long x1), none, some (.int t3.1), none, some (.int (0 : Int32)), none]) dX6_append_89 (Nat.le_of_ble_eq_true rfl) rfl ?_
      refine g_mask [true, true, false, true, false, true, false] rfl ?_
      refine lp_bind (Gh := fun s => G K 91 [some (.ref (kad K 1)), some (.long x1), none, some (.int t3.1), none, some (.int s.1), none] [] (Wd K layC s.2)) h (fun s o2 hf gI gE => ?_)
      refine bX6_append_b91 C gI (fun t8 e => ?_) hf
      · have h := gE _ e
        refine g_aload_n C.c dX6_append_128 rfl (i := 0) rfl ?_
        refine gf_6_19 C dX6_append_129 ?_
        obtain rfl := Option.some.inj h
        exact g_iret C hQ dX6_append_132 rfl ⟨rfl, rfl⟩
    · replace h := ite_f c h
      refine g_bipush C.c dX6_append_85 (v := (-104 : Int32)) (by decide) ?_
      obtain rfl := Option.some.inj h
      exact g_iret C hQ dX6_append_87 rfl ⟨rfl, rfl⟩
def fX6_append (a0 : Int64) (σ : Sg) : Option (Int32 × Sg) := fX6_append_b0 a0 σ
theorem ct_X6_append {a0 : Int64} {σ : Sg} {p : Int32 × Sg} (h : fX6_append a0 σ = some p) : Ct layC yX6_append cX6_append 7 (some .int) 2 (fun ad => [.ref (ad 1), .long a0]) σ (okI p) :=
 ct_of (L0 := fun ad => [some (.ref (ad 1)), some (.long a0), none, none, none, none, none]) (by decide) (fun _ => Nat.le_of_ble_eq_true rfl) (fun _ => rfl) (fun K C hQ => g_mask [true, true, false, false, false, false, false] rfl (bX6_append_b0 C hQ h))
-- X6_clear
theorem dX6_clear_0 : decode cX6_clear 0 = .ok (.aload_n 0, 1) := by decide +kernel
theorem dX6_clear_1 : decode cX6_clear 1 = .ok (.getfield 19, 3) := by decide +kernel
theorem dX6_clear_4 : decode cX6_clear 4 = .ok (.istore_n 1, 1) := by decide +kernel
theorem dX6_clear_5 : decode cX6_clear 5 = .ok (.aload_n 0, 1) := by decide +kernel
theorem dX6_clear_6 : decode cX6_clear 6 = .ok (.iconst 0, 1) := by decide +kernel
theorem dX6_clear_7 : decode cX6_clear 7 = .ok (.putfield 19, 3) := by decide +kernel
theorem dX6_clear_10 : decode cX6_clear 10 = .ok (.iload_n 1, 1) := by decide +kernel
theorem dX6_clear_11 : decode cX6_clear 11 = .ok (.ireturn, 1) := by decide +kernel
theorem cw_X6_clear : Cw yX6_clear cX6_clear 2 (some .int) 0 := ⟨aw_407, aw_20, ⟨by decide, by decide⟩, by decide +kernel, by decide⟩
def fX6_clear_b0  (σ : Sg) : Option (Int32 × Sg) :=
  some ((rI σ 1 1), (wI σ 1 1 (0 : Int32)))
set_option maxRecDepth 4000 in
theorem bX6_clear_b0 {K : KT}  {σ : Sg} {o : Int32 × Sg} (C : Cx K layC cX6_clear RX6 2 (1) (some .int))  (hQ : Rk K layC (okI o)) (h : fX6_clear_b0  σ = some o) : G K 0 [some (.ref (kad K 1)), none] [] (Wd K layC σ) := by
  unfold fX6_clear_b0 at h
  refine g_aload_n C.c dX6_clear_0 rfl (i := 0) rfl ?_
  refine gf_6_19 C dX6_clear_1 ?_
  refine g_istore_n C.c (i := 1) (L' := [some (.ref (kad K 1)), some (.int (rI σ 1 1))]) dX6_clear_4 rfl (Nat.le_of_ble_eq_true rfl) rfl ?_
  refine g_aload_n C.c dX6_clear_5 rfl (i := 0) rfl ?_
  refine g_iconst C.c dX6_clear_6 (v := (0 : Int32)) (by decide) ?_
  refine pf_6_19 C dX6_clear_7 ?_
  refine g_iload_n C.c dX6_clear_10 rfl (i := 1) rfl ?_
  obtain rfl := Option.some.inj h
  exact g_iret C hQ dX6_clear_11 rfl ⟨rfl, rfl⟩
def fX6_clear (σ : Sg) : Option (Int32 × Sg) := fX6_clear_b0 σ
theorem ct_X6_clear {σ : Sg} {p : Int32 × Sg} (h : fX6_clear σ = some p) : Ct layC yX6_clear cX6_clear 2 (some .int) 1 (fun ad => [.ref (ad 1)]) σ (okI p) :=
 ct_of (L0 := fun ad => [some (.ref (ad 1)), none]) (by decide) (fun _ => Nat.le_of_ble_eq_true rfl) (fun _ => rfl) (fun K C hQ => g_mask [true, false] rfl (bX6_clear_b0 C hQ h))
-- X6_codeAt
theorem dX6_codeAt_0 : decode cX6_codeAt 0 = .ok (.iload_n 1, 1) := by decide +kernel
theorem dX6_codeAt_1 : decode cX6_codeAt 1 = .ok (.ifCond .lt 20, 3) := by decide +kernel
theorem dX6_codeAt_4 : decode cX6_codeAt 4 = .ok (.iload_n 1, 1) := by decide +kernel
theorem dX6_codeAt_5 : decode cX6_codeAt 5 = .ok (.aload_n 0, 1) := by decide +kernel
theorem dX6_codeAt_6 : decode cX6_codeAt 6 = .ok (.getfield 19, 3) := by decide +kernel
theorem dX6_codeAt_9 : decode cX6_codeAt 9 = .ok (.if_icmp .ge 12, 3) := by decide +kernel
theorem dX6_codeAt_12 : decode cX6_codeAt 12 = .ok (.aload_n 0, 1) := by decide +kernel
theorem dX6_codeAt_13 : decode cX6_codeAt 13 = .ok (.getfield 11, 3) := by decide +kernel
theorem dX6_codeAt_16 : decode cX6_codeAt 16 = .ok (.iload_n 1, 1) := by decide +kernel
theorem dX6_codeAt_17 : decode cX6_codeAt 17 = .ok (.iaload, 1) := by decide +kernel
theorem dX6_codeAt_18 : decode cX6_codeAt 18 = .ok (.goto 4, 3) := by decide +kernel
theorem dX6_codeAt_21 : decode cX6_codeAt 21 = .ok (.iconst 0, 1) := by decide +kernel
theorem dX6_codeAt_22 : decode cX6_codeAt 22 = .ok (.ireturn, 1) := by decide +kernel
theorem cw_X6_codeAt : Cw yX6_codeAt cX6_codeAt 2 (some .int) 1 := ⟨aw_383, aw_20, ⟨by decide, by decide⟩, by decide +kernel, by decide⟩
def fX6_codeAt_b0 (x1 : Int32) (σ : Sg) : Option (Int32 × Sg) :=
  if x1 < 0 then (some ((0 : Int32), σ)) else (if (rI σ 1 1) ≤ x1 then (some ((0 : Int32), σ)) else (if inb x1 64 = true then (some ((rI σ 2 (x1).toNatClampNeg), σ)) else none))
set_option maxRecDepth 4000 in
theorem bX6_codeAt_b0 {K : KT} {x1 : Int32} {σ : Sg} {o : Int32 × Sg} (C : Cx K layC cX6_codeAt RX6 2 (1) (some .int))  (hQ : Rk K layC (okI o)) (h : fX6_codeAt_b0 x1 σ = some o) : G K 0 [some (.ref (kad K 1)), some (.int x1)] [] (Wd K layC σ) := by
  unfold fX6_codeAt_b0 at h
  refine g_iload_n C.c dX6_codeAt_0 rfl (i := 1) rfl ?_
  refine g_if_lt C.c (tgt := 21) dX6_codeAt_1 (by decide) (fun c => ?_) (fun c => ?_)
  · replace h := ite_t c h
    refine g_iconst C.c dX6_codeAt_21 (v := (0 : Int32)) (by decide) ?_
    obtain rfl := Option.some.inj h
    exact g_iret C hQ dX6_codeAt_22 rfl ⟨rfl, rfl⟩
  · replace h := ite_f c h
    refine g_iload_n C.c dX6_codeAt_4 rfl (i := 1) rfl ?_
    refine g_aload_n C.c dX6_codeAt_5 rfl (i := 0) rfl ?_
    refine gf_6_19 C dX6_codeAt_6 ?_
    refine g_icmp_ge C.c (tgt := 21) dX6_codeAt_9 (by decide) (fun c => ?_) (fun c => ?_)
    · replace h := ite_t c h
      refine g_iconst C.c dX6_codeAt_21 (v := (0 : Int32)) (by decide) ?_
      obtain rfl := Option.some.inj h
      exact g_iret C hQ dX6_codeAt_22 rfl ⟨rfl, rfl⟩
    · replace h := ite_f c h
      refine g_aload_n C.c dX6_codeAt_12 rfl (i := 0) rfl ?_
      refine gf_6_11 C dX6_codeAt_13 ?_
      refine g_iload_n C.c dX6_codeAt_16 rfl (i := 1) rfl ?_
      obtain ⟨c1, h⟩ := chk h
      refine g_iald C dX6_codeAt_17 rfl c1 ?_
      refine g_goto C.c (tgt := 22) dX6_codeAt_18 (by decide) ?_
      obtain rfl := Option.some.inj h
      exact g_iret C hQ dX6_codeAt_22 rfl ⟨rfl, rfl⟩
def fX6_codeAt (a0 : Int32) (σ : Sg) : Option (Int32 × Sg) := fX6_codeAt_b0 a0 σ
theorem ct_X6_codeAt {a0 : Int32} {σ : Sg} {p : Int32 × Sg} (h : fX6_codeAt a0 σ = some p) : Ct layC yX6_codeAt cX6_codeAt 2 (some .int) 1 (fun ad => [.ref (ad 1), .int a0]) σ (okI p) :=
 ct_of (L0 := fun ad => [some (.ref (ad 1)), some (.int a0)]) (by decide) (fun _ => Nat.le_of_ble_eq_true rfl) (fun _ => rfl) (fun K C hQ => g_mask [true, true] rfl (bX6_codeAt_b0 C hQ h))
-- X6_takesRowEnd
theorem dX6_takesRowEnd_0 : decode cX6_takesRowEnd 0 = .ok (.aload_n 0, 1) := by decide +kernel
theorem dX6_takesRowEnd_1 : decode cX6_takesRowEnd 1 = .ok (.getfield 23, 3) := by decide +kernel
theorem dX6_takesRowEnd_4 : decode cX6_takesRowEnd 4 = .ok (.ifCond .ne 19, 3) := by decide +kernel
theorem dX6_takesRowEnd_7 : decode cX6_takesRowEnd 7 = .ok (.aload_n 0, 1) := by decide +kernel
theorem dX6_takesRowEnd_8 : decode cX6_takesRowEnd 8 = .ok (.getfield 26, 3) := by decide +kernel
theorem dX6_takesRowEnd_11 : decode cX6_takesRowEnd 11 = .ok (.iconst 2, 1) := by decide +kernel
theorem dX6_takesRowEnd_12 : decode cX6_takesRowEnd 12 = .ok (.if_icmp .lt 7, 3) := by decide +kernel
theorem dX6_takesRowEnd_15 : decode cX6_takesRowEnd 15 = .ok (.iconst 1, 1) := by decide +kernel
theorem dX6_takesRowEnd_16 : decode cX6_takesRowEnd 16 = .ok (.goto 23, 3) := by decide +kernel
theorem dX6_takesRowEnd_19 : decode cX6_takesRowEnd 19 = .ok (.iconst 0, 1) := by decide +kernel
theorem dX6_takesRowEnd_20 : decode cX6_takesRowEnd 20 = .ok (.goto 19, 3) := by decide +kernel
theorem dX6_takesRowEnd_23 : decode cX6_takesRowEnd 23 = .ok (.aload_n 0, 1) := by decide +kernel
theorem dX6_takesRowEnd_24 : decode cX6_takesRowEnd 24 = .ok (.getfield 26, 3) := by decide +kernel
theorem dX6_takesRowEnd_27 : decode cX6_takesRowEnd 27 = .ok (.aload_n 0, 1) := by decide +kernel
theorem dX6_takesRowEnd_28 : decode cX6_takesRowEnd 28 = .ok (.getfield 29, 3) := by decide +kernel
theorem dX6_takesRowEnd_31 : decode cX6_takesRowEnd 31 = .ok (.if_icmp .ne 7, 3) := by decide +kernel
theorem dX6_takesRowEnd_34 : decode cX6_takesRowEnd 34 = .ok (.iconst 1, 1) := by decide +kernel
theorem dX6_takesRowEnd_35 : decode cX6_takesRowEnd 35 = .ok (.goto 4, 3) := by decide +kernel
theorem dX6_takesRowEnd_38 : decode cX6_takesRowEnd 38 = .ok (.iconst 0, 1) := by decide +kernel
theorem dX6_takesRowEnd_39 : decode cX6_takesRowEnd 39 = .ok (.istore_n 1, 1) := by decide +kernel
theorem dX6_takesRowEnd_40 : decode cX6_takesRowEnd 40 = .ok (.iload_n 1, 1) := by decide +kernel
theorem dX6_takesRowEnd_41 : decode cX6_takesRowEnd 41 = .ok (.ifCond .eq 13, 3) := by decide +kernel
theorem dX6_takesRowEnd_44 : decode cX6_takesRowEnd 44 = .ok (.aload_n 0, 1) := by decide +kernel
theorem dX6_takesRowEnd_45 : decode cX6_takesRowEnd 45 = .ok (.getfield 23, 3) := by decide +kernel
theorem dX6_takesRowEnd_48 : decode cX6_takesRowEnd 48 = .ok (.iconst 1, 1) := by decide +kernel
theorem dX6_takesRowEnd_49 : decode cX6_takesRowEnd 49 = .ok (.iadd, 1) := by decide +kernel
theorem dX6_takesRowEnd_50 : decode cX6_takesRowEnd 50 = .ok (.iconst 5, 1) := by decide +kernel
theorem dX6_takesRowEnd_51 : decode cX6_takesRowEnd 51 = .ok (.if_icmp .lt 5, 3) := by decide +kernel
theorem dX6_takesRowEnd_54 : decode cX6_takesRowEnd 54 = .ok (.iconst 0, 1) := by decide +kernel
theorem dX6_takesRowEnd_55 : decode cX6_takesRowEnd 55 = .ok (.ireturn, 1) := by decide +kernel
theorem dX6_takesRowEnd_56 : decode cX6_takesRowEnd 56 = .ok (.aload_n 0, 1) := by decide +kernel
theorem dX6_takesRowEnd_57 : decode cX6_takesRowEnd 57 = .ok (.aload_n 0, 1) := by decide +kernel
theorem dX6_takesRowEnd_58 : decode cX6_takesRowEnd 58 = .ok (.getfield 26, 3) := by decide +kernel
theorem dX6_takesRowEnd_61 : decode cX6_takesRowEnd 61 = .ok (.putfield 29, 3) := by decide +kernel
theorem dX6_takesRowEnd_64 : decode cX6_takesRowEnd 64 = .ok (.aload_n 0, 1) := by decide +kernel
theorem dX6_takesRowEnd_65 : decode cX6_takesRowEnd 65 = .ok (.dup, 1) := by decide +kernel
theorem dX6_takesRowEnd_66 : decode cX6_takesRowEnd 66 = .ok (.getfield 23, 3) := by decide +kernel
theorem dX6_takesRowEnd_69 : decode cX6_takesRowEnd 69 = .ok (.iconst 1, 1) := by decide +kernel
theorem dX6_takesRowEnd_70 : decode cX6_takesRowEnd 70 = .ok (.iadd, 1) := by decide +kernel
theorem dX6_takesRowEnd_71 : decode cX6_takesRowEnd 71 = .ok (.putfield 23, 3) := by decide +kernel
theorem dX6_takesRowEnd_74 : decode cX6_takesRowEnd 74 = .ok (.aload_n 0, 1) := by decide +kernel
theorem dX6_takesRowEnd_75 : decode cX6_takesRowEnd 75 = .ok (.iconst 0, 1) := by decide +kernel
theorem dX6_takesRowEnd_76 : decode cX6_takesRowEnd 76 = .ok (.putfield 26, 3) := by decide +kernel
theorem dX6_takesRowEnd_79 : decode cX6_takesRowEnd 79 = .ok (.aload_n 0, 1) := by decide +kernel
theorem dX6_takesRowEnd_80 : decode cX6_takesRowEnd 80 = .ok (.iconst 0, 1) := by decide +kernel
theorem dX6_takesRowEnd_81 : decode cX6_takesRowEnd 81 = .ok (.putfield 35, 3) := by decide +kernel
theorem dX6_takesRowEnd_84 : decode cX6_takesRowEnd 84 = .ok (.iconst 1, 1) := by decide +kernel
theorem dX6_takesRowEnd_85 : decode cX6_takesRowEnd 85 = .ok (.ireturn, 1) := by decide +kernel
theorem cw_X6_takesRowEnd : Cw yX6_takesRowEnd cX6_takesRowEnd 2 (some .boolean) 0 := ⟨aw_359, aw_20, ⟨by decide, by decide⟩, by decide +kernel, by decide⟩
theorem gf_6_23 {K : KT} {cc : ByteArray} {nL d pc : Nat} {ret : Option FieldType} {L : List (Option Value)} {st : List Value} {σ : Sg} (C : Cx K layC cc RX6 nL d ret)  (hd : decode cc pc = .ok (.getfield 23, 3)) (k : G K (pc + 3) L (.int (rI σ 1 2) :: st) (Wd K layC σ)) : G K pc L (.ref (kad K 1) :: st) (Wd K layC σ) := g_get C (o := 1) (ci := 6) (k := 2) hd rfl rfl rfl (by decide) (Or.inl aw_48) inA6 rfl k
theorem gf_6_26 {K : KT} {cc : ByteArray} {nL d pc : Nat} {ret : Option FieldType} {L : List (Option Value)} {st : List Value} {σ : Sg} (C : Cx K layC cc RX6 nL d ret)  (hd : decode cc pc = .ok (.getfield 26, 3)) (k : G K (pc + 3) L (.int (rI σ 1 3) :: st) (Wd K layC σ)) : G K pc L (.ref (kad K 1) :: st) (Wd K layC σ) := g_get C (o := 1) (ci := 6) (k := 3) hd rfl rfl rfl (by decide) (Or.inl aw_49) inA6 rfl k
theorem gf_6_29 {K : KT} {cc : ByteArray} {nL d pc : Nat} {ret : Option FieldType} {L : List (Option Value)} {st : List Value} {σ : Sg} (C : Cx K layC cc RX6 nL d ret)  (hd : decode cc pc = .ok (.getfield 29, 3)) (k : G K (pc + 3) L (.int (rI σ 1 4) :: st) (Wd K layC σ)) : G K pc L (.ref (kad K 1) :: st) (Wd K layC σ) := g_get C (o := 1) (ci := 6) (k := 4) hd rfl rfl rfl (by decide) (Or.inl aw_50) inA6 rfl k
theorem pf_6_29 {K : KT} {cc : ByteArray} {nL d pc : Nat} {ret : Option FieldType} {L : List (Option Value)} {st : List Value} {σ : Sg} (C : Cx K layC cc RX6 nL d ret)  {v : Int32}  (hd : decode cc pc = .ok (.putfield 29, 3)) (k : G K (pc + 3) L st (Wd K layC (wI σ 1 4 v))) : G K pc L (.int v :: .ref (kad K 1) :: st) (Wd K layC σ) := g_putI C (o := 1) (ci := 6) (k := 4) hd rfl rfl rfl (by decide) (Or.inl aw_50) inA6 tyX6_ok nmX6 rfl rfl rfl k
theorem pf_6_23 {K : KT} {cc : ByteArray} {nL d pc : Nat} {ret : Option FieldType} {L : List (Option Value)} {st : List Value} {σ : Sg} (C : Cx K layC cc RX6 nL d ret)  {v : Int32}  (hd : decode cc pc = .ok (.putfield 23, 3)) (k : G K (pc + 3) L st (Wd K layC (wI σ 1 2 v))) : G K pc L (.int v :: .ref (kad K 1) :: st) (Wd K layC σ) := g_putI C (o := 1) (ci := 6) (k := 2) hd rfl rfl rfl (by decide) (Or.inl aw_48) inA6 tyX6_ok nmX6 rfl rfl rfl k
theorem pf_6_26 {K : KT} {cc : ByteArray} {nL d pc : Nat} {ret : Option FieldType} {L : List (Option Value)} {st : List Value} {σ : Sg} (C : Cx K layC cc RX6 nL d ret)  {v : Int32}  (hd : decode cc pc = .ok (.putfield 26, 3)) (k : G K (pc + 3) L st (Wd K layC (wI σ 1 3 v))) : G K pc L (.int v :: .ref (kad K 1) :: st) (Wd K layC σ) := g_putI C (o := 1) (ci := 6) (k := 3) hd rfl rfl rfl (by decide) (Or.inl aw_49) inA6 tyX6_ok nmX6 rfl rfl rfl k
theorem pf_6_35 {K : KT} {cc : ByteArray} {nL d pc : Nat} {ret : Option FieldType} {L : List (Option Value)} {st : List Value} {σ : Sg} (C : Cx K layC cc RX6 nL d ret)  {v : Int32} (hb : isB v = true) (hd : decode cc pc = .ok (.putfield 35, 3)) (k : G K (pc + 3) L st (Wd K layC (wI σ 1 6 v))) : G K pc L (.int v :: .ref (kad K 1) :: st) (Wd K layC σ) := g_putI C (o := 1) (ci := 6) (k := 6) hd rfl rfl rfl (by decide) (Or.inl aw_52) inA6 tyX6_ok nmX6 rfl (isB_n hb) (isB_f hb) k
def fX6_takesRowEnd_b39 (y0 : Int32) (σ : Sg) : Option (Int32 × Sg) :=
  if y0 = 0 then (some ((0 : Int32), σ)) else (if ((rI σ 1 2) + (1 : Int32)) < (5 : Int32) then (some ((1 : Int32), (wI (wI (wI (wI σ 1 4 (rI σ 1 3)) 1 2 ((rI (wI σ 1 4 (rI σ 1 3)) 1 2) + (1 : Int32))) 1 3 (0 : Int32)) 1 6 (0 : Int32)))) else (some ((0 : Int32), σ)))
def fX6_takesRowEnd_b0  (σ : Sg) : Option (Int32 × Sg) :=
  if (rI σ 1 2) = 0 then (if (rI σ 1 3) < (2 : Int32) then (fX6_takesRowEnd_b39 (0 : Int32) σ) else (fX6_takesRowEnd_b39 (1 : Int32) σ)) else (if (rI σ 1 3) = (rI σ 1 4) then (fX6_takesRowEnd_b39 (1 : Int32) σ) else (fX6_takesRowEnd_b39 (0 : Int32) σ))
set_option maxRecDepth 4000 in
theorem bX6_takesRowEnd_b39 {K : KT} {y0 : Int32} {σ : Sg} {o : Int32 × Sg} (C : Cx K layC cX6_takesRowEnd RX6 2 (1) (some .boolean))  (hQ : Rk K layC (okI o)) (h : fX6_takesRowEnd_b39 y0 σ = some o) : G K 39 [some (.ref (kad K 1)), none] [.int y0] (Wd K layC σ) := by
  unfold fX6_takesRowEnd_b39 at h
  refine g_istore_n C.c (i := 1) (L' := [some (.ref (kad K 1)), some (.int y0)]) dX6_takesRowEnd_39 rfl (Nat.le_of_ble_eq_true rfl) rfl ?_
  refine g_iload_n C.c dX6_takesRowEnd_40 rfl (i := 1) rfl ?_
  refine g_if_eq C.c (tgt := 54) dX6_takesRowEnd_41 (by decide) (fun c => ?_) (fun c => ?_)
  · replace h := ite_t c h
    refine g_iconst C.c dX6_takesRowEnd_54 (v := (0 : Int32)) (by decide) ?_
    obtain rfl := Option.some.inj h
    exact g_iret C hQ dX6_takesRowEnd_55 rfl ⟨rfl, rfl⟩
  · replace h := ite_f c h
    refine g_aload_n C.c dX6_takesRowEnd_44 rfl (i := 0) rfl ?_
    refine gf_6_23 C dX6_takesRowEnd_45 ?_
    refine g_iconst C.c dX6_takesRowEnd_48 (v := (1 : Int32)) (by decide) ?_
    refine g_iadd C.c dX6_takesRowEnd_49 ?_
    refine g_iconst C.c dX6_takesRowEnd_50 (v := (5 : Int32)) (by decide) ?_
    refine g_icmp_lt C.c (tgt := 56) dX6_takesRowEnd_51 (by decide) (fun c => ?_) (fun c => ?_)
    · replace h := ite_t c h
      refine g_aload_n C.c dX6_takesRowEnd_56 rfl (i := 0) rfl ?_
      refine g_aload_n C.c dX6_takesRowEnd_57 rfl (i := 0) rfl ?_
      refine gf_6_26 C dX6_takesRowEnd_58 ?_
      refine pf_6_29 C dX6_takesRowEnd_61 ?_
      refine g_aload_n C.c dX6_takesRowEnd_64 rfl (i := 0) rfl ?_
      refine g_dup C.c dX6_takesRowEnd_65 rfl ?_
      refine gf_6_23 C dX6_takesRowEnd_66 ?_
      refine g_iconst C.c dX6_takesRowEnd_69 (v := (1 : Int32)) (by decide) ?_
      refine g_iadd C.c dX6_takesRowEnd_70 ?_
      refine pf_6_23 C dX6_takesRowEnd_71 ?_
      refine g_aload_n C.c dX6_takesRowEnd_74 rfl (i := 0) rfl ?_
      refine g_iconst C.c dX6_takesRowEnd_75 (v := (0 : Int32)) (by decide) ?_
      refine pf_6_26 C dX6_takesRowEnd_76 ?_
      refine g_aload_n C.c dX6_takesRowEnd_79 rfl (i := 0) rfl ?_
      refine g_iconst C.c dX6_takesRowEnd_80 (v := (0 : Int32)) (by decide) ?_
      refine pf_6_35 C (by decide) dX6_takesRowEnd_81 ?_
      refine g_iconst C.c dX6_takesRowEnd_84 (v := (1 : Int32)) (by decide) ?_
      obtain rfl := Option.some.inj h
      exact g_iret C hQ dX6_takesRowEnd_85 rfl ⟨rfl, rfl⟩
    · replace h := ite_f c h
      refine g_iconst C.c dX6_takesRowEnd_54 (v := (0 : Int32)) (by decide) ?_
      obtain rfl := Option.some.inj h
      exact g_iret C hQ dX6_takesRowEnd_55 rfl ⟨rfl, rfl⟩
set_option maxRecDepth 4000 in
theorem bX6_takesRowEnd_b0 {K : KT}  {σ : Sg} {o : Int32 × Sg} (C : Cx K layC cX6_takesRowEnd RX6 2 (1) (some .boolean))  (hQ : Rk K layC (okI o)) (h : fX6_takesRowEnd_b0  σ = some o) : G K 0 [some (.ref (kad K 1)), none] [] (Wd K layC σ) := by
  unfold fX6_takesRowEnd_b0 at h
  refine g_aload_n C.c dX6_takesRowEnd_0 rfl (i := 0) rfl ?_
  refine gf_6_23 C dX6_takesRowEnd_1 ?_
  refine g_if_ne C.c (tgt := 23) dX6_takesRowEnd_4 (by decide) (fun c => ?_) (fun c => ?_)
  · replace h := ite_f c h
    refine g_aload_n C.c dX6_takesRowEnd_23 rfl (i := 0) rfl ?_
    refine gf_6_26 C dX6_takesRowEnd_24 ?_
    refine g_aload_n C.c dX6_takesRowEnd_27 rfl (i := 0) rfl ?_
    refine gf_6_29 C dX6_takesRowEnd_28 ?_
    refine g_icmp_ne C.c (tgt := 38) dX6_takesRowEnd_31 (by decide) (fun c => ?_) (fun c => ?_)
    · replace h := ite_f c h
      refine g_iconst C.c dX6_takesRowEnd_38 (v := (0 : Int32)) (by decide) ?_
      exact g_mask [true, false] rfl (bX6_takesRowEnd_b39 C hQ h)
    · replace h := ite_t c h
      refine g_iconst C.c dX6_takesRowEnd_34 (v := (1 : Int32)) (by decide) ?_
      refine g_goto C.c (tgt := 39) dX6_takesRowEnd_35 (by decide) ?_
      exact g_mask [true, false] rfl (bX6_takesRowEnd_b39 C hQ h)
  · replace h := ite_t c h
    refine g_aload_n C.c dX6_takesRowEnd_7 rfl (i := 0) rfl ?_
    refine gf_6_26 C dX6_takesRowEnd_8 ?_
    refine g_iconst C.c dX6_takesRowEnd_11 (v := (2 : Int32)) (by decide) ?_
    refine g_icmp_lt C.c (tgt := 19) dX6_takesRowEnd_12 (by decide) (fun c => ?_) (fun c => ?_)
    · replace h := ite_t c h
      refine g_iconst C.c dX6_takesRowEnd_19 (v := (0 : Int32)) (by decide) ?_
      refine g_goto C.c (tgt := 39) dX6_takesRowEnd_20 (by decide) ?_
      exact g_mask [true, false] rfl (bX6_takesRowEnd_b39 C hQ h)
    · replace h := ite_f c h
      refine g_iconst C.c dX6_takesRowEnd_15 (v := (1 : Int32)) (by decide) ?_
      refine g_goto C.c (tgt := 39) dX6_takesRowEnd_16 (by decide) ?_
      exact g_mask [true, false] rfl (bX6_takesRowEnd_b39 C hQ h)
def fX6_takesRowEnd (σ : Sg) : Option (Int32 × Sg) := fX6_takesRowEnd_b0 σ
theorem ct_X6_takesRowEnd {σ : Sg} {p : Int32 × Sg} (h : fX6_takesRowEnd σ = some p) : Ct layC yX6_takesRowEnd cX6_takesRowEnd 2 (some .boolean) 1 (fun ad => [.ref (ad 1)]) σ (okI p) :=
 ct_of (L0 := fun ad => [some (.ref (ad 1)), none]) (by decide) (fun _ => Nat.le_of_ble_eq_true rfl) (fun _ => rfl) (fun K C hQ => g_mask [true, false] rfl (bX6_takesRowEnd_b0 C hQ h))
-- X7_wayOf
theorem dX7_wayOf_0 : decode cX7_wayOf 0 = .ok (.iload_n 0, 1) := by decide +kernel
theorem dX7_wayOf_1 : decode cX7_wayOf 1 = .ok (.lookupswitch 51 #[(101, 45), (110, 43), (115, 47), (119, 49)], 43) := by decide +kernel
theorem dX7_wayOf_44 : decode cX7_wayOf 44 = .ok (.iconst 0, 1) := by decide +kernel
theorem dX7_wayOf_45 : decode cX7_wayOf 45 = .ok (.ireturn, 1) := by decide +kernel
theorem dX7_wayOf_46 : decode cX7_wayOf 46 = .ok (.iconst 1, 1) := by decide +kernel
theorem dX7_wayOf_47 : decode cX7_wayOf 47 = .ok (.ireturn, 1) := by decide +kernel
theorem dX7_wayOf_48 : decode cX7_wayOf 48 = .ok (.iconst 2, 1) := by decide +kernel
theorem dX7_wayOf_49 : decode cX7_wayOf 49 = .ok (.ireturn, 1) := by decide +kernel
theorem dX7_wayOf_50 : decode cX7_wayOf 50 = .ok (.iconst 3, 1) := by decide +kernel
theorem dX7_wayOf_51 : decode cX7_wayOf 51 = .ok (.ireturn, 1) := by decide +kernel
theorem dX7_wayOf_52 : decode cX7_wayOf 52 = .ok (.iconst (-1), 1) := by decide +kernel
theorem dX7_wayOf_53 : decode cX7_wayOf 53 = .ok (.ireturn, 1) := by decide +kernel
theorem cw_X7_wayOf : Cw yX7_wayOf cX7_wayOf 1 (some .int) 1 := ⟨aw_362, aw_22, ⟨by decide, by decide⟩, by decide +kernel, by decide⟩
def fX7_wayOf_b0 (x0 : Int32) (σ : Sg) : Option (Int32 × Sg) :=
  if x0 = (101 : Int32) then (some ((1 : Int32), σ)) else (if x0 = (110 : Int32) then (some ((0 : Int32), σ)) else (if x0 = (115 : Int32) then (some ((2 : Int32), σ)) else (if x0 = (119 : Int32) then (some ((3 : Int32), σ)) else (some ((-1 : Int32), σ)))))
set_option maxRecDepth 4000 in
theorem bX7_wayOf_b0 {K : KT} {x0 : Int32} {σ : Sg} {o : Int32 × Sg} (C : Cx K layC cX7_wayOf RX7 1 (1) (some .int))  (hQ : Rk K layC (okI o)) (h : fX7_wayOf_b0 x0 σ = some o) : G K 0 [some (.int x0)] [] (Wd K layC σ) := by
  unfold fX7_wayOf_b0 at h
  refine g_iload_n C.c dX7_wayOf_0 rfl (i := 0) rfl ?_
  by_cases c0 : x0 = (101 : Int32)
  · replace h := ite_t c0 h
    refine g_lkIn C.c (tgt := 46) (off := 45) c0 dX7_wayOf_1 (by decide) (by decide) (by decide) ?_
    refine g_iconst C.c dX7_wayOf_46 (v := (1 : Int32)) (by decide) ?_
    obtain rfl := Option.some.inj h
    exact g_iret C hQ dX7_wayOf_47 rfl ⟨rfl, rfl⟩
  · replace h := ite_f c0 h
    by_cases c1 : x0 = (110 : Int32)
    · replace h := ite_t c1 h
      refine g_lkIn C.c (tgt := 44) (off := 43) c1 dX7_wayOf_1 (by decide) (by decide) (by decide) ?_
      refine g_iconst C.c dX7_wayOf_44 (v := (0 : Int32)) (by decide) ?_
      obtain rfl := Option.some.inj h
      exact g_iret C hQ dX7_wayOf_45 rfl ⟨rfl, rfl⟩
    · replace h := ite_f c1 h
      by_cases c2 : x0 = (115 : Int32)
      · replace h := ite_t c2 h
        refine g_lkIn C.c (tgt := 48) (off := 47) c2 dX7_wayOf_1 (by decide) (by decide) (by decide) ?_
        refine g_iconst C.c dX7_wayOf_48 (v := (2 : Int32)) (by decide) ?_
        obtain rfl := Option.some.inj h
        exact g_iret C hQ dX7_wayOf_49 rfl ⟨rfl, rfl⟩
      · replace h := ite_f c2 h
        by_cases c3 : x0 = (119 : Int32)
        · replace h := ite_t c3 h
          refine g_lkIn C.c (tgt := 50) (off := 49) c3 dX7_wayOf_1 (by decide) (by decide) (by decide) ?_
          refine g_iconst C.c dX7_wayOf_50 (v := (3 : Int32)) (by decide) ?_
          obtain rfl := Option.some.inj h
          exact g_iret C hQ dX7_wayOf_51 rfl ⟨rfl, rfl⟩
        · replace h := ite_f c3 h
          refine g_lkOut C.c (tgt := 52) [(101 : Int32), (110 : Int32), (115 : Int32), (119 : Int32)] (by decide) ⟨c0, c1, c2, c3, trivial⟩ dX7_wayOf_1 (by decide) (by decide) ?_
          refine g_iconst C.c dX7_wayOf_52 (v := (-1 : Int32)) (by decide) ?_
          obtain rfl := Option.some.inj h
          exact g_iret C hQ dX7_wayOf_53 rfl ⟨rfl, rfl⟩
def fX7_wayOf (a0 : Int32) (σ : Sg) : Option (Int32 × Sg) := fX7_wayOf_b0 a0 σ
theorem ct_X7_wayOf {a0 : Int32} {σ : Sg} {p : Int32 × Sg} (h : fX7_wayOf a0 σ = some p) : Ct layC yX7_wayOf cX7_wayOf 1 (some .int) 1 (fun ad => [.int a0]) σ (okI p) :=
 ct_of (L0 := fun ad => [some (.int a0)]) (by decide) (fun _ => Nat.le_of_ble_eq_true rfl) (fun _ => rfl) (fun K C hQ => g_mask [true] rfl (bX7_wayOf_b0 C hQ h))
-- X6_takesSquare
theorem dX6_takesSquare_0 : decode cX6_takesSquare 0 = .ok (.iload_n 1, 1) := by decide +kernel
theorem dX6_takesSquare_1 : decode cX6_takesSquare 1 = .ok (.bipush 48, 2) := by decide +kernel
theorem dX6_takesSquare_3 : decode cX6_takesSquare 3 = .ok (.if_icmp .lt 13, 3) := by decide +kernel
theorem dX6_takesSquare_6 : decode cX6_takesSquare 6 = .ok (.iload_n 1, 1) := by decide +kernel
theorem dX6_takesSquare_7 : decode cX6_takesSquare 7 = .ok (.bipush 57, 2) := by decide +kernel
theorem dX6_takesSquare_9 : decode cX6_takesSquare 9 = .ok (.if_icmp .gt 7, 3) := by decide +kernel
theorem dX6_takesSquare_12 : decode cX6_takesSquare 12 = .ok (.iconst 1, 1) := by decide +kernel
theorem dX6_takesSquare_13 : decode cX6_takesSquare 13 = .ok (.goto 4, 3) := by decide +kernel
theorem dX6_takesSquare_16 : decode cX6_takesSquare 16 = .ok (.iconst 0, 1) := by decide +kernel
theorem dX6_takesSquare_17 : decode cX6_takesSquare 17 = .ok (.istore_n 2, 1) := by decide +kernel
theorem dX6_takesSquare_18 : decode cX6_takesSquare 18 = .ok (.iload_n 1, 1) := by decide +kernel
theorem dX6_takesSquare_19 : decode cX6_takesSquare 19 = .ok (.bipush 104, 2) := by decide +kernel
theorem dX6_takesSquare_21 : decode cX6_takesSquare 21 = .ok (.if_icmp .ne 14, 3) := by decide +kernel
theorem dX6_takesSquare_24 : decode cX6_takesSquare 24 = .ok (.aload_n 0, 1) := by decide +kernel
theorem dX6_takesSquare_25 : decode cX6_takesSquare 25 = .ok (.getfield 32, 3) := by decide +kernel
theorem dX6_takesSquare_28 : decode cX6_takesSquare 28 = .ok (.ifCond .le 7, 3) := by decide +kernel
theorem dX6_takesSquare_31 : decode cX6_takesSquare 31 = .ok (.iconst 1, 1) := by decide +kernel
theorem dX6_takesSquare_32 : decode cX6_takesSquare 32 = .ok (.goto 4, 3) := by decide +kernel
theorem dX6_takesSquare_35 : decode cX6_takesSquare 35 = .ok (.iconst 0, 1) := by decide +kernel
theorem dX6_takesSquare_36 : decode cX6_takesSquare 36 = .ok (.istore_n 3, 1) := by decide +kernel
theorem dX6_takesSquare_37 : decode cX6_takesSquare 37 = .ok (.iload_n 2, 1) := by decide +kernel
theorem dX6_takesSquare_38 : decode cX6_takesSquare 38 = .ok (.ifCond .ne 15, 3) := by decide +kernel
theorem dX6_takesSquare_41 : decode cX6_takesSquare 41 = .ok (.iload_n 1, 1) := by decide +kernel
theorem dX6_takesSquare_42 : decode cX6_takesSquare 42 = .ok (.bipush 35, 2) := by decide +kernel
theorem dX6_takesSquare_44 : decode cX6_takesSquare 44 = .ok (.if_icmp .eq 9, 3) := by decide +kernel
theorem dX6_takesSquare_47 : decode cX6_takesSquare 47 = .ok (.iload_n 1, 1) := by decide +kernel
theorem dX6_takesSquare_48 : decode cX6_takesSquare 48 = .ok (.bipush 104, 2) := by decide +kernel
theorem dX6_takesSquare_50 : decode cX6_takesSquare 50 = .ok (.if_icmp .ne 7, 3) := by decide +kernel
theorem dX6_takesSquare_53 : decode cX6_takesSquare 53 = .ok (.iload_n 3, 1) := by decide +kernel
theorem dX6_takesSquare_54 : decode cX6_takesSquare 54 = .ok (.ifCond .eq 5, 3) := by decide +kernel
theorem dX6_takesSquare_57 : decode cX6_takesSquare 57 = .ok (.iconst 0, 1) := by decide +kernel
theorem dX6_takesSquare_58 : decode cX6_takesSquare 58 = .ok (.ireturn, 1) := by decide +kernel
theorem dX6_takesSquare_59 : decode cX6_takesSquare 59 = .ok (.aload_n 0, 1) := by decide +kernel
theorem dX6_takesSquare_60 : decode cX6_takesSquare 60 = .ok (.getfield 26, 3) := by decide +kernel
theorem dX6_takesSquare_63 : decode cX6_takesSquare 63 = .ok (.aload_n 0, 1) := by decide +kernel
theorem dX6_takesSquare_64 : decode cX6_takesSquare 64 = .ok (.getfield 23, 3) := by decide +kernel
theorem dX6_takesSquare_67 : decode cX6_takesSquare 67 = .ok (.ifCond .ne 8, 3) := by decide +kernel
theorem dX6_takesSquare_70 : decode cX6_takesSquare 70 = .ok (.bipush 6, 2) := by decide +kernel
theorem dX6_takesSquare_72 : decode cX6_takesSquare 72 = .ok (.goto 7, 3) := by decide +kernel
theorem dX6_takesSquare_75 : decode cX6_takesSquare 75 = .ok (.aload_n 0, 1) := by decide +kernel
theorem dX6_takesSquare_76 : decode cX6_takesSquare 76 = .ok (.getfield 29, 3) := by decide +kernel
theorem dX6_takesSquare_79 : decode cX6_takesSquare 79 = .ok (.if_icmp .lt 5, 3) := by decide +kernel
theorem dX6_takesSquare_82 : decode cX6_takesSquare 82 = .ok (.iconst 0, 1) := by decide +kernel
theorem dX6_takesSquare_83 : decode cX6_takesSquare 83 = .ok (.ireturn, 1) := by decide +kernel
theorem dX6_takesSquare_84 : decode cX6_takesSquare 84 = .ok (.aload_n 0, 1) := by decide +kernel
theorem dX6_takesSquare_85 : decode cX6_takesSquare 85 = .ok (.dup, 1) := by decide +kernel
theorem dX6_takesSquare_86 : decode cX6_takesSquare 86 = .ok (.getfield 32, 3) := by decide +kernel
theorem dX6_takesSquare_89 : decode cX6_takesSquare 89 = .ok (.iload_n 1, 1) := by decide +kernel
theorem dX6_takesSquare_90 : decode cX6_takesSquare 90 = .ok (.bipush 104, 2) := by decide +kernel
theorem dX6_takesSquare_92 : decode cX6_takesSquare 92 = .ok (.if_icmp .ne 7, 3) := by decide +kernel
theorem dX6_takesSquare_95 : decode cX6_takesSquare 95 = .ok (.iconst 1, 1) := by decide +kernel
theorem dX6_takesSquare_96 : decode cX6_takesSquare 96 = .ok (.goto 4, 3) := by decide +kernel
theorem dX6_takesSquare_99 : decode cX6_takesSquare 99 = .ok (.iconst 0, 1) := by decide +kernel
theorem dX6_takesSquare_100 : decode cX6_takesSquare 100 = .ok (.iadd, 1) := by decide +kernel
theorem dX6_takesSquare_101 : decode cX6_takesSquare 101 = .ok (.putfield 32, 3) := by decide +kernel
theorem dX6_takesSquare_104 : decode cX6_takesSquare 104 = .ok (.aload_n 0, 1) := by decide +kernel
theorem dX6_takesSquare_105 : decode cX6_takesSquare 105 = .ok (.dup, 1) := by decide +kernel
theorem dX6_takesSquare_106 : decode cX6_takesSquare 106 = .ok (.getfield 26, 3) := by decide +kernel
theorem dX6_takesSquare_109 : decode cX6_takesSquare 109 = .ok (.iconst 1, 1) := by decide +kernel
theorem dX6_takesSquare_110 : decode cX6_takesSquare 110 = .ok (.iadd, 1) := by decide +kernel
theorem dX6_takesSquare_111 : decode cX6_takesSquare 111 = .ok (.putfield 26, 3) := by decide +kernel
theorem dX6_takesSquare_114 : decode cX6_takesSquare 114 = .ok (.aload_n 0, 1) := by decide +kernel
theorem dX6_takesSquare_115 : decode cX6_takesSquare 115 = .ok (.iload_n 2, 1) := by decide +kernel
theorem dX6_takesSquare_116 : decode cX6_takesSquare 116 = .ok (.putfield 35, 3) := by decide +kernel
theorem dX6_takesSquare_119 : decode cX6_takesSquare 119 = .ok (.iconst 1, 1) := by decide +kernel
theorem dX6_takesSquare_120 : decode cX6_takesSquare 120 = .ok (.ireturn, 1) := by decide +kernel
theorem cw_X6_takesSquare : Cw yX6_takesSquare cX6_takesSquare 4 (some .boolean) 1 := ⟨aw_366, aw_20, ⟨by decide, by decide⟩, by decide +kernel, by decide⟩
theorem gf_6_32 {K : KT} {cc : ByteArray} {nL d pc : Nat} {ret : Option FieldType} {L : List (Option Value)} {st : List Value} {σ : Sg} (C : Cx K layC cc RX6 nL d ret)  (hd : decode cc pc = .ok (.getfield 32, 3)) (k : G K (pc + 3) L (.int (rI σ 1 5) :: st) (Wd K layC σ)) : G K pc L (.ref (kad K 1) :: st) (Wd K layC σ) := g_get C (o := 1) (ci := 6) (k := 5) hd rfl rfl rfl (by decide) (Or.inl aw_51) inA6 rfl k
theorem pf_6_32 {K : KT} {cc : ByteArray} {nL d pc : Nat} {ret : Option FieldType} {L : List (Option Value)} {st : List Value} {σ : Sg} (C : Cx K layC cc RX6 nL d ret)  {v : Int32}  (hd : decode cc pc = .ok (.putfield 32, 3)) (k : G K (pc + 3) L st (Wd K layC (wI σ 1 5 v))) : G K pc L (.int v :: .ref (kad K 1) :: st) (Wd K layC σ) := g_putI C (o := 1) (ci := 6) (k := 5) hd rfl rfl rfl (by decide) (Or.inl aw_51) inA6 tyX6_ok nmX6 rfl rfl rfl k
def fX6_takesSquare_b100 (x2 : Int32) (y0 : Int32) (y1 : Int32) (σ : Sg) : Option (Int32 × Sg) :=
  if isB x2 = true then (some ((1 : Int32), (wI (wI (wI σ 1 5 (y1 + y0)) 1 3 ((rI (wI σ 1 5 (y1 + y0)) 1 3) + (1 : Int32))) 1 6 x2))) else none
def fX6_takesSquare_b79 (x1 : Int32) (x2 : Int32) (y0 : Int32) (y1 : Int32) (σ : Sg) : Option (Int32 × Sg) :=
  if y1 < y0 then (if x1 = (104 : Int32) then (fX6_takesSquare_b100 x2 (1 : Int32) (rI σ 1 5) σ) else (fX6_takesSquare_b100 x2 (0 : Int32) (rI σ 1 5) σ)) else (some ((0 : Int32), σ))
def fX6_takesSquare_b53 (x1 : Int32) (x2 : Int32) (x3 : Int32) (σ : Sg) : Option (Int32 × Sg) :=
  if x3 = 0 then (if (rI σ 1 2) = 0 then (fX6_takesSquare_b79 x1 x2 (6 : Int32) (rI σ 1 3) σ) else (fX6_takesSquare_b79 x1 x2 (rI σ 1 4) (rI σ 1 3) σ)) else (some ((0 : Int32), σ))
def fX6_takesSquare_b36 (x1 : Int32) (x2 : Int32) (y0 : Int32) (σ : Sg) : Option (Int32 × Sg) :=
  if x2 = 0 then (if x1 = (35 : Int32) then (fX6_takesSquare_b53 x1 x2 y0 σ) else (if x1 = (104 : Int32) then (fX6_takesSquare_b53 x1 x2 y0 σ) else (some ((0 : Int32), σ)))) else (fX6_takesSquare_b53 x1 x2 y0 σ)
def fX6_takesSquare_b35 (x1 : Int32) (x2 : Int32) (σ : Sg) : Option (Int32 × Sg) :=
  fX6_takesSquare_b36 x1 x2 (0 : Int32) σ
def fX6_takesSquare_b17 (x1 : Int32) (y0 : Int32) (σ : Sg) : Option (Int32 × Sg) :=
  if x1 = (104 : Int32) then (if (rI σ 1 5) ≤ 0 then (fX6_takesSquare_b35 x1 y0 σ) else (fX6_takesSquare_b36 x1 y0 (1 : Int32) σ)) else (fX6_takesSquare_b35 x1 y0 σ)
def fX6_takesSquare_b16 (x1 : Int32) (σ : Sg) : Option (Int32 × Sg) :=
  fX6_takesSquare_b17 x1 (0 : Int32) σ
def fX6_takesSquare_b0 (x1 : Int32) (σ : Sg) : Option (Int32 × Sg) :=
  if x1 < (48 : Int32) then (fX6_takesSquare_b16 x1 σ) else (if (57 : Int32) < x1 then (fX6_takesSquare_b16 x1 σ) else (fX6_takesSquare_b17 x1 (1 : Int32) σ))
set_option maxRecDepth 4000 in
theorem bX6_takesSquare_b100 {K : KT} {x2 : Int32} {y0 : Int32} {y1 : Int32} {σ : Sg} {o : Int32 × Sg} (C : Cx K layC cX6_takesSquare RX6 4 (1) (some .boolean))  (hQ : Rk K layC (okI o)) (h : fX6_takesSquare_b100 x2 y0 y1 σ = some o) : G K 100 [some (.ref (kad K 1)), none, some (.int x2), none] [.int y0, .int y1, .ref (kad K 1)] (Wd K layC σ) := by
  unfold fX6_takesSquare_b100 at h
  refine g_iadd C.c dX6_takesSquare_100 ?_
  refine pf_6_32 C dX6_takesSquare_101 ?_
  refine g_aload_n C.c dX6_takesSquare_104 rfl (i := 0) rfl ?_
  refine g_dup C.c dX6_takesSquare_105 rfl ?_
  refine gf_6_26 C dX6_takesSquare_106 ?_
  refine g_iconst C.c dX6_takesSquare_109 (v := (1 : Int32)) (by decide) ?_
  refine g_iadd C.c dX6_takesSquare_110 ?_
  refine pf_6_26 C dX6_takesSquare_111 ?_
  refine g_aload_n C.c dX6_takesSquare_114 rfl (i := 0) rfl ?_
  refine g_iload_n C.c dX6_takesSquare_115 rfl (i := 2) rfl ?_
  obtain ⟨c1, h⟩ := chk h
  refine pf_6_35 C c1 dX6_takesSquare_116 ?_
  refine g_iconst C.c dX6_takesSquare_119 (v := (1 : Int32)) (by decide) ?_
  obtain rfl := Option.some.inj h
  exact g_iret C hQ dX6_takesSquare_120 rfl ⟨rfl, rfl⟩
set_option maxRecDepth 4000 in
theorem bX6_takesSquare_b79 {K : KT} {x1 : Int32} {x2 : Int32} {y0 : Int32} {y1 : Int32} {σ : Sg} {o : Int32 × Sg} (C : Cx K layC cX6_takesSquare RX6 4 (1) (some .boolean))  (hQ : Rk K layC (okI o)) (h : fX6_takesSquare_b79 x1 x2 y0 y1 σ = some o) : G K 79 [some (.ref (kad K 1)), some (.int x1), some (.int x2), none] [.int y0, .int y1] (Wd K layC σ) := by
  unfold fX6_takesSquare_b79 at h
  refine g_icmp_lt C.c (tgt := 84) dX6_takesSquare_79 (by decide) (fun c => ?_) (fun c => ?_)
  · replace h := ite_t c h
    refine g_aload_n C.c dX6_takesSquare_84 rfl (i := 0) rfl ?_
    refine g_dup C.c dX6_takesSquare_85 rfl ?_
    refine gf_6_32 C dX6_takesSquare_86 ?_
    refine g_iload_n C.c dX6_takesSquare_89 rfl (i := 1) rfl ?_
    refine g_bipush C.c dX6_takesSquare_90 (v := (104 : Int32)) (by decide) ?_
    refine g_icmp_ne C.c (tgt := 99) dX6_takesSquare_92 (by decide) (fun c => ?_) (fun c => ?_)
    · replace h := ite_f c h
      refine g_iconst C.c dX6_takesSquare_99 (v := (0 : Int32)) (by decide) ?_
      exact g_mask [true, false, true, false] rfl (bX6_takesSquare_b100 C hQ h)
    · replace h := ite_t c h
      refine g_iconst C.c dX6_takesSquare_95 (v := (1 : Int32)) (by decide) ?_
      refine g_goto C.c (tgt := 100) dX6_takesSquare_96 (by decide) ?_
      exact g_mask [true, false, true, false] rfl (bX6_takesSquare_b100 C hQ h)
  · replace h := ite_f c h
    refine g_iconst C.c dX6_takesSquare_82 (v := (0 : Int32)) (by decide) ?_
    obtain rfl := Option.some.inj h
    exact g_iret C hQ dX6_takesSquare_83 rfl ⟨rfl, rfl⟩
set_option maxRecDepth 4000 in
theorem bX6_takesSquare_b53 {K : KT} {x1 : Int32} {x2 : Int32} {x3 : Int32} {σ : Sg} {o : Int32 × Sg} (C : Cx K layC cX6_takesSquare RX6 4 (1) (some .boolean))  (hQ : Rk K layC (okI o)) (h : fX6_takesSquare_b53 x1 x2 x3 σ = some o) : G K 53 [some (.ref (kad K 1)), some (.int x1), some (.int x2), some (.int x3)] [] (Wd K layC σ) := by
  unfold fX6_takesSquare_b53 at h
  refine g_iload_n C.c dX6_takesSquare_53 rfl (i := 3) rfl ?_
  refine g_if_eq C.c (tgt := 59) dX6_takesSquare_54 (by decide) (fun c => ?_) (fun c => ?_)
  · replace h := ite_t c h
    refine g_aload_n C.c dX6_takesSquare_59 rfl (i := 0) rfl ?_
    refine gf_6_26 C dX6_takesSquare_60 ?_
    refine g_aload_n C.c dX6_takesSquare_63 rfl (i := 0) rfl ?_
    refine gf_6_23 C dX6_takesSquare_64 ?_
    refine g_if_ne C.c (tgt := 75) dX6_takesSquare_67 (by decide) (fun c => ?_) (fun c => ?_)
    · replace h := ite_f c h
      refine g_aload_n C.c dX6_takesSquare_75 rfl (i := 0) rfl ?_
      refine gf_6_29 C dX6_takesSquare_76 ?_
      exact g_mask [true, true, true, false] rfl (bX6_takesSquare_b79 C hQ h)
    · replace h := ite_t c h
      refine g_bipush C.c dX6_takesSquare_70 (v := (6 : Int32)) (by decide) ?_
      refine g_goto C.c (tgt := 79) dX6_takesSquare_72 (by decide) ?_
      exact g_mask [true, true, true, false] rfl (bX6_takesSquare_b79 C hQ h)
  · replace h := ite_f c h
    refine g_iconst C.c dX6_takesSquare_57 (v := (0 : Int32)) (by decide) ?_
    obtain rfl := Option.some.inj h
    exact g_iret C hQ dX6_takesSquare_58 rfl ⟨rfl, rfl⟩
set_option maxRecDepth 4000 in
theorem bX6_takesSquare_b36 {K : KT} {x1 : Int32} {x2 : Int32} {y0 : Int32} {σ : Sg} {o : Int32 × Sg} (C : Cx K layC cX6_takesSquare RX6 4 (1) (some .boolean))  (hQ : Rk K layC (okI o)) (h : fX6_takesSquare_b36 x1 x2 y0 σ = some o) : G K 36 [some (.ref (kad K 1)), some (.int x1), some (.int x2), none] [.int y0] (Wd K layC σ) := by
  unfold fX6_takesSquare_b36 at h
  refine g_istore_n C.c (i := 3) (L' := [some (.ref (kad K 1)), some (.int x1), some (.int x2), some (.int y0)]) dX6_takesSquare_36 rfl (Nat.le_of_ble_eq_true rfl) rfl ?_
  refine g_iload_n C.c dX6_takesSquare_37 rfl (i := 2) rfl ?_
  refine g_if_ne C.c (tgt := 53) dX6_takesSquare_38 (by decide) (fun c => ?_) (fun c => ?_)
  · replace h := ite_f c h
    exact g_mask [true, true, true, true] rfl (bX6_takesSquare_b53 C hQ h)
  · replace h := ite_t c h
    refine g_iload_n C.c dX6_takesSquare_41 rfl (i := 1) rfl ?_
    refine g_bipush C.c dX6_takesSquare_42 (v := (35 : Int32)) (by decide) ?_
    refine g_icmp_eq C.c (tgt := 53) dX6_takesSquare_44 (by decide) (fun c => ?_) (fun c => ?_)
    · replace h := ite_t c h
      exact g_mask [true, true, true, true] rfl (bX6_takesSquare_b53 C hQ h)
    · replace h := ite_f c h
      refine g_iload_n C.c dX6_takesSquare_47 rfl (i := 1) rfl ?_
      refine g_bipush C.c dX6_takesSquare_48 (v := (104 : Int32)) (by decide) ?_
      refine g_icmp_ne C.c (tgt := 57) dX6_takesSquare_50 (by decide) (fun c => ?_) (fun c => ?_)
      · replace h := ite_f c h
        refine g_iconst C.c dX6_takesSquare_57 (v := (0 : Int32)) (by decide) ?_
        obtain rfl := Option.some.inj h
        exact g_iret C hQ dX6_takesSquare_58 rfl ⟨rfl, rfl⟩
      · replace h := ite_t c h
        exact g_mask [true, true, true, true] rfl (bX6_takesSquare_b53 C hQ h)
set_option maxRecDepth 4000 in
theorem bX6_takesSquare_b35 {K : KT} {x1 : Int32} {x2 : Int32} {σ : Sg} {o : Int32 × Sg} (C : Cx K layC cX6_takesSquare RX6 4 (1) (some .boolean))  (hQ : Rk K layC (okI o)) (h : fX6_takesSquare_b35 x1 x2 σ = some o) : G K 35 [some (.ref (kad K 1)), some (.int x1), some (.int x2), none] [] (Wd K layC σ) := by
  unfold fX6_takesSquare_b35 at h
  refine g_iconst C.c dX6_takesSquare_35 (v := (0 : Int32)) (by decide) ?_
  exact g_mask [true, true, true, false] rfl (bX6_takesSquare_b36 C hQ h)
set_option maxRecDepth 4000 in
theorem bX6_takesSquare_b17 {K : KT} {x1 : Int32} {y0 : Int32} {σ : Sg} {o : Int32 × Sg} (C : Cx K layC cX6_takesSquare RX6 4 (1) (some .boolean))  (hQ : Rk K layC (okI o)) (h : fX6_takesSquare_b17 x1 y0 σ = some o) : G K 17 [some (.ref (kad K 1)), some (.int x1), none, none] [.int y0] (Wd K layC σ) := by
  unfold fX6_takesSquare_b17 at h
  refine g_istore_n C.c (i := 2) (L' := [some (.ref (kad K 1)), some (.int x1), some (.int y0), none]) dX6_takesSquare_17 rfl (Nat.le_of_ble_eq_true rfl) rfl ?_
  refine g_iload_n C.c dX6_takesSquare_18 rfl (i := 1) rfl ?_
  refine g_bipush C.c dX6_takesSquare_19 (v := (104 : Int32)) (by decide) ?_
  refine g_icmp_ne C.c (tgt := 35) dX6_takesSquare_21 (by decide) (fun c => ?_) (fun c => ?_)
  · replace h := ite_f c h
    exact g_mask [true, true, true, false] rfl (bX6_takesSquare_b35 C hQ h)
  · replace h := ite_t c h
    refine g_aload_n C.c dX6_takesSquare_24 rfl (i := 0) rfl ?_
    refine gf_6_32 C dX6_takesSquare_25 ?_
    refine g_if_le C.c (tgt := 35) dX6_takesSquare_28 (by decide) (fun c => ?_) (fun c => ?_)
    · replace h := ite_t c h
      exact g_mask [true, true, true, false] rfl (bX6_takesSquare_b35 C hQ h)
    · replace h := ite_f c h
      refine g_iconst C.c dX6_takesSquare_31 (v := (1 : Int32)) (by decide) ?_
      refine g_goto C.c (tgt := 36) dX6_takesSquare_32 (by decide) ?_
      exact g_mask [true, true, true, false] rfl (bX6_takesSquare_b36 C hQ h)
set_option maxRecDepth 4000 in
theorem bX6_takesSquare_b16 {K : KT} {x1 : Int32} {σ : Sg} {o : Int32 × Sg} (C : Cx K layC cX6_takesSquare RX6 4 (1) (some .boolean))  (hQ : Rk K layC (okI o)) (h : fX6_takesSquare_b16 x1 σ = some o) : G K 16 [some (.ref (kad K 1)), some (.int x1), none, none] [] (Wd K layC σ) := by
  unfold fX6_takesSquare_b16 at h
  refine g_iconst C.c dX6_takesSquare_16 (v := (0 : Int32)) (by decide) ?_
  exact g_mask [true, true, false, false] rfl (bX6_takesSquare_b17 C hQ h)
set_option maxRecDepth 4000 in
theorem bX6_takesSquare_b0 {K : KT} {x1 : Int32} {σ : Sg} {o : Int32 × Sg} (C : Cx K layC cX6_takesSquare RX6 4 (1) (some .boolean))  (hQ : Rk K layC (okI o)) (h : fX6_takesSquare_b0 x1 σ = some o) : G K 0 [some (.ref (kad K 1)), some (.int x1), none, none] [] (Wd K layC σ) := by
  unfold fX6_takesSquare_b0 at h
  refine g_iload_n C.c dX6_takesSquare_0 rfl (i := 1) rfl ?_
  refine g_bipush C.c dX6_takesSquare_1 (v := (48 : Int32)) (by decide) ?_
  refine g_icmp_lt C.c (tgt := 16) dX6_takesSquare_3 (by decide) (fun c => ?_) (fun c => ?_)
  · replace h := ite_t c h
    exact g_mask [true, true, false, false] rfl (bX6_takesSquare_b16 C hQ h)
  · replace h := ite_f c h
    refine g_iload_n C.c dX6_takesSquare_6 rfl (i := 1) rfl ?_
    refine g_bipush C.c dX6_takesSquare_7 (v := (57 : Int32)) (by decide) ?_
    refine g_icmp_gt C.c (tgt := 16) dX6_takesSquare_9 (by decide) (fun c => ?_) (fun c => ?_)
    · replace h := ite_t c h
      exact g_mask [true, true, false, false] rfl (bX6_takesSquare_b16 C hQ h)
    · replace h := ite_f c h
      refine g_iconst C.c dX6_takesSquare_12 (v := (1 : Int32)) (by decide) ?_
      refine g_goto C.c (tgt := 17) dX6_takesSquare_13 (by decide) ?_
      exact g_mask [true, true, false, false] rfl (bX6_takesSquare_b17 C hQ h)
def fX6_takesSquare (a0 : Int32) (σ : Sg) : Option (Int32 × Sg) := fX6_takesSquare_b0 a0 σ
theorem ct_X6_takesSquare {a0 : Int32} {σ : Sg} {p : Int32 × Sg} (h : fX6_takesSquare a0 σ = some p) : Ct layC yX6_takesSquare cX6_takesSquare 4 (some .boolean) 1 (fun ad => [.ref (ad 1), .int a0]) σ (okI p) :=
 ct_of (L0 := fun ad => [some (.ref (ad 1)), some (.int a0), none, none]) (by decide) (fun _ => Nat.le_of_ble_eq_true rfl) (fun _ => rfl) (fun K C hQ => g_mask [true, true, false, false] rfl (bX6_takesSquare_b0 C hQ h))
-- X6_takes
theorem dX6_takes_0 : decode cX6_takes 0 = .ok (.iload_n 1, 1) := by decide +kernel
theorem dX6_takes_1 : decode cX6_takes 1 = .ok (.bipush 47, 2) := by decide +kernel
theorem dX6_takes_3 : decode cX6_takes 3 = .ok (.if_icmp .ne 8, 3) := by decide +kernel
theorem dX6_takes_6 : decode cX6_takes 6 = .ok (.aload_n 0, 1) := by decide +kernel
theorem dX6_takes_7 : decode cX6_takes 7 = .ok (.invokevirtual 47, 3) := by decide +kernel
theorem dX6_takes_10 : decode cX6_takes 10 = .ok (.ireturn, 1) := by decide +kernel
theorem dX6_takes_11 : decode cX6_takes 11 = .ok (.iload_n 1, 1) := by decide +kernel
theorem dX6_takes_12 : decode cX6_takes 12 = .ok (.invokestatic 51, 3) := by decide +kernel
theorem dX6_takes_15 : decode cX6_takes 15 = .ok (.iconst (-1), 1) := by decide +kernel
theorem dX6_takes_16 : decode cX6_takes 16 = .ok (.if_icmp .eq 15, 3) := by decide +kernel
theorem dX6_takes_19 : decode cX6_takes 19 = .ok (.aload_n 0, 1) := by decide +kernel
theorem dX6_takes_20 : decode cX6_takes 20 = .ok (.getfield 35, 3) := by decide +kernel
theorem dX6_takes_23 : decode cX6_takes 23 = .ok (.istore_n 2, 1) := by decide +kernel
theorem dX6_takes_24 : decode cX6_takes 24 = .ok (.aload_n 0, 1) := by decide +kernel
theorem dX6_takes_25 : decode cX6_takes 25 = .ok (.iconst 0, 1) := by decide +kernel
theorem dX6_takes_26 : decode cX6_takes 26 = .ok (.putfield 35, 3) := by decide +kernel
theorem dX6_takes_29 : decode cX6_takes 29 = .ok (.iload_n 2, 1) := by decide +kernel
theorem dX6_takes_30 : decode cX6_takes 30 = .ok (.ireturn, 1) := by decide +kernel
theorem dX6_takes_31 : decode cX6_takes 31 = .ok (.aload_n 0, 1) := by decide +kernel
theorem dX6_takes_32 : decode cX6_takes 32 = .ok (.iload_n 1, 1) := by decide +kernel
theorem dX6_takes_33 : decode cX6_takes 33 = .ok (.invokevirtual 57, 3) := by decide +kernel
theorem dX6_takes_36 : decode cX6_takes 36 = .ok (.ireturn, 1) := by decide +kernel
theorem cw_X6_takes : Cw yX6_takes cX6_takes 3 (some .boolean) 1 := ⟨aw_355, aw_20, ⟨by decide, by decide⟩, by decide +kernel, by decide⟩
theorem kc_6_51 {K : KT} {cc : ByteArray} {nL d pc : Nat} {ret : Option FieldType} {L : List (Option Value)} {st : List Value} {σ : Sg} (C : Cx K layC cc RX6 nL d ret)  {a0 : Int32}  {p : Int32 × Sg} (hd : decode cc pc = .ok (.invokestatic 51, 3)) (e : fX7_wayOf a0 σ = some p) (hdd : 1 + 1 ≤ d) (hLn : L.length = nL) (hr : (st.map fun v => v.category).sum ≤ 8) (k : G K (pc + 3) L (.int p.1 :: st) (Wd K layC p.2)) : G K pc L (.int a0 :: st) (Wd K layC σ) :=
  g_callS C (As := [.int a0]) (rest := st) hd (ct_X7_wayOf e) cw_X7_wayOf (Or.inl aw_360) aw_361 rfl rfl rfl hdd hLn hr (fun v τ q => by obtain ⟨rfl, rfl⟩ := q; exact k)
theorem kc_6_57 {K : KT} {cc : ByteArray} {nL d pc : Nat} {ret : Option FieldType} {L : List (Option Value)} {st : List Value} {σ : Sg} (C : Cx K layC cc RX6 nL d ret)  {a0 : Int32}  {p : Int32 × Sg} (hd : decode cc pc = .ok (.invokevirtual 57, 3)) (e : fX6_takesSquare a0 σ = some p) (hdd : 1 + 1 ≤ d) (hLn : L.length = nL) (hr : (st.map fun v => v.category).sum ≤ 8) (k : G K (pc + 3) L (.int p.1 :: st) (Wd K layC p.2)) : G K pc L (.int a0 :: .ref (kad K 1) :: st) (Wd K layC σ) :=
  g_callV C (As := [.int a0]) (rest := st) (o := 1) (ci := 6) hd (ct_X6_takesSquare e) cw_X6_takesSquare (Or.inl aw_363) aw_365 aw_2 rfl rfl rfl hdd hLn rfl rfl hr (fun v τ q => by obtain ⟨rfl, rfl⟩ := q; exact k)
theorem gf_6_35 {K : KT} {cc : ByteArray} {nL d pc : Nat} {ret : Option FieldType} {L : List (Option Value)} {st : List Value} {σ : Sg} (C : Cx K layC cc RX6 nL d ret)  (hd : decode cc pc = .ok (.getfield 35, 3)) (k : G K (pc + 3) L (.int (rI σ 1 6) :: st) (Wd K layC σ)) : G K pc L (.ref (kad K 1) :: st) (Wd K layC σ) := g_get C (o := 1) (ci := 6) (k := 6) hd rfl rfl rfl (by decide) (Or.inl aw_52) inA6 rfl k
theorem kc_6_47 {K : KT} {cc : ByteArray} {nL d pc : Nat} {ret : Option FieldType} {L : List (Option Value)} {st : List Value} {σ : Sg} (C : Cx K layC cc RX6 nL d ret)    {p : Int32 × Sg} (hd : decode cc pc = .ok (.invokevirtual 47, 3)) (e : fX6_takesRowEnd σ = some p) (hdd : 1 + 1 ≤ d) (hLn : L.length = nL) (hr : (st.map fun v => v.category).sum ≤ 8) (k : G K (pc + 3) L (.int p.1 :: st) (Wd K layC p.2)) : G K pc L (.ref (kad K 1) :: st) (Wd K layC σ) :=
  g_callV C (As := []) (rest := st) (o := 1) (ci := 6) hd (ct_X6_takesRowEnd e) cw_X6_takesRowEnd (Or.inl aw_356) aw_358 aw_1 rfl rfl rfl hdd hLn rfl rfl hr (fun v τ q => by obtain ⟨rfl, rfl⟩ := q; exact k)
def fX6_takes_b0 (x1 : Int32) (σ : Sg) : Option (Int32 × Sg) :=
  if x1 = (47 : Int32) then (Option.bind (fX6_takesRowEnd σ) fun p7 => (if isB p7.1 = true then (some (p7.1, p7.2)) else none)) else (Option.bind (fX7_wayOf x1 σ) fun p1 => (if p1.1 = (-1 : Int32) then (Option.bind (fX6_takesSquare x1 p1.2) fun p3 => (if isB p3.1 = true then (some (p3.1, p3.2)) else none)) else (if isB (rI p1.2 1 6) = true then (some ((rI p1.2 1 6), (wI p1.2 1 6 (0 : Int32)))) else none)))
set_option maxRecDepth 4000 in
theorem bX6_takes_b0 {K : KT} {x1 : Int32} {σ : Sg} {o : Int32 × Sg} (C : Cx K layC cX6_takes RX6 3 (2) (some .boolean))  (hQ : Rk K layC (okI o)) (h : fX6_takes_b0 x1 σ = some o) : G K 0 [some (.ref (kad K 1)), some (.int x1), none] [] (Wd K layC σ) := by
  unfold fX6_takes_b0 at h
  refine g_iload_n C.c dX6_takes_0 rfl (i := 1) rfl ?_
  refine g_bipush C.c dX6_takes_1 (v := (47 : Int32)) (by decide) ?_
  refine g_icmp_ne C.c (tgt := 11) dX6_takes_3 (by decide) (fun c => ?_) (fun c => ?_)
  · replace h := ite_f c h
    refine g_iload_n C.c dX6_takes_11 rfl (i := 1) rfl ?_
    obtain ⟨p1, e2, h⟩ := Option.bind_eq_some_iff.mp h
    refine kc_6_51 C dX6_takes_12 e2 (Nat.le_of_ble_eq_true rfl) rfl (Nat.le_of_ble_eq_true rfl) ?_
    refine g_iconst C.c dX6_takes_15 (v := (-1 : Int32)) (by decide) ?_
    refine g_icmp_eq C.c (tgt := 31) dX6_takes_16 (by decide) (fun c => ?_) (fun c => ?_)
    · replace h := ite_t c h
      refine g_aload_n C.c dX6_takes_31 rfl (i := 0) rfl ?_
      refine g_iload_n C.c dX6_takes_32 rfl (i := 1) rfl ?_
      obtain ⟨p3, e4, h⟩ := Option.bind_eq_some_iff.mp h
      refine kc_6_57 C dX6_takes_33 e4 (Nat.le_of_ble_eq_true rfl) rfl (Nat.le_of_ble_eq_true rfl) ?_
      obtain ⟨c5, h⟩ := chk h
      obtain rfl := Option.some.inj h
      exact g_iret C hQ dX6_takes_36 (isB_n c5) ⟨rfl, rfl⟩
    · replace h := ite_f c h
      refine g_aload_n C.c dX6_takes_19 rfl (i := 0) rfl ?_
      refine gf_6_35 C dX6_takes_20 ?_
      refine g_istore_n C.c (i := 2) (L' := [some (.ref (kad K 1)), some (.int x1), some (.int (rI p1.2 1 6))]) dX6_takes_23 rfl (Nat.le_of_ble_eq_true rfl) rfl ?_
      refine g_aload_n C.c dX6_takes_24 rfl (i := 0) rfl ?_
      refine g_iconst C.c dX6_takes_25 (v := (0 : Int32)) (by decide) ?_
      refine pf_6_35 C (by decide) dX6_takes_26 ?_
      refine g_iload_n C.c dX6_takes_29 rfl (i := 2) rfl ?_
      obtain ⟨c6, h⟩ := chk h
      obtain rfl := Option.some.inj h
      exact g_iret C hQ dX6_takes_30 (isB_n c6) ⟨rfl, rfl⟩
  · replace h := ite_t c h
    refine g_aload_n C.c dX6_takes_6 rfl (i := 0) rfl ?_
    obtain ⟨p7, e8, h⟩ := Option.bind_eq_some_iff.mp h
    refine kc_6_47 C dX6_takes_7 e8 (Nat.le_of_ble_eq_true rfl) rfl (Nat.le_of_ble_eq_true rfl) ?_
    obtain ⟨c9, h⟩ := chk h
    obtain rfl := Option.some.inj h
    exact g_iret C hQ dX6_takes_10 (isB_n c9) ⟨rfl, rfl⟩
def fX6_takes (a0 : Int32) (σ : Sg) : Option (Int32 × Sg) := fX6_takes_b0 a0 σ
theorem ct_X6_takes {a0 : Int32} {σ : Sg} {p : Int32 × Sg} (h : fX6_takes a0 σ = some p) : Ct layC yX6_takes cX6_takes 3 (some .boolean) 2 (fun ad => [.ref (ad 1), .int a0]) σ (okI p) :=
 ct_of (L0 := fun ad => [some (.ref (ad 1)), some (.int a0), none]) (by decide) (fun _ => Nat.le_of_ble_eq_true rfl) (fun _ => rfl) (fun K C hQ => g_mask [true, true, false] rfl (bX6_takes_b0 C hQ h))
-- X6_firstWrong
theorem dX6_firstWrong_0 : decode cX6_firstWrong 0 = .ok (.aload_n 0, 1) := by decide +kernel
theorem dX6_firstWrong_1 : decode cX6_firstWrong 1 = .ok (.iconst 0, 1) := by decide +kernel
theorem dX6_firstWrong_2 : decode cX6_firstWrong 2 = .ok (.putfield 23, 3) := by decide +kernel
theorem dX6_firstWrong_5 : decode cX6_firstWrong 5 = .ok (.aload_n 0, 1) := by decide +kernel
theorem dX6_firstWrong_6 : decode cX6_firstWrong 6 = .ok (.iconst 0, 1) := by decide +kernel
theorem dX6_firstWrong_7 : decode cX6_firstWrong 7 = .ok (.putfield 26, 3) := by decide +kernel
theorem dX6_firstWrong_10 : decode cX6_firstWrong 10 = .ok (.aload_n 0, 1) := by decide +kernel
theorem dX6_firstWrong_11 : decode cX6_firstWrong 11 = .ok (.iconst 0, 1) := by decide +kernel
theorem dX6_firstWrong_12 : decode cX6_firstWrong 12 = .ok (.putfield 29, 3) := by decide +kernel
theorem dX6_firstWrong_15 : decode cX6_firstWrong 15 = .ok (.aload_n 0, 1) := by decide +kernel
theorem dX6_firstWrong_16 : decode cX6_firstWrong 16 = .ok (.iconst 0, 1) := by decide +kernel
theorem dX6_firstWrong_17 : decode cX6_firstWrong 17 = .ok (.putfield 32, 3) := by decide +kernel
theorem dX6_firstWrong_20 : decode cX6_firstWrong 20 = .ok (.aload_n 0, 1) := by decide +kernel
theorem dX6_firstWrong_21 : decode cX6_firstWrong 21 = .ok (.iconst 0, 1) := by decide +kernel
theorem dX6_firstWrong_22 : decode cX6_firstWrong 22 = .ok (.putfield 35, 3) := by decide +kernel
theorem dX6_firstWrong_25 : decode cX6_firstWrong 25 = .ok (.iconst 0, 1) := by decide +kernel
theorem dX6_firstWrong_26 : decode cX6_firstWrong 26 = .ok (.istore_n 1, 1) := by decide +kernel
theorem dX6_firstWrong_27 : decode cX6_firstWrong 27 = .ok (.iload_n 1, 1) := by decide +kernel
theorem dX6_firstWrong_28 : decode cX6_firstWrong 28 = .ok (.aload_n 0, 1) := by decide +kernel
theorem dX6_firstWrong_29 : decode cX6_firstWrong 29 = .ok (.getfield 19, 3) := by decide +kernel
theorem dX6_firstWrong_32 : decode cX6_firstWrong 32 = .ok (.if_icmp .ge 24, 3) := by decide +kernel
theorem dX6_firstWrong_35 : decode cX6_firstWrong 35 = .ok (.aload_n 0, 1) := by decide +kernel
theorem dX6_firstWrong_36 : decode cX6_firstWrong 36 = .ok (.aload_n 0, 1) := by decide +kernel
theorem dX6_firstWrong_37 : decode cX6_firstWrong 37 = .ok (.getfield 11, 3) := by decide +kernel
theorem dX6_firstWrong_40 : decode cX6_firstWrong 40 = .ok (.iload_n 1, 1) := by decide +kernel
theorem dX6_firstWrong_41 : decode cX6_firstWrong 41 = .ok (.iaload, 1) := by decide +kernel
theorem dX6_firstWrong_42 : decode cX6_firstWrong 42 = .ok (.invokevirtual 39, 3) := by decide +kernel
theorem dX6_firstWrong_45 : decode cX6_firstWrong 45 = .ok (.ifCond .ne 5, 3) := by decide +kernel
theorem dX6_firstWrong_48 : decode cX6_firstWrong 48 = .ok (.iload_n 1, 1) := by decide +kernel
theorem dX6_firstWrong_49 : decode cX6_firstWrong 49 = .ok (.ireturn, 1) := by decide +kernel
theorem dX6_firstWrong_50 : decode cX6_firstWrong 50 = .ok (.iinc 1 1, 3) := by decide +kernel
theorem dX6_firstWrong_53 : decode cX6_firstWrong 53 = .ok (.goto (-26), 3) := by decide +kernel
theorem dX6_firstWrong_56 : decode cX6_firstWrong 56 = .ok (.aload_n 0, 1) := by decide +kernel
theorem dX6_firstWrong_57 : decode cX6_firstWrong 57 = .ok (.getfield 19, 3) := by decide +kernel
theorem dX6_firstWrong_60 : decode cX6_firstWrong 60 = .ok (.ireturn, 1) := by decide +kernel
theorem cw_X6_firstWrong : Cw yX6_firstWrong cX6_firstWrong 2 (some .int) 0 := ⟨aw_351, aw_20, ⟨by decide, by decide⟩, by decide +kernel, by decide⟩
theorem kc_6_39 {K : KT} {cc : ByteArray} {nL d pc : Nat} {ret : Option FieldType} {L : List (Option Value)} {st : List Value} {σ : Sg} (C : Cx K layC cc RX6 nL d ret)  {a0 : Int32}  {p : Int32 × Sg} (hd : decode cc pc = .ok (.invokevirtual 39, 3)) (e : fX6_takes a0 σ = some p) (hdd : 2 + 1 ≤ d) (hLn : L.length = nL) (hr : (st.map fun v => v.category).sum ≤ 8) (k : G K (pc + 3) L (.int p.1 :: st) (Wd K layC p.2)) : G K pc L (.int a0 :: .ref (kad K 1) :: st) (Wd K layC σ) :=
  g_callV C (As := [.int a0]) (rest := st) (o := 1) (ci := 6) hd (ct_X6_takes e) cw_X6_takes (Or.inl aw_352) aw_354 aw_0 rfl rfl rfl hdd hLn rfl rfl hr (fun v τ q => by obtain ⟨rfl, rfl⟩ := q; exact k)
def fX6_firstWrong_b27 (x1 : Int32) (σ : Sg) : Option ((Int32 × Sg) ⊕ (((Int32 × Sg) ⊕ (Sg)))) :=
  if (rI σ 1 1) ≤ x1 then (some (.inr (.inr σ))) else (if inb x1 64 = true then (Option.bind (fX6_takes (rI σ 2 (x1).toNatClampNeg) σ) fun p2 => (if p2.1 = 0 then (some (.inr (.inl (x1, p2.2)))) else (some (.inl ((x1 + (1 : Int32)), p2.2))))) else none)
def fX6_firstWrong_b0  (σ : Sg) : Option (Int32 × Sg) :=
  Option.bind (lp (fun s => fX6_firstWrong_b27 s.1 s.2) FU ((0 : Int32), (wI (wI (wI (wI (wI σ 1 2 (0 : Int32)) 1 3 (0 : Int32)) 1 4 (0 : Int32)) 1 5 (0 : Int32)) 1 6 (0 : Int32)))) (el (fun t4 => some (t4.1, t4.2)) (fun t4 => some ((rI t4 1 1), t4)))
set_option maxRecDepth 4000 in
theorem bX6_firstWrong_b27 {K : KT} {x1 : Int32} {σ : Sg} {o : (Int32 × Sg) ⊕ (((Int32 × Sg) ⊕ (Sg)))} (C : Cx K layC cX6_firstWrong RX6 2 (3) (some .int))  (hI : ∀ s' : Int32 × Sg, o = .inl s' → G K 27 [some (.ref (kad K 1)), some (.int s'.1)] [] (Wd K layC s'.2)) (hE0 : ∀ t : Int32 × Sg, o = .inr (.inl t) → G K 48 [none, some (.int t.1)] [] (Wd K layC t.2)) (hE1 : ∀ t : Sg, o = .inr (.inr t) → G K 56 [some (.ref (kad K 1)), none] [] (Wd K layC t)) (h : fX6_firstWrong_b27 x1 σ = some o) : G K 27 [some (.ref (kad K 1)), some (.int x1)] [] (Wd K layC σ) := by
  unfold fX6_firstWrong_b27 at h
  refine g_iload_n C.c dX6_firstWrong_27 rfl (i := 1) rfl ?_
  refine g_aload_n C.c dX6_firstWrong_28 rfl (i := 0) rfl ?_
  refine gf_6_19 C dX6_firstWrong_29 ?_
  refine g_icmp_ge C.c (tgt := 56) dX6_firstWrong_32 (by decide) (fun c => ?_) (fun c => ?_)
  · replace h := ite_t c h
    have g9 := hE1 _ (Option.some.inj h).symm
    exact g_mask [true, false] rfl g9
  · replace h := ite_f c h
    refine g_aload_n C.c dX6_firstWrong_35 rfl (i := 0) rfl ?_
    refine g_aload_n C.c dX6_firstWrong_36 rfl (i := 0) rfl ?_
    refine gf_6_11 C dX6_firstWrong_37 ?_
    refine g_iload_n C.c dX6_firstWrong_40 rfl (i := 1) rfl ?_
    obtain ⟨c1, h⟩ := chk h
    refine g_iald C dX6_firstWrong_41 rfl c1 ?_
    obtain ⟨p2, e3, h⟩ := Option.bind_eq_some_iff.mp h
    refine kc_6_39 C dX6_firstWrong_42 e3 (Nat.le_of_ble_eq_true rfl) rfl (Nat.le_of_ble_eq_true rfl) ?_
    refine g_if_ne C.c (tgt := 50) dX6_firstWrong_45 (by decide) (fun c => ?_) (fun c => ?_)
    · replace h := ite_f c h
      refine g_iinc C.c (i := 1) (y := (1 : Int32)) (L' := [some (.ref (kad K 1)), some (.int (x1 + (1 : Int32)))]) dX6_firstWrong_50 rfl (by decide) (Nat.le_of_ble_eq_true rfl) rfl ?_
      refine g_goto C.c (tgt := 27) dX6_firstWrong_53 (by decide) ?_
      have g9 := hI _ (Option.some.inj h).symm
      exact g_mask [true, true] rfl g9
    · replace h := ite_t c h
      have g9 := hE0 _ (Option.some.inj h).symm
      exact g_mask [false, true] rfl g9
set_option maxRecDepth 4000 in
theorem bX6_firstWrong_b0 {K : KT}  {σ : Sg} {o : Int32 × Sg} (C : Cx K layC cX6_firstWrong RX6 2 (3) (some .int))  (hQ : Rk K layC (okI o)) (h : fX6_firstWrong_b0  σ = some o) : G K 0 [some (.ref (kad K 1)), none] [] (Wd K layC σ) := by
  unfold fX6_firstWrong_b0 at h
  refine g_aload_n C.c dX6_firstWrong_0 rfl (i := 0) rfl ?_
  refine g_iconst C.c dX6_firstWrong_1 (v := (0 : Int32)) (by decide) ?_
  refine pf_6_23 C dX6_firstWrong_2 ?_
  refine g_aload_n C.c dX6_firstWrong_5 rfl (i := 0) rfl ?_
  refine g_iconst C.c dX6_firstWrong_6 (v := (0 : Int32)) (by decide) ?_
  refine pf_6_26 C dX6_firstWrong_7 ?_
  refine g_aload_n C.c dX6_firstWrong_10 rfl (i := 0) rfl ?_
  refine g_iconst C.c dX6_firstWrong_11 (v := (0 : Int32)) (by decide) ?_
  refine pf_6_29 C dX6_firstWrong_12 ?_
  refine g_aload_n C.c dX6_firstWrong_15 rfl (i := 0) rfl ?_
  refine g_iconst C.c dX6_firstWrong_16 (v := (0 : Int32)) (by decide) ?_
  refine pf_6_32 C dX6_firstWrong_17 ?_
  refine g_aload_n C.c dX6_firstWrong_20 rfl (i := 0) rfl ?_
  refine g_iconst C.c dX6_firstWrong_21 (v := (0 : Int32)) (by decide) ?_
  refine pf_6_35 C (by decide) dX6_firstWrong_22 ?_
  refine g_iconst C.c dX6_firstWrong_25 (v := (0 : Int32)) (by decide) ?_
  refine g_istore_n C.c (i := 1) (L' := [some (.ref (kad K 1)), some (.int (0 : Int32))]) dX6_firstWrong_26 rfl (Nat.le_of_ble_eq_true rfl) rfl ?_
  refine g_mask [true, true] rfl ?_
  refine lp_bind (Gh := fun s => G K 27 [some (.ref (kad K 1)), some (.int s.1)] [] (Wd K layC s.2)) h (fun s o2 hf gI gE => ?_)
  refine bX6_firstWrong_b27 C gI (fun t4 e => ?_) (fun t4 e => ?_) hf
  · have h := el_l (gE _ e)
    refine g_iload_n C.c dX6_firstWrong_48 rfl (i := 1) rfl ?_
    obtain rfl := Option.some.inj h
    exact g_iret C hQ dX6_firstWrong_49 rfl ⟨rfl, rfl⟩
  · have h := el_r (gE _ e)
    refine g_aload_n C.c dX6_firstWrong_56 rfl (i := 0) rfl ?_
    refine gf_6_19 C dX6_firstWrong_57 ?_
    obtain rfl := Option.some.inj h
    exact g_iret C hQ dX6_firstWrong_60 rfl ⟨rfl, rfl⟩
def fX6_firstWrong (σ : Sg) : Option (Int32 × Sg) := fX6_firstWrong_b0 σ
theorem ct_X6_firstWrong {σ : Sg} {p : Int32 × Sg} (h : fX6_firstWrong σ = some p) : Ct layC yX6_firstWrong cX6_firstWrong 2 (some .int) 3 (fun ad => [.ref (ad 1)]) σ (okI p) :=
 ct_of (L0 := fun ad => [some (.ref (ad 1)), none]) (by decide) (fun _ => Nat.le_of_ble_eq_true rfl) (fun _ => rfl) (fun K C hQ => g_mask [true, false] rfl (bX6_firstWrong_b0 C hQ h))
-- X6_isSea
theorem dX6_isSea_0 : decode cX6_isSea 0 = .ok (.aload_n 0, 1) := by decide +kernel
theorem dX6_isSea_1 : decode cX6_isSea 1 = .ok (.invokevirtual 43, 3) := by decide +kernel
theorem dX6_isSea_4 : decode cX6_isSea 4 = .ok (.aload_n 0, 1) := by decide +kernel
theorem dX6_isSea_5 : decode cX6_isSea 5 = .ok (.getfield 19, 3) := by decide +kernel
theorem dX6_isSea_8 : decode cX6_isSea 8 = .ok (.if_icmp .ne 34, 3) := by decide +kernel
theorem dX6_isSea_11 : decode cX6_isSea 11 = .ok (.aload_n 0, 1) := by decide +kernel
theorem dX6_isSea_12 : decode cX6_isSea 12 = .ok (.getfield 23, 3) := by decide +kernel
theorem dX6_isSea_15 : decode cX6_isSea 15 = .ok (.iconst 1, 1) := by decide +kernel
theorem dX6_isSea_16 : decode cX6_isSea 16 = .ok (.if_icmp .lt 26, 3) := by decide +kernel
theorem dX6_isSea_19 : decode cX6_isSea 19 = .ok (.aload_n 0, 1) := by decide +kernel
theorem dX6_isSea_20 : decode cX6_isSea 20 = .ok (.getfield 26, 3) := by decide +kernel
theorem dX6_isSea_23 : decode cX6_isSea 23 = .ok (.aload_n 0, 1) := by decide +kernel
theorem dX6_isSea_24 : decode cX6_isSea 24 = .ok (.getfield 29, 3) := by decide +kernel
theorem dX6_isSea_27 : decode cX6_isSea 27 = .ok (.if_icmp .ne 15, 3) := by decide +kernel
theorem dX6_isSea_30 : decode cX6_isSea 30 = .ok (.aload_n 0, 1) := by decide +kernel
theorem dX6_isSea_31 : decode cX6_isSea 31 = .ok (.getfield 32, 3) := by decide +kernel
theorem dX6_isSea_34 : decode cX6_isSea 34 = .ok (.iconst 1, 1) := by decide +kernel
theorem dX6_isSea_35 : decode cX6_isSea 35 = .ok (.if_icmp .ne 7, 3) := by decide +kernel
theorem dX6_isSea_38 : decode cX6_isSea 38 = .ok (.iconst 1, 1) := by decide +kernel
theorem dX6_isSea_39 : decode cX6_isSea 39 = .ok (.goto 4, 3) := by decide +kernel
theorem dX6_isSea_42 : decode cX6_isSea 42 = .ok (.iconst 0, 1) := by decide +kernel
theorem dX6_isSea_43 : decode cX6_isSea 43 = .ok (.ireturn, 1) := by decide +kernel
theorem cw_X6_isSea : Cw yX6_isSea cX6_isSea 1 (some .boolean) 0 := ⟨aw_374, aw_20, ⟨by decide, by decide⟩, by decide +kernel, by decide⟩
theorem kc_6_43 {K : KT} {cc : ByteArray} {nL d pc : Nat} {ret : Option FieldType} {L : List (Option Value)} {st : List Value} {σ : Sg} (C : Cx K layC cc RX6 nL d ret)    {p : Int32 × Sg} (hd : decode cc pc = .ok (.invokevirtual 43, 3)) (e : fX6_firstWrong σ = some p) (hdd : 3 + 1 ≤ d) (hLn : L.length = nL) (hr : (st.map fun v => v.category).sum ≤ 8) (k : G K (pc + 3) L (.int p.1 :: st) (Wd K layC p.2)) : G K pc L (.ref (kad K 1) :: st) (Wd K layC σ) :=
  g_callV C (As := []) (rest := st) (o := 1) (ci := 6) hd (ct_X6_firstWrong e) cw_X6_firstWrong (Or.inl aw_375) aw_349 aw_350 rfl rfl rfl hdd hLn rfl rfl hr (fun v τ q => by obtain ⟨rfl, rfl⟩ := q; exact k)
def fX6_isSea_b0  (σ : Sg) : Option (Int32 × Sg) :=
  Option.bind (fX6_firstWrong σ) fun p1 => (if p1.1 = (rI p1.2 1 1) then (if (rI p1.2 1 2) < (1 : Int32) then (some ((0 : Int32), p1.2)) else (if (rI p1.2 1 3) = (rI p1.2 1 4) then (if (rI p1.2 1 5) = (1 : Int32) then (some ((1 : Int32), p1.2)) else (some ((0 : Int32), p1.2))) else (some ((0 : Int32), p1.2)))) else (some ((0 : Int32), p1.2)))
set_option maxRecDepth 4000 in
theorem bX6_isSea_b0 {K : KT}  {σ : Sg} {o : Int32 × Sg} (C : Cx K layC cX6_isSea RX6 1 (4) (some .boolean))  (hQ : Rk K layC (okI o)) (h : fX6_isSea_b0  σ = some o) : G K 0 [some (.ref (kad K 1))] [] (Wd K layC σ) := by
  unfold fX6_isSea_b0 at h
  refine g_aload_n C.c dX6_isSea_0 rfl (i := 0) rfl ?_
  obtain ⟨p1, e2, h⟩ := Option.bind_eq_some_iff.mp h
  refine kc_6_43 C dX6_isSea_1 e2 (Nat.le_of_ble_eq_true rfl) rfl (Nat.le_of_ble_eq_true rfl) ?_
  refine g_aload_n C.c dX6_isSea_4 rfl (i := 0) rfl ?_
  refine gf_6_19 C dX6_isSea_5 ?_
  refine g_icmp_ne C.c (tgt := 42) dX6_isSea_8 (by decide) (fun c => ?_) (fun c => ?_)
  · replace h := ite_f c h
    refine g_iconst C.c dX6_isSea_42 (v := (0 : Int32)) (by decide) ?_
    obtain rfl := Option.some.inj h
    exact g_iret C hQ dX6_isSea_43 rfl ⟨rfl, rfl⟩
  · replace h := ite_t c h
    refine g_aload_n C.c dX6_isSea_11 rfl (i := 0) rfl ?_
    refine gf_6_23 C dX6_isSea_12 ?_
    refine g_iconst C.c dX6_isSea_15 (v := (1 : Int32)) (by decide) ?_
    refine g_icmp_lt C.c (tgt := 42) dX6_isSea_16 (by decide) (fun c => ?_) (fun c => ?_)
    · replace h := ite_t c h
      refine g_iconst C.c dX6_isSea_42 (v := (0 : Int32)) (by decide) ?_
      obtain rfl := Option.some.inj h
      exact g_iret C hQ dX6_isSea_43 rfl ⟨rfl, rfl⟩
    · replace h := ite_f c h
      refine g_aload_n C.c dX6_isSea_19 rfl (i := 0) rfl ?_
      refine gf_6_26 C dX6_isSea_20 ?_
      refine g_aload_n C.c dX6_isSea_23 rfl (i := 0) rfl ?_
      refine gf_6_29 C dX6_isSea_24 ?_
      refine g_icmp_ne C.c (tgt := 42) dX6_isSea_27 (by decide) (fun c => ?_) (fun c => ?_)
      · replace h := ite_f c h
        refine g_iconst C.c dX6_isSea_42 (v := (0 : Int32)) (by decide) ?_
        obtain rfl := Option.some.inj h
        exact g_iret C hQ dX6_isSea_43 rfl ⟨rfl, rfl⟩
      · replace h := ite_t c h
        refine g_aload_n C.c dX6_isSea_30 rfl (i := 0) rfl ?_
        refine gf_6_32 C dX6_isSea_31 ?_
        refine g_iconst C.c dX6_isSea_34 (v := (1 : Int32)) (by decide) ?_
        refine g_icmp_ne C.c (tgt := 42) dX6_isSea_35 (by decide) (fun c => ?_) (fun c => ?_)
        · replace h := ite_f c h
          refine g_iconst C.c dX6_isSea_42 (v := (0 : Int32)) (by decide) ?_
          obtain rfl := Option.some.inj h
          exact g_iret C hQ dX6_isSea_43 rfl ⟨rfl, rfl⟩
        · replace h := ite_t c h
          refine g_iconst C.c dX6_isSea_38 (v := (1 : Int32)) (by decide) ?_
          refine g_goto C.c (tgt := 43) dX6_isSea_39 (by decide) ?_
          obtain rfl := Option.some.inj h
          exact g_iret C hQ dX6_isSea_43 rfl ⟨rfl, rfl⟩
def fX6_isSea (σ : Sg) : Option (Int32 × Sg) := fX6_isSea_b0 σ
theorem ct_X6_isSea {σ : Sg} {p : Int32 × Sg} (h : fX6_isSea σ = some p) : Ct layC yX6_isSea cX6_isSea 1 (some .boolean) 4 (fun ad => [.ref (ad 1)]) σ (okI p) :=
 ct_of (L0 := fun ad => [some (.ref (ad 1))]) (by decide) (fun _ => Nat.le_of_ble_eq_true rfl) (fun _ => rfl) (fun K C hQ => g_mask [true] rfl (bX6_isSea_b0 C hQ h))
-- X7_has
theorem dX7_has_0 : decode cX7_has 0 = .ok (.iload_n 1, 1) := by decide +kernel
theorem dX7_has_1 : decode cX7_has 1 = .ok (.ifCond .lt 15, 3) := by decide +kernel
theorem dX7_has_4 : decode cX7_has 4 = .ok (.iload_n 1, 1) := by decide +kernel
theorem dX7_has_5 : decode cX7_has 5 = .ok (.aload_n 0, 1) := by decide +kernel
theorem dX7_has_6 : decode cX7_has 6 = .ok (.getfield 29, 3) := by decide +kernel
theorem dX7_has_9 : decode cX7_has 9 = .ok (.if_icmp .ge 7, 3) := by decide +kernel
theorem dX7_has_12 : decode cX7_has 12 = .ok (.iconst 1, 1) := by decide +kernel
theorem dX7_has_13 : decode cX7_has 13 = .ok (.goto 4, 3) := by decide +kernel
theorem dX7_has_16 : decode cX7_has 16 = .ok (.iconst 0, 1) := by decide +kernel
theorem dX7_has_17 : decode cX7_has 17 = .ok (.ireturn, 1) := by decide +kernel
theorem cw_X7_has : Cw yX7_has cX7_has 2 (some .boolean) 1 := ⟨aw_425, aw_22, ⟨by decide, by decide⟩, by decide +kernel, by decide⟩
theorem gf_7_29 {K : KT} {cc : ByteArray} {nL d pc : Nat} {ret : Option FieldType} {L : List (Option Value)} {st : List Value} {σ : Sg} (C : Cx K layC cc RX7 nL d ret)  (hd : decode cc pc = .ok (.getfield 29, 3)) (k : G K (pc + 3) L (.int (rI σ 4 5) :: st) (Wd K layC σ)) : G K pc L (.ref (kad K 4) :: st) (Wd K layC σ) := g_get C (o := 4) (ci := 7) (k := 5) hd rfl rfl rfl (by decide) (Or.inl aw_95) inA7 rfl k
def fX7_has_b0 (x1 : Int32) (σ : Sg) : Option (Int32 × Sg) :=
  if x1 < 0 then (some ((0 : Int32), σ)) else (if (rI σ 4 5) ≤ x1 then (some ((0 : Int32), σ)) else (some ((1 : Int32), σ)))
set_option maxRecDepth 4000 in
theorem bX7_has_b0 {K : KT} {x1 : Int32} {σ : Sg} {o : Int32 × Sg} (C : Cx K layC cX7_has RX7 2 (1) (some .boolean))  (hQ : Rk K layC (okI o)) (h : fX7_has_b0 x1 σ = some o) : G K 0 [some (.ref (kad K 4)), some (.int x1)] [] (Wd K layC σ) := by
  unfold fX7_has_b0 at h
  refine g_iload_n C.c dX7_has_0 rfl (i := 1) rfl ?_
  refine g_if_lt C.c (tgt := 16) dX7_has_1 (by decide) (fun c => ?_) (fun c => ?_)
  · replace h := ite_t c h
    refine g_iconst C.c dX7_has_16 (v := (0 : Int32)) (by decide) ?_
    obtain rfl := Option.some.inj h
    exact g_iret C hQ dX7_has_17 rfl ⟨rfl, rfl⟩
  · replace h := ite_f c h
    refine g_iload_n C.c dX7_has_4 rfl (i := 1) rfl ?_
    refine g_aload_n C.c dX7_has_5 rfl (i := 0) rfl ?_
    refine gf_7_29 C dX7_has_6 ?_
    refine g_icmp_ge C.c (tgt := 16) dX7_has_9 (by decide) (fun c => ?_) (fun c => ?_)
    · replace h := ite_t c h
      refine g_iconst C.c dX7_has_16 (v := (0 : Int32)) (by decide) ?_
      obtain rfl := Option.some.inj h
      exact g_iret C hQ dX7_has_17 rfl ⟨rfl, rfl⟩
    · replace h := ite_f c h
      refine g_iconst C.c dX7_has_12 (v := (1 : Int32)) (by decide) ?_
      refine g_goto C.c (tgt := 17) dX7_has_13 (by decide) ?_
      obtain rfl := Option.some.inj h
      exact g_iret C hQ dX7_has_17 rfl ⟨rfl, rfl⟩
def fX7_has (a0 : Int32) (σ : Sg) : Option (Int32 × Sg) := fX7_has_b0 a0 σ
theorem ct_X7_has {a0 : Int32} {σ : Sg} {p : Int32 × Sg} (h : fX7_has a0 σ = some p) : Ct layC yX7_has cX7_has 2 (some .boolean) 1 (fun ad => [.ref (ad 4), .int a0]) σ (okI p) :=
 ct_of (L0 := fun ad => [some (.ref (ad 4)), some (.int a0)]) (by decide) (fun _ => Nat.le_of_ble_eq_true rfl) (fun _ => rfl) (fun K C hQ => g_mask [true, true] rfl (bX7_has_b0 C hQ h))
-- X7_hasWarmth
theorem dX7_hasWarmth_0 : decode cX7_hasWarmth 0 = .ok (.aload_n 0, 1) := by decide +kernel
theorem dX7_hasWarmth_1 : decode cX7_hasWarmth 1 = .ok (.iload_n 1, 1) := by decide +kernel
theorem dX7_hasWarmth_2 : decode cX7_hasWarmth 2 = .ok (.invokevirtual 33, 3) := by decide +kernel
theorem dX7_hasWarmth_5 : decode cX7_hasWarmth 5 = .ok (.ifCond .eq 18, 3) := by decide +kernel
theorem dX7_hasWarmth_8 : decode cX7_hasWarmth 8 = .ok (.aload_n 0, 1) := by decide +kernel
theorem dX7_hasWarmth_9 : decode cX7_hasWarmth 9 = .ok (.getfield 11, 3) := by decide +kernel
theorem dX7_hasWarmth_12 : decode cX7_hasWarmth 12 = .ok (.iload_n 1, 1) := by decide +kernel
theorem dX7_hasWarmth_13 : decode cX7_hasWarmth 13 = .ok (.iaload, 1) := by decide +kernel
theorem dX7_hasWarmth_14 : decode cX7_hasWarmth 14 = .ok (.bipush 10, 2) := by decide +kernel
theorem dX7_hasWarmth_16 : decode cX7_hasWarmth 16 = .ok (.if_icmp .ge 7, 3) := by decide +kernel
theorem dX7_hasWarmth_19 : decode cX7_hasWarmth 19 = .ok (.iconst 1, 1) := by decide +kernel
theorem dX7_hasWarmth_20 : decode cX7_hasWarmth 20 = .ok (.goto 4, 3) := by decide +kernel
theorem dX7_hasWarmth_23 : decode cX7_hasWarmth 23 = .ok (.iconst 0, 1) := by decide +kernel
theorem dX7_hasWarmth_24 : decode cX7_hasWarmth 24 = .ok (.ireturn, 1) := by decide +kernel
theorem cw_X7_hasWarmth : Cw yX7_hasWarmth cX7_hasWarmth 2 (some .boolean) 1 := ⟨aw_646, aw_22, ⟨by decide, by decide⟩, by decide +kernel, by decide⟩
theorem kc_7_33 {K : KT} {cc : ByteArray} {nL d pc : Nat} {ret : Option FieldType} {L : List (Option Value)} {st : List Value} {σ : Sg} (C : Cx K layC cc RX7 nL d ret)  {a0 : Int32}  {p : Int32 × Sg} (hd : decode cc pc = .ok (.invokevirtual 33, 3)) (e : fX7_has a0 σ = some p) (hdd : 1 + 1 ≤ d) (hLn : L.length = nL) (hr : (st.map fun v => v.category).sum ≤ 8) (k : G K (pc + 3) L (.int p.1 :: st) (Wd K layC p.2)) : G K pc L (.int a0 :: .ref (kad K 4) :: st) (Wd K layC σ) :=
  g_callV C (As := [.int a0]) (rest := st) (o := 4) (ci := 7) hd (ct_X7_has e) cw_X7_has (Or.inl aw_647) aw_423 aw_424 rfl rfl rfl hdd hLn rfl rfl hr (fun v τ q => by obtain ⟨rfl, rfl⟩ := q; exact k)
theorem gf_7_11 {K : KT} {cc : ByteArray} {nL d pc : Nat} {ret : Option FieldType} {L : List (Option Value)} {st : List Value} {σ : Sg} (C : Cx K layC cc RX7 nL d ret)  (hd : decode cc pc = .ok (.getfield 11, 3)) (k : G K (pc + 3) L (.ref (kad K 5) :: st) (Wd K layC σ)) : G K pc L (.ref (kad K 4) :: st) (Wd K layC σ) := g_get C (o := 4) (ci := 7) (k := 0) hd rfl rfl rfl (by decide) (Or.inl aw_83) inA7 rfl k
def fX7_hasWarmth_b0 (x1 : Int32) (σ : Sg) : Option (Int32 × Sg) :=
  Option.bind (fX7_has x1 σ) fun p1 => (if p1.1 = 0 then (some ((0 : Int32), p1.2)) else (if inb x1 30 = true then (if (10 : Int32) ≤ (rI p1.2 5 (x1).toNatClampNeg) then (some ((0 : Int32), p1.2)) else (some ((1 : Int32), p1.2))) else none))
set_option maxRecDepth 4000 in
theorem bX7_hasWarmth_b0 {K : KT} {x1 : Int32} {σ : Sg} {o : Int32 × Sg} (C : Cx K layC cX7_hasWarmth RX7 2 (2) (some .boolean))  (hQ : Rk K layC (okI o)) (h : fX7_hasWarmth_b0 x1 σ = some o) : G K 0 [some (.ref (kad K 4)), some (.int x1)] [] (Wd K layC σ) := by
  unfold fX7_hasWarmth_b0 at h
  refine g_aload_n C.c dX7_hasWarmth_0 rfl (i := 0) rfl ?_
  refine g_iload_n C.c dX7_hasWarmth_1 rfl (i := 1) rfl ?_
  obtain ⟨p1, e2, h⟩ := Option.bind_eq_some_iff.mp h
  refine kc_7_33 C dX7_hasWarmth_2 e2 (Nat.le_of_ble_eq_true rfl) rfl (Nat.le_of_ble_eq_true rfl) ?_
  refine g_if_eq C.c (tgt := 23) dX7_hasWarmth_5 (by decide) (fun c => ?_) (fun c => ?_)
  · replace h := ite_t c h
    refine g_iconst C.c dX7_hasWarmth_23 (v := (0 : Int32)) (by decide) ?_
    obtain rfl := Option.some.inj h
    exact g_iret C hQ dX7_hasWarmth_24 rfl ⟨rfl, rfl⟩
  · replace h := ite_f c h
    refine g_aload_n C.c dX7_hasWarmth_8 rfl (i := 0) rfl ?_
    refine gf_7_11 C dX7_hasWarmth_9 ?_
    refine g_iload_n C.c dX7_hasWarmth_12 rfl (i := 1) rfl ?_
    obtain ⟨c3, h⟩ := chk h
    refine g_iald C dX7_hasWarmth_13 rfl c3 ?_
    refine g_bipush C.c dX7_hasWarmth_14 (v := (10 : Int32)) (by decide) ?_
    refine g_icmp_ge C.c (tgt := 23) dX7_hasWarmth_16 (by decide) (fun c => ?_) (fun c => ?_)
    · replace h := ite_t c h
      refine g_iconst C.c dX7_hasWarmth_23 (v := (0 : Int32)) (by decide) ?_
      obtain rfl := Option.some.inj h
      exact g_iret C hQ dX7_hasWarmth_24 rfl ⟨rfl, rfl⟩
    · replace h := ite_f c h
      refine g_iconst C.c dX7_hasWarmth_19 (v := (1 : Int32)) (by decide) ?_
      refine g_goto C.c (tgt := 24) dX7_hasWarmth_20 (by decide) ?_
      obtain rfl := Option.some.inj h
      exact g_iret C hQ dX7_hasWarmth_24 rfl ⟨rfl, rfl⟩
def fX7_hasWarmth (a0 : Int32) (σ : Sg) : Option (Int32 × Sg) := fX7_hasWarmth_b0 a0 σ
theorem ct_X7_hasWarmth {a0 : Int32} {σ : Sg} {p : Int32 × Sg} (h : fX7_hasWarmth a0 σ = some p) : Ct layC yX7_hasWarmth cX7_hasWarmth 2 (some .boolean) 2 (fun ad => [.ref (ad 4), .int a0]) σ (okI p) :=
 ct_of (L0 := fun ad => [some (.ref (ad 4)), some (.int a0)]) (by decide) (fun _ => Nat.le_of_ble_eq_true rfl) (fun _ => rfl) (fun K C hQ => g_mask [true, true] rfl (bX7_hasWarmth_b0 C hQ h))
-- X7_layLetter
theorem dX7_layLetter_0 : decode cX7_layLetter 0 = .ok (.iload_n 1, 1) := by decide +kernel
theorem dX7_layLetter_1 : decode cX7_layLetter 1 = .ok (.invokestatic 61, 3) := by decide +kernel
theorem dX7_layLetter_4 : decode cX7_layLetter 4 = .ok (.istore_n 2, 1) := by decide +kernel
theorem dX7_layLetter_5 : decode cX7_layLetter 5 = .ok (.iload_n 1, 1) := by decide +kernel
theorem dX7_layLetter_6 : decode cX7_layLetter 6 = .ok (.bipush 47, 2) := by decide +kernel
theorem dX7_layLetter_8 : decode cX7_layLetter 8 = .ok (.if_icmp .ne 28, 3) := by decide +kernel
theorem dX7_layLetter_11 : decode cX7_layLetter 11 = .ok (.aload_n 0, 1) := by decide +kernel
theorem dX7_layLetter_12 : decode cX7_layLetter 12 = .ok (.aload_n 0, 1) := by decide +kernel
theorem dX7_layLetter_13 : decode cX7_layLetter 13 = .ok (.getfield 37, 3) := by decide +kernel
theorem dX7_layLetter_16 : decode cX7_layLetter 16 = .ok (.ifCond .ne 10, 3) := by decide +kernel
theorem dX7_layLetter_19 : decode cX7_layLetter 19 = .ok (.aload_n 0, 1) := by decide +kernel
theorem dX7_layLetter_20 : decode cX7_layLetter 20 = .ok (.getfield 29, 3) := by decide +kernel
theorem dX7_layLetter_23 : decode cX7_layLetter 23 = .ok (.goto 7, 3) := by decide +kernel
theorem dX7_layLetter_26 : decode cX7_layLetter 26 = .ok (.aload_n 0, 1) := by decide +kernel
theorem dX7_layLetter_27 : decode cX7_layLetter 27 = .ok (.getfield 37, 3) := by decide +kernel
theorem dX7_layLetter_30 : decode cX7_layLetter 30 = .ok (.putfield 37, 3) := by decide +kernel
theorem dX7_layLetter_33 : decode cX7_layLetter 33 = .ok (.goto 115, 3) := by decide +kernel
theorem dX7_layLetter_36 : decode cX7_layLetter 36 = .ok (.iload_n 2, 1) := by decide +kernel
theorem dX7_layLetter_37 : decode cX7_layLetter 37 = .ok (.iconst (-1), 1) := by decide +kernel
theorem dX7_layLetter_38 : decode cX7_layLetter 38 = .ok (.if_icmp .eq 25, 3) := by decide +kernel
theorem dX7_layLetter_41 : decode cX7_layLetter 41 = .ok (.aload_n 0, 1) := by decide +kernel
theorem dX7_layLetter_42 : decode cX7_layLetter 42 = .ok (.getfield 29, 3) := by decide +kernel
theorem dX7_layLetter_45 : decode cX7_layLetter 45 = .ok (.ifCond .le 103, 3) := by decide +kernel
theorem dX7_layLetter_48 : decode cX7_layLetter 48 = .ok (.aload_n 0, 1) := by decide +kernel
theorem dX7_layLetter_49 : decode cX7_layLetter 49 = .ok (.getfield 15, 3) := by decide +kernel
theorem dX7_layLetter_52 : decode cX7_layLetter 52 = .ok (.aload_n 0, 1) := by decide +kernel
theorem dX7_layLetter_53 : decode cX7_layLetter 53 = .ok (.getfield 29, 3) := by decide +kernel
theorem dX7_layLetter_56 : decode cX7_layLetter 56 = .ok (.iconst 1, 1) := by decide +kernel
theorem dX7_layLetter_57 : decode cX7_layLetter 57 = .ok (.isub, 1) := by decide +kernel
theorem dX7_layLetter_58 : decode cX7_layLetter 58 = .ok (.iload_n 2, 1) := by decide +kernel
theorem dX7_layLetter_59 : decode cX7_layLetter 59 = .ok (.iastore, 1) := by decide +kernel
theorem dX7_layLetter_60 : decode cX7_layLetter 60 = .ok (.goto 88, 3) := by decide +kernel
theorem dX7_layLetter_63 : decode cX7_layLetter 63 = .ok (.aload_n 0, 1) := by decide +kernel
theorem dX7_layLetter_64 : decode cX7_layLetter 64 = .ok (.getfield 29, 3) := by decide +kernel
theorem dX7_layLetter_67 : decode cX7_layLetter 67 = .ok (.bipush 30, 2) := by decide +kernel
theorem dX7_layLetter_69 : decode cX7_layLetter 69 = .ok (.if_icmp .ge 79, 3) := by decide +kernel
theorem dX7_layLetter_72 : decode cX7_layLetter 72 = .ok (.aload_n 0, 1) := by decide +kernel
theorem dX7_layLetter_73 : decode cX7_layLetter 73 = .ok (.getfield 11, 3) := by decide +kernel
theorem dX7_layLetter_76 : decode cX7_layLetter 76 = .ok (.aload_n 0, 1) := by decide +kernel
theorem dX7_layLetter_77 : decode cX7_layLetter 77 = .ok (.getfield 29, 3) := by decide +kernel
theorem dX7_layLetter_80 : decode cX7_layLetter 80 = .ok (.iload_n 1, 1) := by decide +kernel
theorem dX7_layLetter_81 : decode cX7_layLetter 81 = .ok (.bipush 35, 2) := by decide +kernel
theorem dX7_layLetter_83 : decode cX7_layLetter 83 = .ok (.if_icmp .ne 8, 3) := by decide +kernel
theorem dX7_layLetter_86 : decode cX7_layLetter 86 = .ok (.bipush 11, 2) := by decide +kernel
theorem dX7_layLetter_88 : decode cX7_layLetter 88 = .ok (.goto 18, 3) := by decide +kernel
theorem dX7_layLetter_91 : decode cX7_layLetter 91 = .ok (.iload_n 1, 1) := by decide +kernel
theorem dX7_layLetter_92 : decode cX7_layLetter 92 = .ok (.bipush 104, 2) := by decide +kernel
theorem dX7_layLetter_94 : decode cX7_layLetter 94 = .ok (.if_icmp .ne 8, 3) := by decide +kernel
theorem dX7_layLetter_97 : decode cX7_layLetter 97 = .ok (.bipush 10, 2) := by decide +kernel
theorem dX7_layLetter_99 : decode cX7_layLetter 99 = .ok (.goto 7, 3) := by decide +kernel
theorem dX7_layLetter_102 : decode cX7_layLetter 102 = .ok (.iload_n 1, 1) := by decide +kernel
theorem dX7_layLetter_103 : decode cX7_layLetter 103 = .ok (.bipush 48, 2) := by decide +kernel
theorem dX7_layLetter_105 : decode cX7_layLetter 105 = .ok (.isub, 1) := by decide +kernel
theorem dX7_layLetter_106 : decode cX7_layLetter 106 = .ok (.iastore, 1) := by decide +kernel
theorem dX7_layLetter_107 : decode cX7_layLetter 107 = .ok (.aload_n 0, 1) := by decide +kernel
theorem dX7_layLetter_108 : decode cX7_layLetter 108 = .ok (.getfield 15, 3) := by decide +kernel
theorem dX7_layLetter_111 : decode cX7_layLetter 111 = .ok (.aload_n 0, 1) := by decide +kernel
theorem dX7_layLetter_112 : decode cX7_layLetter 112 = .ok (.getfield 29, 3) := by decide +kernel
theorem dX7_layLetter_115 : decode cX7_layLetter 115 = .ok (.iconst (-1), 1) := by decide +kernel
theorem dX7_layLetter_116 : decode cX7_layLetter 116 = .ok (.iastore, 1) := by decide +kernel
theorem dX7_layLetter_117 : decode cX7_layLetter 117 = .ok (.aload_n 0, 1) := by decide +kernel
theorem dX7_layLetter_118 : decode cX7_layLetter 118 = .ok (.iload_n 1, 1) := by decide +kernel
theorem dX7_layLetter_119 : decode cX7_layLetter 119 = .ok (.bipush 104, 2) := by decide +kernel
theorem dX7_layLetter_121 : decode cX7_layLetter 121 = .ok (.if_icmp .ne 10, 3) := by decide +kernel
theorem dX7_layLetter_124 : decode cX7_layLetter 124 = .ok (.aload_n 0, 1) := by decide +kernel
theorem dX7_layLetter_125 : decode cX7_layLetter 125 = .ok (.getfield 29, 3) := by decide +kernel
theorem dX7_layLetter_128 : decode cX7_layLetter 128 = .ok (.goto 7, 3) := by decide +kernel
theorem dX7_layLetter_131 : decode cX7_layLetter 131 = .ok (.aload_n 0, 1) := by decide +kernel
theorem dX7_layLetter_132 : decode cX7_layLetter 132 = .ok (.getfield 64, 3) := by decide +kernel
theorem dX7_layLetter_135 : decode cX7_layLetter 135 = .ok (.putfield 64, 3) := by decide +kernel
theorem dX7_layLetter_138 : decode cX7_layLetter 138 = .ok (.aload_n 0, 1) := by decide +kernel
theorem dX7_layLetter_139 : decode cX7_layLetter 139 = .ok (.dup, 1) := by decide +kernel
theorem dX7_layLetter_140 : decode cX7_layLetter 140 = .ok (.getfield 29, 3) := by decide +kernel
theorem dX7_layLetter_143 : decode cX7_layLetter 143 = .ok (.iconst 1, 1) := by decide +kernel
theorem dX7_layLetter_144 : decode cX7_layLetter 144 = .ok (.iadd, 1) := by decide +kernel
theorem dX7_layLetter_145 : decode cX7_layLetter 145 = .ok (.putfield 29, 3) := by decide +kernel
theorem dX7_layLetter_148 : decode cX7_layLetter 148 = .ok (.return_, 1) := by decide +kernel
theorem cw_X7_layLetter : Cw yX7_layLetter cX7_layLetter 3 none 1 := ⟨aw_387, aw_22, ⟨by decide, by decide⟩, by decide +kernel, by decide⟩
theorem kc_7_61 {K : KT} {cc : ByteArray} {nL d pc : Nat} {ret : Option FieldType} {L : List (Option Value)} {st : List Value} {σ : Sg} (C : Cx K layC cc RX7 nL d ret)  {a0 : Int32}  {p : Int32 × Sg} (hd : decode cc pc = .ok (.invokestatic 61, 3)) (e : fX7_wayOf a0 σ = some p) (hdd : 1 + 1 ≤ d) (hLn : L.length = nL) (hr : (st.map fun v => v.category).sum ≤ 8) (k : G K (pc + 3) L (.int p.1 :: st) (Wd K layC p.2)) : G K pc L (.int a0 :: st) (Wd K layC σ) :=
  g_callS C (As := [.int a0]) (rest := st) hd (ct_X7_wayOf e) cw_X7_wayOf (Or.inl aw_388) aw_361 rfl rfl rfl hdd hLn hr (fun v τ q => by obtain ⟨rfl, rfl⟩ := q; exact k)
theorem gf_7_15 {K : KT} {cc : ByteArray} {nL d pc : Nat} {ret : Option FieldType} {L : List (Option Value)} {st : List Value} {σ : Sg} (C : Cx K layC cc RX7 nL d ret)  (hd : decode cc pc = .ok (.getfield 15, 3)) (k : G K (pc + 3) L (.ref (kad K 6) :: st) (Wd K layC σ)) : G K pc L (.ref (kad K 4) :: st) (Wd K layC σ) := g_get C (o := 4) (ci := 7) (k := 1) hd rfl rfl rfl (by decide) (Or.inl aw_86) inA7 rfl k
theorem gf_7_64 {K : KT} {cc : ByteArray} {nL d pc : Nat} {ret : Option FieldType} {L : List (Option Value)} {st : List Value} {σ : Sg} (C : Cx K layC cc RX7 nL d ret)  (hd : decode cc pc = .ok (.getfield 64, 3)) (k : G K (pc + 3) L (.int (rI σ 4 7) :: st) (Wd K layC σ)) : G K pc L (.ref (kad K 4) :: st) (Wd K layC σ) := g_get C (o := 4) (ci := 7) (k := 7) hd rfl rfl rfl (by decide) (Or.inl aw_99) inA7 rfl k
theorem pf_7_64 {K : KT} {cc : ByteArray} {nL d pc : Nat} {ret : Option FieldType} {L : List (Option Value)} {st : List Value} {σ : Sg} (C : Cx K layC cc RX7 nL d ret)  {v : Int32}  (hd : decode cc pc = .ok (.putfield 64, 3)) (k : G K (pc + 3) L st (Wd K layC (wI σ 4 7 v))) : G K pc L (.int v :: .ref (kad K 4) :: st) (Wd K layC σ) := g_putI C (o := 4) (ci := 7) (k := 7) hd rfl rfl rfl (by decide) (Or.inl aw_99) inA7 tyX7_ok nmX7 rfl rfl rfl k
theorem pf_7_29 {K : KT} {cc : ByteArray} {nL d pc : Nat} {ret : Option FieldType} {L : List (Option Value)} {st : List Value} {σ : Sg} (C : Cx K layC cc RX7 nL d ret)  {v : Int32}  (hd : decode cc pc = .ok (.putfield 29, 3)) (k : G K (pc + 3) L st (Wd K layC (wI σ 4 5 v))) : G K pc L (.int v :: .ref (kad K 4) :: st) (Wd K layC σ) := g_putI C (o := 4) (ci := 7) (k := 5) hd rfl rfl rfl (by decide) (Or.inl aw_95) inA7 tyX7_ok nmX7 rfl rfl rfl k
theorem gf_7_37 {K : KT} {cc : ByteArray} {nL d pc : Nat} {ret : Option FieldType} {L : List (Option Value)} {st : List Value} {σ : Sg} (C : Cx K layC cc RX7 nL d ret)  (hd : decode cc pc = .ok (.getfield 37, 3)) (k : G K (pc + 3) L (.int (rI σ 4 6) :: st) (Wd K layC σ)) : G K pc L (.ref (kad K 4) :: st) (Wd K layC σ) := g_get C (o := 4) (ci := 7) (k := 6) hd rfl rfl rfl (by decide) (Or.inl aw_97) inA7 rfl k
theorem pf_7_37 {K : KT} {cc : ByteArray} {nL d pc : Nat} {ret : Option FieldType} {L : List (Option Value)} {st : List Value} {σ : Sg} (C : Cx K layC cc RX7 nL d ret)  {v : Int32}  (hd : decode cc pc = .ok (.putfield 37, 3)) (k : G K (pc + 3) L st (Wd K layC (wI σ 4 6 v))) : G K pc L (.int v :: .ref (kad K 4) :: st) (Wd K layC σ) := g_putI C (o := 4) (ci := 7) (k := 6) hd rfl rfl rfl (by decide) (Or.inl aw_97) inA7 tyX7_ok nmX7 rfl rfl rfl k
def fX7_layLetter_b135 (y0 : Int32) (σ : Sg) : Option (Sg) :=
  some (wI (wI σ 4 7 y0) 4 5 ((rI (wI σ 4 7 y0) 4 5) + (1 : Int32)))
def fX7_layLetter_b106 (x1 : Int32) (y0 : Int32) (y1 : Int32) (σ : Sg) : Option (Sg) :=
  if inb y1 30 = true then (if inb (rI (wI σ 5 (y1).toNatClampNeg y0) 4 5) 30 = true then (if x1 = (104 : Int32) then (fX7_layLetter_b135 (rI (wI (wI σ 5 (y1).toNatClampNeg y0) 6 ((rI (wI σ 5 (y1).toNatClampNeg y0) 4 5)).toNatClampNeg (-1 : Int32)) 4 5) (wI (wI σ 5 (y1).toNatClampNeg y0) 6 ((rI (wI σ 5 (y1).toNatClampNeg y0) 4 5)).toNatClampNeg (-1 : Int32))) else (fX7_layLetter_b135 (rI (wI (wI σ 5 (y1).toNatClampNeg y0) 6 ((rI (wI σ 5 (y1).toNatClampNeg y0) 4 5)).toNatClampNeg (-1 : Int32)) 4 7) (wI (wI σ 5 (y1).toNatClampNeg y0) 6 ((rI (wI σ 5 (y1).toNatClampNeg y0) 4 5)).toNatClampNeg (-1 : Int32)))) else none) else none
def fX7_layLetter_b30 (y0 : Int32) (σ : Sg) : Option (Sg) :=
  some (wI σ 4 6 y0)
def fX7_layLetter_b0 (x1 : Int32) (σ : Sg) : Option (Sg) :=
  Option.bind (fX7_wayOf x1 σ) fun p1 => (if x1 = (47 : Int32) then (if (rI p1.2 4 6) = 0 then (fX7_layLetter_b30 (rI p1.2 4 5) p1.2) else (fX7_layLetter_b30 (rI p1.2 4 6) p1.2)) else (if p1.1 = (-1 : Int32) then (if (30 : Int32) ≤ (rI p1.2 4 5) then (some p1.2) else (if x1 = (35 : Int32) then (fX7_layLetter_b106 x1 (11 : Int32) (rI p1.2 4 5) p1.2) else (if x1 = (104 : Int32) then (fX7_layLetter_b106 x1 (10 : Int32) (rI p1.2 4 5) p1.2) else (fX7_layLetter_b106 x1 (x1 - (48 : Int32)) (rI p1.2 4 5) p1.2)))) else (if (rI p1.2 4 5) ≤ 0 then (some p1.2) else (if inb ((rI p1.2 4 5) - (1 : Int32)) 30 = true then (some (wI p1.2 6 (((rI p1.2 4 5) - (1 : Int32))).toNatClampNeg p1.1)) else none))))
set_option maxRecDepth 4000 in
theorem bX7_layLetter_b135 {K : KT} {y0 : Int32} {σ : Sg} {o : Sg} (C : Cx K layC cX7_layLetter RX7 3 (2) none)  (hQ : Rk K layC (okV o)) (h : fX7_layLetter_b135 y0 σ = some o) : G K 135 [some (.ref (kad K 4)), none, none] [.int y0, .ref (kad K 4)] (Wd K layC σ) := by
  unfold fX7_layLetter_b135 at h
  refine pf_7_64 C dX7_layLetter_135 ?_
  refine g_aload_n C.c dX7_layLetter_138 rfl (i := 0) rfl ?_
  refine g_dup C.c dX7_layLetter_139 rfl ?_
  refine gf_7_29 C dX7_layLetter_140 ?_
  refine g_iconst C.c dX7_layLetter_143 (v := (1 : Int32)) (by decide) ?_
  refine g_iadd C.c dX7_layLetter_144 ?_
  refine pf_7_29 C dX7_layLetter_145 ?_
  obtain rfl := Option.some.inj h
  exact g_vret C hQ dX7_layLetter_148 ⟨rfl, rfl⟩
set_option maxRecDepth 4000 in
theorem bX7_layLetter_b106 {K : KT} {x1 : Int32} {y0 : Int32} {y1 : Int32} {σ : Sg} {o : Sg} (C : Cx K layC cX7_layLetter RX7 3 (2) none)  (hQ : Rk K layC (okV o)) (h : fX7_layLetter_b106 x1 y0 y1 σ = some o) : G K 106 [some (.ref (kad K 4)), some (.int x1), none] [.int y0, .int y1, .ref (kad K 5)] (Wd K layC σ) := by
  unfold fX7_layLetter_b106 at h
  obtain ⟨c3, h⟩ := chk h
  refine g_iast C dX7_layLetter_106 rfl c3 ?_
  refine g_aload_n C.c dX7_layLetter_107 rfl (i := 0) rfl ?_
  refine gf_7_15 C dX7_layLetter_108 ?_
  refine g_aload_n C.c dX7_layLetter_111 rfl (i := 0) rfl ?_
  refine gf_7_29 C dX7_layLetter_112 ?_
  refine g_iconst C.c dX7_layLetter_115 (v := (-1 : Int32)) (by decide) ?_
  obtain ⟨c4, h⟩ := chk h
  refine g_iast C dX7_layLetter_116 rfl c4 ?_
  refine g_aload_n C.c dX7_layLetter_117 rfl (i := 0) rfl ?_
  refine g_iload_n C.c dX7_layLetter_118 rfl (i := 1) rfl ?_
  refine g_bipush C.c dX7_layLetter_119 (v := (104 : Int32)) (by decide) ?_
  refine g_icmp_ne C.c (tgt := 131) dX7_layLetter_121 (by decide) (fun c => ?_) (fun c => ?_)
  · replace h := ite_f c h
    refine g_aload_n C.c dX7_layLetter_131 rfl (i := 0) rfl ?_
    refine gf_7_64 C dX7_layLetter_132 ?_
    exact g_mask [true, false, false] rfl (bX7_layLetter_b135 C hQ h)
  · replace h := ite_t c h
    refine g_aload_n C.c dX7_layLetter_124 rfl (i := 0) rfl ?_
    refine gf_7_29 C dX7_layLetter_125 ?_
    refine g_goto C.c (tgt := 135) dX7_layLetter_128 (by decide) ?_
    exact g_mask [true, false, false] rfl (bX7_layLetter_b135 C hQ h)
set_option maxRecDepth 4000 in
theorem bX7_layLetter_b30 {K : KT} {y0 : Int32} {σ : Sg} {o : Sg} (C : Cx K layC cX7_layLetter RX7 3 (2) none)  (hQ : Rk K layC (okV o)) (h : fX7_layLetter_b30 y0 σ = some o) : G K 30 [none, none, none] [.int y0, .ref (kad K 4)] (Wd K layC σ) := by
  unfold fX7_layLetter_b30 at h
  refine pf_7_37 C dX7_layLetter_30 ?_
  refine g_goto C.c (tgt := 148) dX7_layLetter_33 (by decide) ?_
  obtain rfl := Option.some.inj h
  exact g_vret C hQ dX7_layLetter_148 ⟨rfl, rfl⟩
set_option maxRecDepth 4000 in
theorem bX7_layLetter_b0 {K : KT} {x1 : Int32} {σ : Sg} {o : Sg} (C : Cx K layC cX7_layLetter RX7 3 (2) none)  (hQ : Rk K layC (okV o)) (h : fX7_layLetter_b0 x1 σ = some o) : G K 0 [some (.ref (kad K 4)), some (.int x1), none] [] (Wd K layC σ) := by
  unfold fX7_layLetter_b0 at h
  refine g_iload_n C.c dX7_layLetter_0 rfl (i := 1) rfl ?_
  obtain ⟨p1, e2, h⟩ := Option.bind_eq_some_iff.mp h
  refine kc_7_61 C dX7_layLetter_1 e2 (Nat.le_of_ble_eq_true rfl) rfl (Nat.le_of_ble_eq_true rfl) ?_
  refine g_istore_n C.c (i := 2) (L' := [some (.ref (kad K 4)), some (.int x1), some (.int p1.1)]) dX7_layLetter_4 rfl (Nat.le_of_ble_eq_true rfl) rfl ?_
  refine g_iload_n C.c dX7_layLetter_5 rfl (i := 1) rfl ?_
  refine g_bipush C.c dX7_layLetter_6 (v := (47 : Int32)) (by decide) ?_
  refine g_icmp_ne C.c (tgt := 36) dX7_layLetter_8 (by decide) (fun c => ?_) (fun c => ?_)
  · replace h := ite_f c h
    refine g_iload_n C.c dX7_layLetter_36 rfl (i := 2) rfl ?_
    refine g_iconst C.c dX7_layLetter_37 (v := (-1 : Int32)) (by decide) ?_
    refine g_icmp_eq C.c (tgt := 63) dX7_layLetter_38 (by decide) (fun c => ?_) (fun c => ?_)
    · replace h := ite_t c h
      refine g_aload_n C.c dX7_layLetter_63 rfl (i := 0) rfl ?_
      refine gf_7_29 C dX7_layLetter_64 ?_
      refine g_bipush C.c dX7_layLetter_67 (v := (30 : Int32)) (by decide) ?_
      refine g_icmp_ge C.c (tgt := 148) dX7_layLetter_69 (by decide) (fun c => ?_) (fun c => ?_)
      · replace h := ite_t c h
        obtain rfl := Option.some.inj h
        exact g_vret C hQ dX7_layLetter_148 ⟨rfl, rfl⟩
      · replace h := ite_f c h
        refine g_aload_n C.c dX7_layLetter_72 rfl (i := 0) rfl ?_
        refine gf_7_11 C dX7_layLetter_73 ?_
        refine g_aload_n C.c dX7_layLetter_76 rfl (i := 0) rfl ?_
        refine gf_7_29 C dX7_layLetter_77 ?_
        refine g_iload_n C.c dX7_layLetter_80 rfl (i := 1) rfl ?_
        refine g_bipush C.c dX7_layLetter_81 (v := (35 : Int32)) (by decide) ?_
        refine g_icmp_ne C.c (tgt := 91) dX7_layLetter_83 (by decide) (fun c => ?_) (fun c => ?_)
        · replace h := ite_f c h
          refine g_iload_n C.c dX7_layLetter_91 rfl (i := 1) rfl ?_
          refine g_bipush C.c dX7_layLetter_92 (v := (104 : Int32)) (by decide) ?_
          refine g_icmp_ne C.c (tgt := 102) dX7_layLetter_94 (by decide) (fun c => ?_) (fun c => ?_)
          · replace h := ite_f c h
            refine g_iload_n C.c dX7_layLetter_102 rfl (i := 1) rfl ?_
            refine g_bipush C.c dX7_layLetter_103 (v := (48 : Int32)) (by decide) ?_
            refine g_isub C.c dX7_layLetter_105 ?_
            exact g_mask [true, true, false] rfl (bX7_layLetter_b106 C hQ h)
          · replace h := ite_t c h
            refine g_bipush C.c dX7_layLetter_97 (v := (10 : Int32)) (by decide) ?_
            refine g_goto C.c (tgt := 106) dX7_layLetter_99 (by decide) ?_
            exact g_mask [true, true, false] rfl (bX7_layLetter_b106 C hQ h)
        · replace h := ite_t c h
          refine g_bipush C.c dX7_layLetter_86 (v := (11 : Int32)) (by decide) ?_
          refine g_goto C.c (tgt := 106) dX7_layLetter_88 (by decide) ?_
          exact g_mask [true, true, false] rfl (bX7_layLetter_b106 C hQ h)
    · replace h := ite_f c h
      refine g_aload_n C.c dX7_layLetter_41 rfl (i := 0) rfl ?_
      refine gf_7_29 C dX7_layLetter_42 ?_
      refine g_if_le C.c (tgt := 148) dX7_layLetter_45 (by decide) (fun c => ?_) (fun c => ?_)
      · replace h := ite_t c h
        obtain rfl := Option.some.inj h
        exact g_vret C hQ dX7_layLetter_148 ⟨rfl, rfl⟩
      · replace h := ite_f c h
        refine g_aload_n C.c dX7_layLetter_48 rfl (i := 0) rfl ?_
        refine gf_7_15 C dX7_layLetter_49 ?_
        refine g_aload_n C.c dX7_layLetter_52 rfl (i := 0) rfl ?_
        refine gf_7_29 C dX7_layLetter_53 ?_
        refine g_iconst C.c dX7_layLetter_56 (v := (1 : Int32)) (by decide) ?_
        refine g_isub C.c dX7_layLetter_57 ?_
        refine g_iload_n C.c dX7_layLetter_58 rfl (i := 2) rfl ?_
        obtain ⟨c5, h⟩ := chk h
        refine g_iast C dX7_layLetter_59 rfl c5 ?_
        refine g_goto C.c (tgt := 148) dX7_layLetter_60 (by decide) ?_
        obtain rfl := Option.some.inj h
        exact g_vret C hQ dX7_layLetter_148 ⟨rfl, rfl⟩
  · replace h := ite_t c h
    refine g_aload_n C.c dX7_layLetter_11 rfl (i := 0) rfl ?_
    refine g_aload_n C.c dX7_layLetter_12 rfl (i := 0) rfl ?_
    refine gf_7_37 C dX7_layLetter_13 ?_
    refine g_if_ne C.c (tgt := 26) dX7_layLetter_16 (by decide) (fun c => ?_) (fun c => ?_)
    · replace h := ite_f c h
      refine g_aload_n C.c dX7_layLetter_26 rfl (i := 0) rfl ?_
      refine gf_7_37 C dX7_layLetter_27 ?_
      exact g_mask [false, false, false] rfl (bX7_layLetter_b30 C hQ h)
    · replace h := ite_t c h
      refine g_aload_n C.c dX7_layLetter_19 rfl (i := 0) rfl ?_
      refine gf_7_29 C dX7_layLetter_20 ?_
      refine g_goto C.c (tgt := 30) dX7_layLetter_23 (by decide) ?_
      exact g_mask [false, false, false] rfl (bX7_layLetter_b30 C hQ h)
def fX7_layLetter (a0 : Int32) (σ : Sg) : Option (Sg) := fX7_layLetter_b0 a0 σ
theorem ct_X7_layLetter {a0 : Int32} {σ : Sg} {p : Sg} (h : fX7_layLetter a0 σ = some p) : Ct layC yX7_layLetter cX7_layLetter 3 none 2 (fun ad => [.ref (ad 4), .int a0]) σ (okV p) :=
 ct_of (L0 := fun ad => [some (.ref (ad 4)), some (.int a0), none]) (by decide) (fun _ => Nat.le_of_ble_eq_true rfl) (fun _ => rfl) (fun K C hQ => g_mask [true, true, false] rfl (bX7_layLetter_b0 C hQ h))
-- X7_measure
theorem dX7_measure_0 : decode cX7_measure 0 = .ok (.aload_n 0, 1) := by decide +kernel
theorem dX7_measure_1 : decode cX7_measure 1 = .ok (.getfield 37, 3) := by decide +kernel
theorem dX7_measure_4 : decode cX7_measure 4 = .ok (.ifCond .ne 4, 3) := by decide +kernel
theorem dX7_measure_7 : decode cX7_measure 7 = .ok (.return_, 1) := by decide +kernel
theorem dX7_measure_8 : decode cX7_measure 8 = .ok (.iconst 0, 1) := by decide +kernel
theorem dX7_measure_9 : decode cX7_measure 9 = .ok (.istore_n 1, 1) := by decide +kernel
theorem dX7_measure_10 : decode cX7_measure 10 = .ok (.iload_n 1, 1) := by decide +kernel
theorem dX7_measure_11 : decode cX7_measure 11 = .ok (.aload_n 0, 1) := by decide +kernel
theorem dX7_measure_12 : decode cX7_measure 12 = .ok (.getfield 29, 3) := by decide +kernel
theorem dX7_measure_15 : decode cX7_measure 15 = .ok (.if_icmp .ge 58, 3) := by decide +kernel
theorem dX7_measure_18 : decode cX7_measure 18 = .ok (.iload_n 1, 1) := by decide +kernel
theorem dX7_measure_19 : decode cX7_measure 19 = .ok (.aload_n 0, 1) := by decide +kernel
theorem dX7_measure_20 : decode cX7_measure 20 = .ok (.getfield 37, 3) := by decide +kernel
theorem dX7_measure_23 : decode cX7_measure 23 = .ok (.idiv, 1) := by decide +kernel
theorem dX7_measure_24 : decode cX7_measure 24 = .ok (.aload_n 0, 1) := by decide +kernel
theorem dX7_measure_25 : decode cX7_measure 25 = .ok (.getfield 64, 3) := by decide +kernel
theorem dX7_measure_28 : decode cX7_measure 28 = .ok (.aload_n 0, 1) := by decide +kernel
theorem dX7_measure_29 : decode cX7_measure 29 = .ok (.getfield 37, 3) := by decide +kernel
theorem dX7_measure_32 : decode cX7_measure 32 = .ok (.idiv, 1) := by decide +kernel
theorem dX7_measure_33 : decode cX7_measure 33 = .ok (.isub, 1) := by decide +kernel
theorem dX7_measure_34 : decode cX7_measure 34 = .ok (.invokestatic 67, 3) := by decide +kernel
theorem dX7_measure_37 : decode cX7_measure 37 = .ok (.istore_n 2, 1) := by decide +kernel
theorem dX7_measure_38 : decode cX7_measure 38 = .ok (.iload_n 1, 1) := by decide +kernel
theorem dX7_measure_39 : decode cX7_measure 39 = .ok (.aload_n 0, 1) := by decide +kernel
theorem dX7_measure_40 : decode cX7_measure 40 = .ok (.getfield 37, 3) := by decide +kernel
theorem dX7_measure_43 : decode cX7_measure 43 = .ok (.irem, 1) := by decide +kernel
theorem dX7_measure_44 : decode cX7_measure 44 = .ok (.aload_n 0, 1) := by decide +kernel
theorem dX7_measure_45 : decode cX7_measure 45 = .ok (.getfield 64, 3) := by decide +kernel
theorem dX7_measure_48 : decode cX7_measure 48 = .ok (.aload_n 0, 1) := by decide +kernel
theorem dX7_measure_49 : decode cX7_measure 49 = .ok (.getfield 37, 3) := by decide +kernel
theorem dX7_measure_52 : decode cX7_measure 52 = .ok (.irem, 1) := by decide +kernel
theorem dX7_measure_53 : decode cX7_measure 53 = .ok (.isub, 1) := by decide +kernel
theorem dX7_measure_54 : decode cX7_measure 54 = .ok (.invokestatic 67, 3) := by decide +kernel
theorem dX7_measure_57 : decode cX7_measure 57 = .ok (.istore_n 3, 1) := by decide +kernel
theorem dX7_measure_58 : decode cX7_measure 58 = .ok (.aload_n 0, 1) := by decide +kernel
theorem dX7_measure_59 : decode cX7_measure 59 = .ok (.getfield 18, 3) := by decide +kernel
theorem dX7_measure_62 : decode cX7_measure 62 = .ok (.iload_n 1, 1) := by decide +kernel
theorem dX7_measure_63 : decode cX7_measure 63 = .ok (.iload_n 2, 1) := by decide +kernel
theorem dX7_measure_64 : decode cX7_measure 64 = .ok (.iload_n 3, 1) := by decide +kernel
theorem dX7_measure_65 : decode cX7_measure 65 = .ok (.iadd, 1) := by decide +kernel
theorem dX7_measure_66 : decode cX7_measure 66 = .ok (.iastore, 1) := by decide +kernel
theorem dX7_measure_67 : decode cX7_measure 67 = .ok (.iinc 1 1, 3) := by decide +kernel
theorem dX7_measure_70 : decode cX7_measure 70 = .ok (.goto (-60), 3) := by decide +kernel
theorem dX7_measure_73 : decode cX7_measure 73 = .ok (.return_, 1) := by decide +kernel
theorem cw_X7_measure : Cw yX7_measure cX7_measure 4 none 0 := ⟨aw_392, aw_22, ⟨by decide, by decide⟩, by decide +kernel, by decide⟩
theorem gf_7_18 {K : KT} {cc : ByteArray} {nL d pc : Nat} {ret : Option FieldType} {L : List (Option Value)} {st : List Value} {σ : Sg} (C : Cx K layC cc RX7 nL d ret)  (hd : decode cc pc = .ok (.getfield 18, 3)) (k : G K (pc + 3) L (.ref (kad K 7) :: st) (Wd K layC σ)) : G K pc L (.ref (kad K 4) :: st) (Wd K layC σ) := g_get C (o := 4) (ci := 7) (k := 2) hd rfl rfl rfl (by decide) (Or.inl aw_89) inA7 rfl k
def fX7_measure_b10 (x1 : Int32) (σ : Sg) : Option ((Int32 × Sg) ⊕ ((Sg))) :=
  if (rI σ 4 5) ≤ x1 then (some (.inr σ)) else (if (rI σ 4 6) = 0 then none else if (rI σ 4 6) = 0 then none else if (rI σ 4 6) = 0 then none else if (rI σ 4 6) = 0 then none else if inb x1 30 = true then (some (.inl ((x1 + (1 : Int32)), (wI σ 7 (x1).toNatClampNeg ((iabs ((x1 / (rI σ 4 6)) - ((rI σ 4 7) / (rI σ 4 6)))) + (iabs ((x1 - x1 / (rI σ 4 6) * (rI σ 4 6)) - ((rI σ 4 7) - (rI σ 4 7) / (rI σ 4 6) * (rI σ 4 6))))))))) else none)
def fX7_measure_b0  (σ : Sg) : Option (Sg) :=
  if (rI σ 4 6) = 0 then (some σ) else (Option.bind (lp (fun s => fX7_measure_b10 s.1 s.2) FU ((0 : Int32), σ)) fun t6 => some t6)
set_option maxRecDepth 4000 in
theorem bX7_measure_b10 {K : KT} {x1 : Int32} {σ : Sg} {o : (Int32 × Sg) ⊕ ((Sg))} (C : Cx K layC cX7_measure RX7 4 (1) none)  (hI : ∀ s' : Int32 × Sg, o = .inl s' → G K 10 [some (.ref (kad K 4)), some (.int s'.1), none, none] [] (Wd K layC s'.2)) (hE0 : ∀ t : Sg, o = .inr t → G K 73 [none, none, none, none] [] (Wd K layC t)) (h : fX7_measure_b10 x1 σ = some o) : G K 10 [some (.ref (kad K 4)), some (.int x1), none, none] [] (Wd K layC σ) := by
  unfold fX7_measure_b10 at h
  refine g_iload_n C.c dX7_measure_10 rfl (i := 1) rfl ?_
  refine g_aload_n C.c dX7_measure_11 rfl (i := 0) rfl ?_
  refine gf_7_29 C dX7_measure_12 ?_
  refine g_icmp_ge C.c (tgt := 73) dX7_measure_15 (by decide) (fun c => ?_) (fun c => ?_)
  · replace h := ite_t c h
    have g9 := hE0 _ (Option.some.inj h).symm
    exact g_mask [false, false, false, false] rfl g9
  · replace h := ite_f c h
    refine g_iload_n C.c dX7_measure_18 rfl (i := 1) rfl ?_
    refine g_aload_n C.c dX7_measure_19 rfl (i := 0) rfl ?_
    refine gf_7_37 C dX7_measure_20 ?_
    obtain ⟨c1, h⟩ := chk0 h
    refine g_idiv C.c dX7_measure_23 c1 ?_
    refine g_aload_n C.c dX7_measure_24 rfl (i := 0) rfl ?_
    refine gf_7_64 C dX7_measure_25 ?_
    refine g_aload_n C.c dX7_measure_28 rfl (i := 0) rfl ?_
    refine gf_7_37 C dX7_measure_29 ?_
    obtain ⟨c2, h⟩ := chk0 h
    refine g_idiv C.c dX7_measure_32 c2 ?_
    refine g_isub C.c dX7_measure_33 ?_
    refine g_abs C.c dX7_measure_34 aw_393 aw_394 aw_29 aw_395 rfl (Nat.le_of_ble_eq_true rfl) (Nat.le_of_ble_eq_true rfl) ?_
    refine g_istore_n C.c (i := 2) (L' := [some (.ref (kad K 4)), some (.int x1), some (.int (iabs ((x1 / (rI σ 4 6)) - ((rI σ 4 7) / (rI σ 4 6))))), none]) dX7_measure_37 rfl (Nat.le_of_ble_eq_true rfl) rfl ?_
    refine g_iload_n C.c dX7_measure_38 rfl (i := 1) rfl ?_
    refine g_aload_n C.c dX7_measure_39 rfl (i := 0) rfl ?_
    refine gf_7_37 C dX7_measure_40 ?_
    obtain ⟨c3, h⟩ := chk0 h
    refine g_irem C.c dX7_measure_43 c3 ?_
    refine g_aload_n C.c dX7_measure_44 rfl (i := 0) rfl ?_
    refine gf_7_64 C dX7_measure_45 ?_
    refine g_aload_n C.c dX7_measure_48 rfl (i := 0) rfl ?_
    refine gf_7_37 C dX7_measure_49 ?_
    obtain ⟨c4, h⟩ := chk0 h
    refine g_irem C.c dX7_measure_52 c4 ?_
    refine g_isub C.c dX7_measure_53 ?_
    refine g_abs C.c dX7_measure_54 aw_393 aw_394 aw_29 aw_395 rfl (Nat.le_of_ble_eq_true rfl) (Nat.le_of_ble_eq_true rfl) ?_
    refine g_istore_n C.c (i := 3) (L' := [some (.ref (kad K 4)), some (.int x1), some (.int (iabs ((x1 / (rI σ 4 6)) - ((rI σ 4 7) / (rI σ 4 6))))), some (.int (iabs ((x1 - x1 / (rI σ 4 6) * (rI σ 4 6)) - ((rI σ 4 7) - (rI σ 4 7) / (rI σ 4 6) * (rI σ 4 6)))))]) dX7_measure_57 rfl (Nat.le_of_ble_eq_true rfl) rfl ?_
    refine g_aload_n C.c dX7_measure_58 rfl (i := 0) rfl ?_
    refine gf_7_18 C dX7_measure_59 ?_
    refine g_iload_n C.c dX7_measure_62 rfl (i := 1) rfl ?_
    refine g_iload_n C.c dX7_measure_63 rfl (i := 2) rfl ?_
    refine g_iload_n C.c dX7_measure_64 rfl (i := 3) rfl ?_
    refine g_iadd C.c dX7_measure_65 ?_
    obtain ⟨c5, h⟩ := chk h
    refine g_iast C dX7_measure_66 rfl c5 ?_
    refine g_iinc C.c (i := 1) (y := (1 : Int32)) (L' := [some (.ref (kad K 4)), some (.int (x1 + (1 : Int32))), some (.int (iabs ((x1 / (rI σ 4 6)) - ((rI σ 4 7) / (rI σ 4 6))))), some (.int (iabs ((x1 - x1 / (rI σ 4 6) * (rI σ 4 6)) - ((rI σ 4 7) - (rI σ 4 7) / (rI σ 4 6) * (rI σ 4 6)))))]) dX7_measure_67 rfl (by decide) (Nat.le_of_ble_eq_true rfl) rfl ?_
    refine g_goto C.c (tgt := 10) dX7_measure_70 (by decide) ?_
    have g9 := hI _ (Option.some.inj h).symm
    exact g_mask [true, true, false, false] rfl g9
set_option maxRecDepth 4000 in
theorem bX7_measure_b0 {K : KT}  {σ : Sg} {o : Sg} (C : Cx K layC cX7_measure RX7 4 (1) none)  (hQ : Rk K layC (okV o)) (h : fX7_measure_b0  σ = some o) : G K 0 [some (.ref (kad K 4)), none, none, none] [] (Wd K layC σ) := by
  unfold fX7_measure_b0 at h
  refine g_aload_n C.c dX7_measure_0 rfl (i := 0) rfl ?_
  refine gf_7_37 C dX7_measure_1 ?_
  refine g_if_ne C.c (tgt := 8) dX7_measure_4 (by decide) (fun c => ?_) (fun c => ?_)
  · replace h := ite_f c h
    refine g_iconst C.c dX7_measure_8 (v := (0 : Int32)) (by decide) ?_
    refine g_istore_n C.c (i := 1) (L' := [some (.ref (kad K 4)), some (.int (0 : Int32)), none, none]) dX7_measure_9 rfl (Nat.le_of_ble_eq_true rfl) rfl ?_
    refine g_mask [true, true, false, false] rfl ?_
    refine lp_bind (Gh := fun s => G K 10 [some (.ref (kad K 4)), some (.int s.1), none, none] [] (Wd K layC s.2)) h (fun s o2 hf gI gE => ?_)
    refine bX7_measure_b10 C gI (fun t6 e => ?_) hf
    · have h := gE _ e
      obtain rfl := Option.some.inj h
      exact g_vret C hQ dX7_measure_73 ⟨rfl, rfl⟩
  · replace h := ite_t c h
    obtain rfl := Option.some.inj h
    exact g_vret C hQ dX7_measure_7 ⟨rfl, rfl⟩
def fX7_measure (σ : Sg) : Option (Sg) := fX7_measure_b0 σ
theorem ct_X7_measure {σ : Sg} {p : Sg} (h : fX7_measure σ = some p) : Ct layC yX7_measure cX7_measure 4 none 1 (fun ad => [.ref (ad 4)]) σ (okV p) :=
 ct_of (L0 := fun ad => [some (.ref (ad 4)), none, none, none]) (by decide) (fun _ => Nat.le_of_ble_eq_true rfl) (fun _ => rfl) (fun K C hQ => g_mask [true, false, false, false] rfl (bX7_measure_b0 C hQ h))
-- X7_beside
theorem dX7_beside_0 : decode cX7_beside 0 = .ok (.aload_n 0, 1) := by decide +kernel
theorem dX7_beside_1 : decode cX7_beside 1 = .ok (.getfield 37, 3) := by decide +kernel
theorem dX7_beside_4 : decode cX7_beside 4 = .ok (.ifCond .ne 5, 3) := by decide +kernel
theorem dX7_beside_7 : decode cX7_beside 7 = .ok (.iconst (-1), 1) := by decide +kernel
theorem dX7_beside_8 : decode cX7_beside 8 = .ok (.ireturn, 1) := by decide +kernel
theorem dX7_beside_9 : decode cX7_beside 9 = .ok (.iload_n 1, 1) := by decide +kernel
theorem dX7_beside_10 : decode cX7_beside 10 = .ok (.aload_n 0, 1) := by decide +kernel
theorem dX7_beside_11 : decode cX7_beside 11 = .ok (.getfield 37, 3) := by decide +kernel
theorem dX7_beside_14 : decode cX7_beside 14 = .ok (.irem, 1) := by decide +kernel
theorem dX7_beside_15 : decode cX7_beside 15 = .ok (.istore_n 3, 1) := by decide +kernel
theorem dX7_beside_16 : decode cX7_beside 16 = .ok (.iload_n 2, 1) := by decide +kernel
theorem dX7_beside_17 : decode cX7_beside 17 = .ok (.tableswitch 88 0 2 #[27, 46, 64], 27) := by decide +kernel
theorem dX7_beside_44 : decode cX7_beside 44 = .ok (.iload_n 1, 1) := by decide +kernel
theorem dX7_beside_45 : decode cX7_beside 45 = .ok (.aload_n 0, 1) := by decide +kernel
theorem dX7_beside_46 : decode cX7_beside 46 = .ok (.getfield 37, 3) := by decide +kernel
theorem dX7_beside_49 : decode cX7_beside 49 = .ok (.if_icmp .lt 12, 3) := by decide +kernel
theorem dX7_beside_52 : decode cX7_beside 52 = .ok (.iload_n 1, 1) := by decide +kernel
theorem dX7_beside_53 : decode cX7_beside 53 = .ok (.aload_n 0, 1) := by decide +kernel
theorem dX7_beside_54 : decode cX7_beside 54 = .ok (.getfield 37, 3) := by decide +kernel
theorem dX7_beside_57 : decode cX7_beside 57 = .ok (.isub, 1) := by decide +kernel
theorem dX7_beside_58 : decode cX7_beside 58 = .ok (.goto 4, 3) := by decide +kernel
theorem dX7_beside_61 : decode cX7_beside 61 = .ok (.iconst (-1), 1) := by decide +kernel
theorem dX7_beside_62 : decode cX7_beside 62 = .ok (.ireturn, 1) := by decide +kernel
theorem dX7_beside_63 : decode cX7_beside 63 = .ok (.iload_n 3, 1) := by decide +kernel
theorem dX7_beside_64 : decode cX7_beside 64 = .ok (.iconst 1, 1) := by decide +kernel
theorem dX7_beside_65 : decode cX7_beside 65 = .ok (.iadd, 1) := by decide +kernel
theorem dX7_beside_66 : decode cX7_beside 66 = .ok (.aload_n 0, 1) := by decide +kernel
theorem dX7_beside_67 : decode cX7_beside 67 = .ok (.getfield 37, 3) := by decide +kernel
theorem dX7_beside_70 : decode cX7_beside 70 = .ok (.if_icmp .ge 9, 3) := by decide +kernel
theorem dX7_beside_73 : decode cX7_beside 73 = .ok (.iload_n 1, 1) := by decide +kernel
theorem dX7_beside_74 : decode cX7_beside 74 = .ok (.iconst 1, 1) := by decide +kernel
theorem dX7_beside_75 : decode cX7_beside 75 = .ok (.iadd, 1) := by decide +kernel
theorem dX7_beside_76 : decode cX7_beside 76 = .ok (.goto 4, 3) := by decide +kernel
theorem dX7_beside_79 : decode cX7_beside 79 = .ok (.iconst (-1), 1) := by decide +kernel
theorem dX7_beside_80 : decode cX7_beside 80 = .ok (.ireturn, 1) := by decide +kernel
theorem dX7_beside_81 : decode cX7_beside 81 = .ok (.iload_n 1, 1) := by decide +kernel
theorem dX7_beside_82 : decode cX7_beside 82 = .ok (.aload_n 0, 1) := by decide +kernel
theorem dX7_beside_83 : decode cX7_beside 83 = .ok (.getfield 37, 3) := by decide +kernel
theorem dX7_beside_86 : decode cX7_beside 86 = .ok (.iadd, 1) := by decide +kernel
theorem dX7_beside_87 : decode cX7_beside 87 = .ok (.aload_n 0, 1) := by decide +kernel
theorem dX7_beside_88 : decode cX7_beside 88 = .ok (.getfield 29, 3) := by decide +kernel
theorem dX7_beside_91 : decode cX7_beside 91 = .ok (.if_icmp .ge 12, 3) := by decide +kernel
theorem dX7_beside_94 : decode cX7_beside 94 = .ok (.iload_n 1, 1) := by decide +kernel
theorem dX7_beside_95 : decode cX7_beside 95 = .ok (.aload_n 0, 1) := by decide +kernel
theorem dX7_beside_96 : decode cX7_beside 96 = .ok (.getfield 37, 3) := by decide +kernel
theorem dX7_beside_99 : decode cX7_beside 99 = .ok (.iadd, 1) := by decide +kernel
theorem dX7_beside_100 : decode cX7_beside 100 = .ok (.goto 4, 3) := by decide +kernel
theorem dX7_beside_103 : decode cX7_beside 103 = .ok (.iconst (-1), 1) := by decide +kernel
theorem dX7_beside_104 : decode cX7_beside 104 = .ok (.ireturn, 1) := by decide +kernel
theorem dX7_beside_105 : decode cX7_beside 105 = .ok (.iload_n 3, 1) := by decide +kernel
theorem dX7_beside_106 : decode cX7_beside 106 = .ok (.ifCond .le 9, 3) := by decide +kernel
theorem dX7_beside_109 : decode cX7_beside 109 = .ok (.iload_n 1, 1) := by decide +kernel
theorem dX7_beside_110 : decode cX7_beside 110 = .ok (.iconst 1, 1) := by decide +kernel
theorem dX7_beside_111 : decode cX7_beside 111 = .ok (.isub, 1) := by decide +kernel
theorem dX7_beside_112 : decode cX7_beside 112 = .ok (.goto 4, 3) := by decide +kernel
theorem dX7_beside_115 : decode cX7_beside 115 = .ok (.iconst (-1), 1) := by decide +kernel
theorem dX7_beside_116 : decode cX7_beside 116 = .ok (.ireturn, 1) := by decide +kernel
theorem cw_X7_beside : Cw yX7_beside cX7_beside 4 (some .int) 2 := ⟨aw_403, aw_22, ⟨by decide, by decide⟩, by decide +kernel, by decide⟩
def fX7_beside_b0 (x1 : Int32) (x2 : Int32) (σ : Sg) : Option (Int32 × Sg) :=
  if (rI σ 4 6) = 0 then (some ((-1 : Int32), σ)) else (if (rI σ 4 6) = 0 then none else if x2 = (0 : Int32) then (if x1 < (rI σ 4 6) then (some ((-1 : Int32), σ)) else (some ((x1 - (rI σ 4 6)), σ))) else (if x2 = (1 : Int32) then (if (rI σ 4 6) ≤ ((x1 - x1 / (rI σ 4 6) * (rI σ 4 6)) + (1 : Int32)) then (some ((-1 : Int32), σ)) else (some ((x1 + (1 : Int32)), σ))) else (if x2 = (2 : Int32) then (if (rI σ 4 5) ≤ (x1 + (rI σ 4 6)) then (some ((-1 : Int32), σ)) else (some ((x1 + (rI σ 4 6)), σ))) else (if (x1 - x1 / (rI σ 4 6) * (rI σ 4 6)) ≤ 0 then (some ((-1 : Int32), σ)) else (some ((x1 - (1 : Int32)), σ))))))
set_option maxRecDepth 4000 in
theorem bX7_beside_b0 {K : KT} {x1 : Int32} {x2 : Int32} {σ : Sg} {o : Int32 × Sg} (C : Cx K layC cX7_beside RX7 4 (1) (some .int))  (hQ : Rk K layC (okI o)) (h : fX7_beside_b0 x1 x2 σ = some o) : G K 0 [some (.ref (kad K 4)), some (.int x1), some (.int x2), none] [] (Wd K layC σ) := by
  unfold fX7_beside_b0 at h
  refine g_aload_n C.c dX7_beside_0 rfl (i := 0) rfl ?_
  refine gf_7_37 C dX7_beside_1 ?_
  refine g_if_ne C.c (tgt := 9) dX7_beside_4 (by decide) (fun c => ?_) (fun c => ?_)
  · replace h := ite_f c h
    refine g_iload_n C.c dX7_beside_9 rfl (i := 1) rfl ?_
    refine g_aload_n C.c dX7_beside_10 rfl (i := 0) rfl ?_
    refine gf_7_37 C dX7_beside_11 ?_
    obtain ⟨c1, h⟩ := chk0 h
    refine g_irem C.c dX7_beside_14 c1 ?_
    refine g_istore_n C.c (i := 3) (L' := [some (.ref (kad K 4)), some (.int x1), some (.int x2), some (.int (x1 - x1 / (rI σ 4 6) * (rI σ 4 6)))]) dX7_beside_15 rfl (Nat.le_of_ble_eq_true rfl) rfl ?_
    refine g_iload_n C.c dX7_beside_16 rfl (i := 2) rfl ?_
    by_cases c0 : x2 = (0 : Int32)
    · replace h := ite_t c0 h
      refine g_tblIn C.c (tgt := 44) (off := 27) c0 dX7_beside_17 (by decide) (by decide) (by decide) (by decide) ?_
      refine g_iload_n C.c dX7_beside_44 rfl (i := 1) rfl ?_
      refine g_aload_n C.c dX7_beside_45 rfl (i := 0) rfl ?_
      refine gf_7_37 C dX7_beside_46 ?_
      refine g_icmp_lt C.c (tgt := 61) dX7_beside_49 (by decide) (fun c => ?_) (fun c => ?_)
      · replace h := ite_t c h
        refine g_iconst C.c dX7_beside_61 (v := (-1 : Int32)) (by decide) ?_
        obtain rfl := Option.some.inj h
        exact g_iret C hQ dX7_beside_62 rfl ⟨rfl, rfl⟩
      · replace h := ite_f c h
        refine g_iload_n C.c dX7_beside_52 rfl (i := 1) rfl ?_
        refine g_aload_n C.c dX7_beside_53 rfl (i := 0) rfl ?_
        refine gf_7_37 C dX7_beside_54 ?_
        refine g_isub C.c dX7_beside_57 ?_
        refine g_goto C.c (tgt := 62) dX7_beside_58 (by decide) ?_
        obtain rfl := Option.some.inj h
        exact g_iret C hQ dX7_beside_62 rfl ⟨rfl, rfl⟩
    · replace h := ite_f c0 h
      by_cases c1 : x2 = (1 : Int32)
      · replace h := ite_t c1 h
        refine g_tblIn C.c (tgt := 63) (off := 46) c1 dX7_beside_17 (by decide) (by decide) (by decide) (by decide) ?_
        refine g_iload_n C.c dX7_beside_63 rfl (i := 3) rfl ?_
        refine g_iconst C.c dX7_beside_64 (v := (1 : Int32)) (by decide) ?_
        refine g_iadd C.c dX7_beside_65 ?_
        refine g_aload_n C.c dX7_beside_66 rfl (i := 0) rfl ?_
        refine gf_7_37 C dX7_beside_67 ?_
        refine g_icmp_ge C.c (tgt := 79) dX7_beside_70 (by decide) (fun c => ?_) (fun c => ?_)
        · replace h := ite_t c h
          refine g_iconst C.c dX7_beside_79 (v := (-1 : Int32)) (by decide) ?_
          obtain rfl := Option.some.inj h
          exact g_iret C hQ dX7_beside_80 rfl ⟨rfl, rfl⟩
        · replace h := ite_f c h
          refine g_iload_n C.c dX7_beside_73 rfl (i := 1) rfl ?_
          refine g_iconst C.c dX7_beside_74 (v := (1 : Int32)) (by decide) ?_
          refine g_iadd C.c dX7_beside_75 ?_
          refine g_goto C.c (tgt := 80) dX7_beside_76 (by decide) ?_
          obtain rfl := Option.some.inj h
          exact g_iret C hQ dX7_beside_80 rfl ⟨rfl, rfl⟩
      · replace h := ite_f c1 h
        by_cases c2 : x2 = (2 : Int32)
        · replace h := ite_t c2 h
          refine g_tblIn C.c (tgt := 81) (off := 64) c2 dX7_beside_17 (by decide) (by decide) (by decide) (by decide) ?_
          refine g_iload_n C.c dX7_beside_81 rfl (i := 1) rfl ?_
          refine g_aload_n C.c dX7_beside_82 rfl (i := 0) rfl ?_
          refine gf_7_37 C dX7_beside_83 ?_
          refine g_iadd C.c dX7_beside_86 ?_
          refine g_aload_n C.c dX7_beside_87 rfl (i := 0) rfl ?_
          refine gf_7_29 C dX7_beside_88 ?_
          refine g_icmp_ge C.c (tgt := 103) dX7_beside_91 (by decide) (fun c => ?_) (fun c => ?_)
          · replace h := ite_t c h
            refine g_iconst C.c dX7_beside_103 (v := (-1 : Int32)) (by decide) ?_
            obtain rfl := Option.some.inj h
            exact g_iret C hQ dX7_beside_104 rfl ⟨rfl, rfl⟩
          · replace h := ite_f c h
            refine g_iload_n C.c dX7_beside_94 rfl (i := 1) rfl ?_
            refine g_aload_n C.c dX7_beside_95 rfl (i := 0) rfl ?_
            refine gf_7_37 C dX7_beside_96 ?_
            refine g_iadd C.c dX7_beside_99 ?_
            refine g_goto C.c (tgt := 104) dX7_beside_100 (by decide) ?_
            obtain rfl := Option.some.inj h
            exact g_iret C hQ dX7_beside_104 rfl ⟨rfl, rfl⟩
        · replace h := ite_f c2 h
          refine g_tblOut C.c (tgt := 105) [(0 : Int32), (1 : Int32), (2 : Int32)] (by decide) ⟨c0, c1, c2, trivial⟩ dX7_beside_17 (by decide) ?_
          refine g_iload_n C.c dX7_beside_105 rfl (i := 3) rfl ?_
          refine g_if_le C.c (tgt := 115) dX7_beside_106 (by decide) (fun c => ?_) (fun c => ?_)
          · replace h := ite_t c h
            refine g_iconst C.c dX7_beside_115 (v := (-1 : Int32)) (by decide) ?_
            obtain rfl := Option.some.inj h
            exact g_iret C hQ dX7_beside_116 rfl ⟨rfl, rfl⟩
          · replace h := ite_f c h
            refine g_iload_n C.c dX7_beside_109 rfl (i := 1) rfl ?_
            refine g_iconst C.c dX7_beside_110 (v := (1 : Int32)) (by decide) ?_
            refine g_isub C.c dX7_beside_111 ?_
            refine g_goto C.c (tgt := 116) dX7_beside_112 (by decide) ?_
            obtain rfl := Option.some.inj h
            exact g_iret C hQ dX7_beside_116 rfl ⟨rfl, rfl⟩
  · replace h := ite_t c h
    refine g_iconst C.c dX7_beside_7 (v := (-1 : Int32)) (by decide) ?_
    obtain rfl := Option.some.inj h
    exact g_iret C hQ dX7_beside_8 rfl ⟨rfl, rfl⟩
def fX7_beside (a0 : Int32) (a1 : Int32) (σ : Sg) : Option (Int32 × Sg) := fX7_beside_b0 a0 a1 σ
theorem ct_X7_beside {a0 : Int32} {a1 : Int32} {σ : Sg} {p : Int32 × Sg} (h : fX7_beside a0 a1 σ = some p) : Ct layC yX7_beside cX7_beside 4 (some .int) 1 (fun ad => [.ref (ad 4), .int a0, .int a1]) σ (okI p) :=
 ct_of (L0 := fun ad => [some (.ref (ad 4)), some (.int a0), some (.int a1), none]) (by decide) (fun _ => Nat.le_of_ble_eq_true rfl) (fun _ => rfl) (fun K C hQ => g_mask [true, true, true, false] rfl (bX7_beside_b0 C hQ h))
-- X7_openWays
theorem dX7_openWays_0 : decode cX7_openWays 0 = .ok (.iconst 0, 1) := by decide +kernel
theorem dX7_openWays_1 : decode cX7_openWays 1 = .ok (.istore_n 2, 1) := by decide +kernel
theorem dX7_openWays_2 : decode cX7_openWays 2 = .ok (.iload_n 2, 1) := by decide +kernel
theorem dX7_openWays_3 : decode cX7_openWays 3 = .ok (.aload_n 0, 1) := by decide +kernel
theorem dX7_openWays_4 : decode cX7_openWays 4 = .ok (.getfield 29, 3) := by decide +kernel
theorem dX7_openWays_7 : decode cX7_openWays 7 = .ok (.if_icmp .ge 147, 3) := by decide +kernel
theorem dX7_openWays_10 : decode cX7_openWays 10 = .ok (.aload_n 0, 1) := by decide +kernel
theorem dX7_openWays_11 : decode cX7_openWays 11 = .ok (.getfield 18, 3) := by decide +kernel
theorem dX7_openWays_14 : decode cX7_openWays 14 = .ok (.iload_n 2, 1) := by decide +kernel
theorem dX7_openWays_15 : decode cX7_openWays 15 = .ok (.iaload, 1) := by decide +kernel
theorem dX7_openWays_16 : decode cX7_openWays 16 = .ok (.iload_n 1, 1) := by decide +kernel
theorem dX7_openWays_17 : decode cX7_openWays 17 = .ok (.if_icmp .eq 6, 3) := by decide +kernel
theorem dX7_openWays_20 : decode cX7_openWays 20 = .ok (.goto 128, 3) := by decide +kernel
theorem dX7_openWays_23 : decode cX7_openWays 23 = .ok (.aload_n 0, 1) := by decide +kernel
theorem dX7_openWays_24 : decode cX7_openWays 24 = .ok (.getfield 21, 3) := by decide +kernel
theorem dX7_openWays_27 : decode cX7_openWays 27 = .ok (.iload_n 2, 1) := by decide +kernel
theorem dX7_openWays_28 : decode cX7_openWays 28 = .ok (.iload_n 1, 1) := by decide +kernel
theorem dX7_openWays_29 : decode cX7_openWays 29 = .ok (.ifCond .ne 7, 3) := by decide +kernel
theorem dX7_openWays_32 : decode cX7_openWays 32 = .ok (.iconst 1, 1) := by decide +kernel
theorem dX7_openWays_33 : decode cX7_openWays 33 = .ok (.goto 4, 3) := by decide +kernel
theorem dX7_openWays_36 : decode cX7_openWays 36 = .ok (.iconst 0, 1) := by decide +kernel
theorem dX7_openWays_37 : decode cX7_openWays 37 = .ok (.iastore, 1) := by decide +kernel
theorem dX7_openWays_38 : decode cX7_openWays 38 = .ok (.iconst 0, 1) := by decide +kernel
theorem dX7_openWays_39 : decode cX7_openWays 39 = .ok (.istore_n 3, 1) := by decide +kernel
theorem dX7_openWays_40 : decode cX7_openWays 40 = .ok (.iload_n 3, 1) := by decide +kernel
theorem dX7_openWays_41 : decode cX7_openWays 41 = .ok (.iconst 4, 1) := by decide +kernel
theorem dX7_openWays_42 : decode cX7_openWays 42 = .ok (.if_icmp .ge 106, 3) := by decide +kernel
theorem dX7_openWays_45 : decode cX7_openWays 45 = .ok (.aload_n 0, 1) := by decide +kernel
theorem dX7_openWays_46 : decode cX7_openWays 46 = .ok (.iload_n 2, 1) := by decide +kernel
theorem dX7_openWays_47 : decode cX7_openWays 47 = .ok (.iload_n 3, 1) := by decide +kernel
theorem dX7_openWays_48 : decode cX7_openWays 48 = .ok (.invokevirtual 72, 3) := by decide +kernel
theorem dX7_openWays_51 : decode cX7_openWays 51 = .ok (.istore 4, 2) := by decide +kernel
theorem dX7_openWays_53 : decode cX7_openWays 53 = .ok (.iload 4, 2) := by decide +kernel
theorem dX7_openWays_55 : decode cX7_openWays 55 = .ok (.iconst (-1), 1) := by decide +kernel
theorem dX7_openWays_56 : decode cX7_openWays 56 = .ok (.if_icmp .eq 39, 3) := by decide +kernel
theorem dX7_openWays_59 : decode cX7_openWays 59 = .ok (.aload_n 0, 1) := by decide +kernel
theorem dX7_openWays_60 : decode cX7_openWays 60 = .ok (.getfield 11, 3) := by decide +kernel
theorem dX7_openWays_63 : decode cX7_openWays 63 = .ok (.iload_n 2, 1) := by decide +kernel
theorem dX7_openWays_64 : decode cX7_openWays 64 = .ok (.iaload, 1) := by decide +kernel
theorem dX7_openWays_65 : decode cX7_openWays 65 = .ok (.bipush 11, 2) := by decide +kernel
theorem dX7_openWays_67 : decode cX7_openWays 67 = .ok (.if_icmp .eq 28, 3) := by decide +kernel
theorem dX7_openWays_70 : decode cX7_openWays 70 = .ok (.aload_n 0, 1) := by decide +kernel
theorem dX7_openWays_71 : decode cX7_openWays 71 = .ok (.getfield 18, 3) := by decide +kernel
theorem dX7_openWays_74 : decode cX7_openWays 74 = .ok (.iload 4, 2) := by decide +kernel
theorem dX7_openWays_76 : decode cX7_openWays 76 = .ok (.iaload, 1) := by decide +kernel
theorem dX7_openWays_77 : decode cX7_openWays 77 = .ok (.iload_n 1, 1) := by decide +kernel
theorem dX7_openWays_78 : decode cX7_openWays 78 = .ok (.if_icmp .ge 17, 3) := by decide +kernel
theorem dX7_openWays_81 : decode cX7_openWays 81 = .ok (.aload_n 0, 1) := by decide +kernel
theorem dX7_openWays_82 : decode cX7_openWays 82 = .ok (.getfield 21, 3) := by decide +kernel
theorem dX7_openWays_85 : decode cX7_openWays 85 = .ok (.iload 4, 2) := by decide +kernel
theorem dX7_openWays_87 : decode cX7_openWays 87 = .ok (.iaload, 1) := by decide +kernel
theorem dX7_openWays_88 : decode cX7_openWays 88 = .ok (.ifCond .le 7, 3) := by decide +kernel
theorem dX7_openWays_91 : decode cX7_openWays 91 = .ok (.iconst 1, 1) := by decide +kernel
theorem dX7_openWays_92 : decode cX7_openWays 92 = .ok (.goto 4, 3) := by decide +kernel
theorem dX7_openWays_95 : decode cX7_openWays 95 = .ok (.iconst 0, 1) := by decide +kernel
theorem dX7_openWays_96 : decode cX7_openWays 96 = .ok (.istore 5, 2) := by decide +kernel
theorem dX7_openWays_98 : decode cX7_openWays 98 = .ok (.aload_n 0, 1) := by decide +kernel
theorem dX7_openWays_99 : decode cX7_openWays 99 = .ok (.getfield 26, 3) := by decide +kernel
theorem dX7_openWays_102 : decode cX7_openWays 102 = .ok (.iload_n 2, 1) := by decide +kernel
theorem dX7_openWays_103 : decode cX7_openWays 103 = .ok (.aaload, 1) := by decide +kernel
theorem dX7_openWays_104 : decode cX7_openWays 104 = .ok (.iload_n 3, 1) := by decide +kernel
theorem dX7_openWays_105 : decode cX7_openWays 105 = .ok (.iload 5, 2) := by decide +kernel
theorem dX7_openWays_107 : decode cX7_openWays 107 = .ok (.ifCond .eq 8, 3) := by decide +kernel
theorem dX7_openWays_110 : decode cX7_openWays 110 = .ok (.iload 4, 2) := by decide +kernel
theorem dX7_openWays_112 : decode cX7_openWays 112 = .ok (.goto 4, 3) := by decide +kernel
theorem dX7_openWays_115 : decode cX7_openWays 115 = .ok (.iconst (-1), 1) := by decide +kernel
theorem dX7_openWays_116 : decode cX7_openWays 116 = .ok (.iastore, 1) := by decide +kernel
theorem dX7_openWays_117 : decode cX7_openWays 117 = .ok (.aload_n 0, 1) := by decide +kernel
theorem dX7_openWays_118 : decode cX7_openWays 118 = .ok (.getfield 21, 3) := by decide +kernel
theorem dX7_openWays_121 : decode cX7_openWays 121 = .ok (.iload_n 2, 1) := by decide +kernel
theorem dX7_openWays_122 : decode cX7_openWays 122 = .ok (.dup2, 1) := by decide +kernel
theorem dX7_openWays_123 : decode cX7_openWays 123 = .ok (.iaload, 1) := by decide +kernel
theorem dX7_openWays_124 : decode cX7_openWays 124 = .ok (.iload 5, 2) := by decide +kernel
theorem dX7_openWays_126 : decode cX7_openWays 126 = .ok (.ifCond .eq 13, 3) := by decide +kernel
theorem dX7_openWays_129 : decode cX7_openWays 129 = .ok (.aload_n 0, 1) := by decide +kernel
theorem dX7_openWays_130 : decode cX7_openWays 130 = .ok (.getfield 21, 3) := by decide +kernel
theorem dX7_openWays_133 : decode cX7_openWays 133 = .ok (.iload 4, 2) := by decide +kernel
theorem dX7_openWays_135 : decode cX7_openWays 135 = .ok (.iaload, 1) := by decide +kernel
theorem dX7_openWays_136 : decode cX7_openWays 136 = .ok (.goto 4, 3) := by decide +kernel
theorem dX7_openWays_139 : decode cX7_openWays 139 = .ok (.iconst 0, 1) := by decide +kernel
theorem dX7_openWays_140 : decode cX7_openWays 140 = .ok (.iadd, 1) := by decide +kernel
theorem dX7_openWays_141 : decode cX7_openWays 141 = .ok (.iastore, 1) := by decide +kernel
theorem dX7_openWays_142 : decode cX7_openWays 142 = .ok (.iinc 3 1, 3) := by decide +kernel
theorem dX7_openWays_145 : decode cX7_openWays 145 = .ok (.goto (-105), 3) := by decide +kernel
theorem dX7_openWays_148 : decode cX7_openWays 148 = .ok (.iinc 2 1, 3) := by decide +kernel
theorem dX7_openWays_151 : decode cX7_openWays 151 = .ok (.goto (-149), 3) := by decide +kernel
theorem dX7_openWays_154 : decode cX7_openWays 154 = .ok (.return_, 1) := by decide +kernel
theorem cw_X7_openWays : Cw yX7_openWays cX7_openWays 6 none 1 := ⟨aw_399, aw_22, ⟨by decide, by decide⟩, by decide +kernel, by decide⟩
theorem gf_7_21 {K : KT} {cc : ByteArray} {nL d pc : Nat} {ret : Option FieldType} {L : List (Option Value)} {st : List Value} {σ : Sg} (C : Cx K layC cc RX7 nL d ret)  (hd : decode cc pc = .ok (.getfield 21, 3)) (k : G K (pc + 3) L (.ref (kad K 8) :: st) (Wd K layC σ)) : G K pc L (.ref (kad K 4) :: st) (Wd K layC σ) := g_get C (o := 4) (ci := 7) (k := 3) hd rfl rfl rfl (by decide) (Or.inl aw_91) inA7 rfl k
theorem kc_7_72 {K : KT} {cc : ByteArray} {nL d pc : Nat} {ret : Option FieldType} {L : List (Option Value)} {st : List Value} {σ : Sg} (C : Cx K layC cc RX7 nL d ret)  {a0 : Int32} {a1 : Int32}  {p : Int32 × Sg} (hd : decode cc pc = .ok (.invokevirtual 72, 3)) (e : fX7_beside a0 a1 σ = some p) (hdd : 1 + 1 ≤ d) (hLn : L.length = nL) (hr : (st.map fun v => v.category).sum ≤ 8) (k : G K (pc + 3) L (.int p.1 :: st) (Wd K layC p.2)) : G K pc L (.int a1 :: .int a0 :: .ref (kad K 4) :: st) (Wd K layC σ) :=
  g_callV C (As := [.int a0, .int a1]) (rest := st) (o := 4) (ci := 7) hd (ct_X7_beside e) cw_X7_beside (Or.inl aw_400) aw_402 aw_6 rfl rfl rfl hdd hLn rfl rfl hr (fun v τ q => by obtain ⟨rfl, rfl⟩ := q; exact k)
theorem gf_7_26 {K : KT} {cc : ByteArray} {nL d pc : Nat} {ret : Option FieldType} {L : List (Option Value)} {st : List Value} {σ : Sg} (C : Cx K layC cc RX7 nL d ret)  (hd : decode cc pc = .ok (.getfield 26, 3)) (k : G K (pc + 3) L (.ref (kad K 9) :: st) (Wd K layC σ)) : G K pc L (.ref (kad K 4) :: st) (Wd K layC σ) := g_get C (o := 4) (ci := 7) (k := 4) hd rfl rfl rfl (by decide) (Or.inl aw_93) inA7 rfl k
def fX7_openWays_b140 (x1 : Int32) (x2 : Int32) (x3 : Int32) (y0 : Int32) (y1 : Int32) (y2 : Int32) (σ : Sg) : Option ((Int32 × Sg) ⊕ ((Sg))) :=
  if inb y2 30 = true then (some (.inl ((x3 + (1 : Int32)), (wI σ 8 (y2).toNatClampNeg (y1 + y0))))) else none
def fX7_openWays_b116 (x1 : Int32) (x2 : Int32) (x3 : Int32) (x4 : Int32) (x5 : Int32) (y0 : Int32) (y1 : Int32) (u2 : Nat) (σ : Sg) : Option ((Int32 × Sg) ⊕ ((Sg))) :=
  if inb y1 4 = true then (if inb x2 30 = true then (if x5 = 0 then (fX7_openWays_b140 x1 x2 x3 (0 : Int32) (rI (wI σ u2 (y1).toNatClampNeg y0) 8 (x2).toNatClampNeg) x2 (wI σ u2 (y1).toNatClampNeg y0)) else (if inb x4 30 = true then (fX7_openWays_b140 x1 x2 x3 (rI (wI σ u2 (y1).toNatClampNeg y0) 8 (x4).toNatClampNeg) (rI (wI σ u2 (y1).toNatClampNeg y0) 8 (x2).toNatClampNeg) x2 (wI σ u2 (y1).toNatClampNeg y0)) else none)) else none) else none
def fX7_openWays_b96 (x1 : Int32) (x2 : Int32) (x3 : Int32) (x4 : Int32) (y0 : Int32) (σ : Sg) : Option ((Int32 × Sg) ⊕ ((Sg))) :=
  if inb x2 30 = true then (if y0 = 0 then (fX7_openWays_b116 x1 x2 x3 x4 y0 (-1 : Int32) x3 (10 + (x2).toNatClampNeg) σ) else (fX7_openWays_b116 x1 x2 x3 x4 y0 x4 x3 (10 + (x2).toNatClampNeg) σ)) else none
def fX7_openWays_b95 (x1 : Int32) (x2 : Int32) (x3 : Int32) (x4 : Int32) (σ : Sg) : Option ((Int32 × Sg) ⊕ ((Sg))) :=
  fX7_openWays_b96 x1 x2 x3 x4 (0 : Int32) σ
def fX7_openWays_b40 (x1 : Int32) (x2 : Int32) (x3 : Int32) (σ : Sg) : Option ((Int32 × Sg) ⊕ ((Sg))) :=
  if (4 : Int32) ≤ x3 then (some (.inr σ)) else (Option.bind (fX7_beside x2 x3 σ) fun p3 => (if p3.1 = (-1 : Int32) then (fX7_openWays_b95 x1 x2 x3 p3.1 p3.2) else (if inb x2 30 = true then (if (rI p3.2 5 (x2).toNatClampNeg) = (11 : Int32) then (fX7_openWays_b95 x1 x2 x3 p3.1 p3.2) else (if inb p3.1 30 = true then (if x1 ≤ (rI p3.2 7 (p3.1).toNatClampNeg) then (fX7_openWays_b95 x1 x2 x3 p3.1 p3.2) else (if inb p3.1 30 = true then (if (rI p3.2 8 (p3.1).toNatClampNeg) ≤ 0 then (fX7_openWays_b95 x1 x2 x3 p3.1 p3.2) else (fX7_openWays_b96 x1 x2 x3 p3.1 (1 : Int32) p3.2)) else none)) else none)) else none)))
def fX7_openWays_b148 (x1 : Int32) (x2 : Int32) (σ : Sg) : Option ((Int32 × Sg) ⊕ ((Sg))) :=
  some (.inl ((x2 + (1 : Int32)), σ))
def fX7_openWays_b37 (x1 : Int32) (x2 : Int32) (y0 : Int32) (y1 : Int32) (σ : Sg) : Option ((Int32 × Sg) ⊕ ((Sg))) :=
  if inb y1 30 = true then (Option.bind (lp (fun s => fX7_openWays_b40 x1 x2 s.1 s.2) FU ((0 : Int32), (wI σ 8 (y1).toNatClampNeg y0))) fun t14 => fX7_openWays_b148 x1 x2 t14) else none
def fX7_openWays_b2 (x1 : Int32) (x2 : Int32) (σ : Sg) : Option ((Int32 × Sg) ⊕ ((Sg))) :=
  if (rI σ 4 5) ≤ x2 then (some (.inr σ)) else (if inb x2 30 = true then (if (rI σ 7 (x2).toNatClampNeg) = x1 then (if x1 = 0 then (fX7_openWays_b37 x1 x2 (1 : Int32) x2 σ) else (fX7_openWays_b37 x1 x2 (0 : Int32) x2 σ)) else (fX7_openWays_b148 x1 x2 σ)) else none)
def fX7_openWays_b0 (x1 : Int32) (σ : Sg) : Option (Sg) :=
  Option.bind (lp (fun s => fX7_openWays_b2 x1 s.1 s.2) FU ((0 : Int32), σ)) fun t16 => some t16
set_option maxRecDepth 4000 in
theorem bX7_openWays_b140 {K : KT} {x1 : Int32} {x2 : Int32} {x3 : Int32} {y0 : Int32} {y1 : Int32} {y2 : Int32} {σ : Sg} {o : (Int32 × Sg) ⊕ ((Sg))} (C : Cx K layC cX7_openWays RX7 6 (2) none)  (hI : ∀ s' : Int32 × Sg, o = .inl s' → G K 40 [some (.ref (kad K 4)), some (.int x1), some (.int x2), some (.int s'.1), none, none] [] (Wd K layC s'.2)) (hE0 : ∀ t : Sg, o = .inr t → G K 148 [some (.ref (kad K 4)), some (.int x1), some (.int x2), none, none, none] [] (Wd K layC t)) (h : fX7_openWays_b140 x1 x2 x3 y0 y1 y2 σ = some o) : G K 140 [some (.ref (kad K 4)), some (.int x1), some (.int x2), some (.int x3), none, none] [.int y0, .int y1, .int y2, .ref (kad K 8)] (Wd K layC σ) := by
  unfold fX7_openWays_b140 at h
  refine g_iadd C.c dX7_openWays_140 ?_
  obtain ⟨c9, h⟩ := chk h
  refine g_iast C dX7_openWays_141 rfl c9 ?_
  refine g_iinc C.c (i := 3) (y := (1 : Int32)) (L' := [some (.ref (kad K 4)), some (.int x1), some (.int x2), some (.int (x3 + (1 : Int32))), none, none]) dX7_openWays_142 rfl (by decide) (Nat.le_of_ble_eq_true rfl) rfl ?_
  refine g_goto C.c (tgt := 40) dX7_openWays_145 (by decide) ?_
  have g9 := hI _ (Option.some.inj h).symm
  exact g_mask [true, true, true, true, false, false] rfl g9
set_option maxRecDepth 4000 in
theorem bX7_openWays_b116 {K : KT} {x1 : Int32} {x2 : Int32} {x3 : Int32} {x4 : Int32} {x5 : Int32} {y0 : Int32} {y1 : Int32} {u2 : Nat} {σ : Sg} {o : (Int32 × Sg) ⊕ ((Sg))} (C : Cx K layC cX7_openWays RX7 6 (2) none) (hu2 : layC[u2]? = some (1, 4, [])) (hI : ∀ s' : Int32 × Sg, o = .inl s' → G K 40 [some (.ref (kad K 4)), some (.int x1), some (.int x2), some (.int s'.1), none, none] [] (Wd K layC s'.2)) (hE0 : ∀ t : Sg, o = .inr t → G K 148 [some (.ref (kad K 4)), some (.int x1), some (.int x2), none, none, none] [] (Wd K layC t)) (h : fX7_openWays_b116 x1 x2 x3 x4 x5 y0 y1 u2 σ = some o) : G K 116 [some (.ref (kad K 4)), some (.int x1), some (.int x2), some (.int x3), some (.int x4), some (.int x5)] [.int y0, .int y1, .ref (kad K u2)] (Wd K layC σ) := by
  unfold fX7_openWays_b116 at h
  obtain ⟨c7, h⟩ := chk h
  refine g_iast C dX7_openWays_116 hu2 c7 ?_
  refine g_aload_n C.c dX7_openWays_117 rfl (i := 0) rfl ?_
  refine gf_7_21 C dX7_openWays_118 ?_
  refine g_iload_n C.c dX7_openWays_121 rfl (i := 2) rfl ?_
  refine g_dup2 C.c dX7_openWays_122 rfl rfl ?_
  obtain ⟨c8, h⟩ := chk h
  refine g_iald C dX7_openWays_123 rfl c8 ?_
  refine g_iload C.c dX7_openWays_124 (i := 5) rfl ?_
  refine g_if_eq C.c (tgt := 139) dX7_openWays_126 (by decide) (fun c => ?_) (fun c => ?_)
  · replace h := ite_t c h
    refine g_iconst C.c dX7_openWays_139 (v := (0 : Int32)) (by decide) ?_
    exact g_mask [true, true, true, true, false, false] rfl (bX7_openWays_b140 C hI hE0 h)
  · replace h := ite_f c h
    refine g_aload_n C.c dX7_openWays_129 rfl (i := 0) rfl ?_
    refine gf_7_21 C dX7_openWays_130 ?_
    refine g_iload C.c dX7_openWays_133 (i := 4) rfl ?_
    obtain ⟨c10, h⟩ := chk h
    refine g_iald C dX7_openWays_135 rfl c10 ?_
    refine g_goto C.c (tgt := 140) dX7_openWays_136 (by decide) ?_
    exact g_mask [true, true, true, true, false, false] rfl (bX7_openWays_b140 C hI hE0 h)
set_option maxRecDepth 4000 in
theorem bX7_openWays_b96 {K : KT} {x1 : Int32} {x2 : Int32} {x3 : Int32} {x4 : Int32} {y0 : Int32} {σ : Sg} {o : (Int32 × Sg) ⊕ ((Sg))} (C : Cx K layC cX7_openWays RX7 6 (2) none)  (hI : ∀ s' : Int32 × Sg, o = .inl s' → G K 40 [some (.ref (kad K 4)), some (.int x1), some (.int x2), some (.int s'.1), none, none] [] (Wd K layC s'.2)) (hE0 : ∀ t : Sg, o = .inr t → G K 148 [some (.ref (kad K 4)), some (.int x1), some (.int x2), none, none, none] [] (Wd K layC t)) (h : fX7_openWays_b96 x1 x2 x3 x4 y0 σ = some o) : G K 96 [some (.ref (kad K 4)), some (.int x1), some (.int x2), some (.int x3), some (.int x4), none] [.int y0] (Wd K layC σ) := by
  unfold fX7_openWays_b96 at h
  refine g_istore C.c (i := 5) (L' := [some (.ref (kad K 4)), some (.int x1), some (.int x2), some (.int x3), some (.int x4), some (.int y0)]) dX7_openWays_96 (Nat.le_of_ble_eq_true rfl) rfl ?_
  refine g_aload_n C.c dX7_openWays_98 rfl (i := 0) rfl ?_
  refine gf_7_26 C dX7_openWays_99 ?_
  refine g_iload_n C.c dX7_openWays_102 rfl (i := 2) rfl ?_
  obtain ⟨c5, h⟩ := chk h
  have hs6 := rw_9 (inb_lt c5)
  refine g_aald5 C (b := 10) dX7_openWays_103 rfl c5 rfl rfl ?_
  refine g_iload_n C.c dX7_openWays_104 rfl (i := 3) rfl ?_
  refine g_iload C.c dX7_openWays_105 (i := 5) rfl ?_
  refine g_if_eq C.c (tgt := 115) dX7_openWays_107 (by decide) (fun c => ?_) (fun c => ?_)
  · replace h := ite_t c h
    refine g_iconst C.c dX7_openWays_115 (v := (-1 : Int32)) (by decide) ?_
    exact g_mask [true, true, true, true, true, true] rfl (bX7_openWays_b116 C hs6 hI hE0 h)
  · replace h := ite_f c h
    refine g_iload C.c dX7_openWays_110 (i := 4) rfl ?_
    refine g_goto C.c (tgt := 116) dX7_openWays_112 (by decide) ?_
    exact g_mask [true, true, true, true, true, true] rfl (bX7_openWays_b116 C hs6 hI hE0 h)
set_option maxRecDepth 4000 in
theorem bX7_openWays_b95 {K : KT} {x1 : Int32} {x2 : Int32} {x3 : Int32} {x4 : Int32} {σ : Sg} {o : (Int32 × Sg) ⊕ ((Sg))} (C : Cx K layC cX7_openWays RX7 6 (2) none)  (hI : ∀ s' : Int32 × Sg, o = .inl s' → G K 40 [some (.ref (kad K 4)), some (.int x1), some (.int x2), some (.int s'.1), none, none] [] (Wd K layC s'.2)) (hE0 : ∀ t : Sg, o = .inr t → G K 148 [some (.ref (kad K 4)), some (.int x1), some (.int x2), none, none, none] [] (Wd K layC t)) (h : fX7_openWays_b95 x1 x2 x3 x4 σ = some o) : G K 95 [some (.ref (kad K 4)), some (.int x1), some (.int x2), some (.int x3), some (.int x4), none] [] (Wd K layC σ) := by
  unfold fX7_openWays_b95 at h
  refine g_iconst C.c dX7_openWays_95 (v := (0 : Int32)) (by decide) ?_
  exact g_mask [true, true, true, true, true, false] rfl (bX7_openWays_b96 C hI hE0 h)
set_option maxRecDepth 4000 in
theorem bX7_openWays_b40 {K : KT} {x1 : Int32} {x2 : Int32} {x3 : Int32} {σ : Sg} {o : (Int32 × Sg) ⊕ ((Sg))} (C : Cx K layC cX7_openWays RX7 6 (2) none)  (hI : ∀ s' : Int32 × Sg, o = .inl s' → G K 40 [some (.ref (kad K 4)), some (.int x1), some (.int x2), some (.int s'.1), none, none] [] (Wd K layC s'.2)) (hE0 : ∀ t : Sg, o = .inr t → G K 148 [some (.ref (kad K 4)), some (.int x1), some (.int x2), none, none, none] [] (Wd K layC t)) (h : fX7_openWays_b40 x1 x2 x3 σ = some o) : G K 40 [some (.ref (kad K 4)), some (.int x1), some (.int x2), some (.int x3), none, none] [] (Wd K layC σ) := by
  unfold fX7_openWays_b40 at h
  refine g_iload_n C.c dX7_openWays_40 rfl (i := 3) rfl ?_
  refine g_iconst C.c dX7_openWays_41 (v := (4 : Int32)) (by decide) ?_
  refine g_icmp_ge C.c (tgt := 148) dX7_openWays_42 (by decide) (fun c => ?_) (fun c => ?_)
  · replace h := ite_t c h
    have g9 := hE0 _ (Option.some.inj h).symm
    exact g_mask [true, true, true, false, false, false] rfl g9
  · replace h := ite_f c h
    refine g_aload_n C.c dX7_openWays_45 rfl (i := 0) rfl ?_
    refine g_iload_n C.c dX7_openWays_46 rfl (i := 2) rfl ?_
    refine g_iload_n C.c dX7_openWays_47 rfl (i := 3) rfl ?_
    obtain ⟨p3, e4, h⟩ := Option.bind_eq_some_iff.mp h
    refine kc_7_72 C dX7_openWays_48 e4 (Nat.le_of_ble_eq_true rfl) rfl (Nat.le_of_ble_eq_true rfl) ?_
    refine g_istore C.c (i := 4) (L' := [some (.ref (kad K 4)), some (.int x1), some (.int x2), some (.int x3), some (.int p3.1), none]) dX7_openWays_51 (Nat.le_of_ble_eq_true rfl) rfl ?_
    refine g_iload C.c dX7_openWays_53 (i := 4) rfl ?_
    refine g_iconst C.c dX7_openWays_55 (v := (-1 : Int32)) (by decide) ?_
    refine g_icmp_eq C.c (tgt := 95) dX7_openWays_56 (by decide) (fun c => ?_) (fun c => ?_)
    · replace h := ite_t c h
      exact g_mask [true, true, true, true, true, false] rfl (bX7_openWays_b95 C hI hE0 h)
    · replace h := ite_f c h
      refine g_aload_n C.c dX7_openWays_59 rfl (i := 0) rfl ?_
      refine gf_7_11 C dX7_openWays_60 ?_
      refine g_iload_n C.c dX7_openWays_63 rfl (i := 2) rfl ?_
      obtain ⟨c11, h⟩ := chk h
      refine g_iald C dX7_openWays_64 rfl c11 ?_
      refine g_bipush C.c dX7_openWays_65 (v := (11 : Int32)) (by decide) ?_
      refine g_icmp_eq C.c (tgt := 95) dX7_openWays_67 (by decide) (fun c => ?_) (fun c => ?_)
      · replace h := ite_t c h
        exact g_mask [true, true, true, true, true, false] rfl (bX7_openWays_b95 C hI hE0 h)
      · replace h := ite_f c h
        refine g_aload_n C.c dX7_openWays_70 rfl (i := 0) rfl ?_
        refine gf_7_18 C dX7_openWays_71 ?_
        refine g_iload C.c dX7_openWays_74 (i := 4) rfl ?_
        obtain ⟨c12, h⟩ := chk h
        refine g_iald C dX7_openWays_76 rfl c12 ?_
        refine g_iload_n C.c dX7_openWays_77 rfl (i := 1) rfl ?_
        refine g_icmp_ge C.c (tgt := 95) dX7_openWays_78 (by decide) (fun c => ?_) (fun c => ?_)
        · replace h := ite_t c h
          exact g_mask [true, true, true, true, true, false] rfl (bX7_openWays_b95 C hI hE0 h)
        · replace h := ite_f c h
          refine g_aload_n C.c dX7_openWays_81 rfl (i := 0) rfl ?_
          refine gf_7_21 C dX7_openWays_82 ?_
          refine g_iload C.c dX7_openWays_85 (i := 4) rfl ?_
          obtain ⟨c13, h⟩ := chk h
          refine g_iald C dX7_openWays_87 rfl c13 ?_
          refine g_if_le C.c (tgt := 95) dX7_openWays_88 (by decide) (fun c => ?_) (fun c => ?_)
          · replace h := ite_t c h
            exact g_mask [true, true, true, true, true, false] rfl (bX7_openWays_b95 C hI hE0 h)
          · replace h := ite_f c h
            refine g_iconst C.c dX7_openWays_91 (v := (1 : Int32)) (by decide) ?_
            refine g_goto C.c (tgt := 96) dX7_openWays_92 (by decide) ?_
            exact g_mask [true, true, true, true, true, false] rfl (bX7_openWays_b96 C hI hE0 h)
set_option maxRecDepth 4000 in
theorem bX7_openWays_b148 {K : KT} {x1 : Int32} {x2 : Int32} {σ : Sg} {o : (Int32 × Sg) ⊕ ((Sg))} (C : Cx K layC cX7_openWays RX7 6 (2) none)  (hI : ∀ s' : Int32 × Sg, o = .inl s' → G K 2 [some (.ref (kad K 4)), some (.int x1), some (.int s'.1), none, none, none] [] (Wd K layC s'.2)) (hE0 : ∀ t : Sg, o = .inr t → G K 154 [none, none, none, none, none, none] [] (Wd K layC t)) (h : fX7_openWays_b148 x1 x2 σ = some o) : G K 148 [some (.ref (kad K 4)), some (.int x1), some (.int x2), none, none, none] [] (Wd K layC σ) := by
  unfold fX7_openWays_b148 at h
  refine g_iinc C.c (i := 2) (y := (1 : Int32)) (L' := [some (.ref (kad K 4)), some (.int x1), some (.int (x2 + (1 : Int32))), none, none, none]) dX7_openWays_148 rfl (by decide) (Nat.le_of_ble_eq_true rfl) rfl ?_
  refine g_goto C.c (tgt := 2) dX7_openWays_151 (by decide) ?_
  have g9 := hI _ (Option.some.inj h).symm
  exact g_mask [true, true, true, false, false, false] rfl g9
set_option maxRecDepth 4000 in
theorem bX7_openWays_b37 {K : KT} {x1 : Int32} {x2 : Int32} {y0 : Int32} {y1 : Int32} {σ : Sg} {o : (Int32 × Sg) ⊕ ((Sg))} (C : Cx K layC cX7_openWays RX7 6 (2) none)  (hI : ∀ s' : Int32 × Sg, o = .inl s' → G K 2 [some (.ref (kad K 4)), some (.int x1), some (.int s'.1), none, none, none] [] (Wd K layC s'.2)) (hE0 : ∀ t : Sg, o = .inr t → G K 154 [none, none, none, none, none, none] [] (Wd K layC t)) (h : fX7_openWays_b37 x1 x2 y0 y1 σ = some o) : G K 37 [some (.ref (kad K 4)), some (.int x1), some (.int x2), none, none, none] [.int y0, .int y1, .ref (kad K 8)] (Wd K layC σ) := by
  unfold fX7_openWays_b37 at h
  obtain ⟨c2, h⟩ := chk h
  refine g_iast C dX7_openWays_37 rfl c2 ?_
  refine g_iconst C.c dX7_openWays_38 (v := (0 : Int32)) (by decide) ?_
  refine g_istore_n C.c (i := 3) (L' := [some (.ref (kad K 4)), some (.int x1), some (.int x2), some (.int (0 : Int32)), none, none]) dX7_openWays_39 rfl (Nat.le_of_ble_eq_true rfl) rfl ?_
  refine g_mask [true, true, true, true, false, false] rfl ?_
  refine lp_bind (Gh := fun s => G K 40 [some (.ref (kad K 4)), some (.int x1), some (.int x2), some (.int s.1), none, none] [] (Wd K layC s.2)) h (fun s o2 hf gI gE => ?_)
  refine bX7_openWays_b40 C gI (fun t14 e => ?_) hf
  · have h := gE _ e
    exact g_mask [true, true, true, false, false, false] rfl (bX7_openWays_b148 C hI hE0 h)
set_option maxRecDepth 4000 in
theorem bX7_openWays_b2 {K : KT} {x1 : Int32} {x2 : Int32} {σ : Sg} {o : (Int32 × Sg) ⊕ ((Sg))} (C : Cx K layC cX7_openWays RX7 6 (2) none)  (hI : ∀ s' : Int32 × Sg, o = .inl s' → G K 2 [some (.ref (kad K 4)), some (.int x1), some (.int s'.1), none, none, none] [] (Wd K layC s'.2)) (hE0 : ∀ t : Sg, o = .inr t → G K 154 [none, none, none, none, none, none] [] (Wd K layC t)) (h : fX7_openWays_b2 x1 x2 σ = some o) : G K 2 [some (.ref (kad K 4)), some (.int x1), some (.int x2), none, none, none] [] (Wd K layC σ) := by
  unfold fX7_openWays_b2 at h
  refine g_iload_n C.c dX7_openWays_2 rfl (i := 2) rfl ?_
  refine g_aload_n C.c dX7_openWays_3 rfl (i := 0) rfl ?_
  refine gf_7_29 C dX7_openWays_4 ?_
  refine g_icmp_ge C.c (tgt := 154) dX7_openWays_7 (by decide) (fun c => ?_) (fun c => ?_)
  · replace h := ite_t c h
    have g9 := hE0 _ (Option.some.inj h).symm
    exact g_mask [false, false, false, false, false, false] rfl g9
  · replace h := ite_f c h
    refine g_aload_n C.c dX7_openWays_10 rfl (i := 0) rfl ?_
    refine gf_7_18 C dX7_openWays_11 ?_
    refine g_iload_n C.c dX7_openWays_14 rfl (i := 2) rfl ?_
    obtain ⟨c1, h⟩ := chk h
    refine g_iald C dX7_openWays_15 rfl c1 ?_
    refine g_iload_n C.c dX7_openWays_16 rfl (i := 1) rfl ?_
    refine g_icmp_eq C.c (tgt := 23) dX7_openWays_17 (by decide) (fun c => ?_) (fun c => ?_)
    · replace h := ite_t c h
      refine g_aload_n C.c dX7_openWays_23 rfl (i := 0) rfl ?_
      refine gf_7_21 C dX7_openWays_24 ?_
      refine g_iload_n C.c dX7_openWays_27 rfl (i := 2) rfl ?_
      refine g_iload_n C.c dX7_openWays_28 rfl (i := 1) rfl ?_
      refine g_if_ne C.c (tgt := 36) dX7_openWays_29 (by decide) (fun c => ?_) (fun c => ?_)
      · replace h := ite_f c h
        refine g_iconst C.c dX7_openWays_36 (v := (0 : Int32)) (by decide) ?_
        exact g_mask [true, true, true, false, false, false] rfl (bX7_openWays_b37 C hI hE0 h)
      · replace h := ite_t c h
        refine g_iconst C.c dX7_openWays_32 (v := (1 : Int32)) (by decide) ?_
        refine g_goto C.c (tgt := 37) dX7_openWays_33 (by decide) ?_
        exact g_mask [true, true, true, false, false, false] rfl (bX7_openWays_b37 C hI hE0 h)
    · replace h := ite_f c h
      refine g_goto C.c (tgt := 148) dX7_openWays_20 (by decide) ?_
      exact g_mask [true, true, true, false, false, false] rfl (bX7_openWays_b148 C hI hE0 h)
set_option maxRecDepth 4000 in
theorem bX7_openWays_b0 {K : KT} {x1 : Int32} {σ : Sg} {o : Sg} (C : Cx K layC cX7_openWays RX7 6 (2) none)  (hQ : Rk K layC (okV o)) (h : fX7_openWays_b0 x1 σ = some o) : G K 0 [some (.ref (kad K 4)), some (.int x1), none, none, none, none] [] (Wd K layC σ) := by
  unfold fX7_openWays_b0 at h
  refine g_iconst C.c dX7_openWays_0 (v := (0 : Int32)) (by decide) ?_
  refine g_istore_n C.c (i := 2) (L' := [some (.ref (kad K 4)), some (.int x1), some (.int (0 : Int32)), none, none, none]) dX7_openWays_1 rfl (Nat.le_of_ble_eq_true rfl) rfl ?_
  refine g_mask [true, true, true, false, false, false] rfl ?_
  refine lp_bind (Gh := fun s => G K 2 [some (.ref (kad K 4)), some (.int x1), some (.int s.1), none, none, none] [] (Wd K layC s.2)) h (fun s o2 hf gI gE => ?_)
  refine bX7_openWays_b2 C gI (fun t16 e => ?_) hf
  · have h := gE _ e
    obtain rfl := Option.some.inj h
    exact g_vret C hQ dX7_openWays_154 ⟨rfl, rfl⟩
def fX7_openWays (a0 : Int32) (σ : Sg) : Option (Sg) := fX7_openWays_b0 a0 σ
theorem ct_X7_openWays {a0 : Int32} {σ : Sg} {p : Sg} (h : fX7_openWays a0 σ = some p) : Ct layC yX7_openWays cX7_openWays 6 none 2 (fun ad => [.ref (ad 4), .int a0]) σ (okV p) :=
 ct_of (L0 := fun ad => [some (.ref (ad 4)), some (.int a0), none, none, none, none]) (by decide) (fun _ => Nat.le_of_ble_eq_true rfl) (fun _ => rfl) (fun K C hQ => g_mask [true, true, false, false, false, false] rfl (bX7_openWays_b0 C hQ h))
-- X7_lay
theorem dX7_lay_0 : decode cX7_lay 0 = .ok (.aload_n 0, 1) := by decide +kernel
theorem dX7_lay_1 : decode cX7_lay 1 = .ok (.iconst 0, 1) := by decide +kernel
theorem dX7_lay_2 : decode cX7_lay 2 = .ok (.putfield 29, 3) := by decide +kernel
theorem dX7_lay_5 : decode cX7_lay 5 = .ok (.aload_n 0, 1) := by decide +kernel
theorem dX7_lay_6 : decode cX7_lay 6 = .ok (.iconst 0, 1) := by decide +kernel
theorem dX7_lay_7 : decode cX7_lay 7 = .ok (.putfield 37, 3) := by decide +kernel
theorem dX7_lay_10 : decode cX7_lay 10 = .ok (.iconst 0, 1) := by decide +kernel
theorem dX7_lay_11 : decode cX7_lay 11 = .ok (.istore_n 2, 1) := by decide +kernel
theorem dX7_lay_12 : decode cX7_lay 12 = .ok (.iload_n 2, 1) := by decide +kernel
theorem dX7_lay_13 : decode cX7_lay 13 = .ok (.aload_n 1, 1) := by decide +kernel
theorem dX7_lay_14 : decode cX7_lay 14 = .ok (.getfield 40, 3) := by decide +kernel
theorem dX7_lay_17 : decode cX7_lay 17 = .ok (.if_icmp .ge 18, 3) := by decide +kernel
theorem dX7_lay_20 : decode cX7_lay 20 = .ok (.aload_n 0, 1) := by decide +kernel
theorem dX7_lay_21 : decode cX7_lay 21 = .ok (.aload_n 1, 1) := by decide +kernel
theorem dX7_lay_22 : decode cX7_lay 22 = .ok (.iload_n 2, 1) := by decide +kernel
theorem dX7_lay_23 : decode cX7_lay 23 = .ok (.invokevirtual 45, 3) := by decide +kernel
theorem dX7_lay_26 : decode cX7_lay 26 = .ok (.invokevirtual 49, 3) := by decide +kernel
theorem dX7_lay_29 : decode cX7_lay 29 = .ok (.iinc 2 1, 3) := by decide +kernel
theorem dX7_lay_32 : decode cX7_lay 32 = .ok (.goto (-20), 3) := by decide +kernel
theorem dX7_lay_35 : decode cX7_lay 35 = .ok (.aload_n 0, 1) := by decide +kernel
theorem dX7_lay_36 : decode cX7_lay 36 = .ok (.invokevirtual 53, 3) := by decide +kernel
theorem dX7_lay_39 : decode cX7_lay 39 = .ok (.iconst 0, 1) := by decide +kernel
theorem dX7_lay_40 : decode cX7_lay 40 = .ok (.istore_n 2, 1) := by decide +kernel
theorem dX7_lay_41 : decode cX7_lay 41 = .ok (.iload_n 2, 1) := by decide +kernel
theorem dX7_lay_42 : decode cX7_lay 42 = .ok (.bipush 9, 2) := by decide +kernel
theorem dX7_lay_44 : decode cX7_lay 44 = .ok (.if_icmp .gt 14, 3) := by decide +kernel
theorem dX7_lay_47 : decode cX7_lay 47 = .ok (.aload_n 0, 1) := by decide +kernel
theorem dX7_lay_48 : decode cX7_lay 48 = .ok (.iload_n 2, 1) := by decide +kernel
theorem dX7_lay_49 : decode cX7_lay 49 = .ok (.invokevirtual 58, 3) := by decide +kernel
theorem dX7_lay_52 : decode cX7_lay 52 = .ok (.iinc 2 1, 3) := by decide +kernel
theorem dX7_lay_55 : decode cX7_lay 55 = .ok (.goto (-14), 3) := by decide +kernel
theorem dX7_lay_58 : decode cX7_lay 58 = .ok (.return_, 1) := by decide +kernel
theorem cw_X7_lay : Cw yX7_lay cX7_lay 3 none 1 := ⟨aw_379, aw_22, ⟨by decide, by decide⟩, by decide +kernel, by decide⟩
theorem gf_7_40 {K : KT} {cc : ByteArray} {nL d pc : Nat} {ret : Option FieldType} {L : List (Option Value)} {st : List Value} {σ : Sg} (C : Cx K layC cc RX7 nL d ret)  (hd : decode cc pc = .ok (.getfield 40, 3)) (k : G K (pc + 3) L (.int (rI σ 1 1) :: st) (Wd K layC σ)) : G K pc L (.ref (kad K 1) :: st) (Wd K layC σ) := g_get C (o := 1) (ci := 6) (k := 1) hd rfl rfl rfl (by decide) (Or.inr ⟨_, aw_47⟩) inA6 rfl k
theorem kc_7_45 {K : KT} {cc : ByteArray} {nL d pc : Nat} {ret : Option FieldType} {L : List (Option Value)} {st : List Value} {σ : Sg} (C : Cx K layC cc RX7 nL d ret)  {a0 : Int32}  {p : Int32 × Sg} (hd : decode cc pc = .ok (.invokevirtual 45, 3)) (e : fX6_codeAt a0 σ = some p) (hdd : 1 + 1 ≤ d) (hLn : L.length = nL) (hr : (st.map fun v => v.category).sum ≤ 8) (k : G K (pc + 3) L (.int p.1 :: st) (Wd K layC p.2)) : G K pc L (.int a0 :: .ref (kad K 1) :: st) (Wd K layC σ) :=
  g_callV C (As := [.int a0]) (rest := st) (o := 1) (ci := 6) hd (ct_X6_codeAt e) cw_X6_codeAt (Or.inl aw_380) aw_381 aw_382 rfl rfl rfl hdd hLn rfl rfl hr (fun v τ q => by obtain ⟨rfl, rfl⟩ := q; exact k)
theorem kc_7_49 {K : KT} {cc : ByteArray} {nL d pc : Nat} {ret : Option FieldType} {L : List (Option Value)} {st : List Value} {σ : Sg} (C : Cx K layC cc RX7 nL d ret)  {a0 : Int32}  {p : Sg} (hd : decode cc pc = .ok (.invokevirtual 49, 3)) (e : fX7_layLetter a0 σ = some p) (hdd : 2 + 1 ≤ d) (hLn : L.length = nL) (hr : (st.map fun v => v.category).sum ≤ 8) (k : G K (pc + 3) L (st) (Wd K layC p)) : G K pc L (.int a0 :: .ref (kad K 4) :: st) (Wd K layC σ) :=
  g_callV C (As := [.int a0]) (rest := st) (o := 4) (ci := 7) hd (ct_X7_layLetter e) cw_X7_layLetter (Or.inl aw_384) aw_386 aw_3 rfl rfl rfl hdd hLn rfl rfl hr (fun v τ q => by obtain ⟨rfl, rfl⟩ := q; exact k)
theorem kc_7_53 {K : KT} {cc : ByteArray} {nL d pc : Nat} {ret : Option FieldType} {L : List (Option Value)} {st : List Value} {σ : Sg} (C : Cx K layC cc RX7 nL d ret)    {p : Sg} (hd : decode cc pc = .ok (.invokevirtual 53, 3)) (e : fX7_measure σ = some p) (hdd : 1 + 1 ≤ d) (hLn : L.length = nL) (hr : (st.map fun v => v.category).sum ≤ 8) (k : G K (pc + 3) L (st) (Wd K layC p)) : G K pc L (.ref (kad K 4) :: st) (Wd K layC σ) :=
  g_callV C (As := []) (rest := st) (o := 4) (ci := 7) hd (ct_X7_measure e) cw_X7_measure (Or.inl aw_389) aw_391 aw_4 rfl rfl rfl hdd hLn rfl rfl hr (fun v τ q => by obtain ⟨rfl, rfl⟩ := q; exact k)
theorem kc_7_58 {K : KT} {cc : ByteArray} {nL d pc : Nat} {ret : Option FieldType} {L : List (Option Value)} {st : List Value} {σ : Sg} (C : Cx K layC cc RX7 nL d ret)  {a0 : Int32}  {p : Sg} (hd : decode cc pc = .ok (.invokevirtual 58, 3)) (e : fX7_openWays a0 σ = some p) (hdd : 2 + 1 ≤ d) (hLn : L.length = nL) (hr : (st.map fun v => v.category).sum ≤ 8) (k : G K (pc + 3) L (st) (Wd K layC p)) : G K pc L (.int a0 :: .ref (kad K 4) :: st) (Wd K layC σ) :=
  g_callV C (As := [.int a0]) (rest := st) (o := 4) (ci := 7) hd (ct_X7_openWays e) cw_X7_openWays (Or.inl aw_396) aw_398 aw_5 rfl rfl rfl hdd hLn rfl rfl hr (fun v τ q => by obtain ⟨rfl, rfl⟩ := q; exact k)
def fX7_lay_b12 (x2 : Int32) (σ : Sg) : Option ((Int32 × Sg) ⊕ ((Sg))) :=
  if (rI σ 1 1) ≤ x2 then (some (.inr σ)) else (Option.bind (fX6_codeAt x2 σ) fun p1 => (Option.bind (fX7_layLetter p1.1 p1.2) fun p3 => (some (.inl ((x2 + (1 : Int32)), p3)))))
def fX7_lay_b41 (x2 : Int32) (σ : Sg) : Option ((Int32 × Sg) ⊕ ((Sg))) :=
  if (9 : Int32) < x2 then (some (.inr σ)) else (Option.bind (fX7_openWays x2 σ) fun p9 => (some (.inl ((x2 + (1 : Int32)), p9))))
def fX7_lay_b0  (σ : Sg) : Option (Sg) :=
  Option.bind (lp (fun s => fX7_lay_b12 s.1 s.2) FU ((0 : Int32), (wI (wI σ 4 5 (0 : Int32)) 4 6 (0 : Int32)))) fun t5 => Option.bind (fX7_measure t5) fun p7 => (Option.bind (lp (fun s => fX7_lay_b41 s.1 s.2) FU ((0 : Int32), p7)) fun t11 => some t11)
set_option maxRecDepth 4000 in
theorem bX7_lay_b12 {K : KT} {x2 : Int32} {σ : Sg} {o : (Int32 × Sg) ⊕ ((Sg))} (C : Cx K layC cX7_lay RX7 3 (3) none)  (hI : ∀ s' : Int32 × Sg, o = .inl s' → G K 12 [some (.ref (kad K 4)), some (.ref (kad K 1)), some (.int s'.1)] [] (Wd K layC s'.2)) (hE0 : ∀ t : Sg, o = .inr t → G K 35 [some (.ref (kad K 4)), none, none] [] (Wd K layC t)) (h : fX7_lay_b12 x2 σ = some o) : G K 12 [some (.ref (kad K 4)), some (.ref (kad K 1)), some (.int x2)] [] (Wd K layC σ) := by
  unfold fX7_lay_b12 at h
  refine g_iload_n C.c dX7_lay_12 rfl (i := 2) rfl ?_
  refine g_aload_n C.c dX7_lay_13 rfl (i := 1) rfl ?_
  refine gf_7_40 C dX7_lay_14 ?_
  refine g_icmp_ge C.c (tgt := 35) dX7_lay_17 (by decide) (fun c => ?_) (fun c => ?_)
  · replace h := ite_t c h
    have g9 := hE0 _ (Option.some.inj h).symm
    exact g_mask [true, false, false] rfl g9
  · replace h := ite_f c h
    refine g_aload_n C.c dX7_lay_20 rfl (i := 0) rfl ?_
    refine g_aload_n C.c dX7_lay_21 rfl (i := 1) rfl ?_
    refine g_iload_n C.c dX7_lay_22 rfl (i := 2) rfl ?_
    obtain ⟨p1, e2, h⟩ := Option.bind_eq_some_iff.mp h
    refine kc_7_45 C dX7_lay_23 e2 (Nat.le_of_ble_eq_true rfl) rfl (Nat.le_of_ble_eq_true rfl) ?_
    obtain ⟨p3, e4, h⟩ := Option.bind_eq_some_iff.mp h
    refine kc_7_49 C dX7_lay_26 e4 (Nat.le_of_ble_eq_true rfl) rfl (Nat.le_of_ble_eq_true rfl) ?_
    refine g_iinc C.c (i := 2) (y := (1 : Int32)) (L' := [some (.ref (kad K 4)), some (.ref (kad K 1)), some (.int (x2 + (1 : Int32)))]) dX7_lay_29 rfl (by decide) (Nat.le_of_ble_eq_true rfl) rfl ?_
    refine g_goto C.c (tgt := 12) dX7_lay_32 (by decide) ?_
    have g9 := hI _ (Option.some.inj h).symm
    exact g_mask [true, true, true] rfl g9
set_option maxRecDepth 4000 in
theorem bX7_lay_b41 {K : KT} {x2 : Int32} {σ : Sg} {o : (Int32 × Sg) ⊕ ((Sg))} (C : Cx K layC cX7_lay RX7 3 (3) none)  (hI : ∀ s' : Int32 × Sg, o = .inl s' → G K 41 [some (.ref (kad K 4)), none, some (.int s'.1)] [] (Wd K layC s'.2)) (hE0 : ∀ t : Sg, o = .inr t → G K 58 [none, none, none] [] (Wd K layC t)) (h : fX7_lay_b41 x2 σ = some o) : G K 41 [some (.ref (kad K 4)), none, some (.int x2)] [] (Wd K layC σ) := by
  unfold fX7_lay_b41 at h
  refine g_iload_n C.c dX7_lay_41 rfl (i := 2) rfl ?_
  refine g_bipush C.c dX7_lay_42 (v := (9 : Int32)) (by decide) ?_
  refine g_icmp_gt C.c (tgt := 58) dX7_lay_44 (by decide) (fun c => ?_) (fun c => ?_)
  · replace h := ite_t c h
    have g9 := hE0 _ (Option.some.inj h).symm
    exact g_mask [false, false, false] rfl g9
  · replace h := ite_f c h
    refine g_aload_n C.c dX7_lay_47 rfl (i := 0) rfl ?_
    refine g_iload_n C.c dX7_lay_48 rfl (i := 2) rfl ?_
    obtain ⟨p9, e10, h⟩ := Option.bind_eq_some_iff.mp h
    refine kc_7_58 C dX7_lay_49 e10 (Nat.le_of_ble_eq_true rfl) rfl (Nat.le_of_ble_eq_true rfl) ?_
    refine g_iinc C.c (i := 2) (y := (1 : Int32)) (L' := [some (.ref (kad K 4)), none, some (.int (x2 + (1 : Int32)))]) dX7_lay_52 rfl (by decide) (Nat.le_of_ble_eq_true rfl) rfl ?_
    refine g_goto C.c (tgt := 41) dX7_lay_55 (by decide) ?_
    have g9 := hI _ (Option.some.inj h).symm
    exact g_mask [true, false, true] rfl g9
set_option maxRecDepth 4000 in
theorem bX7_lay_b0 {K : KT}  {σ : Sg} {o : Sg} (C : Cx K layC cX7_lay RX7 3 (3) none)  (hQ : Rk K layC (okV o)) (h : fX7_lay_b0  σ = some o) : G K 0 [some (.ref (kad K 4)), some (.ref (kad K 1)), none] [] (Wd K layC σ) := by
  unfold fX7_lay_b0 at h
  refine g_aload_n C.c dX7_lay_0 rfl (i := 0) rfl ?_
  refine g_iconst C.c dX7_lay_1 (v := (0 : Int32)) (by decide) ?_
  refine pf_7_29 C dX7_lay_2 ?_
  refine g_aload_n C.c dX7_lay_5 rfl (i := 0) rfl ?_
  refine g_iconst C.c dX7_lay_6 (v := (0 : Int32)) (by decide) ?_
  refine pf_7_37 C dX7_lay_7 ?_
  refine g_iconst C.c dX7_lay_10 (v := (0 : Int32)) (by decide) ?_
  refine g_istore_n C.c (i := 2) (L' := [some (.ref (kad K 4)), some (.ref (kad K 1)), some (.int (0 : Int32))]) dX7_lay_11 rfl (Nat.le_of_ble_eq_true rfl) rfl ?_
  refine g_mask [true, true, true] rfl ?_
  refine lp_bind (Gh := fun s => G K 12 [some (.ref (kad K 4)), some (.ref (kad K 1)), some (.int s.1)] [] (Wd K layC s.2)) h (fun s o2 hf gI gE => ?_)
  refine bX7_lay_b12 C gI (fun t5 e => ?_) hf
  · have h := gE _ e
    refine g_aload_n C.c dX7_lay_35 rfl (i := 0) rfl ?_
    obtain ⟨p7, e8, h⟩ := Option.bind_eq_some_iff.mp h
    refine kc_7_53 C dX7_lay_36 e8 (Nat.le_of_ble_eq_true rfl) rfl (Nat.le_of_ble_eq_true rfl) ?_
    refine g_iconst C.c dX7_lay_39 (v := (0 : Int32)) (by decide) ?_
    refine g_istore_n C.c (i := 2) (L' := [some (.ref (kad K 4)), none, some (.int (0 : Int32))]) dX7_lay_40 rfl (Nat.le_of_ble_eq_true rfl) rfl ?_
    refine g_mask [true, false, true] rfl ?_
    refine lp_bind (Gh := fun s => G K 41 [some (.ref (kad K 4)), none, some (.int s.1)] [] (Wd K layC s.2)) h (fun s o2 hf gI gE => ?_)
    refine bX7_lay_b41 C gI (fun t11 e => ?_) hf
    · have h := gE _ e
      obtain rfl := Option.some.inj h
      exact g_vret C hQ dX7_lay_58 ⟨rfl, rfl⟩
def fX7_lay (σ : Sg) : Option (Sg) := fX7_lay_b0 σ
theorem ct_X7_lay {σ : Sg} {p : Sg} (h : fX7_lay σ = some p) : Ct layC yX7_lay cX7_lay 3 none 3 (fun ad => [.ref (ad 4), .ref (ad 1)]) σ (okV p) :=
 ct_of (L0 := fun ad => [some (.ref (ad 4)), some (.ref (ad 1)), none]) (by decide) (fun _ => Nat.le_of_ble_eq_true rfl) (fun _ => rfl) (fun K C hQ => g_mask [true, true, false] rfl (bX7_lay_b0 C hQ h))
end
section
-- X8_isHopeless
theorem dX8_isHopeless_0 : decode cX8_isHopeless 0 = .ok (.aload_n 0, 1) := by decide +kernel
theorem dX8_isHopeless_1 : decode cX8_isHopeless 1 = .ok (.getfield 21, 3) := by decide +kernel
theorem dX8_isHopeless_4 : decode cX8_isHopeless 4 = .ok (.aload_n 0, 1) := by decide +kernel
theorem dX8_isHopeless_5 : decode cX8_isHopeless 5 = .ok (.getfield 25, 3) := by decide +kernel
theorem dX8_isHopeless_8 : decode cX8_isHopeless 8 = .ok (.iload_n 1, 1) := by decide +kernel
theorem dX8_isHopeless_9 : decode cX8_isHopeless 9 = .ok (.iaload, 1) := by decide +kernel
theorem dX8_isHopeless_10 : decode cX8_isHopeless 10 = .ok (.aload_n 0, 1) := by decide +kernel
theorem dX8_isHopeless_11 : decode cX8_isHopeless 11 = .ok (.getfield 48, 3) := by decide +kernel
theorem dX8_isHopeless_14 : decode cX8_isHopeless 14 = .ok (.aload_n 0, 1) := by decide +kernel
theorem dX8_isHopeless_15 : decode cX8_isHopeless 15 = .ok (.getfield 32, 3) := by decide +kernel
theorem dX8_isHopeless_18 : decode cX8_isHopeless 18 = .ok (.iload_n 1, 1) := by decide +kernel
theorem dX8_isHopeless_19 : decode cX8_isHopeless 19 = .ok (.iaload, 1) := by decide +kernel
theorem dX8_isHopeless_20 : decode cX8_isHopeless 20 = .ok (.aload_n 0, 1) := by decide +kernel
theorem dX8_isHopeless_21 : decode cX8_isHopeless 21 = .ok (.getfield 58, 3) := by decide +kernel
theorem dX8_isHopeless_24 : decode cX8_isHopeless 24 = .ok (.invokevirtual 110, 3) := by decide +kernel
theorem dX8_isHopeless_27 : decode cX8_isHopeless 27 = .ok (.istore_n 2, 1) := by decide +kernel
theorem dX8_isHopeless_28 : decode cX8_isHopeless 28 = .ok (.aload_n 0, 1) := by decide +kernel
theorem dX8_isHopeless_29 : decode cX8_isHopeless 29 = .ok (.getfield 62, 3) := by decide +kernel
theorem dX8_isHopeless_32 : decode cX8_isHopeless 32 = .ok (.ifCond .eq 36, 3) := by decide +kernel
theorem dX8_isHopeless_35 : decode cX8_isHopeless 35 = .ok (.iload_n 2, 1) := by decide +kernel
theorem dX8_isHopeless_36 : decode cX8_isHopeless 36 = .ok (.aload_n 0, 1) := by decide +kernel
theorem dX8_isHopeless_37 : decode cX8_isHopeless 37 = .ok (.getfield 114, 3) := by decide +kernel
theorem dX8_isHopeless_40 : decode cX8_isHopeless 40 = .ok (.if_icmp .lt 24, 3) := by decide +kernel
theorem dX8_isHopeless_43 : decode cX8_isHopeless 43 = .ok (.iload_n 2, 1) := by decide +kernel
theorem dX8_isHopeless_44 : decode cX8_isHopeless 44 = .ok (.aload_n 0, 1) := by decide +kernel
theorem dX8_isHopeless_45 : decode cX8_isHopeless 45 = .ok (.getfield 114, 3) := by decide +kernel
theorem dX8_isHopeless_48 : decode cX8_isHopeless 48 = .ok (.if_icmp .ne 20, 3) := by decide +kernel
theorem dX8_isHopeless_51 : decode cX8_isHopeless 51 = .ok (.aload_n 0, 1) := by decide +kernel
theorem dX8_isHopeless_52 : decode cX8_isHopeless 52 = .ok (.getfield 32, 3) := by decide +kernel
theorem dX8_isHopeless_55 : decode cX8_isHopeless 55 = .ok (.iload_n 1, 1) := by decide +kernel
theorem dX8_isHopeless_56 : decode cX8_isHopeless 56 = .ok (.iaload, 1) := by decide +kernel
theorem dX8_isHopeless_57 : decode cX8_isHopeless 57 = .ok (.aload_n 0, 1) := by decide +kernel
theorem dX8_isHopeless_58 : decode cX8_isHopeless 58 = .ok (.getfield 96, 3) := by decide +kernel
theorem dX8_isHopeless_61 : decode cX8_isHopeless 61 = .ok (.if_icmp .lt 7, 3) := by decide +kernel
theorem dX8_isHopeless_64 : decode cX8_isHopeless 64 = .ok (.iconst 1, 1) := by decide +kernel
theorem dX8_isHopeless_65 : decode cX8_isHopeless 65 = .ok (.goto 4, 3) := by decide +kernel
theorem dX8_isHopeless_68 : decode cX8_isHopeless 68 = .ok (.iconst 0, 1) := by decide +kernel
theorem dX8_isHopeless_69 : decode cX8_isHopeless 69 = .ok (.ireturn, 1) := by decide +kernel
theorem cw_X8_isHopeless : Cw yX8_isHopeless cX8_isHopeless 3 (some .boolean) 1 := ⟨aw_504, aw_21, ⟨by decide, by decide⟩, by decide +kernel, by decide⟩
theorem gf_8_21 {K : KT} {cc : ByteArray} {nL d pc : Nat} {ret : Option FieldType} {L : List (Option Value)} {st : List Value} {σ : Sg} (C : Cx K layC cc RX8 nL d ret)  (hd : decode cc pc = .ok (.getfield 21, 3)) (k : G K (pc + 3) L (.ref (kad K 40) :: st) (Wd K layC σ)) : G K pc L (.ref (kad K 3) :: st) (Wd K layC σ) := g_get C (o := 3) (ci := 8) (k := 1) hd rfl rfl rfl (by decide) (Or.inl aw_162) inA8 rfl k
theorem gf_8_25 {K : KT} {cc : ByteArray} {nL d pc : Nat} {ret : Option FieldType} {L : List (Option Value)} {st : List Value} {σ : Sg} (C : Cx K layC cc RX8 nL d ret)  (hd : decode cc pc = .ok (.getfield 25, 3)) (k : G K (pc + 3) L (.ref (kad K 42) :: st) (Wd K layC σ)) : G K pc L (.ref (kad K 3) :: st) (Wd K layC σ) := g_get C (o := 3) (ci := 8) (k := 2) hd rfl rfl rfl (by decide) (Or.inl aw_164) inA8 rfl k
theorem gf_8_48 {K : KT} {cc : ByteArray} {nL d pc : Nat} {ret : Option FieldType} {L : List (Option Value)} {st : List Value} {σ : Sg} (C : Cx K layC cc RX8 nL d ret)  (hd : decode cc pc = .ok (.getfield 48, 3)) (k : G K (pc + 3) L (.int (rI σ 3 8) :: st) (Wd K layC σ)) : G K pc L (.ref (kad K 3) :: st) (Wd K layC σ) := g_get C (o := 3) (ci := 8) (k := 8) hd rfl rfl rfl (by decide) (Or.inl aw_170) inA8 rfl k
theorem gf_8_32 {K : KT} {cc : ByteArray} {nL d pc : Nat} {ret : Option FieldType} {L : List (Option Value)} {st : List Value} {σ : Sg} (C : Cx K layC cc RX8 nL d ret)  (hd : decode cc pc = .ok (.getfield 32, 3)) (k : G K (pc + 3) L (.ref (kad K 44) :: st) (Wd K layC σ)) : G K pc L (.ref (kad K 3) :: st) (Wd K layC σ) := g_get C (o := 3) (ci := 8) (k := 4) hd rfl rfl rfl (by decide) (Or.inl aw_166) inA8 rfl k
theorem gf_8_58 {K : KT} {cc : ByteArray} {nL d pc : Nat} {ret : Option FieldType} {L : List (Option Value)} {st : List Value} {σ : Sg} (C : Cx K layC cc RX8 nL d ret)  (hd : decode cc pc = .ok (.getfield 58, 3)) (k : G K (pc + 3) L (.int (rI σ 3 9) :: st) (Wd K layC σ)) : G K pc L (.ref (kad K 3) :: st) (Wd K layC σ) := g_get C (o := 3) (ci := 8) (k := 9) hd rfl rfl rfl (by decide) (Or.inl aw_171) inA8 rfl k
theorem kc_8_110 {K : KT} {cc : ByteArray} {nL d pc : Nat} {ret : Option FieldType} {L : List (Option Value)} {st : List Value} {σ : Sg} (C : Cx K layC cc RX8 nL d ret)  {o0 : Nat} {a0 : Int32} {a1 : Int32} {a2 : Int32} {a3 : Int32} (hY0 : layC[o0]? = some (0, 1, slX1)) {p : Int32 × Sg} (hd : decode cc pc = .ok (.invokevirtual 110, 3)) (e : fX1_gainOf o0 a0 a1 a2 a3 σ = some p) (hdd : 1 + 1 ≤ d) (hLn : L.length = nL) (hr : (st.map fun v => v.category).sum ≤ 8) (k : G K (pc + 3) L (.int p.1 :: st) (Wd K layC p.2)) : G K pc L (.int a3 :: .int a2 :: .int a1 :: .int a0 :: .ref (kad K o0) :: st) (Wd K layC σ) :=
  g_callV C (As := [.int a0, .int a1, .int a2, .int a3]) (rest := st) (o := o0) (ci := 1) hd (ct_X1_gainOf hY0 e) cw_X1_gainOf (Or.inl aw_505) aw_506 aw_507 rfl rfl rfl hdd hLn hY0 rfl hr (fun v τ q => by obtain ⟨rfl, rfl⟩ := q; exact k)
theorem gf_8_62 {K : KT} {cc : ByteArray} {nL d pc : Nat} {ret : Option FieldType} {L : List (Option Value)} {st : List Value} {σ : Sg} (C : Cx K layC cc RX8 nL d ret)  (hd : decode cc pc = .ok (.getfield 62, 3)) (k : G K (pc + 3) L (.int (rI σ 3 10) :: st) (Wd K layC σ)) : G K pc L (.ref (kad K 3) :: st) (Wd K layC σ) := g_get C (o := 3) (ci := 8) (k := 10) hd rfl rfl rfl (by decide) (Or.inl aw_172) inA8 rfl k
theorem gf_8_114 {K : KT} {cc : ByteArray} {nL d pc : Nat} {ret : Option FieldType} {L : List (Option Value)} {st : List Value} {σ : Sg} (C : Cx K layC cc RX8 nL d ret)  (hd : decode cc pc = .ok (.getfield 114, 3)) (k : G K (pc + 3) L (.int (rI σ 3 13) :: st) (Wd K layC σ)) : G K pc L (.ref (kad K 3) :: st) (Wd K layC σ) := g_get C (o := 3) (ci := 8) (k := 13) hd rfl rfl rfl (by decide) (Or.inl aw_177) inA8 rfl k
theorem gf_8_96 {K : KT} {cc : ByteArray} {nL d pc : Nat} {ret : Option FieldType} {L : List (Option Value)} {st : List Value} {σ : Sg} (C : Cx K layC cc RX8 nL d ret)  (hd : decode cc pc = .ok (.getfield 96, 3)) (k : G K (pc + 3) L (.int (rI σ 3 12) :: st) (Wd K layC σ)) : G K pc L (.ref (kad K 3) :: st) (Wd K layC σ) := g_get C (o := 3) (ci := 8) (k := 12) hd rfl rfl rfl (by decide) (Or.inl aw_175) inA8 rfl k
def fX8_isHopeless_b64  (σ : Sg) : Option (Int32 × Sg) :=
  some ((1 : Int32), σ)
def fX8_isHopeless_b0 (x1 : Int32) (σ : Sg) : Option (Int32 × Sg) :=
  if inb x1 10 = true then (if inb x1 10 = true then (Option.bind (fX1_gainOf 40 (rI σ 42 (x1).toNatClampNeg) (rI σ 3 8) (rI σ 44 (x1).toNatClampNeg) (rI σ 3 9) σ) fun p3 => (if (rI p3.2 3 10) = 0 then (some ((0 : Int32), p3.2)) else (if p3.1 < (rI p3.2 3 13) then (fX8_isHopeless_b64 p3.2) else (if p3.1 = (rI p3.2 3 13) then (if inb x1 10 = true then (if (rI p3.2 44 (x1).toNatClampNeg) < (rI p3.2 3 12) then (some ((0 : Int32), p3.2)) else (fX8_isHopeless_b64 p3.2)) else none) else (some ((0 : Int32), p3.2)))))) else none) else none
set_option maxRecDepth 4000 in
theorem bX8_isHopeless_b64 {K : KT}  {σ : Sg} {o : Int32 × Sg} (C : Cx K layC cX8_isHopeless RX8 3 (2) (some .boolean))  (hQ : Rk K layC (okI o)) (h : fX8_isHopeless_b64  σ = some o) : G K 64 [none, none, none] [] (Wd K layC σ) := by
  unfold fX8_isHopeless_b64 at h
  refine g_iconst C.c dX8_isHopeless_64 (v := (1 : Int32)) (by decide) ?_
  refine g_goto C.c (tgt := 69) dX8_isHopeless_65 (by decide) ?_
  obtain rfl := Option.some.inj h
  exact g_iret C hQ dX8_isHopeless_69 rfl ⟨rfl, rfl⟩
set_option maxRecDepth 4000 in
theorem bX8_isHopeless_b0 {K : KT} {x1 : Int32} {σ : Sg} {o : Int32 × Sg} (C : Cx K layC cX8_isHopeless RX8 3 (2) (some .boolean))  (hQ : Rk K layC (okI o)) (h : fX8_isHopeless_b0 x1 σ = some o) : G K 0 [some (.ref (kad K 3)), some (.int x1), none] [] (Wd K layC σ) := by
  unfold fX8_isHopeless_b0 at h
  refine g_aload_n C.c dX8_isHopeless_0 rfl (i := 0) rfl ?_
  refine gf_8_21 C dX8_isHopeless_1 ?_
  refine g_aload_n C.c dX8_isHopeless_4 rfl (i := 0) rfl ?_
  refine gf_8_25 C dX8_isHopeless_5 ?_
  refine g_iload_n C.c dX8_isHopeless_8 rfl (i := 1) rfl ?_
  obtain ⟨c1, h⟩ := chk h
  refine g_iald C dX8_isHopeless_9 rfl c1 ?_
  refine g_aload_n C.c dX8_isHopeless_10 rfl (i := 0) rfl ?_
  refine gf_8_48 C dX8_isHopeless_11 ?_
  refine g_aload_n C.c dX8_isHopeless_14 rfl (i := 0) rfl ?_
  refine gf_8_32 C dX8_isHopeless_15 ?_
  refine g_iload_n C.c dX8_isHopeless_18 rfl (i := 1) rfl ?_
  obtain ⟨c2, h⟩ := chk h
  refine g_iald C dX8_isHopeless_19 rfl c2 ?_
  refine g_aload_n C.c dX8_isHopeless_20 rfl (i := 0) rfl ?_
  refine gf_8_58 C dX8_isHopeless_21 ?_
  obtain ⟨p3, e4, h⟩ := Option.bind_eq_some_iff.mp h
  refine kc_8_110 C rfl dX8_isHopeless_24 e4 (Nat.le_of_ble_eq_true rfl) rfl (Nat.le_of_ble_eq_true rfl) ?_
  refine g_istore_n C.c (i := 2) (L' := [some (.ref (kad K 3)), some (.int x1), some (.int p3.1)]) dX8_isHopeless_27 rfl (Nat.le_of_ble_eq_true rfl) rfl ?_
  refine g_aload_n C.c dX8_isHopeless_28 rfl (i := 0) rfl ?_
  refine gf_8_62 C dX8_isHopeless_29 ?_
  refine g_if_eq C.c (tgt := 68) dX8_isHopeless_32 (by decide) (fun c => ?_) (fun c => ?_)
  · replace h := ite_t c h
    refine g_iconst C.c dX8_isHopeless_68 (v := (0 : Int32)) (by decide) ?_
    obtain rfl := Option.some.inj h
    exact g_iret C hQ dX8_isHopeless_69 rfl ⟨rfl, rfl⟩
  · replace h := ite_f c h
    refine g_iload_n C.c dX8_isHopeless_35 rfl (i := 2) rfl ?_
    refine g_aload_n C.c dX8_isHopeless_36 rfl (i := 0) rfl ?_
    refine gf_8_114 C dX8_isHopeless_37 ?_
    refine g_icmp_lt C.c (tgt := 64) dX8_isHopeless_40 (by decide) (fun c => ?_) (fun c => ?_)
    · replace h := ite_t c h
      exact g_mask [false, false, false] rfl (bX8_isHopeless_b64 C hQ h)
    · replace h := ite_f c h
      refine g_iload_n C.c dX8_isHopeless_43 rfl (i := 2) rfl ?_
      refine g_aload_n C.c dX8_isHopeless_44 rfl (i := 0) rfl ?_
      refine gf_8_114 C dX8_isHopeless_45 ?_
      refine g_icmp_ne C.c (tgt := 68) dX8_isHopeless_48 (by decide) (fun c => ?_) (fun c => ?_)
      · replace h := ite_f c h
        refine g_iconst C.c dX8_isHopeless_68 (v := (0 : Int32)) (by decide) ?_
        obtain rfl := Option.some.inj h
        exact g_iret C hQ dX8_isHopeless_69 rfl ⟨rfl, rfl⟩
      · replace h := ite_t c h
        refine g_aload_n C.c dX8_isHopeless_51 rfl (i := 0) rfl ?_
        refine gf_8_32 C dX8_isHopeless_52 ?_
        refine g_iload_n C.c dX8_isHopeless_55 rfl (i := 1) rfl ?_
        obtain ⟨c5, h⟩ := chk h
        refine g_iald C dX8_isHopeless_56 rfl c5 ?_
        refine g_aload_n C.c dX8_isHopeless_57 rfl (i := 0) rfl ?_
        refine gf_8_96 C dX8_isHopeless_58 ?_
        refine g_icmp_lt C.c (tgt := 68) dX8_isHopeless_61 (by decide) (fun c => ?_) (fun c => ?_)
        · replace h := ite_t c h
          refine g_iconst C.c dX8_isHopeless_68 (v := (0 : Int32)) (by decide) ?_
          obtain rfl := Option.some.inj h
          exact g_iret C hQ dX8_isHopeless_69 rfl ⟨rfl, rfl⟩
        · replace h := ite_f c h
          exact g_mask [false, false, false] rfl (bX8_isHopeless_b64 C hQ h)
def fX8_isHopeless (a0 : Int32) (σ : Sg) : Option (Int32 × Sg) := fX8_isHopeless_b0 a0 σ
theorem ct_X8_isHopeless {a0 : Int32} {σ : Sg} {p : Int32 × Sg} (h : fX8_isHopeless a0 σ = some p) : Ct layC yX8_isHopeless cX8_isHopeless 3 (some .boolean) 2 (fun ad => [.ref (ad 3), .int a0]) σ (okI p) :=
 ct_of (L0 := fun ad => [some (.ref (ad 3)), some (.int a0), none]) (by decide) (fun _ => Nat.le_of_ble_eq_true rfl) (fun _ => rfl) (fun K C hQ => g_mask [true, true, false] rfl (bX8_isHopeless_b0 C hQ h))
-- X8_choose
theorem dX8_choose_0 : decode cX8_choose 0 = .ok (.aload_n 0, 1) := by decide +kernel
theorem dX8_choose_1 : decode cX8_choose 1 = .ok (.iconst 1, 1) := by decide +kernel
theorem dX8_choose_2 : decode cX8_choose 2 = .ok (.putfield 62, 3) := by decide +kernel
theorem dX8_choose_5 : decode cX8_choose 5 = .ok (.aload_n 0, 1) := by decide +kernel
theorem dX8_choose_6 : decode cX8_choose 6 = .ok (.aload_n 0, 1) := by decide +kernel
theorem dX8_choose_7 : decode cX8_choose 7 = .ok (.getfield 25, 3) := by decide +kernel
theorem dX8_choose_10 : decode cX8_choose 10 = .ok (.iload_n 1, 1) := by decide +kernel
theorem dX8_choose_11 : decode cX8_choose 11 = .ok (.iaload, 1) := by decide +kernel
theorem dX8_choose_12 : decode cX8_choose 12 = .ok (.putfield 93, 3) := by decide +kernel
theorem dX8_choose_15 : decode cX8_choose 15 = .ok (.aload_n 0, 1) := by decide +kernel
theorem dX8_choose_16 : decode cX8_choose 16 = .ok (.aload_n 0, 1) := by decide +kernel
theorem dX8_choose_17 : decode cX8_choose 17 = .ok (.getfield 32, 3) := by decide +kernel
theorem dX8_choose_20 : decode cX8_choose 20 = .ok (.iload_n 1, 1) := by decide +kernel
theorem dX8_choose_21 : decode cX8_choose 21 = .ok (.iaload, 1) := by decide +kernel
theorem dX8_choose_22 : decode cX8_choose 22 = .ok (.putfield 96, 3) := by decide +kernel
theorem dX8_choose_25 : decode cX8_choose 25 = .ok (.aload_n 0, 1) := by decide +kernel
theorem dX8_choose_26 : decode cX8_choose 26 = .ok (.aload_n 0, 1) := by decide +kernel
theorem dX8_choose_27 : decode cX8_choose 27 = .ok (.getfield 21, 3) := by decide +kernel
theorem dX8_choose_30 : decode cX8_choose 30 = .ok (.aload_n 0, 1) := by decide +kernel
theorem dX8_choose_31 : decode cX8_choose 31 = .ok (.getfield 93, 3) := by decide +kernel
theorem dX8_choose_34 : decode cX8_choose 34 = .ok (.aload_n 0, 1) := by decide +kernel
theorem dX8_choose_35 : decode cX8_choose 35 = .ok (.getfield 48, 3) := by decide +kernel
theorem dX8_choose_38 : decode cX8_choose 38 = .ok (.aload_n 0, 1) := by decide +kernel
theorem dX8_choose_39 : decode cX8_choose 39 = .ok (.getfield 96, 3) := by decide +kernel
theorem dX8_choose_42 : decode cX8_choose 42 = .ok (.aload_n 0, 1) := by decide +kernel
theorem dX8_choose_43 : decode cX8_choose 43 = .ok (.getfield 58, 3) := by decide +kernel
theorem dX8_choose_46 : decode cX8_choose 46 = .ok (.invokevirtual 110, 3) := by decide +kernel
theorem dX8_choose_49 : decode cX8_choose 49 = .ok (.putfield 114, 3) := by decide +kernel
theorem dX8_choose_52 : decode cX8_choose 52 = .ok (.aload_n 0, 1) := by decide +kernel
theorem dX8_choose_53 : decode cX8_choose 53 = .ok (.iload_n 1, 1) := by decide +kernel
theorem dX8_choose_54 : decode cX8_choose 54 = .ok (.putfield 82, 3) := by decide +kernel
theorem dX8_choose_57 : decode cX8_choose 57 = .ok (.aload_n 0, 1) := by decide +kernel
theorem dX8_choose_58 : decode cX8_choose 58 = .ok (.getfield 35, 3) := by decide +kernel
theorem dX8_choose_61 : decode cX8_choose 61 = .ok (.iconst 0, 1) := by decide +kernel
theorem dX8_choose_62 : decode cX8_choose 62 = .ok (.aload_n 0, 1) := by decide +kernel
theorem dX8_choose_63 : decode cX8_choose 63 = .ok (.getfield 38, 3) := by decide +kernel
theorem dX8_choose_66 : decode cX8_choose 66 = .ok (.iconst 0, 1) := by decide +kernel
theorem dX8_choose_67 : decode cX8_choose 67 = .ok (.iload_n 1, 1) := by decide +kernel
theorem dX8_choose_68 : decode cX8_choose 68 = .ok (.invokestatic 117, 3) := by decide +kernel
theorem dX8_choose_71 : decode cX8_choose 71 = .ok (.return_, 1) := by decide +kernel
theorem cw_X8_choose : Cw yX8_choose cX8_choose 2 none 1 := ⟨aw_512, aw_21, ⟨by decide, by decide⟩, by decide +kernel, by decide⟩
theorem pf_8_62 {K : KT} {cc : ByteArray} {nL d pc : Nat} {ret : Option FieldType} {L : List (Option Value)} {st : List Value} {σ : Sg} (C : Cx K layC cc RX8 nL d ret)  {v : Int32} (hb : isB v = true) (hd : decode cc pc = .ok (.putfield 62, 3)) (k : G K (pc + 3) L st (Wd K layC (wI σ 3 10 v))) : G K pc L (.int v :: .ref (kad K 3) :: st) (Wd K layC σ) := g_putI C (o := 3) (ci := 8) (k := 10) hd rfl rfl rfl (by decide) (Or.inl aw_172) inA8 tyX8_ok nmX8 rfl (isB_n hb) (isB_f hb) k
theorem pf_8_93 {K : KT} {cc : ByteArray} {nL d pc : Nat} {ret : Option FieldType} {L : List (Option Value)} {st : List Value} {σ : Sg} (C : Cx K layC cc RX8 nL d ret)  {v : Int32}  (hd : decode cc pc = .ok (.putfield 93, 3)) (k : G K (pc + 3) L st (Wd K layC (wI σ 3 11 v))) : G K pc L (.int v :: .ref (kad K 3) :: st) (Wd K layC σ) := g_putI C (o := 3) (ci := 8) (k := 11) hd rfl rfl rfl (by decide) (Or.inl aw_173) inA8 tyX8_ok nmX8 rfl rfl rfl k
theorem pf_8_96 {K : KT} {cc : ByteArray} {nL d pc : Nat} {ret : Option FieldType} {L : List (Option Value)} {st : List Value} {σ : Sg} (C : Cx K layC cc RX8 nL d ret)  {v : Int32}  (hd : decode cc pc = .ok (.putfield 96, 3)) (k : G K (pc + 3) L st (Wd K layC (wI σ 3 12 v))) : G K pc L (.int v :: .ref (kad K 3) :: st) (Wd K layC σ) := g_putI C (o := 3) (ci := 8) (k := 12) hd rfl rfl rfl (by decide) (Or.inl aw_175) inA8 tyX8_ok nmX8 rfl rfl rfl k
theorem gf_8_93 {K : KT} {cc : ByteArray} {nL d pc : Nat} {ret : Option FieldType} {L : List (Option Value)} {st : List Value} {σ : Sg} (C : Cx K layC cc RX8 nL d ret)  (hd : decode cc pc = .ok (.getfield 93, 3)) (k : G K (pc + 3) L (.int (rI σ 3 11) :: st) (Wd K layC σ)) : G K pc L (.ref (kad K 3) :: st) (Wd K layC σ) := g_get C (o := 3) (ci := 8) (k := 11) hd rfl rfl rfl (by decide) (Or.inl aw_173) inA8 rfl k
theorem pf_8_114 {K : KT} {cc : ByteArray} {nL d pc : Nat} {ret : Option FieldType} {L : List (Option Value)} {st : List Value} {σ : Sg} (C : Cx K layC cc RX8 nL d ret)  {v : Int32}  (hd : decode cc pc = .ok (.putfield 114, 3)) (k : G K (pc + 3) L st (Wd K layC (wI σ 3 13 v))) : G K pc L (.int v :: .ref (kad K 3) :: st) (Wd K layC σ) := g_putI C (o := 3) (ci := 8) (k := 13) hd rfl rfl rfl (by decide) (Or.inl aw_177) inA8 tyX8_ok nmX8 rfl rfl rfl k
theorem pf_8_82 {K : KT} {cc : ByteArray} {nL d pc : Nat} {ret : Option FieldType} {L : List (Option Value)} {st : List Value} {σ : Sg} (C : Cx K layC cc RX8 nL d ret)  {v : Int32}  (hd : decode cc pc = .ok (.putfield 82, 3)) (k : G K (pc + 3) L st (Wd K layC (wI σ 3 14 v))) : G K pc L (.int v :: .ref (kad K 3) :: st) (Wd K layC σ) := g_putI C (o := 3) (ci := 8) (k := 14) hd rfl rfl rfl (by decide) (Or.inl aw_179) inA8 tyX8_ok nmX8 rfl rfl rfl k
theorem gf_8_35 {K : KT} {cc : ByteArray} {nL d pc : Nat} {ret : Option FieldType} {L : List (Option Value)} {st : List Value} {σ : Sg} (C : Cx K layC cc RX8 nL d ret)  (hd : decode cc pc = .ok (.getfield 35, 3)) (k : G K (pc + 3) L (.ref (kad K 45) :: st) (Wd K layC σ)) : G K pc L (.ref (kad K 3) :: st) (Wd K layC σ) := g_get C (o := 3) (ci := 8) (k := 5) hd rfl rfl rfl (by decide) (Or.inl aw_167) inA8 rfl k
theorem gf_8_38 {K : KT} {cc : ByteArray} {nL d pc : Nat} {ret : Option FieldType} {L : List (Option Value)} {st : List Value} {σ : Sg} (C : Cx K layC cc RX8 nL d ret)  (hd : decode cc pc = .ok (.getfield 38, 3)) (k : G K (pc + 3) L (.ref (kad K 46) :: st) (Wd K layC σ)) : G K pc L (.ref (kad K 3) :: st) (Wd K layC σ) := g_get C (o := 3) (ci := 8) (k := 6) hd rfl rfl rfl (by decide) (Or.inl aw_168) inA8 rfl k
def fX8_choose_b0 (x1 : Int32) (σ : Sg) : Option (Sg) :=
  if inb x1 10 = true then (if inb x1 10 = true then (Option.bind (fX1_gainOf 40 (rI (wI (wI (wI σ 3 10 (1 : Int32)) 3 11 (rI (wI σ 3 10 (1 : Int32)) 42 (x1).toNatClampNeg)) 3 12 (rI (wI (wI σ 3 10 (1 : Int32)) 3 11 (rI (wI σ 3 10 (1 : Int32)) 42 (x1).toNatClampNeg)) 44 (x1).toNatClampNeg)) 3 11) (rI (wI (wI (wI σ 3 10 (1 : Int32)) 3 11 (rI (wI σ 3 10 (1 : Int32)) 42 (x1).toNatClampNeg)) 3 12 (rI (wI (wI σ 3 10 (1 : Int32)) 3 11 (rI (wI σ 3 10 (1 : Int32)) 42 (x1).toNatClampNeg)) 44 (x1).toNatClampNeg)) 3 8) (rI (wI (wI (wI σ 3 10 (1 : Int32)) 3 11 (rI (wI σ 3 10 (1 : Int32)) 42 (x1).toNatClampNeg)) 3 12 (rI (wI (wI σ 3 10 (1 : Int32)) 3 11 (rI (wI σ 3 10 (1 : Int32)) 42 (x1).toNatClampNeg)) 44 (x1).toNatClampNeg)) 3 12) (rI (wI (wI (wI σ 3 10 (1 : Int32)) 3 11 (rI (wI σ 3 10 (1 : Int32)) 42 (x1).toNatClampNeg)) 3 12 (rI (wI (wI σ 3 10 (1 : Int32)) 3 11 (rI (wI σ 3 10 (1 : Int32)) 42 (x1).toNatClampNeg)) 44 (x1).toNatClampNeg)) 3 9) (wI (wI (wI σ 3 10 (1 : Int32)) 3 11 (rI (wI σ 3 10 (1 : Int32)) 42 (x1).toNatClampNeg)) 3 12 (rI (wI (wI σ 3 10 (1 : Int32)) 3 11 (rI (wI σ 3 10 (1 : Int32)) 42 (x1).toNatClampNeg)) 44 (x1).toNatClampNeg))) fun p3 => (if cpB (0 : Int32) (0 : Int32) x1 9 9 = true then (some (wC (wI (wI p3.2 3 13 p3.1) 3 14 x1) 45 ((0 : Int32)).toNatClampNeg 46 ((0 : Int32)).toNatClampNeg (x1).toNatClampNeg)) else none)) else none) else none
set_option maxRecDepth 4000 in
theorem bX8_choose_b0 {K : KT} {x1 : Int32} {σ : Sg} {o : Sg} (C : Cx K layC cX8_choose RX8 2 (2) none)  (hQ : Rk K layC (okV o)) (h : fX8_choose_b0 x1 σ = some o) : G K 0 [some (.ref (kad K 3)), some (.int x1)] [] (Wd K layC σ) := by
  unfold fX8_choose_b0 at h
  refine g_aload_n C.c dX8_choose_0 rfl (i := 0) rfl ?_
  refine g_iconst C.c dX8_choose_1 (v := (1 : Int32)) (by decide) ?_
  refine pf_8_62 C (by decide) dX8_choose_2 ?_
  refine g_aload_n C.c dX8_choose_5 rfl (i := 0) rfl ?_
  refine g_aload_n C.c dX8_choose_6 rfl (i := 0) rfl ?_
  refine gf_8_25 C dX8_choose_7 ?_
  refine g_iload_n C.c dX8_choose_10 rfl (i := 1) rfl ?_
  obtain ⟨c1, h⟩ := chk h
  refine g_iald C dX8_choose_11 rfl c1 ?_
  refine pf_8_93 C dX8_choose_12 ?_
  refine g_aload_n C.c dX8_choose_15 rfl (i := 0) rfl ?_
  refine g_aload_n C.c dX8_choose_16 rfl (i := 0) rfl ?_
  refine gf_8_32 C dX8_choose_17 ?_
  refine g_iload_n C.c dX8_choose_20 rfl (i := 1) rfl ?_
  obtain ⟨c2, h⟩ := chk h
  refine g_iald C dX8_choose_21 rfl c2 ?_
  refine pf_8_96 C dX8_choose_22 ?_
  refine g_aload_n C.c dX8_choose_25 rfl (i := 0) rfl ?_
  refine g_aload_n C.c dX8_choose_26 rfl (i := 0) rfl ?_
  refine gf_8_21 C dX8_choose_27 ?_
  refine g_aload_n C.c dX8_choose_30 rfl (i := 0) rfl ?_
  refine gf_8_93 C dX8_choose_31 ?_
  refine g_aload_n C.c dX8_choose_34 rfl (i := 0) rfl ?_
  refine gf_8_48 C dX8_choose_35 ?_
  refine g_aload_n C.c dX8_choose_38 rfl (i := 0) rfl ?_
  refine gf_8_96 C dX8_choose_39 ?_
  refine g_aload_n C.c dX8_choose_42 rfl (i := 0) rfl ?_
  refine gf_8_58 C dX8_choose_43 ?_
  obtain ⟨p3, e4, h⟩ := Option.bind_eq_some_iff.mp h
  refine kc_8_110 C rfl dX8_choose_46 e4 (Nat.le_of_ble_eq_true rfl) rfl (Nat.le_of_ble_eq_true rfl) ?_
  refine pf_8_114 C dX8_choose_49 ?_
  refine g_aload_n C.c dX8_choose_52 rfl (i := 0) rfl ?_
  refine g_iload_n C.c dX8_choose_53 rfl (i := 1) rfl ?_
  refine pf_8_82 C dX8_choose_54 ?_
  refine g_aload_n C.c dX8_choose_57 rfl (i := 0) rfl ?_
  refine gf_8_35 C dX8_choose_58 ?_
  refine g_iconst C.c dX8_choose_61 (v := (0 : Int32)) (by decide) ?_
  refine g_aload_n C.c dX8_choose_62 rfl (i := 0) rfl ?_
  refine gf_8_38 C dX8_choose_63 ?_
  refine g_iconst C.c dX8_choose_66 (v := (0 : Int32)) (by decide) ?_
  refine g_iload_n C.c dX8_choose_67 rfl (i := 1) rfl ?_
  obtain ⟨c5, h⟩ := chk h
  refine g_copy C dX8_choose_68 aw_513 aw_515 aw_514 aw_30 rfl (Nat.le_of_ble_eq_true rfl) (Nat.le_of_ble_eq_true rfl) rfl rfl c5 ?_
  obtain rfl := Option.some.inj h
  exact g_vret C hQ dX8_choose_71 ⟨rfl, rfl⟩
def fX8_choose (a0 : Int32) (σ : Sg) : Option (Sg) := fX8_choose_b0 a0 σ
theorem ct_X8_choose {a0 : Int32} {σ : Sg} {p : Sg} (h : fX8_choose a0 σ = some p) : Ct layC yX8_choose cX8_choose 2 none 2 (fun ad => [.ref (ad 3), .int a0]) σ (okV p) :=
 ct_of (L0 := fun ad => [some (.ref (ad 3)), some (.int a0)]) (by decide) (fun _ => Nat.le_of_ble_eq_true rfl) (fun _ => rfl) (fun K C hQ => g_mask [true, true] rfl (bX8_choose_b0 C hQ h))
-- X8_daysOfStep
theorem dX8_daysOfStep_0 : decode cX8_daysOfStep 0 = .ok (.iconst 1, 1) := by decide +kernel
theorem dX8_daysOfStep_1 : decode cX8_daysOfStep 1 = .ok (.iload_n 3, 1) := by decide +kernel
theorem dX8_daysOfStep_2 : decode cX8_daysOfStep 2 = .ok (.bipush 20, 2) := by decide +kernel
theorem dX8_daysOfStep_4 : decode cX8_daysOfStep 4 = .ok (.aload_n 0, 1) := by decide +kernel
theorem dX8_daysOfStep_5 : decode cX8_daysOfStep 5 = .ok (.getfield 48, 3) := by decide +kernel
theorem dX8_daysOfStep_8 : decode cX8_daysOfStep 8 = .ok (.imul, 1) := by decide +kernel
theorem dX8_daysOfStep_9 : decode cX8_daysOfStep 9 = .ok (.idiv, 1) := by decide +kernel
theorem dX8_daysOfStep_10 : decode cX8_daysOfStep 10 = .ok (.iadd, 1) := by decide +kernel
theorem dX8_daysOfStep_11 : decode cX8_daysOfStep 11 = .ok (.istore 4, 2) := by decide +kernel
theorem dX8_daysOfStep_13 : decode cX8_daysOfStep 13 = .ok (.aload_n 0, 1) := by decide +kernel
theorem dX8_daysOfStep_14 : decode cX8_daysOfStep 14 = .ok (.getfield 12, 3) := by decide +kernel
theorem dX8_daysOfStep_17 : decode cX8_daysOfStep 17 = .ok (.getfield 143, 3) := by decide +kernel
theorem dX8_daysOfStep_20 : decode cX8_daysOfStep 20 = .ok (.iload_n 1, 1) := by decide +kernel
theorem dX8_daysOfStep_21 : decode cX8_daysOfStep 21 = .ok (.iaload, 1) := by decide +kernel
theorem dX8_daysOfStep_22 : decode cX8_daysOfStep 22 = .ok (.istore 5, 2) := by decide +kernel
theorem dX8_daysOfStep_24 : decode cX8_daysOfStep 24 = .ok (.iload 5, 2) := by decide +kernel
theorem dX8_daysOfStep_26 : decode cX8_daysOfStep 26 = .ok (.iload_n 2, 1) := by decide +kernel
theorem dX8_daysOfStep_27 : decode cX8_daysOfStep 27 = .ok (.if_icmp .ne 9, 3) := by decide +kernel
theorem dX8_daysOfStep_30 : decode cX8_daysOfStep 30 = .ok (.iinc 4 (-1), 3) := by decide +kernel
theorem dX8_daysOfStep_33 : decode cX8_daysOfStep 33 = .ok (.goto 22, 3) := by decide +kernel
theorem dX8_daysOfStep_36 : decode cX8_daysOfStep 36 = .ok (.iload 5, 2) := by decide +kernel
theorem dX8_daysOfStep_38 : decode cX8_daysOfStep 38 = .ok (.iconst (-1), 1) := by decide +kernel
theorem dX8_daysOfStep_39 : decode cX8_daysOfStep 39 = .ok (.if_icmp .eq 16, 3) := by decide +kernel
theorem dX8_daysOfStep_42 : decode cX8_daysOfStep 42 = .ok (.iload 5, 2) := by decide +kernel
theorem dX8_daysOfStep_44 : decode cX8_daysOfStep 44 = .ok (.iconst 2, 1) := by decide +kernel
theorem dX8_daysOfStep_45 : decode cX8_daysOfStep 45 = .ok (.iadd, 1) := by decide +kernel
theorem dX8_daysOfStep_46 : decode cX8_daysOfStep 46 = .ok (.iconst 4, 1) := by decide +kernel
theorem dX8_daysOfStep_47 : decode cX8_daysOfStep 47 = .ok (.irem, 1) := by decide +kernel
theorem dX8_daysOfStep_48 : decode cX8_daysOfStep 48 = .ok (.iload_n 2, 1) := by decide +kernel
theorem dX8_daysOfStep_49 : decode cX8_daysOfStep 49 = .ok (.if_icmp .ne 6, 3) := by decide +kernel
theorem dX8_daysOfStep_52 : decode cX8_daysOfStep 52 = .ok (.iinc 4 1, 3) := by decide +kernel
theorem dX8_daysOfStep_55 : decode cX8_daysOfStep 55 = .ok (.iconst 1, 1) := by decide +kernel
theorem dX8_daysOfStep_56 : decode cX8_daysOfStep 56 = .ok (.iload 4, 2) := by decide +kernel
theorem dX8_daysOfStep_58 : decode cX8_daysOfStep 58 = .ok (.invokestatic 52, 3) := by decide +kernel
theorem dX8_daysOfStep_61 : decode cX8_daysOfStep 61 = .ok (.ireturn, 1) := by decide +kernel
theorem cw_X8_daysOfStep : Cw yX8_daysOfStep cX8_daysOfStep 6 (some .int) 3 := ⟨aw_523, aw_21, ⟨by decide, by decide⟩, by decide +kernel, by decide⟩
theorem gf_8_12 {K : KT} {cc : ByteArray} {nL d pc : Nat} {ret : Option FieldType} {L : List (Option Value)} {st : List Value} {σ : Sg} (C : Cx K layC cc RX8 nL d ret)  (hd : decode cc pc = .ok (.getfield 12, 3)) (k : G K (pc + 3) L (.ref (kad K 4) :: st) (Wd K layC σ)) : G K pc L (.ref (kad K 3) :: st) (Wd K layC σ) := g_get C (o := 3) (ci := 8) (k := 0) hd rfl rfl rfl (by decide) (Or.inl aw_160) inA8 rfl k
theorem gf_8_143 {K : KT} {cc : ByteArray} {nL d pc : Nat} {ret : Option FieldType} {L : List (Option Value)} {st : List Value} {σ : Sg} (C : Cx K layC cc RX8 nL d ret)  (hd : decode cc pc = .ok (.getfield 143, 3)) (k : G K (pc + 3) L (.ref (kad K 6) :: st) (Wd K layC σ)) : G K pc L (.ref (kad K 4) :: st) (Wd K layC σ) := g_get C (o := 4) (ci := 7) (k := 1) hd rfl rfl rfl (by decide) (Or.inr ⟨_, aw_88⟩) inA7 rfl k
def fX8_daysOfStep_b55 (x4 : Int32) (σ : Sg) : Option (Int32 × Sg) :=
  some ((imax (1 : Int32) x4), σ)
def fX8_daysOfStep_b0 (x1 : Int32) (x2 : Int32) (x3 : Int32) (σ : Sg) : Option (Int32 × Sg) :=
  if ((20 : Int32) * (rI σ 3 8)) = 0 then none else if inb x1 30 = true then (if (rI σ 6 (x1).toNatClampNeg) = x2 then (fX8_daysOfStep_b55 (((1 : Int32) + (x3 / ((20 : Int32) * (rI σ 3 8)))) + (-1 : Int32)) σ) else (if (rI σ 6 (x1).toNatClampNeg) = (-1 : Int32) then (fX8_daysOfStep_b55 ((1 : Int32) + (x3 / ((20 : Int32) * (rI σ 3 8)))) σ) else (if (((rI σ 6 (x1).toNatClampNeg) + (2 : Int32)) - ((rI σ 6 (x1).toNatClampNeg) + (2 : Int32)) / (4 : Int32) * (4 : Int32)) = x2 then (fX8_daysOfStep_b55 (((1 : Int32) + (x3 / ((20 : Int32) * (rI σ 3 8)))) + (1 : Int32)) σ) else (fX8_daysOfStep_b55 ((1 : Int32) + (x3 / ((20 : Int32) * (rI σ 3 8)))) σ)))) else none
set_option maxRecDepth 4000 in
theorem bX8_daysOfStep_b55 {K : KT} {x4 : Int32} {σ : Sg} {o : Int32 × Sg} (C : Cx K layC cX8_daysOfStep RX8 6 (1) (some .int))  (hQ : Rk K layC (okI o)) (h : fX8_daysOfStep_b55 x4 σ = some o) : G K 55 [none, none, none, none, some (.int x4), none] [] (Wd K layC σ) := by
  unfold fX8_daysOfStep_b55 at h
  refine g_iconst C.c dX8_daysOfStep_55 (v := (1 : Int32)) (by decide) ?_
  refine g_iload C.c dX8_daysOfStep_56 (i := 4) rfl ?_
  refine g_max C.c dX8_daysOfStep_58 aw_497 aw_416 aw_29 aw_417 rfl (Nat.le_of_ble_eq_true rfl) (Nat.le_of_ble_eq_true rfl) ?_
  obtain rfl := Option.some.inj h
  exact g_iret C hQ dX8_daysOfStep_61 rfl ⟨rfl, rfl⟩
set_option maxRecDepth 4000 in
theorem bX8_daysOfStep_b0 {K : KT} {x1 : Int32} {x2 : Int32} {x3 : Int32} {σ : Sg} {o : Int32 × Sg} (C : Cx K layC cX8_daysOfStep RX8 6 (1) (some .int))  (hQ : Rk K layC (okI o)) (h : fX8_daysOfStep_b0 x1 x2 x3 σ = some o) : G K 0 [some (.ref (kad K 3)), some (.int x1), some (.int x2), some (.int x3), none, none] [] (Wd K layC σ) := by
  unfold fX8_daysOfStep_b0 at h
  refine g_iconst C.c dX8_daysOfStep_0 (v := (1 : Int32)) (by decide) ?_
  refine g_iload_n C.c dX8_daysOfStep_1 rfl (i := 3) rfl ?_
  refine g_bipush C.c dX8_daysOfStep_2 (v := (20 : Int32)) (by decide) ?_
  refine g_aload_n C.c dX8_daysOfStep_4 rfl (i := 0) rfl ?_
  refine gf_8_48 C dX8_daysOfStep_5 ?_
  refine g_imul C.c dX8_daysOfStep_8 ?_
  obtain ⟨c1, h⟩ := chk0 h
  refine g_idiv C.c dX8_daysOfStep_9 c1 ?_
  refine g_iadd C.c dX8_daysOfStep_10 ?_
  refine g_istore C.c (i := 4) (L' := [some (.ref (kad K 3)), some (.int x1), some (.int x2), some (.int x3), some (.int ((1 : Int32) + (x3 / ((20 : Int32) * (rI σ 3 8))))), none]) dX8_daysOfStep_11 (Nat.le_of_ble_eq_true rfl) rfl ?_
  refine g_aload_n C.c dX8_daysOfStep_13 rfl (i := 0) rfl ?_
  refine gf_8_12 C dX8_daysOfStep_14 ?_
  refine gf_8_143 C dX8_daysOfStep_17 ?_
  refine g_iload_n C.c dX8_daysOfStep_20 rfl (i := 1) rfl ?_
  obtain ⟨c2, h⟩ := chk h
  refine g_iald C dX8_daysOfStep_21 rfl c2 ?_
  refine g_istore C.c (i := 5) (L' := [some (.ref (kad K 3)), some (.int x1), some (.int x2), some (.int x3), some (.int ((1 : Int32) + (x3 / ((20 : Int32) * (rI σ 3 8))))), some (.int (rI σ 6 (x1).toNatClampNeg))]) dX8_daysOfStep_22 (Nat.le_of_ble_eq_true rfl) rfl ?_
  refine g_iload C.c dX8_daysOfStep_24 (i := 5) rfl ?_
  refine g_iload_n C.c dX8_daysOfStep_26 rfl (i := 2) rfl ?_
  refine g_icmp_ne C.c (tgt := 36) dX8_daysOfStep_27 (by decide) (fun c => ?_) (fun c => ?_)
  · replace h := ite_f c h
    refine g_iload C.c dX8_daysOfStep_36 (i := 5) rfl ?_
    refine g_iconst C.c dX8_daysOfStep_38 (v := (-1 : Int32)) (by decide) ?_
    refine g_icmp_eq C.c (tgt := 55) dX8_daysOfStep_39 (by decide) (fun c => ?_) (fun c => ?_)
    · replace h := ite_t c h
      exact g_mask [false, false, false, false, true, false] rfl (bX8_daysOfStep_b55 C hQ h)
    · replace h := ite_f c h
      refine g_iload C.c dX8_daysOfStep_42 (i := 5) rfl ?_
      refine g_iconst C.c dX8_daysOfStep_44 (v := (2 : Int32)) (by decide) ?_
      refine g_iadd C.c dX8_daysOfStep_45 ?_
      refine g_iconst C.c dX8_daysOfStep_46 (v := (4 : Int32)) (by decide) ?_
      refine g_irem C.c dX8_daysOfStep_47 (by decide) ?_
      refine g_iload_n C.c dX8_daysOfStep_48 rfl (i := 2) rfl ?_
      refine g_icmp_ne C.c (tgt := 55) dX8_daysOfStep_49 (by decide) (fun c => ?_) (fun c => ?_)
      · replace h := ite_f c h
        exact g_mask [false, false, false, false, true, false] rfl (bX8_daysOfStep_b55 C hQ h)
      · replace h := ite_t c h
        refine g_iinc C.c (i := 4) (y := (1 : Int32)) (L' := [some (.ref (kad K 3)), some (.int x1), some (.int x2), some (.int x3), some (.int (((1 : Int32) + (x3 / ((20 : Int32) * (rI σ 3 8)))) + (1 : Int32))), some (.int (rI σ 6 (x1).toNatClampNeg))]) dX8_daysOfStep_52 rfl (by decide) (Nat.le_of_ble_eq_true rfl) rfl ?_
        exact g_mask [false, false, false, false, true, false] rfl (bX8_daysOfStep_b55 C hQ h)
  · replace h := ite_t c h
    refine g_iinc C.c (i := 4) (y := (-1 : Int32)) (L' := [some (.ref (kad K 3)), some (.int x1), some (.int x2), some (.int x3), some (.int (((1 : Int32) + (x3 / ((20 : Int32) * (rI σ 3 8)))) + (-1 : Int32))), some (.int (rI σ 6 (x1).toNatClampNeg))]) dX8_daysOfStep_30 rfl (by decide) (Nat.le_of_ble_eq_true rfl) rfl ?_
    refine g_goto C.c (tgt := 55) dX8_daysOfStep_33 (by decide) ?_
    exact g_mask [false, false, false, false, true, false] rfl (bX8_daysOfStep_b55 C hQ h)
def fX8_daysOfStep (a0 : Int32) (a1 : Int32) (a2 : Int32) (σ : Sg) : Option (Int32 × Sg) := fX8_daysOfStep_b0 a0 a1 a2 σ
theorem ct_X8_daysOfStep {a0 : Int32} {a1 : Int32} {a2 : Int32} {σ : Sg} {p : Int32 × Sg} (h : fX8_daysOfStep a0 a1 a2 σ = some p) : Ct layC yX8_daysOfStep cX8_daysOfStep 6 (some .int) 1 (fun ad => [.ref (ad 3), .int a0, .int a1, .int a2]) σ (okI p) :=
 ct_of (L0 := fun ad => [some (.ref (ad 3)), some (.int a0), some (.int a1), some (.int a2), none, none]) (by decide) (fun _ => Nat.le_of_ble_eq_true rfl) (fun _ => rfl) (fun K C hQ => g_mask [true, true, true, true, false, false] rfl (bX8_daysOfStep_b0 C hQ h))
-- X8_drawnWarmth
theorem dX8_drawnWarmth_0 : decode cX8_drawnWarmth 0 = .ok (.aload_n 0, 1) := by decide +kernel
theorem dX8_drawnWarmth_1 : decode cX8_drawnWarmth 1 = .ok (.ldc2_w 146, 3) := by decide +kernel
theorem dX8_drawnWarmth_4 : decode cX8_drawnWarmth 4 = .ok (.aload_n 0, 1) := by decide +kernel
theorem dX8_drawnWarmth_5 : decode cX8_drawnWarmth 5 = .ok (.getfield 78, 3) := by decide +kernel
theorem dX8_drawnWarmth_8 : decode cX8_drawnWarmth 8 = .ok (.lmul, 1) := by decide +kernel
theorem dX8_drawnWarmth_9 : decode cX8_drawnWarmth 9 = .ok (.ldc2_w 148, 3) := by decide +kernel
theorem dX8_drawnWarmth_12 : decode cX8_drawnWarmth 12 = .ok (.ladd, 1) := by decide +kernel
theorem dX8_drawnWarmth_13 : decode cX8_drawnWarmth 13 = .ok (.ldc2_w 150, 3) := by decide +kernel
theorem dX8_drawnWarmth_16 : decode cX8_drawnWarmth 16 = .ok (.lrem, 1) := by decide +kernel
theorem dX8_drawnWarmth_17 : decode cX8_drawnWarmth 17 = .ok (.putfield 78, 3) := by decide +kernel
theorem dX8_drawnWarmth_20 : decode cX8_drawnWarmth 20 = .ok (.aload_n 0, 1) := by decide +kernel
theorem dX8_drawnWarmth_21 : decode cX8_drawnWarmth 21 = .ok (.getfield 78, 3) := by decide +kernel
theorem dX8_drawnWarmth_24 : decode cX8_drawnWarmth 24 = .ok (.ldc2_w 152, 3) := by decide +kernel
theorem dX8_drawnWarmth_27 : decode cX8_drawnWarmth 27 = .ok (.ldiv, 1) := by decide +kernel
theorem dX8_drawnWarmth_28 : decode cX8_drawnWarmth 28 = .ok (.ldc2_w 154, 3) := by decide +kernel
theorem dX8_drawnWarmth_31 : decode cX8_drawnWarmth 31 = .ok (.lrem, 1) := by decide +kernel
theorem dX8_drawnWarmth_32 : decode cX8_drawnWarmth 32 = .ok (.l2i, 1) := by decide +kernel
theorem dX8_drawnWarmth_33 : decode cX8_drawnWarmth 33 = .ok (.istore_n 2, 1) := by decide +kernel
theorem dX8_drawnWarmth_34 : decode cX8_drawnWarmth 34 = .ok (.iconst 0, 1) := by decide +kernel
theorem dX8_drawnWarmth_35 : decode cX8_drawnWarmth 35 = .ok (.iload_n 1, 1) := by decide +kernel
theorem dX8_drawnWarmth_36 : decode cX8_drawnWarmth 36 = .ok (.iload_n 2, 1) := by decide +kernel
theorem dX8_drawnWarmth_37 : decode cX8_drawnWarmth 37 = .ok (.iadd, 1) := by decide +kernel
theorem dX8_drawnWarmth_38 : decode cX8_drawnWarmth 38 = .ok (.iconst 1, 1) := by decide +kernel
theorem dX8_drawnWarmth_39 : decode cX8_drawnWarmth 39 = .ok (.isub, 1) := by decide +kernel
theorem dX8_drawnWarmth_40 : decode cX8_drawnWarmth 40 = .ok (.invokestatic 52, 3) := by decide +kernel
theorem dX8_drawnWarmth_43 : decode cX8_drawnWarmth 43 = .ok (.ireturn, 1) := by decide +kernel
theorem cw_X8_drawnWarmth : Cw yX8_drawnWarmth cX8_drawnWarmth 3 (some .int) 1 := ⟨aw_527, aw_21, ⟨by decide, by decide⟩, by decide +kernel, by decide⟩
theorem gf_8_78 {K : KT} {cc : ByteArray} {nL d pc : Nat} {ret : Option FieldType} {L : List (Option Value)} {st : List Value} {σ : Sg} (C : Cx K layC cc RX8 nL d ret)  (hd : decode cc pc = .ok (.getfield 78, 3)) (k : G K (pc + 3) L (.long (rJ σ 3 16) :: st) (Wd K layC σ)) : G K pc L (.ref (kad K 3) :: st) (Wd K layC σ) := g_get C (o := 3) (ci := 8) (k := 16) hd rfl rfl rfl (by decide) (Or.inl aw_182) inA8 rfl k
theorem pf_8_78 {K : KT} {cc : ByteArray} {nL d pc : Nat} {ret : Option FieldType} {L : List (Option Value)} {st : List Value} {σ : Sg} (C : Cx K layC cc RX8 nL d ret)  {v : Int64}  (hd : decode cc pc = .ok (.putfield 78, 3)) (k : G K (pc + 3) L st (Wd K layC (wJ σ 3 16 v))) : G K pc L (.long v :: .ref (kad K 3) :: st) (Wd K layC σ) := g_putJ C (o := 3) (ci := 8) (k := 16) hd rfl rfl rfl (by decide) (Or.inl aw_182) inA8 tyX8_ok nmX8 rfl rfl rfl k
def fX8_drawnWarmth_b0 (x1 : Int32) (σ : Sg) : Option (Int32 × Sg) :=
  some ((imax (0 : Int32) ((x1 + ((((rJ (wJ σ 3 16 ((((1103515245 : Int64) * (rJ σ 3 16)) + (12345 : Int64)) - (((1103515245 : Int64) * (rJ σ 3 16)) + (12345 : Int64)) / (2147483648 : Int64) * (2147483648 : Int64))) 3 16) / (65536 : Int64)) - ((rJ (wJ σ 3 16 ((((1103515245 : Int64) * (rJ σ 3 16)) + (12345 : Int64)) - (((1103515245 : Int64) * (rJ σ 3 16)) + (12345 : Int64)) / (2147483648 : Int64) * (2147483648 : Int64))) 3 16) / (65536 : Int64)) / (3 : Int64) * (3 : Int64))).toInt32) - (1 : Int32))), (wJ σ 3 16 ((((1103515245 : Int64) * (rJ σ 3 16)) + (12345 : Int64)) - (((1103515245 : Int64) * (rJ σ 3 16)) + (12345 : Int64)) / (2147483648 : Int64) * (2147483648 : Int64))))
set_option maxRecDepth 4000 in
theorem bX8_drawnWarmth_b0 {K : KT} {x1 : Int32} {σ : Sg} {o : Int32 × Sg} (C : Cx K layC cX8_drawnWarmth RX8 3 (1) (some .int))  (hQ : Rk K layC (okI o)) (h : fX8_drawnWarmth_b0 x1 σ = some o) : G K 0 [some (.ref (kad K 3)), some (.int x1), none] [] (Wd K layC σ) := by
  unfold fX8_drawnWarmth_b0 at h
  refine g_aload_n C.c dX8_drawnWarmth_0 rfl (i := 0) rfl ?_
  refine g_ldc2 C.c (v := (1103515245 : Int64)) aw_528 dX8_drawnWarmth_1 ?_
  refine g_aload_n C.c dX8_drawnWarmth_4 rfl (i := 0) rfl ?_
  refine gf_8_78 C dX8_drawnWarmth_5 ?_
  refine g_lmul C.c dX8_drawnWarmth_8 ?_
  refine g_ldc2 C.c (v := (12345 : Int64)) aw_529 dX8_drawnWarmth_9 ?_
  refine g_ladd C.c dX8_drawnWarmth_12 ?_
  refine g_ldc2 C.c (v := (2147483648 : Int64)) aw_530 dX8_drawnWarmth_13 ?_
  refine g_lrem C.c dX8_drawnWarmth_16 (by decide) ?_
  refine pf_8_78 C dX8_drawnWarmth_17 ?_
  refine g_aload_n C.c dX8_drawnWarmth_20 rfl (i := 0) rfl ?_
  refine gf_8_78 C dX8_drawnWarmth_21 ?_
  refine g_ldc2 C.c (v := (65536 : Int64)) aw_531 dX8_drawnWarmth_24 ?_
  refine g_ldiv C.c dX8_drawnWarmth_27 (by decide) ?_
  refine g_ldc2 C.c (v := (3 : Int64)) aw_532 dX8_drawnWarmth_28 ?_
  refine g_lrem C.c dX8_drawnWarmth_31 (by decide) ?_
  refine g_l2i C.c dX8_drawnWarmth_32 ?_
  refine g_istore_n C.c (i := 2) (L' := [some (.ref (kad K 3)), some (.int x1), some (.int ((((rJ (wJ σ 3 16 ((((1103515245 : Int64) * (rJ σ 3 16)) + (12345 : Int64)) - (((1103515245 : Int64) * (rJ σ 3 16)) + (12345 : Int64)) / (2147483648 : Int64) * (2147483648 : Int64))) 3 16) / (65536 : Int64)) - ((rJ (wJ σ 3 16 ((((1103515245 : Int64) * (rJ σ 3 16)) + (12345 : Int64)) - (((1103515245 : Int64) * (rJ σ 3 16)) + (12345 : Int64)) / (2147483648 : Int64) * (2147483648 : Int64))) 3 16) / (65536 : Int64)) / (3 : Int64) * (3 : Int64))).toInt32)]) dX8_drawnWarmth_33 rfl (Nat.le_of_ble_eq_true rfl) rfl ?_
  refine g_iconst C.c dX8_drawnWarmth_34 (v := (0 : Int32)) (by decide) ?_
  refine g_iload_n C.c dX8_drawnWarmth_35 rfl (i := 1) rfl ?_
  refine g_iload_n C.c dX8_drawnWarmth_36 rfl (i := 2) rfl ?_
  refine g_iadd C.c dX8_drawnWarmth_37 ?_
  refine g_iconst C.c dX8_drawnWarmth_38 (v := (1 : Int32)) (by decide) ?_
  refine g_isub C.c dX8_drawnWarmth_39 ?_
  refine g_max C.c dX8_drawnWarmth_40 aw_497 aw_416 aw_29 aw_417 rfl (Nat.le_of_ble_eq_true rfl) (Nat.le_of_ble_eq_true rfl) ?_
  obtain rfl := Option.some.inj h
  exact g_iret C hQ dX8_drawnWarmth_43 rfl ⟨rfl, rfl⟩
def fX8_drawnWarmth (a0 : Int32) (σ : Sg) : Option (Int32 × Sg) := fX8_drawnWarmth_b0 a0 σ
theorem ct_X8_drawnWarmth {a0 : Int32} {σ : Sg} {p : Int32 × Sg} (h : fX8_drawnWarmth a0 σ = some p) : Ct layC yX8_drawnWarmth cX8_drawnWarmth 3 (some .int) 1 (fun ad => [.ref (ad 3), .int a0]) σ (okI p) :=
 ct_of (L0 := fun ad => [some (.ref (ad 3)), some (.int a0), none]) (by decide) (fun _ => Nat.le_of_ble_eq_true rfl) (fun _ => rfl) (fun K C hQ => g_mask [true, true, false] rfl (bX8_drawnWarmth_b0 C hQ h))
-- X8_pass
theorem dX8_pass_0 : decode cX8_pass 0 = .ok (.aload_n 0, 1) := by decide +kernel
theorem dX8_pass_1 : decode cX8_pass 1 = .ok (.getfield 25, 3) := by decide +kernel
theorem dX8_pass_4 : decode cX8_pass 4 = .ok (.iload_n 1, 1) := by decide +kernel
theorem dX8_pass_5 : decode cX8_pass 5 = .ok (.iaload, 1) := by decide +kernel
theorem dX8_pass_6 : decode cX8_pass 6 = .ok (.istore 4, 2) := by decide +kernel
theorem dX8_pass_8 : decode cX8_pass 8 = .ok (.aload_n 0, 1) := by decide +kernel
theorem dX8_pass_9 : decode cX8_pass 9 = .ok (.getfield 29, 3) := by decide +kernel
theorem dX8_pass_12 : decode cX8_pass 12 = .ok (.iload_n 1, 1) := by decide +kernel
theorem dX8_pass_13 : decode cX8_pass 13 = .ok (.iaload, 1) := by decide +kernel
theorem dX8_pass_14 : decode cX8_pass 14 = .ok (.istore 5, 2) := by decide +kernel
theorem dX8_pass_16 : decode cX8_pass 16 = .ok (.aload_n 0, 1) := by decide +kernel
theorem dX8_pass_17 : decode cX8_pass 17 = .ok (.getfield 32, 3) := by decide +kernel
theorem dX8_pass_20 : decode cX8_pass 20 = .ok (.iload_n 1, 1) := by decide +kernel
theorem dX8_pass_21 : decode cX8_pass 21 = .ok (.iaload, 1) := by decide +kernel
theorem dX8_pass_22 : decode cX8_pass 22 = .ok (.istore 6, 2) := by decide +kernel
theorem dX8_pass_24 : decode cX8_pass 24 = .ok (.iload 6, 2) := by decide +kernel
theorem dX8_pass_26 : decode cX8_pass 26 = .ok (.aload_n 0, 1) := by decide +kernel
theorem dX8_pass_27 : decode cX8_pass 27 = .ok (.iload_n 2, 1) := by decide +kernel
theorem dX8_pass_28 : decode cX8_pass 28 = .ok (.iload_n 3, 1) := by decide +kernel
theorem dX8_pass_29 : decode cX8_pass 29 = .ok (.iload 4, 2) := by decide +kernel
theorem dX8_pass_31 : decode cX8_pass 31 = .ok (.invokevirtual 123, 3) := by decide +kernel
theorem dX8_pass_34 : decode cX8_pass 34 = .ok (.iadd, 1) := by decide +kernel
theorem dX8_pass_35 : decode cX8_pass 35 = .ok (.istore 7, 2) := by decide +kernel
theorem dX8_pass_37 : decode cX8_pass 37 = .ok (.iload 6, 2) := by decide +kernel
theorem dX8_pass_39 : decode cX8_pass 39 = .ok (.iload 7, 2) := by decide +kernel
theorem dX8_pass_41 : decode cX8_pass 41 = .ok (.if_icmp .ge 154, 3) := by decide +kernel
theorem dX8_pass_44 : decode cX8_pass 44 = .ok (.iload 4, 2) := by decide +kernel
theorem dX8_pass_46 : decode cX8_pass 46 = .ok (.ifCond .le 149, 3) := by decide +kernel
theorem dX8_pass_49 : decode cX8_pass 49 = .ok (.iinc 6 1, 3) := by decide +kernel
theorem dX8_pass_52 : decode cX8_pass 52 = .ok (.aload_n 0, 1) := by decide +kernel
theorem dX8_pass_53 : decode cX8_pass 53 = .ok (.getfield 65, 3) := by decide +kernel
theorem dX8_pass_56 : decode cX8_pass 56 = .ok (.ifCond .eq 19, 3) := by decide +kernel
theorem dX8_pass_59 : decode cX8_pass 59 = .ok (.aload_n 0, 1) := by decide +kernel
theorem dX8_pass_60 : decode cX8_pass 60 = .ok (.aload_n 0, 1) := by decide +kernel
theorem dX8_pass_61 : decode cX8_pass 61 = .ok (.getfield 12, 3) := by decide +kernel
theorem dX8_pass_64 : decode cX8_pass 64 = .ok (.getfield 127, 3) := by decide +kernel
theorem dX8_pass_67 : decode cX8_pass 67 = .ok (.iload_n 2, 1) := by decide +kernel
theorem dX8_pass_68 : decode cX8_pass 68 = .ok (.iaload, 1) := by decide +kernel
theorem dX8_pass_69 : decode cX8_pass 69 = .ok (.invokevirtual 130, 3) := by decide +kernel
theorem dX8_pass_72 : decode cX8_pass 72 = .ok (.goto 12, 3) := by decide +kernel
theorem dX8_pass_75 : decode cX8_pass 75 = .ok (.aload_n 0, 1) := by decide +kernel
theorem dX8_pass_76 : decode cX8_pass 76 = .ok (.getfield 12, 3) := by decide +kernel
theorem dX8_pass_79 : decode cX8_pass 79 = .ok (.getfield 127, 3) := by decide +kernel
theorem dX8_pass_82 : decode cX8_pass 82 = .ok (.iload_n 2, 1) := by decide +kernel
theorem dX8_pass_83 : decode cX8_pass 83 = .ok (.iaload, 1) := by decide +kernel
theorem dX8_pass_84 : decode cX8_pass 84 = .ok (.istore 8, 2) := by decide +kernel
theorem dX8_pass_86 : decode cX8_pass 86 = .ok (.aload_n 0, 1) := by decide +kernel
theorem dX8_pass_87 : decode cX8_pass 87 = .ok (.getfield 44, 3) := by decide +kernel
theorem dX8_pass_90 : decode cX8_pass 90 = .ok (.iload 8, 2) := by decide +kernel
theorem dX8_pass_92 : decode cX8_pass 92 = .ok (.iload 4, 2) := by decide +kernel
theorem dX8_pass_94 : decode cX8_pass 94 = .ok (.invokevirtual 134, 3) := by decide +kernel
theorem dX8_pass_97 : decode cX8_pass 97 = .ok (.istore 9, 2) := by decide +kernel
theorem dX8_pass_99 : decode cX8_pass 99 = .ok (.iconst 0, 1) := by decide +kernel
theorem dX8_pass_100 : decode cX8_pass 100 = .ok (.iload 4, 2) := by decide +kernel
theorem dX8_pass_102 : decode cX8_pass 102 = .ok (.aload_n 0, 1) := by decide +kernel
theorem dX8_pass_103 : decode cX8_pass 103 = .ok (.getfield 58, 3) := by decide +kernel
theorem dX8_pass_106 : decode cX8_pass 106 = .ok (.ifCond .eq 13, 3) := by decide +kernel
theorem dX8_pass_109 : decode cX8_pass 109 = .ok (.iload 9, 2) := by decide +kernel
theorem dX8_pass_111 : decode cX8_pass 111 = .ok (.iload 9, 2) := by decide +kernel
theorem dX8_pass_113 : decode cX8_pass 113 = .ok (.iconst 3, 1) := by decide +kernel
theorem dX8_pass_114 : decode cX8_pass 114 = .ok (.idiv, 1) := by decide +kernel
theorem dX8_pass_115 : decode cX8_pass 115 = .ok (.isub, 1) := by decide +kernel
theorem dX8_pass_116 : decode cX8_pass 116 = .ok (.goto 5, 3) := by decide +kernel
theorem dX8_pass_119 : decode cX8_pass 119 = .ok (.iload 9, 2) := by decide +kernel
theorem dX8_pass_121 : decode cX8_pass 121 = .ok (.isub, 1) := by decide +kernel
theorem dX8_pass_122 : decode cX8_pass 122 = .ok (.invokestatic 52, 3) := by decide +kernel
theorem dX8_pass_125 : decode cX8_pass 125 = .ok (.istore 4, 2) := by decide +kernel
theorem dX8_pass_127 : decode cX8_pass 127 = .ok (.iconst 0, 1) := by decide +kernel
theorem dX8_pass_128 : decode cX8_pass 128 = .ok (.iload 5, 2) := by decide +kernel
theorem dX8_pass_130 : decode cX8_pass 130 = .ok (.iload 8, 2) := by decide +kernel
theorem dX8_pass_132 : decode cX8_pass 132 = .ok (.isub, 1) := by decide +kernel
theorem dX8_pass_133 : decode cX8_pass 133 = .ok (.invokestatic 52, 3) := by decide +kernel
theorem dX8_pass_136 : decode cX8_pass 136 = .ok (.istore 5, 2) := by decide +kernel
theorem dX8_pass_138 : decode cX8_pass 138 = .ok (.iload 5, 2) := by decide +kernel
theorem dX8_pass_140 : decode cX8_pass 140 = .ok (.ifCond .ne 27, 3) := by decide +kernel
theorem dX8_pass_143 : decode cX8_pass 143 = .ok (.aload_n 0, 1) := by decide +kernel
theorem dX8_pass_144 : decode cX8_pass 144 = .ok (.getfield 44, 3) := by decide +kernel
theorem dX8_pass_147 : decode cX8_pass 147 = .ok (.getfield 137, 3) := by decide +kernel
theorem dX8_pass_150 : decode cX8_pass 150 = .ok (.iconst 4, 1) := by decide +kernel
theorem dX8_pass_151 : decode cX8_pass 151 = .ok (.if_icmp .eq 16, 3) := by decide +kernel
theorem dX8_pass_154 : decode cX8_pass 154 = .ok (.iload 4, 2) := by decide +kernel
theorem dX8_pass_156 : decode cX8_pass 156 = .ok (.iload 4, 2) := by decide +kernel
theorem dX8_pass_158 : decode cX8_pass 158 = .ok (.iconst 5, 1) := by decide +kernel
theorem dX8_pass_159 : decode cX8_pass 159 = .ok (.idiv, 1) := by decide +kernel
theorem dX8_pass_160 : decode cX8_pass 160 = .ok (.isub, 1) := by decide +kernel
theorem dX8_pass_161 : decode cX8_pass 161 = .ok (.istore 4, 2) := by decide +kernel
theorem dX8_pass_163 : decode cX8_pass 163 = .ok (.bipush 9, 2) := by decide +kernel
theorem dX8_pass_165 : decode cX8_pass 165 = .ok (.istore 5, 2) := by decide +kernel
theorem dX8_pass_167 : decode cX8_pass 167 = .ok (.aload_n 0, 1) := by decide +kernel
theorem dX8_pass_168 : decode cX8_pass 168 = .ok (.getfield 44, 3) := by decide +kernel
theorem dX8_pass_171 : decode cX8_pass 171 = .ok (.iload 6, 2) := by decide +kernel
theorem dX8_pass_173 : decode cX8_pass 173 = .ok (.invokevirtual 140, 3) := by decide +kernel
theorem dX8_pass_176 : decode cX8_pass 176 = .ok (.ifCond .eq 16, 3) := by decide +kernel
theorem dX8_pass_179 : decode cX8_pass 179 = .ok (.iload 4, 2) := by decide +kernel
theorem dX8_pass_181 : decode cX8_pass 181 = .ok (.iload 4, 2) := by decide +kernel
theorem dX8_pass_183 : decode cX8_pass 183 = .ok (.bipush 9, 2) := by decide +kernel
theorem dX8_pass_185 : decode cX8_pass 185 = .ok (.iadd, 1) := by decide +kernel
theorem dX8_pass_186 : decode cX8_pass 186 = .ok (.bipush 10, 2) := by decide +kernel
theorem dX8_pass_188 : decode cX8_pass 188 = .ok (.idiv, 1) := by decide +kernel
theorem dX8_pass_189 : decode cX8_pass 189 = .ok (.isub, 1) := by decide +kernel
theorem dX8_pass_190 : decode cX8_pass 190 = .ok (.istore 4, 2) := by decide +kernel
theorem dX8_pass_192 : decode cX8_pass 192 = .ok (.goto (-155), 3) := by decide +kernel
theorem dX8_pass_195 : decode cX8_pass 195 = .ok (.aload_n 0, 1) := by decide +kernel
theorem dX8_pass_196 : decode cX8_pass 196 = .ok (.getfield 25, 3) := by decide +kernel
theorem dX8_pass_199 : decode cX8_pass 199 = .ok (.iload_n 1, 1) := by decide +kernel
theorem dX8_pass_200 : decode cX8_pass 200 = .ok (.iconst 1, 1) := by decide +kernel
theorem dX8_pass_201 : decode cX8_pass 201 = .ok (.iadd, 1) := by decide +kernel
theorem dX8_pass_202 : decode cX8_pass 202 = .ok (.iload 4, 2) := by decide +kernel
theorem dX8_pass_204 : decode cX8_pass 204 = .ok (.iastore, 1) := by decide +kernel
theorem dX8_pass_205 : decode cX8_pass 205 = .ok (.aload_n 0, 1) := by decide +kernel
theorem dX8_pass_206 : decode cX8_pass 206 = .ok (.getfield 29, 3) := by decide +kernel
theorem dX8_pass_209 : decode cX8_pass 209 = .ok (.iload_n 1, 1) := by decide +kernel
theorem dX8_pass_210 : decode cX8_pass 210 = .ok (.iconst 1, 1) := by decide +kernel
theorem dX8_pass_211 : decode cX8_pass 211 = .ok (.iadd, 1) := by decide +kernel
theorem dX8_pass_212 : decode cX8_pass 212 = .ok (.iload 5, 2) := by decide +kernel
theorem dX8_pass_214 : decode cX8_pass 214 = .ok (.iastore, 1) := by decide +kernel
theorem dX8_pass_215 : decode cX8_pass 215 = .ok (.aload_n 0, 1) := by decide +kernel
theorem dX8_pass_216 : decode cX8_pass 216 = .ok (.getfield 32, 3) := by decide +kernel
theorem dX8_pass_219 : decode cX8_pass 219 = .ok (.iload_n 1, 1) := by decide +kernel
theorem dX8_pass_220 : decode cX8_pass 220 = .ok (.iconst 1, 1) := by decide +kernel
theorem dX8_pass_221 : decode cX8_pass 221 = .ok (.iadd, 1) := by decide +kernel
theorem dX8_pass_222 : decode cX8_pass 222 = .ok (.iload 6, 2) := by decide +kernel
theorem dX8_pass_224 : decode cX8_pass 224 = .ok (.iastore, 1) := by decide +kernel
theorem dX8_pass_225 : decode cX8_pass 225 = .ok (.return_, 1) := by decide +kernel
theorem cw_X8_pass : Cw yX8_pass cX8_pass 10 none 3 := ⟨aw_519, aw_21, ⟨by decide, by decide⟩, by decide +kernel, by decide⟩
theorem gf_8_29 {K : KT} {cc : ByteArray} {nL d pc : Nat} {ret : Option FieldType} {L : List (Option Value)} {st : List Value} {σ : Sg} (C : Cx K layC cc RX8 nL d ret)  (hd : decode cc pc = .ok (.getfield 29, 3)) (k : G K (pc + 3) L (.ref (kad K 43) :: st) (Wd K layC σ)) : G K pc L (.ref (kad K 3) :: st) (Wd K layC σ) := g_get C (o := 3) (ci := 8) (k := 3) hd rfl rfl rfl (by decide) (Or.inl aw_165) inA8 rfl k
theorem kc_8_123 {K : KT} {cc : ByteArray} {nL d pc : Nat} {ret : Option FieldType} {L : List (Option Value)} {st : List Value} {σ : Sg} (C : Cx K layC cc RX8 nL d ret)  {a0 : Int32} {a1 : Int32} {a2 : Int32}  {p : Int32 × Sg} (hd : decode cc pc = .ok (.invokevirtual 123, 3)) (e : fX8_daysOfStep a0 a1 a2 σ = some p) (hdd : 1 + 1 ≤ d) (hLn : L.length = nL) (hr : (st.map fun v => v.category).sum ≤ 8) (k : G K (pc + 3) L (.int p.1 :: st) (Wd K layC p.2)) : G K pc L (.int a2 :: .int a1 :: .int a0 :: .ref (kad K 3) :: st) (Wd K layC σ) :=
  g_callV C (As := [.int a0, .int a1, .int a2]) (rest := st) (o := 3) (ci := 8) hd (ct_X8_daysOfStep e) cw_X8_daysOfStep (Or.inl aw_520) aw_522 aw_12 rfl rfl rfl hdd hLn rfl rfl hr (fun v τ q => by obtain ⟨rfl, rfl⟩ := q; exact k)
theorem gf_8_65 {K : KT} {cc : ByteArray} {nL d pc : Nat} {ret : Option FieldType} {L : List (Option Value)} {st : List Value} {σ : Sg} (C : Cx K layC cc RX8 nL d ret)  (hd : decode cc pc = .ok (.getfield 65, 3)) (k : G K (pc + 3) L (.int (rI σ 3 15) :: st) (Wd K layC σ)) : G K pc L (.ref (kad K 3) :: st) (Wd K layC σ) := g_get C (o := 3) (ci := 8) (k := 15) hd rfl rfl rfl (by decide) (Or.inl aw_181) inA8 rfl k
theorem gf_8_127 {K : KT} {cc : ByteArray} {nL d pc : Nat} {ret : Option FieldType} {L : List (Option Value)} {st : List Value} {σ : Sg} (C : Cx K layC cc RX8 nL d ret)  (hd : decode cc pc = .ok (.getfield 127, 3)) (k : G K (pc + 3) L (.ref (kad K 5) :: st) (Wd K layC σ)) : G K pc L (.ref (kad K 4) :: st) (Wd K layC σ) := g_get C (o := 4) (ci := 7) (k := 0) hd rfl rfl rfl (by decide) (Or.inr ⟨_, aw_85⟩) inA7 rfl k
theorem gf_8_44 {K : KT} {cc : ByteArray} {nL d pc : Nat} {ret : Option FieldType} {L : List (Option Value)} {st : List Value} {σ : Sg} (C : Cx K layC cc RX8 nL d ret)  (hd : decode cc pc = .ok (.getfield 44, 3)) (k : G K (pc + 3) L (.ref (kad K (rR σ 3 7)) :: st) (Wd K layC σ)) : G K pc L (.ref (kad K 3) :: st) (Wd K layC σ) := g_get C (o := 3) (ci := 8) (k := 7) hd rfl rfl rfl (by decide) (Or.inl aw_169) inA8 rfl k
theorem kc_8_134 {K : KT} {cc : ByteArray} {nL d pc : Nat} {ret : Option FieldType} {L : List (Option Value)} {st : List Value} {σ : Sg} (C : Cx K layC cc RX8 nL d ret)  {o0 : Nat} {a0 : Int32} {a1 : Int32} (hY0 : layC[o0]? = some (0, 0, slX0)) {p : Int32 × Sg} (hd : decode cc pc = .ok (.invokevirtual 134, 3)) (e : fX0_meltOf o0 a0 a1 σ = some p) (hdd : 1 + 1 ≤ d) (hLn : L.length = nL) (hr : (st.map fun v => v.category).sum ≤ 8) (k : G K (pc + 3) L (.int p.1 :: st) (Wd K layC p.2)) : G K pc L (.int a1 :: .int a0 :: .ref (kad K o0) :: st) (Wd K layC σ) :=
  g_callV C (As := [.int a0, .int a1]) (rest := st) (o := o0) (ci := 0) hd (ct_X0_meltOf hY0 e) cw_X0_meltOf (Or.inl aw_533) aw_534 aw_535 rfl rfl rfl hdd hLn hY0 rfl hr (fun v τ q => by obtain ⟨rfl, rfl⟩ := q; exact k)
theorem kc_8_140 {K : KT} {cc : ByteArray} {nL d pc : Nat} {ret : Option FieldType} {L : List (Option Value)} {st : List Value} {σ : Sg} (C : Cx K layC cc RX8 nL d ret)  {o0 : Nat} {a0 : Int32} (hY0 : layC[o0]? = some (0, 0, slX0)) {p : Int32 × Sg} (hd : decode cc pc = .ok (.invokevirtual 140, 3)) (e : fX0_breaksOn o0 a0 σ = some p) (hdd : 1 + 1 ≤ d) (hLn : L.length = nL) (hr : (st.map fun v => v.category).sum ≤ 8) (k : G K (pc + 3) L (.int p.1 :: st) (Wd K layC p.2)) : G K pc L (.int a0 :: .ref (kad K o0) :: st) (Wd K layC σ) :=
  g_callV C (As := [.int a0]) (rest := st) (o := o0) (ci := 0) hd (ct_X0_breaksOn hY0 e) cw_X0_breaksOn (Or.inl aw_537) aw_538 aw_539 rfl rfl rfl hdd hLn hY0 rfl hr (fun v τ q => by obtain ⟨rfl, rfl⟩ := q; exact k)
theorem gf_8_137d {K : KT} {cc : ByteArray} {nL d pc : Nat} {ret : Option FieldType} {L : List (Option Value)} {st : List Value} {σ : Sg} (C : Cx K layC cc RX8 nL d ret) {o : Nat} (hY : layC[o]? = some (0, 0, slX0)) (hd : decode cc pc = .ok (.getfield 137, 3)) (k : G K (pc + 3) L (.int (rI σ o 0) :: st) (Wd K layC σ)) : G K pc L (.ref (kad K o) :: st) (Wd K layC σ) := g_get C (o := o) (ci := 0) (k := 0) hd hY rfl rfl (by decide) (Or.inr ⟨_, aw_134⟩) inA0 rfl k
theorem kc_8_130 {K : KT} {cc : ByteArray} {nL d pc : Nat} {ret : Option FieldType} {L : List (Option Value)} {st : List Value} {σ : Sg} (C : Cx K layC cc RX8 nL d ret)  {a0 : Int32}  {p : Int32 × Sg} (hd : decode cc pc = .ok (.invokevirtual 130, 3)) (e : fX8_drawnWarmth a0 σ = some p) (hdd : 1 + 1 ≤ d) (hLn : L.length = nL) (hr : (st.map fun v => v.category).sum ≤ 8) (k : G K (pc + 3) L (.int p.1 :: st) (Wd K layC p.2)) : G K pc L (.int a0 :: .ref (kad K 3) :: st) (Wd K layC σ) :=
  g_callV C (As := [.int a0]) (rest := st) (o := 3) (ci := 8) hd (ct_X8_drawnWarmth e) cw_X8_drawnWarmth (Or.inl aw_524) aw_526 aw_13 rfl rfl rfl hdd hLn rfl rfl hr (fun v τ q => by obtain ⟨rfl, rfl⟩ := q; exact k)
def fX8_pass_b192 (x1 : Int32) (x2 : Int32) (x4 : Int32) (x5 : Int32) (x6 : Int32) (x7 : Int32) (σ : Sg) : Option ((Int32 × Int32 × Int32 × Sg) ⊕ ((Int32 × Int32 × Int32 × Sg))) :=
  some (.inl (x4, x5, x6, σ))
def fX8_pass_b167 (x1 : Int32) (x2 : Int32) (x4 : Int32) (x5 : Int32) (x6 : Int32) (x7 : Int32) (σ : Sg) : Option ((Int32 × Int32 × Int32 × Sg) ⊕ ((Int32 × Int32 × Int32 × Sg))) :=
  if isSh layC (rR σ 3 7) (0, 0, slX0) = true then (Option.bind (fX0_breaksOn (rR σ 3 7) x6 σ) fun p11 => (if p11.1 = 0 then (fX8_pass_b192 x1 x2 x4 x5 x6 x7 p11.2) else (fX8_pass_b192 x1 x2 (x4 - ((x4 + (9 : Int32)) / (10 : Int32))) x5 x6 x7 p11.2))) else none
def fX8_pass_b121 (x1 : Int32) (x2 : Int32) (x5 : Int32) (x6 : Int32) (x7 : Int32) (x8 : Int32) (y0 : Int32) (y1 : Int32) (y2 : Int32) (σ : Sg) : Option ((Int32 × Int32 × Int32 × Sg) ⊕ ((Int32 × Int32 × Int32 × Sg))) :=
  if (imax (0 : Int32) (x5 - x8)) = 0 then (if isSh layC (rR σ 3 7) (0, 0, slX0) = true then (if (rI σ (rR σ 3 7) 0) = (4 : Int32) then (fX8_pass_b167 x1 x2 (imax y2 (y1 - y0)) (imax (0 : Int32) (x5 - x8)) x6 x7 σ) else (fX8_pass_b167 x1 x2 ((imax y2 (y1 - y0)) - ((imax y2 (y1 - y0)) / (5 : Int32))) (9 : Int32) x6 x7 σ)) else none) else (fX8_pass_b167 x1 x2 (imax y2 (y1 - y0)) (imax (0 : Int32) (x5 - x8)) x6 x7 σ)
def fX8_pass_b84 (x1 : Int32) (x2 : Int32) (x4 : Int32) (x5 : Int32) (x6 : Int32) (x7 : Int32) (y0 : Int32) (σ : Sg) : Option ((Int32 × Int32 × Int32 × Sg) ⊕ ((Int32 × Int32 × Int32 × Sg))) :=
  if isSh layC (rR σ 3 7) (0, 0, slX0) = true then (Option.bind (fX0_meltOf (rR σ 3 7) y0 x4 σ) fun p8 => (if (rI p8.2 3 9) = 0 then (fX8_pass_b121 x1 x2 x5 x6 x7 y0 p8.1 x4 (0 : Int32) p8.2) else (fX8_pass_b121 x1 x2 x5 x6 x7 y0 (p8.1 - (p8.1 / (3 : Int32))) x4 (0 : Int32) p8.2))) else none
def fX8_pass_b37 (x1 : Int32) (x2 : Int32) (x4 : Int32) (x5 : Int32) (x6 : Int32) (x7 : Int32) (σ : Sg) : Option ((Int32 × Int32 × Int32 × Sg) ⊕ ((Int32 × Int32 × Int32 × Sg))) :=
  if x7 ≤ x6 then (some (.inr (x4, x5, x6, σ))) else (if x4 ≤ 0 then (some (.inr (x4, x5, x6, σ))) else (if (rI σ 3 15) = 0 then (if inb x2 30 = true then (fX8_pass_b84 x1 x2 x4 x5 (x6 + (1 : Int32)) x7 (rI σ 5 (x2).toNatClampNeg) σ) else none) else (if inb x2 30 = true then (Option.bind (fX8_drawnWarmth (rI σ 5 (x2).toNatClampNeg) σ) fun p15 => (fX8_pass_b84 x1 x2 x4 x5 (x6 + (1 : Int32)) x7 p15.1 p15.2)) else none)))
def fX8_pass_b0 (x1 : Int32) (x2 : Int32) (x3 : Int32) (σ : Sg) : Option (Sg) :=
  if inb x1 10 = true then (if inb x1 10 = true then (if inb x1 10 = true then (Option.bind (fX8_daysOfStep x2 x3 (rI σ 42 (x1).toNatClampNeg) σ) fun p4 => (Option.bind (lp (fun s => fX8_pass_b37 x1 x2 s.1 s.2.1 s.2.2.1 ((rI σ 44 (x1).toNatClampNeg) + p4.1) s.2.2.2) FU ((rI σ 42 (x1).toNatClampNeg), (rI σ 43 (x1).toNatClampNeg), (rI σ 44 (x1).toNatClampNeg), p4.2)) fun t17 => if inb (x1 + (1 : Int32)) 10 = true then (if inb (x1 + (1 : Int32)) 10 = true then (if inb (x1 + (1 : Int32)) 10 = true then (some (wI (wI (wI t17.2.2.2 42 ((x1 + (1 : Int32))).toNatClampNeg t17.1) 43 ((x1 + (1 : Int32))).toNatClampNeg t17.2.1) 44 ((x1 + (1 : Int32))).toNatClampNeg t17.2.2.1)) else none) else none) else none)) else none) else none) else none
set_option maxRecDepth 4000 in
theorem bX8_pass_b192 {K : KT} {x1 : Int32} {x2 : Int32} {x4 : Int32} {x5 : Int32} {x6 : Int32} {x7 : Int32} {σ : Sg} {o : (Int32 × Int32 × Int32 × Sg) ⊕ ((Int32 × Int32 × Int32 × Sg))} (C : Cx K layC cX8_pass RX8 10 (2) none)  (hI : ∀ s' : Int32 × Int32 × Int32 × Sg, o = .inl s' → G K 37 [some (.ref (kad K 3)), some (.int x1), some (.int x2), none, some (.int s'.1), some (.int s'.2.1), some (.int s'.2.2.1), some (.int x7), none, none] [] (Wd K layC s'.2.2.2)) (hE0 : ∀ t : Int32 × Int32 × Int32 × Sg, o = .inr t → G K 195 [some (.ref (kad K 3)), some (.int x1), none, none, some (.int t.1), some (.int t.2.1), some (.int t.2.2.1), none, none, none] [] (Wd K layC t.2.2.2)) (h : fX8_pass_b192 x1 x2 x4 x5 x6 x7 σ = some o) : G K 192 [some (.ref (kad K 3)), some (.int x1), some (.int x2), none, some (.int x4), some (.int x5), some (.int x6), some (.int x7), none, none] [] (Wd K layC σ) := by
  unfold fX8_pass_b192 at h
  refine g_goto C.c (tgt := 37) dX8_pass_192 (by decide) ?_
  have g9 := hI _ (Option.some.inj h).symm
  exact g_mask [true, true, true, false, true, true, true, true, false, false] rfl g9
set_option maxRecDepth 4000 in
theorem bX8_pass_b167 {K : KT} {x1 : Int32} {x2 : Int32} {x4 : Int32} {x5 : Int32} {x6 : Int32} {x7 : Int32} {σ : Sg} {o : (Int32 × Int32 × Int32 × Sg) ⊕ ((Int32 × Int32 × Int32 × Sg))} (C : Cx K layC cX8_pass RX8 10 (2) none)  (hI : ∀ s' : Int32 × Int32 × Int32 × Sg, o = .inl s' → G K 37 [some (.ref (kad K 3)), some (.int x1), some (.int x2), none, some (.int s'.1), some (.int s'.2.1), some (.int s'.2.2.1), some (.int x7), none, none] [] (Wd K layC s'.2.2.2)) (hE0 : ∀ t : Int32 × Int32 × Int32 × Sg, o = .inr t → G K 195 [some (.ref (kad K 3)), some (.int x1), none, none, some (.int t.1), some (.int t.2.1), some (.int t.2.2.1), none, none, none] [] (Wd K layC t.2.2.2)) (h : fX8_pass_b167 x1 x2 x4 x5 x6 x7 σ = some o) : G K 167 [some (.ref (kad K 3)), some (.int x1), some (.int x2), none, some (.int x4), some (.int x5), some (.int x6), some (.int x7), none, none] [] (Wd K layC σ) := by
  unfold fX8_pass_b167 at h
  refine g_aload_n C.c dX8_pass_167 rfl (i := 0) rfl ?_
  refine gf_8_44 C dX8_pass_168 ?_
  obtain ⟨c10, h⟩ := chk h
  refine g_iload C.c dX8_pass_171 (i := 6) rfl ?_
  obtain ⟨p11, e12, h⟩ := Option.bind_eq_some_iff.mp h
  refine kc_8_140 C (isSh_e c10) dX8_pass_173 e12 (Nat.le_of_ble_eq_true rfl) rfl (Nat.le_of_ble_eq_true rfl) ?_
  refine g_if_eq C.c (tgt := 192) dX8_pass_176 (by decide) (fun c => ?_) (fun c => ?_)
  · replace h := ite_t c h
    exact g_mask [true, true, true, false, true, true, true, true, false, false] rfl (bX8_pass_b192 C hI hE0 h)
  · replace h := ite_f c h
    refine g_iload C.c dX8_pass_179 (i := 4) rfl ?_
    refine g_iload C.c dX8_pass_181 (i := 4) rfl ?_
    refine g_bipush C.c dX8_pass_183 (v := (9 : Int32)) (by decide) ?_
    refine g_iadd C.c dX8_pass_185 ?_
    refine g_bipush C.c dX8_pass_186 (v := (10 : Int32)) (by decide) ?_
    refine g_idiv C.c dX8_pass_188 (by decide) ?_
    refine g_isub C.c dX8_pass_189 ?_
    refine g_istore C.c (i := 4) (L' := [some (.ref (kad K 3)), some (.int x1), some (.int x2), none, some (.int (x4 - ((x4 + (9 : Int32)) / (10 : Int32)))), some (.int x5), some (.int x6), some (.int x7), none, none]) dX8_pass_190 (Nat.le_of_ble_eq_true rfl) rfl ?_
    exact g_mask [true, true, true, false, true, true, true, true, false, false] rfl (bX8_pass_b192 C hI hE0 h)
set_option maxRecDepth 4000 in
theorem bX8_pass_b121 {K : KT} {x1 : Int32} {x2 : Int32} {x5 : Int32} {x6 : Int32} {x7 : Int32} {x8 : Int32} {y0 : Int32} {y1 : Int32} {y2 : Int32} {σ : Sg} {o : (Int32 × Int32 × Int32 × Sg) ⊕ ((Int32 × Int32 × Int32 × Sg))} (C : Cx K layC cX8_pass RX8 10 (2) none)  (hI : ∀ s' : Int32 × Int32 × Int32 × Sg, o = .inl s' → G K 37 [some (.ref (kad K 3)), some (.int x1), some (.int x2), none, some (.int s'.1), some (.int s'.2.1), some (.int s'.2.2.1), some (.int x7), none, none] [] (Wd K layC s'.2.2.2)) (hE0 : ∀ t : Int32 × Int32 × Int32 × Sg, o = .inr t → G K 195 [some (.ref (kad K 3)), some (.int x1), none, none, some (.int t.1), some (.int t.2.1), some (.int t.2.2.1), none, none, none] [] (Wd K layC t.2.2.2)) (h : fX8_pass_b121 x1 x2 x5 x6 x7 x8 y0 y1 y2 σ = some o) : G K 121 [some (.ref (kad K 3)), some (.int x1), some (.int x2), none, none, some (.int x5), some (.int x6), some (.int x7), some (.int x8), none] [.int y0, .int y1, .int y2] (Wd K layC σ) := by
  unfold fX8_pass_b121 at h
  refine g_isub C.c dX8_pass_121 ?_
  refine g_max C.c dX8_pass_122 aw_497 aw_416 aw_29 aw_417 rfl (Nat.le_of_ble_eq_true rfl) (Nat.le_of_ble_eq_true rfl) ?_
  refine g_istore C.c (i := 4) (L' := [some (.ref (kad K 3)), some (.int x1), some (.int x2), none, some (.int (imax y2 (y1 - y0))), some (.int x5), some (.int x6), some (.int x7), some (.int x8), none]) dX8_pass_125 (Nat.le_of_ble_eq_true rfl) rfl ?_
  refine g_iconst C.c dX8_pass_127 (v := (0 : Int32)) (by decide) ?_
  refine g_iload C.c dX8_pass_128 (i := 5) rfl ?_
  refine g_iload C.c dX8_pass_130 (i := 8) rfl ?_
  refine g_isub C.c dX8_pass_132 ?_
  refine g_max C.c dX8_pass_133 aw_497 aw_416 aw_29 aw_417 rfl (Nat.le_of_ble_eq_true rfl) (Nat.le_of_ble_eq_true rfl) ?_
  refine g_istore C.c (i := 5) (L' := [some (.ref (kad K 3)), some (.int x1), some (.int x2), none, some (.int (imax y2 (y1 - y0))), some (.int (imax (0 : Int32) (x5 - x8))), some (.int x6), some (.int x7), some (.int x8), none]) dX8_pass_136 (Nat.le_of_ble_eq_true rfl) rfl ?_
  refine g_iload C.c dX8_pass_138 (i := 5) rfl ?_
  refine g_if_ne C.c (tgt := 167) dX8_pass_140 (by decide) (fun c => ?_) (fun c => ?_)
  · replace h := ite_f c h
    exact g_mask [true, true, true, false, true, true, true, true, false, false] rfl (bX8_pass_b167 C hI hE0 h)
  · replace h := ite_t c h
    refine g_aload_n C.c dX8_pass_143 rfl (i := 0) rfl ?_
    refine gf_8_44 C dX8_pass_144 ?_
    obtain ⟨c13, h⟩ := chk h
    refine gf_8_137d C (isSh_e c13) dX8_pass_147 ?_
    refine g_iconst C.c dX8_pass_150 (v := (4 : Int32)) (by decide) ?_
    refine g_icmp_eq C.c (tgt := 167) dX8_pass_151 (by decide) (fun c => ?_) (fun c => ?_)
    · replace h := ite_t c h
      exact g_mask [true, true, true, false, true, true, true, true, false, false] rfl (bX8_pass_b167 C hI hE0 h)
    · replace h := ite_f c h
      refine g_iload C.c dX8_pass_154 (i := 4) rfl ?_
      refine g_iload C.c dX8_pass_156 (i := 4) rfl ?_
      refine g_iconst C.c dX8_pass_158 (v := (5 : Int32)) (by decide) ?_
      refine g_idiv C.c dX8_pass_159 (by decide) ?_
      refine g_isub C.c dX8_pass_160 ?_
      refine g_istore C.c (i := 4) (L' := [some (.ref (kad K 3)), some (.int x1), some (.int x2), none, some (.int ((imax y2 (y1 - y0)) - ((imax y2 (y1 - y0)) / (5 : Int32)))), some (.int (imax (0 : Int32) (x5 - x8))), some (.int x6), some (.int x7), some (.int x8), none]) dX8_pass_161 (Nat.le_of_ble_eq_true rfl) rfl ?_
      refine g_bipush C.c dX8_pass_163 (v := (9 : Int32)) (by decide) ?_
      refine g_istore C.c (i := 5) (L' := [some (.ref (kad K 3)), some (.int x1), some (.int x2), none, some (.int ((imax y2 (y1 - y0)) - ((imax y2 (y1 - y0)) / (5 : Int32)))), some (.int (9 : Int32)), some (.int x6), some (.int x7), some (.int x8), none]) dX8_pass_165 (Nat.le_of_ble_eq_true rfl) rfl ?_
      exact g_mask [true, true, true, false, true, true, true, true, false, false] rfl (bX8_pass_b167 C hI hE0 h)
set_option maxRecDepth 4000 in
theorem bX8_pass_b84 {K : KT} {x1 : Int32} {x2 : Int32} {x4 : Int32} {x5 : Int32} {x6 : Int32} {x7 : Int32} {y0 : Int32} {σ : Sg} {o : (Int32 × Int32 × Int32 × Sg) ⊕ ((Int32 × Int32 × Int32 × Sg))} (C : Cx K layC cX8_pass RX8 10 (2) none)  (hI : ∀ s' : Int32 × Int32 × Int32 × Sg, o = .inl s' → G K 37 [some (.ref (kad K 3)), some (.int x1), some (.int x2), none, some (.int s'.1), some (.int s'.2.1), some (.int s'.2.2.1), some (.int x7), none, none] [] (Wd K layC s'.2.2.2)) (hE0 : ∀ t : Int32 × Int32 × Int32 × Sg, o = .inr t → G K 195 [some (.ref (kad K 3)), some (.int x1), none, none, some (.int t.1), some (.int t.2.1), some (.int t.2.2.1), none, none, none] [] (Wd K layC t.2.2.2)) (h : fX8_pass_b84 x1 x2 x4 x5 x6 x7 y0 σ = some o) : G K 84 [some (.ref (kad K 3)), some (.int x1), some (.int x2), none, some (.int x4), some (.int x5), some (.int x6), some (.int x7), none, none] [.int y0] (Wd K layC σ) := by
  unfold fX8_pass_b84 at h
  refine g_istore C.c (i := 8) (L' := [some (.ref (kad K 3)), some (.int x1), some (.int x2), none, some (.int x4), some (.int x5), some (.int x6), some (.int x7), some (.int y0), none]) dX8_pass_84 (Nat.le_of_ble_eq_true rfl) rfl ?_
  refine g_aload_n C.c dX8_pass_86 rfl (i := 0) rfl ?_
  refine gf_8_44 C dX8_pass_87 ?_
  obtain ⟨c7, h⟩ := chk h
  refine g_iload C.c dX8_pass_90 (i := 8) rfl ?_
  refine g_iload C.c dX8_pass_92 (i := 4) rfl ?_
  obtain ⟨p8, e9, h⟩ := Option.bind_eq_some_iff.mp h
  refine kc_8_134 C (isSh_e c7) dX8_pass_94 e9 (Nat.le_of_ble_eq_true rfl) rfl (Nat.le_of_ble_eq_true rfl) ?_
  refine g_istore C.c (i := 9) (L' := [some (.ref (kad K 3)), some (.int x1), some (.int x2), none, some (.int x4), some (.int x5), some (.int x6), some (.int x7), some (.int y0), some (.int p8.1)]) dX8_pass_97 (Nat.le_of_ble_eq_true rfl) rfl ?_
  refine g_iconst C.c dX8_pass_99 (v := (0 : Int32)) (by decide) ?_
  refine g_iload C.c dX8_pass_100 (i := 4) rfl ?_
  refine g_aload_n C.c dX8_pass_102 rfl (i := 0) rfl ?_
  refine gf_8_58 C dX8_pass_103 ?_
  refine g_if_eq C.c (tgt := 119) dX8_pass_106 (by decide) (fun c => ?_) (fun c => ?_)
  · replace h := ite_t c h
    refine g_iload C.c dX8_pass_119 (i := 9) rfl ?_
    exact g_mask [true, true, true, false, false, true, true, true, true, false] rfl (bX8_pass_b121 C hI hE0 h)
  · replace h := ite_f c h
    refine g_iload C.c dX8_pass_109 (i := 9) rfl ?_
    refine g_iload C.c dX8_pass_111 (i := 9) rfl ?_
    refine g_iconst C.c dX8_pass_113 (v := (3 : Int32)) (by decide) ?_
    refine g_idiv C.c dX8_pass_114 (by decide) ?_
    refine g_isub C.c dX8_pass_115 ?_
    refine g_goto C.c (tgt := 121) dX8_pass_116 (by decide) ?_
    exact g_mask [true, true, true, false, false, true, true, true, true, false] rfl (bX8_pass_b121 C hI hE0 h)
set_option maxRecDepth 4000 in
theorem bX8_pass_b37 {K : KT} {x1 : Int32} {x2 : Int32} {x4 : Int32} {x5 : Int32} {x6 : Int32} {x7 : Int32} {σ : Sg} {o : (Int32 × Int32 × Int32 × Sg) ⊕ ((Int32 × Int32 × Int32 × Sg))} (C : Cx K layC cX8_pass RX8 10 (2) none)  (hI : ∀ s' : Int32 × Int32 × Int32 × Sg, o = .inl s' → G K 37 [some (.ref (kad K 3)), some (.int x1), some (.int x2), none, some (.int s'.1), some (.int s'.2.1), some (.int s'.2.2.1), some (.int x7), none, none] [] (Wd K layC s'.2.2.2)) (hE0 : ∀ t : Int32 × Int32 × Int32 × Sg, o = .inr t → G K 195 [some (.ref (kad K 3)), some (.int x1), none, none, some (.int t.1), some (.int t.2.1), some (.int t.2.2.1), none, none, none] [] (Wd K layC t.2.2.2)) (h : fX8_pass_b37 x1 x2 x4 x5 x6 x7 σ = some o) : G K 37 [some (.ref (kad K 3)), some (.int x1), some (.int x2), none, some (.int x4), some (.int x5), some (.int x6), some (.int x7), none, none] [] (Wd K layC σ) := by
  unfold fX8_pass_b37 at h
  refine g_iload C.c dX8_pass_37 (i := 6) rfl ?_
  refine g_iload C.c dX8_pass_39 (i := 7) rfl ?_
  refine g_icmp_ge C.c (tgt := 195) dX8_pass_41 (by decide) (fun c => ?_) (fun c => ?_)
  · replace h := ite_t c h
    have g9 := hE0 _ (Option.some.inj h).symm
    exact g_mask [true, true, false, false, true, true, true, false, false, false] rfl g9
  · replace h := ite_f c h
    refine g_iload C.c dX8_pass_44 (i := 4) rfl ?_
    refine g_if_le C.c (tgt := 195) dX8_pass_46 (by decide) (fun c => ?_) (fun c => ?_)
    · replace h := ite_t c h
      have g9 := hE0 _ (Option.some.inj h).symm
      exact g_mask [true, true, false, false, true, true, true, false, false, false] rfl g9
    · replace h := ite_f c h
      refine g_iinc C.c (i := 6) (y := (1 : Int32)) (L' := [some (.ref (kad K 3)), some (.int x1), some (.int x2), none, some (.int x4), some (.int x5), some (.int (x6 + (1 : Int32))), some (.int x7), none, none]) dX8_pass_49 rfl (by decide) (Nat.le_of_ble_eq_true rfl) rfl ?_
      refine g_aload_n C.c dX8_pass_52 rfl (i := 0) rfl ?_
      refine gf_8_65 C dX8_pass_53 ?_
      refine g_if_eq C.c (tgt := 75) dX8_pass_56 (by decide) (fun c => ?_) (fun c => ?_)
      · replace h := ite_t c h
        refine g_aload_n C.c dX8_pass_75 rfl (i := 0) rfl ?_
        refine gf_8_12 C dX8_pass_76 ?_
        refine gf_8_127 C dX8_pass_79 ?_
        refine g_iload_n C.c dX8_pass_82 rfl (i := 2) rfl ?_
        obtain ⟨c6, h⟩ := chk h
        refine g_iald C dX8_pass_83 rfl c6 ?_
        exact g_mask [true, true, true, false, true, true, true, true, false, false] rfl (bX8_pass_b84 C hI hE0 h)
      · replace h := ite_f c h
        refine g_aload_n C.c dX8_pass_59 rfl (i := 0) rfl ?_
        refine g_aload_n C.c dX8_pass_60 rfl (i := 0) rfl ?_
        refine gf_8_12 C dX8_pass_61 ?_
        refine gf_8_127 C dX8_pass_64 ?_
        refine g_iload_n C.c dX8_pass_67 rfl (i := 2) rfl ?_
        obtain ⟨c14, h⟩ := chk h
        refine g_iald C dX8_pass_68 rfl c14 ?_
        obtain ⟨p15, e16, h⟩ := Option.bind_eq_some_iff.mp h
        refine kc_8_130 C dX8_pass_69 e16 (Nat.le_of_ble_eq_true rfl) rfl (Nat.le_of_ble_eq_true rfl) ?_
        refine g_goto C.c (tgt := 84) dX8_pass_72 (by decide) ?_
        exact g_mask [true, true, true, false, true, true, true, true, false, false] rfl (bX8_pass_b84 C hI hE0 h)
set_option maxRecDepth 4000 in
theorem bX8_pass_b0 {K : KT} {x1 : Int32} {x2 : Int32} {x3 : Int32} {σ : Sg} {o : Sg} (C : Cx K layC cX8_pass RX8 10 (2) none)  (hQ : Rk K layC (okV o)) (h : fX8_pass_b0 x1 x2 x3 σ = some o) : G K 0 [some (.ref (kad K 3)), some (.int x1), some (.int x2), some (.int x3), none, none, none, none, none, none] [] (Wd K layC σ) := by
  unfold fX8_pass_b0 at h
  refine g_aload_n C.c dX8_pass_0 rfl (i := 0) rfl ?_
  refine gf_8_25 C dX8_pass_1 ?_
  refine g_iload_n C.c dX8_pass_4 rfl (i := 1) rfl ?_
  obtain ⟨c1, h⟩ := chk h
  refine g_iald C dX8_pass_5 rfl c1 ?_
  refine g_istore C.c (i := 4) (L' := [some (.ref (kad K 3)), some (.int x1), some (.int x2), some (.int x3), some (.int (rI σ 42 (x1).toNatClampNeg)), none, none, none, none, none]) dX8_pass_6 (Nat.le_of_ble_eq_true rfl) rfl ?_
  refine g_aload_n C.c dX8_pass_8 rfl (i := 0) rfl ?_
  refine gf_8_29 C dX8_pass_9 ?_
  refine g_iload_n C.c dX8_pass_12 rfl (i := 1) rfl ?_
  obtain ⟨c2, h⟩ := chk h
  refine g_iald C dX8_pass_13 rfl c2 ?_
  refine g_istore C.c (i := 5) (L' := [some (.ref (kad K 3)), some (.int x1), some (.int x2), some (.int x3), some (.int (rI σ 42 (x1).toNatClampNeg)), some (.int (rI σ 43 (x1).toNatClampNeg)), none, none, none, none]) dX8_pass_14 (Nat.le_of_ble_eq_true rfl) rfl ?_
  refine g_aload_n C.c dX8_pass_16 rfl (i := 0) rfl ?_
  refine gf_8_32 C dX8_pass_17 ?_
  refine g_iload_n C.c dX8_pass_20 rfl (i := 1) rfl ?_
  obtain ⟨c3, h⟩ := chk h
  refine g_iald C dX8_pass_21 rfl c3 ?_
  refine g_istore C.c (i := 6) (L' := [some (.ref (kad K 3)), some (.int x1), some (.int x2), some (.int x3), some (.int (rI σ 42 (x1).toNatClampNeg)), some (.int (rI σ 43 (x1).toNatClampNeg)), some (.int (rI σ 44 (x1).toNatClampNeg)), none, none, none]) dX8_pass_22 (Nat.le_of_ble_eq_true rfl) rfl ?_
  refine g_iload C.c dX8_pass_24 (i := 6) rfl ?_
  refine g_aload_n C.c dX8_pass_26 rfl (i := 0) rfl ?_
  refine g_iload_n C.c dX8_pass_27 rfl (i := 2) rfl ?_
  refine g_iload_n C.c dX8_pass_28 rfl (i := 3) rfl ?_
  refine g_iload C.c dX8_pass_29 (i := 4) rfl ?_
  obtain ⟨p4, e5, h⟩ := Option.bind_eq_some_iff.mp h
  refine kc_8_123 C dX8_pass_31 e5 (Nat.le_of_ble_eq_true rfl) rfl (Nat.le_of_ble_eq_true rfl) ?_
  refine g_iadd C.c dX8_pass_34 ?_
  refine g_istore C.c (i := 7) (L' := [some (.ref (kad K 3)), some (.int x1), some (.int x2), some (.int x3), some (.int (rI σ 42 (x1).toNatClampNeg)), some (.int (rI σ 43 (x1).toNatClampNeg)), some (.int (rI σ 44 (x1).toNatClampNeg)), some (.int ((rI σ 44 (x1).toNatClampNeg) + p4.1)), none, none]) dX8_pass_35 (Nat.le_of_ble_eq_true rfl) rfl ?_
  refine g_mask [true, true, true, false, true, true, true, true, false, false] rfl ?_
  refine lp_bind (Gh := fun s => G K 37 [some (.ref (kad K 3)), some (.int x1), some (.int x2), none, some (.int s.1), some (.int s.2.1), some (.int s.2.2.1), some (.int ((rI σ 44 (x1).toNatClampNeg) + p4.1)), none, none] [] (Wd K layC s.2.2.2)) h (fun s o2 hf gI gE => ?_)
  refine bX8_pass_b37 C gI (fun t17 e => ?_) hf
  · have h := gE _ e
    refine g_aload_n C.c dX8_pass_195 rfl (i := 0) rfl ?_
    refine gf_8_25 C dX8_pass_196 ?_
    refine g_iload_n C.c dX8_pass_199 rfl (i := 1) rfl ?_
    refine g_iconst C.c dX8_pass_200 (v := (1 : Int32)) (by decide) ?_
    refine g_iadd C.c dX8_pass_201 ?_
    refine g_iload C.c dX8_pass_202 (i := 4) rfl ?_
    obtain ⟨c19, h⟩ := chk h
    refine g_iast C dX8_pass_204 rfl c19 ?_
    refine g_aload_n C.c dX8_pass_205 rfl (i := 0) rfl ?_
    refine gf_8_29 C dX8_pass_206 ?_
    refine g_iload_n C.c dX8_pass_209 rfl (i := 1) rfl ?_
    refine g_iconst C.c dX8_pass_210 (v := (1 : Int32)) (by decide) ?_
    refine g_iadd C.c dX8_pass_211 ?_
    refine g_iload C.c dX8_pass_212 (i := 5) rfl ?_
    obtain ⟨c20, h⟩ := chk h
    refine g_iast C dX8_pass_214 rfl c20 ?_
    refine g_aload_n C.c dX8_pass_215 rfl (i := 0) rfl ?_
    refine gf_8_32 C dX8_pass_216 ?_
    refine g_iload_n C.c dX8_pass_219 rfl (i := 1) rfl ?_
    refine g_iconst C.c dX8_pass_220 (v := (1 : Int32)) (by decide) ?_
    refine g_iadd C.c dX8_pass_221 ?_
    refine g_iload C.c dX8_pass_222 (i := 6) rfl ?_
    obtain ⟨c21, h⟩ := chk h
    refine g_iast C dX8_pass_224 rfl c21 ?_
    obtain rfl := Option.some.inj h
    exact g_vret C hQ dX8_pass_225 ⟨rfl, rfl⟩
def fX8_pass (a0 : Int32) (a1 : Int32) (a2 : Int32) (σ : Sg) : Option (Sg) := fX8_pass_b0 a0 a1 a2 σ
theorem ct_X8_pass {a0 : Int32} {a1 : Int32} {a2 : Int32} {σ : Sg} {p : Sg} (h : fX8_pass a0 a1 a2 σ = some p) : Ct layC yX8_pass cX8_pass 10 none 2 (fun ad => [.ref (ad 3), .int a0, .int a1, .int a2]) σ (okV p) :=
 ct_of (L0 := fun ad => [some (.ref (ad 3)), some (.int a0), some (.int a1), some (.int a2), none, none, none, none, none, none]) (by decide) (fun _ => Nat.le_of_ble_eq_true rfl) (fun _ => rfl) (fun K C hQ => g_mask [true, true, true, true, false, false, false, false, false, false] rfl (bX8_pass_b0 C hQ h))
-- X8_follow
theorem dX8_follow_0 : decode cX8_follow 0 = .ok (.aload_n 0, 1) := by decide +kernel
theorem dX8_follow_1 : decode cX8_follow 1 = .ok (.iload_n 2, 1) := by decide +kernel
theorem dX8_follow_2 : decode cX8_follow 2 = .ok (.invokevirtual 99, 3) := by decide +kernel
theorem dX8_follow_5 : decode cX8_follow 5 = .ok (.ifCond .eq 4, 3) := by decide +kernel
theorem dX8_follow_8 : decode cX8_follow 8 = .ok (.return_, 1) := by decide +kernel
theorem dX8_follow_9 : decode cX8_follow 9 = .ok (.iload_n 1, 1) := by decide +kernel
theorem dX8_follow_10 : decode cX8_follow 10 = .ok (.aload_n 0, 1) := by decide +kernel
theorem dX8_follow_11 : decode cX8_follow 11 = .ok (.getfield 12, 3) := by decide +kernel
theorem dX8_follow_14 : decode cX8_follow 14 = .ok (.getfield 103, 3) := by decide +kernel
theorem dX8_follow_17 : decode cX8_follow 17 = .ok (.if_icmp .ne 9, 3) := by decide +kernel
theorem dX8_follow_20 : decode cX8_follow 20 = .ok (.aload_n 0, 1) := by decide +kernel
theorem dX8_follow_21 : decode cX8_follow 21 = .ok (.iload_n 2, 1) := by decide +kernel
theorem dX8_follow_22 : decode cX8_follow 22 = .ok (.invokevirtual 106, 3) := by decide +kernel
theorem dX8_follow_25 : decode cX8_follow 25 = .ok (.return_, 1) := by decide +kernel
theorem dX8_follow_26 : decode cX8_follow 26 = .ok (.iload_n 2, 1) := by decide +kernel
theorem dX8_follow_27 : decode cX8_follow 27 = .ok (.bipush 9, 2) := by decide +kernel
theorem dX8_follow_29 : decode cX8_follow 29 = .ok (.if_icmp .lt 4, 3) := by decide +kernel
theorem dX8_follow_32 : decode cX8_follow 32 = .ok (.return_, 1) := by decide +kernel
theorem dX8_follow_33 : decode cX8_follow 33 = .ok (.iconst 0, 1) := by decide +kernel
theorem dX8_follow_34 : decode cX8_follow 34 = .ok (.istore_n 3, 1) := by decide +kernel
theorem dX8_follow_35 : decode cX8_follow 35 = .ok (.iload_n 3, 1) := by decide +kernel
theorem dX8_follow_36 : decode cX8_follow 36 = .ok (.iconst 4, 1) := by decide +kernel
theorem dX8_follow_37 : decode cX8_follow 37 = .ok (.if_icmp .ge 51, 3) := by decide +kernel
theorem dX8_follow_40 : decode cX8_follow 40 = .ok (.aload_n 0, 1) := by decide +kernel
theorem dX8_follow_41 : decode cX8_follow 41 = .ok (.getfield 12, 3) := by decide +kernel
theorem dX8_follow_44 : decode cX8_follow 44 = .ok (.getfield 89, 3) := by decide +kernel
theorem dX8_follow_47 : decode cX8_follow 47 = .ok (.iload_n 1, 1) := by decide +kernel
theorem dX8_follow_48 : decode cX8_follow 48 = .ok (.aaload, 1) := by decide +kernel
theorem dX8_follow_49 : decode cX8_follow 49 = .ok (.iload_n 3, 1) := by decide +kernel
theorem dX8_follow_50 : decode cX8_follow 50 = .ok (.iaload, 1) := by decide +kernel
theorem dX8_follow_51 : decode cX8_follow 51 = .ok (.istore 4, 2) := by decide +kernel
theorem dX8_follow_53 : decode cX8_follow 53 = .ok (.iload 4, 2) := by decide +kernel
theorem dX8_follow_55 : decode cX8_follow 55 = .ok (.iconst (-1), 1) := by decide +kernel
theorem dX8_follow_56 : decode cX8_follow 56 = .ok (.if_icmp .eq 26, 3) := by decide +kernel
theorem dX8_follow_59 : decode cX8_follow 59 = .ok (.aload_n 0, 1) := by decide +kernel
theorem dX8_follow_60 : decode cX8_follow 60 = .ok (.getfield 35, 3) := by decide +kernel
theorem dX8_follow_63 : decode cX8_follow 63 = .ok (.iload_n 2, 1) := by decide +kernel
theorem dX8_follow_64 : decode cX8_follow 64 = .ok (.iload_n 3, 1) := by decide +kernel
theorem dX8_follow_65 : decode cX8_follow 65 = .ok (.iastore, 1) := by decide +kernel
theorem dX8_follow_66 : decode cX8_follow 66 = .ok (.aload_n 0, 1) := by decide +kernel
theorem dX8_follow_67 : decode cX8_follow 67 = .ok (.iload_n 2, 1) := by decide +kernel
theorem dX8_follow_68 : decode cX8_follow 68 = .ok (.iload_n 1, 1) := by decide +kernel
theorem dX8_follow_69 : decode cX8_follow 69 = .ok (.iload_n 3, 1) := by decide +kernel
theorem dX8_follow_70 : decode cX8_follow 70 = .ok (.invokevirtual 85, 3) := by decide +kernel
theorem dX8_follow_73 : decode cX8_follow 73 = .ok (.aload_n 0, 1) := by decide +kernel
theorem dX8_follow_74 : decode cX8_follow 74 = .ok (.iload 4, 2) := by decide +kernel
theorem dX8_follow_76 : decode cX8_follow 76 = .ok (.iload_n 2, 1) := by decide +kernel
theorem dX8_follow_77 : decode cX8_follow 77 = .ok (.iconst 1, 1) := by decide +kernel
theorem dX8_follow_78 : decode cX8_follow 78 = .ok (.iadd, 1) := by decide +kernel
theorem dX8_follow_79 : decode cX8_follow 79 = .ok (.invokestatic 74, 3) := by decide +kernel
theorem dX8_follow_82 : decode cX8_follow 82 = .ok (.iinc 3 1, 3) := by decide +kernel
theorem dX8_follow_85 : decode cX8_follow 85 = .ok (.goto (-50), 3) := by decide +kernel
theorem dX8_follow_88 : decode cX8_follow 88 = .ok (.return_, 1) := by decide +kernel
theorem cw_X8_follow : Cw yX8_follow cX8_follow 5 none 3 := ⟨aw_500, aw_21, ⟨by decide, by decide⟩, by decide +kernel, by decide⟩
theorem kc_8_99 {K : KT} {cc : ByteArray} {nL d pc : Nat} {ret : Option FieldType} {L : List (Option Value)} {st : List Value} {σ : Sg} (C : Cx K layC cc RX8 nL d ret)  {a0 : Int32}  {p : Int32 × Sg} (hd : decode cc pc = .ok (.invokevirtual 99, 3)) (e : fX8_isHopeless a0 σ = some p) (hdd : 2 + 1 ≤ d) (hLn : L.length = nL) (hr : (st.map fun v => v.category).sum ≤ 8) (k : G K (pc + 3) L (.int p.1 :: st) (Wd K layC p.2)) : G K pc L (.int a0 :: .ref (kad K 3) :: st) (Wd K layC σ) :=
  g_callV C (As := [.int a0]) (rest := st) (o := 3) (ci := 8) hd (ct_X8_isHopeless e) cw_X8_isHopeless (Or.inl aw_501) aw_503 aw_9 rfl rfl rfl hdd hLn rfl rfl hr (fun v τ q => by obtain ⟨rfl, rfl⟩ := q; exact k)
theorem gf_8_103 {K : KT} {cc : ByteArray} {nL d pc : Nat} {ret : Option FieldType} {L : List (Option Value)} {st : List Value} {σ : Sg} (C : Cx K layC cc RX8 nL d ret)  (hd : decode cc pc = .ok (.getfield 103, 3)) (k : G K (pc + 3) L (.int (rI σ 4 7) :: st) (Wd K layC σ)) : G K pc L (.ref (kad K 4) :: st) (Wd K layC σ) := g_get C (o := 4) (ci := 7) (k := 7) hd rfl rfl rfl (by decide) (Or.inr ⟨_, aw_98⟩) inA7 rfl k
theorem gf_8_89 {K : KT} {cc : ByteArray} {nL d pc : Nat} {ret : Option FieldType} {L : List (Option Value)} {st : List Value} {σ : Sg} (C : Cx K layC cc RX8 nL d ret)  (hd : decode cc pc = .ok (.getfield 89, 3)) (k : G K (pc + 3) L (.ref (kad K 9) :: st) (Wd K layC σ)) : G K pc L (.ref (kad K 4) :: st) (Wd K layC σ) := g_get C (o := 4) (ci := 7) (k := 4) hd rfl rfl rfl (by decide) (Or.inr ⟨_, aw_94⟩) inA7 rfl k
theorem kc_8_85 {K : KT} {cc : ByteArray} {nL d pc : Nat} {ret : Option FieldType} {L : List (Option Value)} {st : List Value} {σ : Sg} (C : Cx K layC cc RX8 nL d ret)  {a0 : Int32} {a1 : Int32} {a2 : Int32}  {p : Sg} (hd : decode cc pc = .ok (.invokevirtual 85, 3)) (e : fX8_pass a0 a1 a2 σ = some p) (hdd : 2 + 1 ≤ d) (hLn : L.length = nL) (hr : (st.map fun v => v.category).sum ≤ 8) (k : G K (pc + 3) L (st) (Wd K layC p)) : G K pc L (.int a2 :: .int a1 :: .int a0 :: .ref (kad K 3) :: st) (Wd K layC σ) :=
  g_callV C (As := [.int a0, .int a1, .int a2]) (rest := st) (o := 3) (ci := 8) hd (ct_X8_pass e) cw_X8_pass (Or.inl aw_516) aw_518 aw_11 rfl rfl rfl hdd hLn rfl rfl hr (fun v τ q => by obtain ⟨rfl, rfl⟩ := q; exact k)
theorem kc_8_106 {K : KT} {cc : ByteArray} {nL d pc : Nat} {ret : Option FieldType} {L : List (Option Value)} {st : List Value} {σ : Sg} (C : Cx K layC cc RX8 nL d ret)  {a0 : Int32}  {p : Sg} (hd : decode cc pc = .ok (.invokevirtual 106, 3)) (e : fX8_choose a0 σ = some p) (hdd : 2 + 1 ≤ d) (hLn : L.length = nL) (hr : (st.map fun v => v.category).sum ≤ 8) (k : G K (pc + 3) L (st) (Wd K layC p)) : G K pc L (.int a0 :: .ref (kad K 3) :: st) (Wd K layC σ) :=
  g_callV C (As := [.int a0]) (rest := st) (o := 3) (ci := 8) hd (ct_X8_choose e) cw_X8_choose (Or.inl aw_509) aw_511 aw_10 rfl rfl rfl hdd hLn rfl rfl hr (fun v τ q => by obtain ⟨rfl, rfl⟩ := q; exact k)
def fX8_follow_b82 (rc : Int32 → Int32 → Sg → Option (Sg)) (x1 : Int32) (x2 : Int32) (x3 : Int32) (σ : Sg) : Option ((Int32 × Sg) ⊕ ((Sg))) :=
  some (.inl ((x3 + (1 : Int32)), σ))
def fX8_follow_b35 (rc : Int32 → Int32 → Sg → Option (Sg)) (x1 : Int32) (x2 : Int32) (x3 : Int32) (σ : Sg) : Option ((Int32 × Sg) ⊕ ((Sg))) :=
  if (4 : Int32) ≤ x3 then (some (.inr σ)) else (if inb x1 30 = true then (if inb x3 4 = true then (if (rI σ (10 + (x1).toNatClampNeg) (x3).toNatClampNeg) = (-1 : Int32) then (fX8_follow_b82 rc x1 x2 x3 σ) else (if inb x2 9 = true then (Option.bind (fX8_pass x2 x1 x3 (wI σ 45 (x2).toNatClampNeg x3)) fun p7 => (Option.bind (rc (rI σ (10 + (x1).toNatClampNeg) (x3).toNatClampNeg) (x2 + (1 : Int32)) p7) fun p9 => (fX8_follow_b82 rc x1 x2 x3 p9))) else none)) else none) else none)
def fX8_follow_b0 (rc : Int32 → Int32 → Sg → Option (Sg)) (x1 : Int32) (x2 : Int32) (σ : Sg) : Option (Sg) :=
  Option.bind (fX8_isHopeless x2 σ) fun p1 => (if p1.1 = 0 then (if x1 = (rI p1.2 4 7) then (Option.bind (fX8_choose x2 p1.2) fun p13 => (some p13)) else (if x2 < (9 : Int32) then (Option.bind (lp (fun s => fX8_follow_b35 rc x1 x2 s.1 s.2) FU ((0 : Int32), p1.2)) fun t11 => some t11) else (some p1.2))) else (some p1.2))
set_option maxRecDepth 4000 in
theorem bX8_follow_b82 {K : KT} {rc : Int32 → Int32 → Sg → Option (Sg)} {n : Nat} {x1 : Int32} {x2 : Int32} {x3 : Int32} {σ : Sg} {o : (Int32 × Sg) ⊕ ((Sg))} (C : Cx K layC cX8_follow RX8 5 (2 + n + 1) none) (hrc : ∀ (a1 : Int32) (a2 : Int32) (σ : Sg) (p : Sg), rc a1 a2 σ = some p → Ct layC yX8_follow cX8_follow 5 none (2 + n) (fun ad => [.ref (ad 3), .int a1, .int a2]) σ (okV p))  (hI : ∀ s' : Int32 × Sg, o = .inl s' → G K 35 [some (.ref (kad K 3)), some (.int x1), some (.int x2), some (.int s'.1), none] [] (Wd K layC s'.2)) (hE0 : ∀ t : Sg, o = .inr t → G K 88 [none, none, none, none, none] [] (Wd K layC t)) (h : fX8_follow_b82 rc x1 x2 x3 σ = some o) : G K 82 [some (.ref (kad K 3)), some (.int x1), some (.int x2), some (.int x3), none] [] (Wd K layC σ) := by
  unfold fX8_follow_b82 at h
  refine g_iinc C.c (i := 3) (y := (1 : Int32)) (L' := [some (.ref (kad K 3)), some (.int x1), some (.int x2), some (.int (x3 + (1 : Int32))), none]) dX8_follow_82 rfl (by decide) (Nat.le_of_ble_eq_true rfl) rfl ?_
  refine g_goto C.c (tgt := 35) dX8_follow_85 (by decide) ?_
  have g9 := hI _ (Option.some.inj h).symm
  exact g_mask [true, true, true, true, false] rfl g9
set_option maxRecDepth 4000 in
theorem bX8_follow_b35 {K : KT} {rc : Int32 → Int32 → Sg → Option (Sg)} {n : Nat} {x1 : Int32} {x2 : Int32} {x3 : Int32} {σ : Sg} {o : (Int32 × Sg) ⊕ ((Sg))} (C : Cx K layC cX8_follow RX8 5 (2 + n + 1) none) (hrc : ∀ (a1 : Int32) (a2 : Int32) (σ : Sg) (p : Sg), rc a1 a2 σ = some p → Ct layC yX8_follow cX8_follow 5 none (2 + n) (fun ad => [.ref (ad 3), .int a1, .int a2]) σ (okV p))  (hI : ∀ s' : Int32 × Sg, o = .inl s' → G K 35 [some (.ref (kad K 3)), some (.int x1), some (.int x2), some (.int s'.1), none] [] (Wd K layC s'.2)) (hE0 : ∀ t : Sg, o = .inr t → G K 88 [none, none, none, none, none] [] (Wd K layC t)) (h : fX8_follow_b35 rc x1 x2 x3 σ = some o) : G K 35 [some (.ref (kad K 3)), some (.int x1), some (.int x2), some (.int x3), none] [] (Wd K layC σ) := by
  unfold fX8_follow_b35 at h
  refine g_iload_n C.c dX8_follow_35 rfl (i := 3) rfl ?_
  refine g_iconst C.c dX8_follow_36 (v := (4 : Int32)) (by decide) ?_
  refine g_icmp_ge C.c (tgt := 88) dX8_follow_37 (by decide) (fun c => ?_) (fun c => ?_)
  · replace h := ite_t c h
    have g9 := hE0 _ (Option.some.inj h).symm
    exact g_mask [false, false, false, false, false] rfl g9
  · replace h := ite_f c h
    refine g_aload_n C.c dX8_follow_40 rfl (i := 0) rfl ?_
    refine gf_8_12 C dX8_follow_41 ?_
    refine gf_8_89 C dX8_follow_44 ?_
    refine g_iload_n C.c dX8_follow_47 rfl (i := 1) rfl ?_
    obtain ⟨c3, h⟩ := chk h
    have hs4 := rw_9 (inb_lt c3)
    refine g_aald5 C (b := 10) dX8_follow_48 rfl c3 rfl rfl ?_
    refine g_iload_n C.c dX8_follow_49 rfl (i := 3) rfl ?_
    obtain ⟨c5, h⟩ := chk h
    refine g_iald C dX8_follow_50 hs4 c5 ?_
    refine g_istore C.c (i := 4) (L' := [some (.ref (kad K 3)), some (.int x1), some (.int x2), some (.int x3), some (.int (rI σ (10 + (x1).toNatClampNeg) (x3).toNatClampNeg))]) dX8_follow_51 (Nat.le_of_ble_eq_true rfl) rfl ?_
    refine g_iload C.c dX8_follow_53 (i := 4) rfl ?_
    refine g_iconst C.c dX8_follow_55 (v := (-1 : Int32)) (by decide) ?_
    refine g_icmp_eq C.c (tgt := 82) dX8_follow_56 (by decide) (fun c => ?_) (fun c => ?_)
    · replace h := ite_t c h
      exact g_mask [true, true, true, true, false] rfl (bX8_follow_b82 C hrc hI hE0 h)
    · replace h := ite_f c h
      refine g_aload_n C.c dX8_follow_59 rfl (i := 0) rfl ?_
      refine gf_8_35 C dX8_follow_60 ?_
      refine g_iload_n C.c dX8_follow_63 rfl (i := 2) rfl ?_
      refine g_iload_n C.c dX8_follow_64 rfl (i := 3) rfl ?_
      obtain ⟨c6, h⟩ := chk h
      refine g_iast C dX8_follow_65 rfl c6 ?_
      refine g_aload_n C.c dX8_follow_66 rfl (i := 0) rfl ?_
      refine g_iload_n C.c dX8_follow_67 rfl (i := 2) rfl ?_
      refine g_iload_n C.c dX8_follow_68 rfl (i := 1) rfl ?_
      refine g_iload_n C.c dX8_follow_69 rfl (i := 3) rfl ?_
      obtain ⟨p7, e8, h⟩ := Option.bind_eq_some_iff.mp h
      refine kc_8_85 C dX8_follow_70 e8 (by omega) rfl (Nat.le_of_ble_eq_true rfl) ?_
      refine g_aload_n C.c dX8_follow_73 rfl (i := 0) rfl ?_
      refine g_iload C.c dX8_follow_74 (i := 4) rfl ?_
      refine g_iload_n C.c dX8_follow_76 rfl (i := 2) rfl ?_
      refine g_iconst C.c dX8_follow_77 (v := (1 : Int32)) (by decide) ?_
      refine g_iadd C.c dX8_follow_78 ?_
      obtain ⟨p9, e10, h⟩ := Option.bind_eq_some_iff.mp h
      refine g_callS C (As := [.ref (kad K 3), .int (rI σ (10 + (x1).toNatClampNeg) (x3).toNatClampNeg), .int (x2 + (1 : Int32))]) (rest := []) dX8_follow_79 (hrc _ _ _ _ e10) cw_X8_follow (Or.inl aw_498) aw_499 rfl rfl rfl (by omega) rfl (Nat.le_of_ble_eq_true rfl) (fun v τ q => ?_)
      obtain ⟨rfl, rfl⟩ := q
      exact g_mask [true, true, true, true, false] rfl (bX8_follow_b82 C hrc hI hE0 h)
set_option maxRecDepth 4000 in
theorem bX8_follow_b0 {K : KT} {rc : Int32 → Int32 → Sg → Option (Sg)} {n : Nat} {x1 : Int32} {x2 : Int32} {σ : Sg} {o : Sg} (C : Cx K layC cX8_follow RX8 5 (2 + n + 1) none) (hrc : ∀ (a1 : Int32) (a2 : Int32) (σ : Sg) (p : Sg), rc a1 a2 σ = some p → Ct layC yX8_follow cX8_follow 5 none (2 + n) (fun ad => [.ref (ad 3), .int a1, .int a2]) σ (okV p))  (hQ : Rk K layC (okV o)) (h : fX8_follow_b0 rc x1 x2 σ = some o) : G K 0 [some (.ref (kad K 3)), some (.int x1), some (.int x2), none, none] [] (Wd K layC σ) := by
  unfold fX8_follow_b0 at h
  refine g_aload_n C.c dX8_follow_0 rfl (i := 0) rfl ?_
  refine g_iload_n C.c dX8_follow_1 rfl (i := 2) rfl ?_
  obtain ⟨p1, e2, h⟩ := Option.bind_eq_some_iff.mp h
  refine kc_8_99 C dX8_follow_2 e2 (by omega) rfl (Nat.le_of_ble_eq_true rfl) ?_
  refine g_if_eq C.c (tgt := 9) dX8_follow_5 (by decide) (fun c => ?_) (fun c => ?_)
  · replace h := ite_t c h
    refine g_iload_n C.c dX8_follow_9 rfl (i := 1) rfl ?_
    refine g_aload_n C.c dX8_follow_10 rfl (i := 0) rfl ?_
    refine gf_8_12 C dX8_follow_11 ?_
    refine gf_8_103 C dX8_follow_14 ?_
    refine g_icmp_ne C.c (tgt := 26) dX8_follow_17 (by decide) (fun c => ?_) (fun c => ?_)
    · replace h := ite_f c h
      refine g_iload_n C.c dX8_follow_26 rfl (i := 2) rfl ?_
      refine g_bipush C.c dX8_follow_27 (v := (9 : Int32)) (by decide) ?_
      refine g_icmp_lt C.c (tgt := 33) dX8_follow_29 (by decide) (fun c => ?_) (fun c => ?_)
      · replace h := ite_t c h
        refine g_iconst C.c dX8_follow_33 (v := (0 : Int32)) (by decide) ?_
        refine g_istore_n C.c (i := 3) (L' := [some (.ref (kad K 3)), some (.int x1), some (.int x2), some (.int (0 : Int32)), none]) dX8_follow_34 rfl (Nat.le_of_ble_eq_true rfl) rfl ?_
        refine g_mask [true, true, true, true, false] rfl ?_
        refine lp_bind (Gh := fun s => G K 35 [some (.ref (kad K 3)), some (.int x1), some (.int x2), some (.int s.1), none] [] (Wd K layC s.2)) h (fun s o2 hf gI gE => ?_)
        refine bX8_follow_b35 C hrc gI (fun t11 e => ?_) hf
        · have h := gE _ e
          obtain rfl := Option.some.inj h
          exact g_vret C hQ dX8_follow_88 ⟨rfl, rfl⟩
      · replace h := ite_f c h
        obtain rfl := Option.some.inj h
        exact g_vret C hQ dX8_follow_32 ⟨rfl, rfl⟩
    · replace h := ite_t c h
      refine g_aload_n C.c dX8_follow_20 rfl (i := 0) rfl ?_
      refine g_iload_n C.c dX8_follow_21 rfl (i := 2) rfl ?_
      obtain ⟨p13, e14, h⟩ := Option.bind_eq_some_iff.mp h
      refine kc_8_106 C dX8_follow_22 e14 (by omega) rfl (Nat.le_of_ble_eq_true rfl) ?_
      obtain rfl := Option.some.inj h
      exact g_vret C hQ dX8_follow_25 ⟨rfl, rfl⟩
  · replace h := ite_f c h
    obtain rfl := Option.some.inj h
    exact g_vret C hQ dX8_follow_8 ⟨rfl, rfl⟩
def fX8_follow : Nat → Int32 → Int32 → Sg → Option (Sg)
  | 0 => fun _ _ _ => none
  | n + 1 => fun a1 a2 σ => fX8_follow_b0 (fX8_follow n) a1 a2 σ
theorem ct_X8_follow : ∀ (n : Nat) {a1 : Int32} {a2 : Int32} {σ : Sg} {p : Sg} (h : fX8_follow n a1 a2 σ = some p), Ct layC yX8_follow cX8_follow 5 none (2 + n) (fun ad => [.ref (ad 3), .int a1, .int a2]) σ (okV p)
  | 0, _, _, _, _, h => by cases h
  | n + 1, a1, a2, _, _, h => ct_of (L0 := fun ad => [some (.ref (ad 3)), some (.int a1), some (.int a2), none, none]) (by decide) (fun _ => Nat.le_of_ble_eq_true rfl) (fun _ => rfl) (fun K C hQ => g_mask [true, true, true, false, false] rfl (bX8_follow_b0 C (fun _ _ _ _ e => ct_X8_follow n e) hQ h))
-- X8_seek
theorem dX8_seek_0 : decode cX8_seek 0 = .ok (.aload_n 0, 1) := by decide +kernel
theorem dX8_seek_1 : decode cX8_seek 1 = .ok (.aload_n 1, 1) := by decide +kernel
theorem dX8_seek_2 : decode cX8_seek 2 = .ok (.putfield 44, 3) := by decide +kernel
theorem dX8_seek_5 : decode cX8_seek 5 = .ok (.aload_n 0, 1) := by decide +kernel
theorem dX8_seek_6 : decode cX8_seek 6 = .ok (.iconst 1, 1) := by decide +kernel
theorem dX8_seek_7 : decode cX8_seek 7 = .ok (.iload_n 3, 1) := by decide +kernel
theorem dX8_seek_8 : decode cX8_seek 8 = .ok (.invokestatic 52, 3) := by decide +kernel
theorem dX8_seek_11 : decode cX8_seek 11 = .ok (.putfield 48, 3) := by decide +kernel
theorem dX8_seek_14 : decode cX8_seek 14 = .ok (.aload_n 0, 1) := by decide +kernel
theorem dX8_seek_15 : decode cX8_seek 15 = .ok (.iload 4, 2) := by decide +kernel
theorem dX8_seek_17 : decode cX8_seek 17 = .ok (.putfield 58, 3) := by decide +kernel
theorem dX8_seek_20 : decode cX8_seek 20 = .ok (.aload_n 0, 1) := by decide +kernel
theorem dX8_seek_21 : decode cX8_seek 21 = .ok (.iconst 0, 1) := by decide +kernel
theorem dX8_seek_22 : decode cX8_seek 22 = .ok (.putfield 62, 3) := by decide +kernel
theorem dX8_seek_25 : decode cX8_seek 25 = .ok (.aload_n 0, 1) := by decide +kernel
theorem dX8_seek_26 : decode cX8_seek 26 = .ok (.iconst 0, 1) := by decide +kernel
theorem dX8_seek_27 : decode cX8_seek 27 = .ok (.putfield 65, 3) := by decide +kernel
theorem dX8_seek_30 : decode cX8_seek 30 = .ok (.aload_n 0, 1) := by decide +kernel
theorem dX8_seek_31 : decode cX8_seek 31 = .ok (.getfield 25, 3) := by decide +kernel
theorem dX8_seek_34 : decode cX8_seek 34 = .ok (.iconst 0, 1) := by decide +kernel
theorem dX8_seek_35 : decode cX8_seek 35 = .ok (.iload_n 2, 1) := by decide +kernel
theorem dX8_seek_36 : decode cX8_seek 36 = .ok (.iastore, 1) := by decide +kernel
theorem dX8_seek_37 : decode cX8_seek 37 = .ok (.aload_n 0, 1) := by decide +kernel
theorem dX8_seek_38 : decode cX8_seek 38 = .ok (.getfield 29, 3) := by decide +kernel
theorem dX8_seek_41 : decode cX8_seek 41 = .ok (.iconst 0, 1) := by decide +kernel
theorem dX8_seek_42 : decode cX8_seek 42 = .ok (.aload_n 1, 1) := by decide +kernel
theorem dX8_seek_43 : decode cX8_seek 43 = .ok (.getfield 68, 3) := by decide +kernel
theorem dX8_seek_46 : decode cX8_seek 46 = .ok (.iastore, 1) := by decide +kernel
theorem dX8_seek_47 : decode cX8_seek 47 = .ok (.aload_n 0, 1) := by decide +kernel
theorem dX8_seek_48 : decode cX8_seek 48 = .ok (.getfield 32, 3) := by decide +kernel
theorem dX8_seek_51 : decode cX8_seek 51 = .ok (.iconst 0, 1) := by decide +kernel
theorem dX8_seek_52 : decode cX8_seek 52 = .ok (.iconst 0, 1) := by decide +kernel
theorem dX8_seek_53 : decode cX8_seek 53 = .ok (.iastore, 1) := by decide +kernel
theorem dX8_seek_54 : decode cX8_seek 54 = .ok (.aload_n 0, 1) := by decide +kernel
theorem dX8_seek_55 : decode cX8_seek 55 = .ok (.aload_n 1, 1) := by decide +kernel
theorem dX8_seek_56 : decode cX8_seek 56 = .ok (.getfield 71, 3) := by decide +kernel
theorem dX8_seek_59 : decode cX8_seek 59 = .ok (.iconst 0, 1) := by decide +kernel
theorem dX8_seek_60 : decode cX8_seek 60 = .ok (.invokestatic 74, 3) := by decide +kernel
theorem dX8_seek_63 : decode cX8_seek 63 = .ok (.return_, 1) := by decide +kernel
theorem cw_X8_seek : Cw yX8_seek cX8_seek 5 none 4 := ⟨aw_496, aw_21, ⟨by decide, by decide⟩, by decide +kernel, by decide⟩
theorem pf_8_44 {K : KT} {cc : ByteArray} {nL d pc : Nat} {ret : Option FieldType} {L : List (Option Value)} {st : List Value} {σ : Sg} (C : Cx K layC cc RX8 nL d ret)  {v : Nat}  (hd : decode cc pc = .ok (.putfield 44, 3)) (k : G K (pc + 3) L st (Wd K layC (wR σ 3 7 v))) : G K pc L (.ref (kad K v) :: .ref (kad K 3) :: st) (Wd K layC σ) := g_putR C (o := 3) (ci := 8) (k := 7) hd rfl rfl rfl (by decide) (Or.inl aw_169) inA8 tyX8_ok nmX8 rfl (fun _ => rfl) (fun _ => rfl) k
theorem pf_8_48 {K : KT} {cc : ByteArray} {nL d pc : Nat} {ret : Option FieldType} {L : List (Option Value)} {st : List Value} {σ : Sg} (C : Cx K layC cc RX8 nL d ret)  {v : Int32}  (hd : decode cc pc = .ok (.putfield 48, 3)) (k : G K (pc + 3) L st (Wd K layC (wI σ 3 8 v))) : G K pc L (.int v :: .ref (kad K 3) :: st) (Wd K layC σ) := g_putI C (o := 3) (ci := 8) (k := 8) hd rfl rfl rfl (by decide) (Or.inl aw_170) inA8 tyX8_ok nmX8 rfl rfl rfl k
theorem pf_8_58 {K : KT} {cc : ByteArray} {nL d pc : Nat} {ret : Option FieldType} {L : List (Option Value)} {st : List Value} {σ : Sg} (C : Cx K layC cc RX8 nL d ret)  {v : Int32} (hb : isB v = true) (hd : decode cc pc = .ok (.putfield 58, 3)) (k : G K (pc + 3) L st (Wd K layC (wI σ 3 9 v))) : G K pc L (.int v :: .ref (kad K 3) :: st) (Wd K layC σ) := g_putI C (o := 3) (ci := 8) (k := 9) hd rfl rfl rfl (by decide) (Or.inl aw_171) inA8 tyX8_ok nmX8 rfl (isB_n hb) (isB_f hb) k
theorem pf_8_65 {K : KT} {cc : ByteArray} {nL d pc : Nat} {ret : Option FieldType} {L : List (Option Value)} {st : List Value} {σ : Sg} (C : Cx K layC cc RX8 nL d ret)  {v : Int32} (hb : isB v = true) (hd : decode cc pc = .ok (.putfield 65, 3)) (k : G K (pc + 3) L st (Wd K layC (wI σ 3 15 v))) : G K pc L (.int v :: .ref (kad K 3) :: st) (Wd K layC σ) := g_putI C (o := 3) (ci := 8) (k := 15) hd rfl rfl rfl (by decide) (Or.inl aw_181) inA8 tyX8_ok nmX8 rfl (isB_n hb) (isB_f hb) k
theorem gf_8_68d {K : KT} {cc : ByteArray} {nL d pc : Nat} {ret : Option FieldType} {L : List (Option Value)} {st : List Value} {σ : Sg} (C : Cx K layC cc RX8 nL d ret) {o : Nat} (hY : layC[o]? = some (0, 0, slX0)) (hd : decode cc pc = .ok (.getfield 68, 3)) (k : G K (pc + 3) L (.int (rI σ o 3) :: st) (Wd K layC σ)) : G K pc L (.ref (kad K o) :: st) (Wd K layC σ) := g_get C (o := o) (ci := 0) (k := 3) hd hY rfl rfl (by decide) (Or.inr ⟨_, aw_141⟩) inA0 rfl k
theorem gf_8_71d {K : KT} {cc : ByteArray} {nL d pc : Nat} {ret : Option FieldType} {L : List (Option Value)} {st : List Value} {σ : Sg} (C : Cx K layC cc RX8 nL d ret) {o : Nat} (hY : layC[o]? = some (0, 0, slX0)) (hd : decode cc pc = .ok (.getfield 71, 3)) (k : G K (pc + 3) L (.int (rI σ o 1) :: st) (Wd K layC σ)) : G K pc L (.ref (kad K o) :: st) (Wd K layC σ) := g_get C (o := o) (ci := 0) (k := 1) hd hY rfl rfl (by decide) (Or.inr ⟨_, aw_136⟩) inA0 rfl k
theorem kc_8_74 {K : KT} {cc : ByteArray} {nL d pc : Nat} {ret : Option FieldType} {L : List (Option Value)} {st : List Value} {σ : Sg} (C : Cx K layC cc RX8 nL d ret) {n : Nat} {a1 : Int32} {a2 : Int32}  {p : Sg} (hd : decode cc pc = .ok (.invokestatic 74, 3)) (e : fX8_follow n a1 a2 σ = some p) (hdd : 2 + n + 1 ≤ d) (hLn : L.length = nL) (hr : (st.map fun v => v.category).sum ≤ 8) (k : G K (pc + 3) L (st) (Wd K layC p)) : G K pc L (.int a2 :: .int a1 :: .ref (kad K 3) :: st) (Wd K layC σ) :=
  g_callS C (As := [.ref (kad K 3), .int a1, .int a2]) (rest := st) hd (ct_X8_follow n e) cw_X8_follow (Or.inl aw_498) aw_499 rfl rfl rfl hdd hLn hr (fun v τ q => by obtain ⟨rfl, rfl⟩ := q; exact k)
def fX8_seek_b0 (w1 : Nat) (x2 : Int32) (x3 : Int32) (x4 : Int32) (σ : Sg) : Option (Sg) :=
  if isB x4 = true then (Option.bind (fX8_follow FD (rI (wI (wI (wI (wI (wI (wI (wI (wR σ 3 7 w1) 3 8 (imax (1 : Int32) x3)) 3 9 x4) 3 10 (0 : Int32)) 3 15 (0 : Int32)) 42 ((0 : Int32)).toNatClampNeg x2) 43 ((0 : Int32)).toNatClampNeg (rI (wI (wI (wI (wI (wI (wR σ 3 7 w1) 3 8 (imax (1 : Int32) x3)) 3 9 x4) 3 10 (0 : Int32)) 3 15 (0 : Int32)) 42 ((0 : Int32)).toNatClampNeg x2) w1 3)) 44 ((0 : Int32)).toNatClampNeg (0 : Int32)) w1 1) (0 : Int32) (wI (wI (wI (wI (wI (wI (wI (wR σ 3 7 w1) 3 8 (imax (1 : Int32) x3)) 3 9 x4) 3 10 (0 : Int32)) 3 15 (0 : Int32)) 42 ((0 : Int32)).toNatClampNeg x2) 43 ((0 : Int32)).toNatClampNeg (rI (wI (wI (wI (wI (wI (wR σ 3 7 w1) 3 8 (imax (1 : Int32) x3)) 3 9 x4) 3 10 (0 : Int32)) 3 15 (0 : Int32)) 42 ((0 : Int32)).toNatClampNeg x2) w1 3)) 44 ((0 : Int32)).toNatClampNeg (0 : Int32))) fun p2 => (some p2)) else none
set_option maxRecDepth 4000 in
theorem bX8_seek_b0 {K : KT} {w1 : Nat} {x2 : Int32} {x3 : Int32} {x4 : Int32} {σ : Sg} {o : Sg} (C : Cx K layC cX8_seek RX8 5 (15) none) (hw1 : layC[w1]? = some (0, 0, slX0)) (hQ : Rk K layC (okV o)) (h : fX8_seek_b0 w1 x2 x3 x4 σ = some o) : G K 0 [some (.ref (kad K 3)), some (.ref (kad K w1)), some (.int x2), some (.int x3), some (.int x4)] [] (Wd K layC σ) := by
  unfold fX8_seek_b0 at h
  refine g_aload_n C.c dX8_seek_0 rfl (i := 0) rfl ?_
  refine g_aload_n C.c dX8_seek_1 rfl (i := 1) rfl ?_
  refine pf_8_44 C dX8_seek_2 ?_
  refine g_aload_n C.c dX8_seek_5 rfl (i := 0) rfl ?_
  refine g_iconst C.c dX8_seek_6 (v := (1 : Int32)) (by decide) ?_
  refine g_iload_n C.c dX8_seek_7 rfl (i := 3) rfl ?_
  refine g_max C.c dX8_seek_8 aw_497 aw_416 aw_29 aw_417 rfl (Nat.le_of_ble_eq_true rfl) (Nat.le_of_ble_eq_true rfl) ?_
  refine pf_8_48 C dX8_seek_11 ?_
  refine g_aload_n C.c dX8_seek_14 rfl (i := 0) rfl ?_
  refine g_iload C.c dX8_seek_15 (i := 4) rfl ?_
  obtain ⟨c1, h⟩ := chk h
  refine pf_8_58 C c1 dX8_seek_17 ?_
  refine g_aload_n C.c dX8_seek_20 rfl (i := 0) rfl ?_
  refine g_iconst C.c dX8_seek_21 (v := (0 : Int32)) (by decide) ?_
  refine pf_8_62 C (by decide) dX8_seek_22 ?_
  refine g_aload_n C.c dX8_seek_25 rfl (i := 0) rfl ?_
  refine g_iconst C.c dX8_seek_26 (v := (0 : Int32)) (by decide) ?_
  refine pf_8_65 C (by decide) dX8_seek_27 ?_
  refine g_aload_n C.c dX8_seek_30 rfl (i := 0) rfl ?_
  refine gf_8_25 C dX8_seek_31 ?_
  refine g_iconst C.c dX8_seek_34 (v := (0 : Int32)) (by decide) ?_
  refine g_iload_n C.c dX8_seek_35 rfl (i := 2) rfl ?_
  refine g_iast C dX8_seek_36 rfl (by decide) ?_
  refine g_aload_n C.c dX8_seek_37 rfl (i := 0) rfl ?_
  refine gf_8_29 C dX8_seek_38 ?_
  refine g_iconst C.c dX8_seek_41 (v := (0 : Int32)) (by decide) ?_
  refine g_aload_n C.c dX8_seek_42 rfl (i := 1) rfl ?_
  refine gf_8_68d C hw1 dX8_seek_43 ?_
  refine g_iast C dX8_seek_46 rfl (by decide) ?_
  refine g_aload_n C.c dX8_seek_47 rfl (i := 0) rfl ?_
  refine gf_8_32 C dX8_seek_48 ?_
  refine g_iconst C.c dX8_seek_51 (v := (0 : Int32)) (by decide) ?_
  refine g_iconst C.c dX8_seek_52 (v := (0 : Int32)) (by decide) ?_
  refine g_iast C dX8_seek_53 rfl (by decide) ?_
  refine g_aload_n C.c dX8_seek_54 rfl (i := 0) rfl ?_
  refine g_aload_n C.c dX8_seek_55 rfl (i := 1) rfl ?_
  refine gf_8_71d C hw1 dX8_seek_56 ?_
  refine g_iconst C.c dX8_seek_59 (v := (0 : Int32)) (by decide) ?_
  obtain ⟨p2, e3, h⟩ := Option.bind_eq_some_iff.mp h
  refine kc_8_74 C dX8_seek_60 e3 (Nat.le_of_ble_eq_true rfl) rfl (Nat.le_of_ble_eq_true rfl) ?_
  obtain rfl := Option.some.inj h
  exact g_vret C hQ dX8_seek_63 ⟨rfl, rfl⟩
def fX8_seek (q0 : Nat) (a1 : Int32) (a2 : Int32) (a3 : Int32) (σ : Sg) : Option (Sg) := fX8_seek_b0 q0 a1 a2 a3 σ
theorem ct_X8_seek {q0 : Nat} {a1 : Int32} {a2 : Int32} {a3 : Int32} {σ : Sg} {p : Sg} (hYq0 : layC[q0]? = some (0, 0, slX0)) (h : fX8_seek q0 a1 a2 a3 σ = some p) : Ct layC yX8_seek cX8_seek 5 none 15 (fun ad => [.ref (ad 3), .ref (ad q0), .int a1, .int a2, .int a3]) σ (okV p) :=
 ct_of (L0 := fun ad => [some (.ref (ad 3)), some (.ref (ad q0)), some (.int a1), some (.int a2), some (.int a3)]) (by decide) (fun _ => Nat.le_of_ble_eq_true rfl) (fun _ => rfl) (fun K C hQ => g_mask [true, true, true, true, true] rfl (bX8_seek_b0 C hYq0 hQ h))
-- X8_towAgain
theorem dX8_towAgain_0 : decode cX8_towAgain 0 = .ok (.aload_n 0, 1) := by decide +kernel
theorem dX8_towAgain_1 : decode cX8_towAgain 1 = .ok (.iconst 1, 1) := by decide +kernel
theorem dX8_towAgain_2 : decode cX8_towAgain 2 = .ok (.putfield 65, 3) := by decide +kernel
theorem dX8_towAgain_5 : decode cX8_towAgain 5 = .ok (.aload_n 0, 1) := by decide +kernel
theorem dX8_towAgain_6 : decode cX8_towAgain 6 = .ok (.iload_n 1, 1) := by decide +kernel
theorem dX8_towAgain_7 : decode cX8_towAgain 7 = .ok (.i2l, 1) := by decide +kernel
theorem dX8_towAgain_8 : decode cX8_towAgain 8 = .ok (.putfield 78, 3) := by decide +kernel
theorem dX8_towAgain_11 : decode cX8_towAgain 11 = .ok (.aload_n 0, 1) := by decide +kernel
theorem dX8_towAgain_12 : decode cX8_towAgain 12 = .ok (.getfield 44, 3) := by decide +kernel
theorem dX8_towAgain_15 : decode cX8_towAgain 15 = .ok (.getfield 71, 3) := by decide +kernel
theorem dX8_towAgain_18 : decode cX8_towAgain 18 = .ok (.istore_n 2, 1) := by decide +kernel
theorem dX8_towAgain_19 : decode cX8_towAgain 19 = .ok (.iconst 0, 1) := by decide +kernel
theorem dX8_towAgain_20 : decode cX8_towAgain 20 = .ok (.istore_n 3, 1) := by decide +kernel
theorem dX8_towAgain_21 : decode cX8_towAgain 21 = .ok (.iload_n 3, 1) := by decide +kernel
theorem dX8_towAgain_22 : decode cX8_towAgain 22 = .ok (.aload_n 0, 1) := by decide +kernel
theorem dX8_towAgain_23 : decode cX8_towAgain 23 = .ok (.getfield 82, 3) := by decide +kernel
theorem dX8_towAgain_26 : decode cX8_towAgain 26 = .ok (.if_icmp .ge 43, 3) := by decide +kernel
theorem dX8_towAgain_29 : decode cX8_towAgain 29 = .ok (.iload_n 2, 1) := by decide +kernel
theorem dX8_towAgain_30 : decode cX8_towAgain 30 = .ok (.iconst (-1), 1) := by decide +kernel
theorem dX8_towAgain_31 : decode cX8_towAgain 31 = .ok (.if_icmp .eq 38, 3) := by decide +kernel
theorem dX8_towAgain_34 : decode cX8_towAgain 34 = .ok (.aload_n 0, 1) := by decide +kernel
theorem dX8_towAgain_35 : decode cX8_towAgain 35 = .ok (.iload_n 3, 1) := by decide +kernel
theorem dX8_towAgain_36 : decode cX8_towAgain 36 = .ok (.iload_n 2, 1) := by decide +kernel
theorem dX8_towAgain_37 : decode cX8_towAgain 37 = .ok (.aload_n 0, 1) := by decide +kernel
theorem dX8_towAgain_38 : decode cX8_towAgain 38 = .ok (.getfield 38, 3) := by decide +kernel
theorem dX8_towAgain_41 : decode cX8_towAgain 41 = .ok (.iload_n 3, 1) := by decide +kernel
theorem dX8_towAgain_42 : decode cX8_towAgain 42 = .ok (.iaload, 1) := by decide +kernel
theorem dX8_towAgain_43 : decode cX8_towAgain 43 = .ok (.invokevirtual 85, 3) := by decide +kernel
theorem dX8_towAgain_46 : decode cX8_towAgain 46 = .ok (.aload_n 0, 1) := by decide +kernel
theorem dX8_towAgain_47 : decode cX8_towAgain 47 = .ok (.getfield 12, 3) := by decide +kernel
theorem dX8_towAgain_50 : decode cX8_towAgain 50 = .ok (.getfield 89, 3) := by decide +kernel
theorem dX8_towAgain_53 : decode cX8_towAgain 53 = .ok (.iload_n 2, 1) := by decide +kernel
theorem dX8_towAgain_54 : decode cX8_towAgain 54 = .ok (.aaload, 1) := by decide +kernel
theorem dX8_towAgain_55 : decode cX8_towAgain 55 = .ok (.aload_n 0, 1) := by decide +kernel
theorem dX8_towAgain_56 : decode cX8_towAgain 56 = .ok (.getfield 38, 3) := by decide +kernel
theorem dX8_towAgain_59 : decode cX8_towAgain 59 = .ok (.iload_n 3, 1) := by decide +kernel
theorem dX8_towAgain_60 : decode cX8_towAgain 60 = .ok (.iaload, 1) := by decide +kernel
theorem dX8_towAgain_61 : decode cX8_towAgain 61 = .ok (.iaload, 1) := by decide +kernel
theorem dX8_towAgain_62 : decode cX8_towAgain 62 = .ok (.istore_n 2, 1) := by decide +kernel
theorem dX8_towAgain_63 : decode cX8_towAgain 63 = .ok (.iinc 3 1, 3) := by decide +kernel
theorem dX8_towAgain_66 : decode cX8_towAgain 66 = .ok (.goto (-45), 3) := by decide +kernel
theorem dX8_towAgain_69 : decode cX8_towAgain 69 = .ok (.aload_n 0, 1) := by decide +kernel
theorem dX8_towAgain_70 : decode cX8_towAgain 70 = .ok (.aload_n 0, 1) := by decide +kernel
theorem dX8_towAgain_71 : decode cX8_towAgain 71 = .ok (.getfield 25, 3) := by decide +kernel
theorem dX8_towAgain_74 : decode cX8_towAgain 74 = .ok (.aload_n 0, 1) := by decide +kernel
theorem dX8_towAgain_75 : decode cX8_towAgain 75 = .ok (.getfield 82, 3) := by decide +kernel
theorem dX8_towAgain_78 : decode cX8_towAgain 78 = .ok (.iaload, 1) := by decide +kernel
theorem dX8_towAgain_79 : decode cX8_towAgain 79 = .ok (.putfield 93, 3) := by decide +kernel
theorem dX8_towAgain_82 : decode cX8_towAgain 82 = .ok (.aload_n 0, 1) := by decide +kernel
theorem dX8_towAgain_83 : decode cX8_towAgain 83 = .ok (.aload_n 0, 1) := by decide +kernel
theorem dX8_towAgain_84 : decode cX8_towAgain 84 = .ok (.getfield 32, 3) := by decide +kernel
theorem dX8_towAgain_87 : decode cX8_towAgain 87 = .ok (.aload_n 0, 1) := by decide +kernel
theorem dX8_towAgain_88 : decode cX8_towAgain 88 = .ok (.getfield 82, 3) := by decide +kernel
theorem dX8_towAgain_91 : decode cX8_towAgain 91 = .ok (.iaload, 1) := by decide +kernel
theorem dX8_towAgain_92 : decode cX8_towAgain 92 = .ok (.putfield 96, 3) := by decide +kernel
theorem dX8_towAgain_95 : decode cX8_towAgain 95 = .ok (.return_, 1) := by decide +kernel
theorem cw_X8_towAgain : Cw yX8_towAgain cX8_towAgain 4 none 1 := ⟨aw_604, aw_21, ⟨by decide, by decide⟩, by decide +kernel, by decide⟩
theorem gf_8_82 {K : KT} {cc : ByteArray} {nL d pc : Nat} {ret : Option FieldType} {L : List (Option Value)} {st : List Value} {σ : Sg} (C : Cx K layC cc RX8 nL d ret)  (hd : decode cc pc = .ok (.getfield 82, 3)) (k : G K (pc + 3) L (.int (rI σ 3 14) :: st) (Wd K layC σ)) : G K pc L (.ref (kad K 3) :: st) (Wd K layC σ) := g_get C (o := 3) (ci := 8) (k := 14) hd rfl rfl rfl (by decide) (Or.inl aw_179) inA8 rfl k
def fX8_towAgain_b21 (x2 : Int32) (x3 : Int32) (σ : Sg) : Option ((Int32 × Int32 × Sg) ⊕ ((Sg))) :=
  if (rI σ 3 14) ≤ x3 then (some (.inr σ)) else (if x2 = (-1 : Int32) then (some (.inr σ)) else (if inb x3 9 = true then (Option.bind (fX8_pass x3 x2 (rI σ 46 (x3).toNatClampNeg) σ) fun p3 => (if inb x2 30 = true then (if inb x3 9 = true then (if inb (rI p3 46 (x3).toNatClampNeg) 4 = true then (some (.inl ((rI p3 (10 + (x2).toNatClampNeg) ((rI p3 46 (x3).toNatClampNeg)).toNatClampNeg), (x3 + (1 : Int32)), p3))) else none) else none) else none)) else none))
def fX8_towAgain_b0 (x1 : Int32) (σ : Sg) : Option (Sg) :=
  if isSh layC (rR (wJ (wI σ 3 15 (1 : Int32)) 3 16 ((x1).toInt64)) 3 7) (0, 0, slX0) = true then (Option.bind (lp (fun s => fX8_towAgain_b21 s.1 s.2.1 s.2.2) FU ((rI (wJ (wI σ 3 15 (1 : Int32)) 3 16 ((x1).toInt64)) (rR (wJ (wI σ 3 15 (1 : Int32)) 3 16 ((x1).toInt64)) 3 7) 1), (0 : Int32), (wJ (wI σ 3 15 (1 : Int32)) 3 16 ((x1).toInt64)))) fun t9 => if inb (rI t9 3 14) 10 = true then (if inb (rI (wI t9 3 11 (rI t9 42 ((rI t9 3 14)).toNatClampNeg)) 3 14) 10 = true then (some (wI (wI t9 3 11 (rI t9 42 ((rI t9 3 14)).toNatClampNeg)) 3 12 (rI (wI t9 3 11 (rI t9 42 ((rI t9 3 14)).toNatClampNeg)) 44 ((rI (wI t9 3 11 (rI t9 42 ((rI t9 3 14)).toNatClampNeg)) 3 14)).toNatClampNeg))) else none) else none) else none
set_option maxRecDepth 4000 in
theorem bX8_towAgain_b21 {K : KT} {x2 : Int32} {x3 : Int32} {σ : Sg} {o : (Int32 × Int32 × Sg) ⊕ ((Sg))} (C : Cx K layC cX8_towAgain RX8 4 (3) none)  (hI : ∀ s' : Int32 × Int32 × Sg, o = .inl s' → G K 21 [some (.ref (kad K 3)), none, some (.int s'.1), some (.int s'.2.1)] [] (Wd K layC s'.2.2)) (hE0 : ∀ t : Sg, o = .inr t → G K 69 [some (.ref (kad K 3)), none, none, none] [] (Wd K layC t)) (h : fX8_towAgain_b21 x2 x3 σ = some o) : G K 21 [some (.ref (kad K 3)), none, some (.int x2), some (.int x3)] [] (Wd K layC σ) := by
  unfold fX8_towAgain_b21 at h
  refine g_iload_n C.c dX8_towAgain_21 rfl (i := 3) rfl ?_
  refine g_aload_n C.c dX8_towAgain_22 rfl (i := 0) rfl ?_
  refine gf_8_82 C dX8_towAgain_23 ?_
  refine g_icmp_ge C.c (tgt := 69) dX8_towAgain_26 (by decide) (fun c => ?_) (fun c => ?_)
  · replace h := ite_t c h
    have g9 := hE0 _ (Option.some.inj h).symm
    exact g_mask [true, false, false, false] rfl g9
  · replace h := ite_f c h
    refine g_iload_n C.c dX8_towAgain_29 rfl (i := 2) rfl ?_
    refine g_iconst C.c dX8_towAgain_30 (v := (-1 : Int32)) (by decide) ?_
    refine g_icmp_eq C.c (tgt := 69) dX8_towAgain_31 (by decide) (fun c => ?_) (fun c => ?_)
    · replace h := ite_t c h
      have g9 := hE0 _ (Option.some.inj h).symm
      exact g_mask [true, false, false, false] rfl g9
    · replace h := ite_f c h
      refine g_aload_n C.c dX8_towAgain_34 rfl (i := 0) rfl ?_
      refine g_iload_n C.c dX8_towAgain_35 rfl (i := 3) rfl ?_
      refine g_iload_n C.c dX8_towAgain_36 rfl (i := 2) rfl ?_
      refine g_aload_n C.c dX8_towAgain_37 rfl (i := 0) rfl ?_
      refine gf_8_38 C dX8_towAgain_38 ?_
      refine g_iload_n C.c dX8_towAgain_41 rfl (i := 3) rfl ?_
      obtain ⟨c2, h⟩ := chk h
      refine g_iald C dX8_towAgain_42 rfl c2 ?_
      obtain ⟨p3, e4, h⟩ := Option.bind_eq_some_iff.mp h
      refine kc_8_85 C dX8_towAgain_43 e4 (Nat.le_of_ble_eq_true rfl) rfl (Nat.le_of_ble_eq_true rfl) ?_
      refine g_aload_n C.c dX8_towAgain_46 rfl (i := 0) rfl ?_
      refine gf_8_12 C dX8_towAgain_47 ?_
      refine gf_8_89 C dX8_towAgain_50 ?_
      refine g_iload_n C.c dX8_towAgain_53 rfl (i := 2) rfl ?_
      obtain ⟨c5, h⟩ := chk h
      have hs6 := rw_9 (inb_lt c5)
      refine g_aald5 C (b := 10) dX8_towAgain_54 rfl c5 rfl rfl ?_
      refine g_aload_n C.c dX8_towAgain_55 rfl (i := 0) rfl ?_
      refine gf_8_38 C dX8_towAgain_56 ?_
      refine g_iload_n C.c dX8_towAgain_59 rfl (i := 3) rfl ?_
      obtain ⟨c7, h⟩ := chk h
      refine g_iald C dX8_towAgain_60 rfl c7 ?_
      obtain ⟨c8, h⟩ := chk h
      refine g_iald C dX8_towAgain_61 hs6 c8 ?_
      refine g_istore_n C.c (i := 2) (L' := [some (.ref (kad K 3)), none, some (.int (rI p3 (10 + (x2).toNatClampNeg) ((rI p3 46 (x3).toNatClampNeg)).toNatClampNeg)), some (.int x3)]) dX8_towAgain_62 rfl (Nat.le_of_ble_eq_true rfl) rfl ?_
      refine g_iinc C.c (i := 3) (y := (1 : Int32)) (L' := [some (.ref (kad K 3)), none, some (.int (rI p3 (10 + (x2).toNatClampNeg) ((rI p3 46 (x3).toNatClampNeg)).toNatClampNeg)), some (.int (x3 + (1 : Int32)))]) dX8_towAgain_63 rfl (by decide) (Nat.le_of_ble_eq_true rfl) rfl ?_
      refine g_goto C.c (tgt := 21) dX8_towAgain_66 (by decide) ?_
      have g9 := hI _ (Option.some.inj h).symm
      exact g_mask [true, false, true, true] rfl g9
set_option maxRecDepth 4000 in
theorem bX8_towAgain_b0 {K : KT} {x1 : Int32} {σ : Sg} {o : Sg} (C : Cx K layC cX8_towAgain RX8 4 (3) none)  (hQ : Rk K layC (okV o)) (h : fX8_towAgain_b0 x1 σ = some o) : G K 0 [some (.ref (kad K 3)), some (.int x1), none, none] [] (Wd K layC σ) := by
  unfold fX8_towAgain_b0 at h
  refine g_aload_n C.c dX8_towAgain_0 rfl (i := 0) rfl ?_
  refine g_iconst C.c dX8_towAgain_1 (v := (1 : Int32)) (by decide) ?_
  refine pf_8_65 C (by decide) dX8_towAgain_2 ?_
  refine g_aload_n C.c dX8_towAgain_5 rfl (i := 0) rfl ?_
  refine g_iload_n C.c dX8_towAgain_6 rfl (i := 1) rfl ?_
  refine g_i2l C.c dX8_towAgain_7 ?_
  refine pf_8_78 C dX8_towAgain_8 ?_
  refine g_aload_n C.c dX8_towAgain_11 rfl (i := 0) rfl ?_
  refine gf_8_44 C dX8_towAgain_12 ?_
  obtain ⟨c1, h⟩ := chk h
  refine gf_8_71d C (isSh_e c1) dX8_towAgain_15 ?_
  refine g_istore_n C.c (i := 2) (L' := [some (.ref (kad K 3)), some (.int x1), some (.int (rI (wJ (wI σ 3 15 (1 : Int32)) 3 16 ((x1).toInt64)) (rR (wJ (wI σ 3 15 (1 : Int32)) 3 16 ((x1).toInt64)) 3 7) 1)), none]) dX8_towAgain_18 rfl (Nat.le_of_ble_eq_true rfl) rfl ?_
  refine g_iconst C.c dX8_towAgain_19 (v := (0 : Int32)) (by decide) ?_
  refine g_istore_n C.c (i := 3) (L' := [some (.ref (kad K 3)), some (.int x1), some (.int (rI (wJ (wI σ 3 15 (1 : Int32)) 3 16 ((x1).toInt64)) (rR (wJ (wI σ 3 15 (1 : Int32)) 3 16 ((x1).toInt64)) 3 7) 1)), some (.int (0 : Int32))]) dX8_towAgain_20 rfl (Nat.le_of_ble_eq_true rfl) rfl ?_
  refine g_mask [true, false, true, true] rfl ?_
  refine lp_bind (Gh := fun s => G K 21 [some (.ref (kad K 3)), none, some (.int s.1), some (.int s.2.1)] [] (Wd K layC s.2.2)) h (fun s o2 hf gI gE => ?_)
  refine bX8_towAgain_b21 C gI (fun t9 e => ?_) hf
  · have h := gE _ e
    refine g_aload_n C.c dX8_towAgain_69 rfl (i := 0) rfl ?_
    refine g_aload_n C.c dX8_towAgain_70 rfl (i := 0) rfl ?_
    refine gf_8_25 C dX8_towAgain_71 ?_
    refine g_aload_n C.c dX8_towAgain_74 rfl (i := 0) rfl ?_
    refine gf_8_82 C dX8_towAgain_75 ?_
    obtain ⟨c11, h⟩ := chk h
    refine g_iald C dX8_towAgain_78 rfl c11 ?_
    refine pf_8_93 C dX8_towAgain_79 ?_
    refine g_aload_n C.c dX8_towAgain_82 rfl (i := 0) rfl ?_
    refine g_aload_n C.c dX8_towAgain_83 rfl (i := 0) rfl ?_
    refine gf_8_32 C dX8_towAgain_84 ?_
    refine g_aload_n C.c dX8_towAgain_87 rfl (i := 0) rfl ?_
    refine gf_8_82 C dX8_towAgain_88 ?_
    obtain ⟨c12, h⟩ := chk h
    refine g_iald C dX8_towAgain_91 rfl c12 ?_
    refine pf_8_96 C dX8_towAgain_92 ?_
    obtain rfl := Option.some.inj h
    exact g_vret C hQ dX8_towAgain_95 ⟨rfl, rfl⟩
def fX8_towAgain (a0 : Int32) (σ : Sg) : Option (Sg) := fX8_towAgain_b0 a0 σ
theorem ct_X8_towAgain {a0 : Int32} {σ : Sg} {p : Sg} (h : fX8_towAgain a0 σ = some p) : Ct layC yX8_towAgain cX8_towAgain 4 none 3 (fun ad => [.ref (ad 3), .int a0]) σ (okV p) :=
 ct_of (L0 := fun ad => [some (.ref (ad 3)), some (.int a0), none, none]) (by decide) (fun _ => Nat.le_of_ble_eq_true rfl) (fun _ => rfl) (fun K C hQ => g_mask [true, true, false, false] rfl (bX8_towAgain_b0 C hQ h))
-- X8_stepAt
theorem dX8_stepAt_0 : decode cX8_stepAt 0 = .ok (.iload_n 1, 1) := by decide +kernel
theorem dX8_stepAt_1 : decode cX8_stepAt 1 = .ok (.ifCond .lt 20, 3) := by decide +kernel
theorem dX8_stepAt_4 : decode cX8_stepAt 4 = .ok (.iload_n 1, 1) := by decide +kernel
theorem dX8_stepAt_5 : decode cX8_stepAt 5 = .ok (.aload_n 0, 1) := by decide +kernel
theorem dX8_stepAt_6 : decode cX8_stepAt 6 = .ok (.getfield 82, 3) := by decide +kernel
theorem dX8_stepAt_9 : decode cX8_stepAt 9 = .ok (.if_icmp .ge 12, 3) := by decide +kernel
theorem dX8_stepAt_12 : decode cX8_stepAt 12 = .ok (.aload_n 0, 1) := by decide +kernel
theorem dX8_stepAt_13 : decode cX8_stepAt 13 = .ok (.getfield 38, 3) := by decide +kernel
theorem dX8_stepAt_16 : decode cX8_stepAt 16 = .ok (.iload_n 1, 1) := by decide +kernel
theorem dX8_stepAt_17 : decode cX8_stepAt 17 = .ok (.iaload, 1) := by decide +kernel
theorem dX8_stepAt_18 : decode cX8_stepAt 18 = .ok (.goto 4, 3) := by decide +kernel
theorem dX8_stepAt_21 : decode cX8_stepAt 21 = .ok (.iconst (-1), 1) := by decide +kernel
theorem dX8_stepAt_22 : decode cX8_stepAt 22 = .ok (.ireturn, 1) := by decide +kernel
theorem cw_X8_stepAt : Cw yX8_stepAt cX8_stepAt 2 (some .int) 1 := ⟨aw_544, aw_21, ⟨by decide, by decide⟩, by decide +kernel, by decide⟩
def fX8_stepAt_b0 (x1 : Int32) (σ : Sg) : Option (Int32 × Sg) :=
  if x1 < 0 then (some ((-1 : Int32), σ)) else (if (rI σ 3 14) ≤ x1 then (some ((-1 : Int32), σ)) else (if inb x1 9 = true then (some ((rI σ 46 (x1).toNatClampNeg), σ)) else none))
set_option maxRecDepth 4000 in
theorem bX8_stepAt_b0 {K : KT} {x1 : Int32} {σ : Sg} {o : Int32 × Sg} (C : Cx K layC cX8_stepAt RX8 2 (1) (some .int))  (hQ : Rk K layC (okI o)) (h : fX8_stepAt_b0 x1 σ = some o) : G K 0 [some (.ref (kad K 3)), some (.int x1)] [] (Wd K layC σ) := by
  unfold fX8_stepAt_b0 at h
  refine g_iload_n C.c dX8_stepAt_0 rfl (i := 1) rfl ?_
  refine g_if_lt C.c (tgt := 21) dX8_stepAt_1 (by decide) (fun c => ?_) (fun c => ?_)
  · replace h := ite_t c h
    refine g_iconst C.c dX8_stepAt_21 (v := (-1 : Int32)) (by decide) ?_
    obtain rfl := Option.some.inj h
    exact g_iret C hQ dX8_stepAt_22 rfl ⟨rfl, rfl⟩
  · replace h := ite_f c h
    refine g_iload_n C.c dX8_stepAt_4 rfl (i := 1) rfl ?_
    refine g_aload_n C.c dX8_stepAt_5 rfl (i := 0) rfl ?_
    refine gf_8_82 C dX8_stepAt_6 ?_
    refine g_icmp_ge C.c (tgt := 21) dX8_stepAt_9 (by decide) (fun c => ?_) (fun c => ?_)
    · replace h := ite_t c h
      refine g_iconst C.c dX8_stepAt_21 (v := (-1 : Int32)) (by decide) ?_
      obtain rfl := Option.some.inj h
      exact g_iret C hQ dX8_stepAt_22 rfl ⟨rfl, rfl⟩
    · replace h := ite_f c h
      refine g_aload_n C.c dX8_stepAt_12 rfl (i := 0) rfl ?_
      refine gf_8_38 C dX8_stepAt_13 ?_
      refine g_iload_n C.c dX8_stepAt_16 rfl (i := 1) rfl ?_
      obtain ⟨c1, h⟩ := chk h
      refine g_iald C dX8_stepAt_17 rfl c1 ?_
      refine g_goto C.c (tgt := 22) dX8_stepAt_18 (by decide) ?_
      obtain rfl := Option.some.inj h
      exact g_iret C hQ dX8_stepAt_22 rfl ⟨rfl, rfl⟩
def fX8_stepAt (a0 : Int32) (σ : Sg) : Option (Int32 × Sg) := fX8_stepAt_b0 a0 σ
theorem ct_X8_stepAt {a0 : Int32} {σ : Sg} {p : Int32 × Sg} (h : fX8_stepAt a0 σ = some p) : Ct layC yX8_stepAt cX8_stepAt 2 (some .int) 1 (fun ad => [.ref (ad 3), .int a0]) σ (okI p) :=
 ct_of (L0 := fun ad => [some (.ref (ad 3)), some (.int a0)]) (by decide) (fun _ => Nat.le_of_ble_eq_true rfl) (fun _ => rfl) (fun K C hQ => g_mask [true, true] rfl (bX8_stepAt_b0 C hQ h))
end
section
-- X3_tugsOf
theorem dX3_tugsOf_0 : decode cX3_tugsOf 0 = .ok (.iload_n 0, 1) := by decide +kernel
theorem dX3_tugsOf_1 : decode cX3_tugsOf 1 = .ok (.iconst 2, 1) := by decide +kernel
theorem dX3_tugsOf_2 : decode cX3_tugsOf 2 = .ok (.idiv, 1) := by decide +kernel
theorem dX3_tugsOf_3 : decode cX3_tugsOf 3 = .ok (.ireturn, 1) := by decide +kernel
theorem cw_X3_tugsOf : Cw yX3_tugsOf cX3_tugsOf 1 (some .int) 1 := ⟨aw_559, aw_27, ⟨by decide, by decide⟩, by decide +kernel, by decide⟩
def fX3_tugsOf_b0 (x0 : Int32) (σ : Sg) : Option (Int32 × Sg) :=
  some ((x0 / (2 : Int32)), σ)
set_option maxRecDepth 4000 in
theorem bX3_tugsOf_b0 {K : KT} {x0 : Int32} {σ : Sg} {o : Int32 × Sg} (C : Cx K layC cX3_tugsOf RX3 1 (1) (some .int))  (hQ : Rk K layC (okI o)) (h : fX3_tugsOf_b0 x0 σ = some o) : G K 0 [some (.int x0)] [] (Wd K layC σ) := by
  unfold fX3_tugsOf_b0 at h
  refine g_iload_n C.c dX3_tugsOf_0 rfl (i := 0) rfl ?_
  refine g_iconst C.c dX3_tugsOf_1 (v := (2 : Int32)) (by decide) ?_
  refine g_idiv C.c dX3_tugsOf_2 (by decide) ?_
  obtain rfl := Option.some.inj h
  exact g_iret C hQ dX3_tugsOf_3 rfl ⟨rfl, rfl⟩
def fX3_tugsOf (a0 : Int32) (σ : Sg) : Option (Int32 × Sg) := fX3_tugsOf_b0 a0 σ
theorem ct_X3_tugsOf {a0 : Int32} {σ : Sg} {p : Int32 × Sg} (h : fX3_tugsOf a0 σ = some p) : Ct layC yX3_tugsOf cX3_tugsOf 1 (some .int) 1 (fun ad => [.int a0]) σ (okI p) :=
 ct_of (L0 := fun ad => [some (.int a0)]) (by decide) (fun _ => Nat.le_of_ble_eq_true rfl) (fun _ => rfl) (fun K C hQ => g_mask [true] rfl (bX3_tugsOf_b0 C hQ h))
-- X3_hasSkirt
theorem dX3_hasSkirt_0 : decode cX3_hasSkirt 0 = .ok (.iload_n 0, 1) := by decide +kernel
theorem dX3_hasSkirt_1 : decode cX3_hasSkirt 1 = .ok (.iconst 2, 1) := by decide +kernel
theorem dX3_hasSkirt_2 : decode cX3_hasSkirt 2 = .ok (.irem, 1) := by decide +kernel
theorem dX3_hasSkirt_3 : decode cX3_hasSkirt 3 = .ok (.iconst 1, 1) := by decide +kernel
theorem dX3_hasSkirt_4 : decode cX3_hasSkirt 4 = .ok (.if_icmp .ne 7, 3) := by decide +kernel
theorem dX3_hasSkirt_7 : decode cX3_hasSkirt 7 = .ok (.iconst 1, 1) := by decide +kernel
theorem dX3_hasSkirt_8 : decode cX3_hasSkirt 8 = .ok (.goto 4, 3) := by decide +kernel
theorem dX3_hasSkirt_11 : decode cX3_hasSkirt 11 = .ok (.iconst 0, 1) := by decide +kernel
theorem dX3_hasSkirt_12 : decode cX3_hasSkirt 12 = .ok (.ireturn, 1) := by decide +kernel
theorem cw_X3_hasSkirt : Cw yX3_hasSkirt cX3_hasSkirt 1 (some .boolean) 1 := ⟨aw_562, aw_27, ⟨by decide, by decide⟩, by decide +kernel, by decide⟩
def fX3_hasSkirt_b0 (x0 : Int32) (σ : Sg) : Option (Int32 × Sg) :=
  if (x0 - x0 / (2 : Int32) * (2 : Int32)) = (1 : Int32) then (some ((1 : Int32), σ)) else (some ((0 : Int32), σ))
set_option maxRecDepth 4000 in
theorem bX3_hasSkirt_b0 {K : KT} {x0 : Int32} {σ : Sg} {o : Int32 × Sg} (C : Cx K layC cX3_hasSkirt RX3 1 (1) (some .boolean))  (hQ : Rk K layC (okI o)) (h : fX3_hasSkirt_b0 x0 σ = some o) : G K 0 [some (.int x0)] [] (Wd K layC σ) := by
  unfold fX3_hasSkirt_b0 at h
  refine g_iload_n C.c dX3_hasSkirt_0 rfl (i := 0) rfl ?_
  refine g_iconst C.c dX3_hasSkirt_1 (v := (2 : Int32)) (by decide) ?_
  refine g_irem C.c dX3_hasSkirt_2 (by decide) ?_
  refine g_iconst C.c dX3_hasSkirt_3 (v := (1 : Int32)) (by decide) ?_
  refine g_icmp_ne C.c (tgt := 11) dX3_hasSkirt_4 (by decide) (fun c => ?_) (fun c => ?_)
  · replace h := ite_f c h
    refine g_iconst C.c dX3_hasSkirt_11 (v := (0 : Int32)) (by decide) ?_
    obtain rfl := Option.some.inj h
    exact g_iret C hQ dX3_hasSkirt_12 rfl ⟨rfl, rfl⟩
  · replace h := ite_t c h
    refine g_iconst C.c dX3_hasSkirt_7 (v := (1 : Int32)) (by decide) ?_
    refine g_goto C.c (tgt := 12) dX3_hasSkirt_8 (by decide) ?_
    obtain rfl := Option.some.inj h
    exact g_iret C hQ dX3_hasSkirt_12 rfl ⟨rfl, rfl⟩
def fX3_hasSkirt (a0 : Int32) (σ : Sg) : Option (Int32 × Sg) := fX3_hasSkirt_b0 a0 σ
theorem ct_X3_hasSkirt {a0 : Int32} {σ : Sg} {p : Int32 × Sg} (h : fX3_hasSkirt a0 σ = some p) : Ct layC yX3_hasSkirt cX3_hasSkirt 1 (some .boolean) 1 (fun ad => [.int a0]) σ (okI p) :=
 ct_of (L0 := fun ad => [some (.int a0)]) (by decide) (fun _ => Nat.le_of_ble_eq_true rfl) (fun _ => rfl) (fun K C hQ => g_mask [true] rfl (bX3_hasSkirt_b0 C hQ h))
-- X3_forget
theorem dX3_forget_0 : decode cX3_forget 0 = .ok (.aload_n 0, 1) := by decide +kernel
theorem dX3_forget_1 : decode cX3_forget 1 = .ok (.getfield 16, 3) := by decide +kernel
theorem dX3_forget_4 : decode cX3_forget 4 = .ok (.iload_n 1, 1) := by decide +kernel
theorem dX3_forget_5 : decode cX3_forget 5 = .ok (.iconst 0, 1) := by decide +kernel
theorem dX3_forget_6 : decode cX3_forget 6 = .ok (.bastore, 1) := by decide +kernel
theorem dX3_forget_7 : decode cX3_forget 7 = .ok (.return_, 1) := by decide +kernel
theorem cw_X3_forget : Cw yX3_forget cX3_forget 2 none 1 := ⟨aw_458, aw_27, ⟨by decide, by decide⟩, by decide +kernel, by decide⟩
theorem gf_3_16 {K : KT} {cc : ByteArray} {nL d pc : Nat} {ret : Option FieldType} {L : List (Option Value)} {st : List Value} {σ : Sg} (C : Cx K layC cc RX3 nL d ret)  (hd : decode cc pc = .ok (.getfield 16, 3)) (k : G K (pc + 3) L (.ref (kad K 65) :: st) (Wd K layC σ)) : G K pc L (.ref (kad K 58) :: st) (Wd K layC σ) := g_get C (o := 58) (ci := 3) (k := 1) hd rfl rfl rfl (by decide) (Or.inl aw_273) inA3 rfl k
def fX3_forget_b0 (x1 : Int32) (σ : Sg) : Option (Sg) :=
  if inb x1 5 = true then (some (wI σ 65 (x1).toNatClampNeg (0 : Int32))) else none
set_option maxRecDepth 4000 in
theorem bX3_forget_b0 {K : KT} {x1 : Int32} {σ : Sg} {o : Sg} (C : Cx K layC cX3_forget RX3 2 (1) none)  (hQ : Rk K layC (okV o)) (h : fX3_forget_b0 x1 σ = some o) : G K 0 [some (.ref (kad K 58)), some (.int x1)] [] (Wd K layC σ) := by
  unfold fX3_forget_b0 at h
  refine g_aload_n C.c dX3_forget_0 rfl (i := 0) rfl ?_
  refine gf_3_16 C dX3_forget_1 ?_
  refine g_iload_n C.c dX3_forget_4 rfl (i := 1) rfl ?_
  refine g_iconst C.c dX3_forget_5 (v := (0 : Int32)) (by decide) ?_
  obtain ⟨c1, h⟩ := chk h
  refine g_zast C dX3_forget_6 rfl c1 (by decide) ?_
  obtain rfl := Option.some.inj h
  exact g_vret C hQ dX3_forget_7 ⟨rfl, rfl⟩
def fX3_forget (a0 : Int32) (σ : Sg) : Option (Sg) := fX3_forget_b0 a0 σ
theorem ct_X3_forget {a0 : Int32} {σ : Sg} {p : Sg} (h : fX3_forget a0 σ = some p) : Ct layC yX3_forget cX3_forget 2 none 1 (fun ad => [.ref (ad 58), .int a0]) σ (okV p) :=
 ct_of (L0 := fun ad => [some (.ref (ad 58)), some (.int a0)]) (by decide) (fun _ => Nat.le_of_ble_eq_true rfl) (fun _ => rfl) (fun K C hQ => g_mask [true, true] rfl (bX3_forget_b0 C hQ h))
-- X3_forgetAll
theorem dX3_forgetAll_0 : decode cX3_forgetAll 0 = .ok (.iconst 0, 1) := by decide +kernel
theorem dX3_forgetAll_1 : decode cX3_forgetAll 1 = .ok (.istore_n 1, 1) := by decide +kernel
theorem dX3_forgetAll_2 : decode cX3_forgetAll 2 = .ok (.iload_n 1, 1) := by decide +kernel
theorem dX3_forgetAll_3 : decode cX3_forgetAll 3 = .ok (.iconst 5, 1) := by decide +kernel
theorem dX3_forgetAll_4 : decode cX3_forgetAll 4 = .ok (.if_icmp .ge 16, 3) := by decide +kernel
theorem dX3_forgetAll_7 : decode cX3_forgetAll 7 = .ok (.aload_n 0, 1) := by decide +kernel
theorem dX3_forgetAll_8 : decode cX3_forgetAll 8 = .ok (.getfield 16, 3) := by decide +kernel
theorem dX3_forgetAll_11 : decode cX3_forgetAll 11 = .ok (.iload_n 1, 1) := by decide +kernel
theorem dX3_forgetAll_12 : decode cX3_forgetAll 12 = .ok (.iconst 0, 1) := by decide +kernel
theorem dX3_forgetAll_13 : decode cX3_forgetAll 13 = .ok (.bastore, 1) := by decide +kernel
theorem dX3_forgetAll_14 : decode cX3_forgetAll 14 = .ok (.iinc 1 1, 3) := by decide +kernel
theorem dX3_forgetAll_17 : decode cX3_forgetAll 17 = .ok (.goto (-15), 3) := by decide +kernel
theorem dX3_forgetAll_20 : decode cX3_forgetAll 20 = .ok (.return_, 1) := by decide +kernel
theorem cw_X3_forgetAll : Cw yX3_forgetAll cX3_forgetAll 2 none 0 := ⟨aw_474, aw_27, ⟨by decide, by decide⟩, by decide +kernel, by decide⟩
def fX3_forgetAll_b2 (x1 : Int32) (σ : Sg) : Option ((Int32 × Sg) ⊕ ((Sg))) :=
  if (5 : Int32) ≤ x1 then (some (.inr σ)) else (if inb x1 5 = true then (some (.inl ((x1 + (1 : Int32)), (wI σ 65 (x1).toNatClampNeg (0 : Int32))))) else none)
def fX3_forgetAll_b0  (σ : Sg) : Option (Sg) :=
  Option.bind (lp (fun s => fX3_forgetAll_b2 s.1 s.2) FU ((0 : Int32), σ)) fun t2 => some t2
set_option maxRecDepth 4000 in
theorem bX3_forgetAll_b2 {K : KT} {x1 : Int32} {σ : Sg} {o : (Int32 × Sg) ⊕ ((Sg))} (C : Cx K layC cX3_forgetAll RX3 2 (1) none)  (hI : ∀ s' : Int32 × Sg, o = .inl s' → G K 2 [some (.ref (kad K 58)), some (.int s'.1)] [] (Wd K layC s'.2)) (hE0 : ∀ t : Sg, o = .inr t → G K 20 [none, none] [] (Wd K layC t)) (h : fX3_forgetAll_b2 x1 σ = some o) : G K 2 [some (.ref (kad K 58)), some (.int x1)] [] (Wd K layC σ) := by
  unfold fX3_forgetAll_b2 at h
  refine g_iload_n C.c dX3_forgetAll_2 rfl (i := 1) rfl ?_
  refine g_iconst C.c dX3_forgetAll_3 (v := (5 : Int32)) (by decide) ?_
  refine g_icmp_ge C.c (tgt := 20) dX3_forgetAll_4 (by decide) (fun c => ?_) (fun c => ?_)
  · replace h := ite_t c h
    have g9 := hE0 _ (Option.some.inj h).symm
    exact g_mask [false, false] rfl g9
  · replace h := ite_f c h
    refine g_aload_n C.c dX3_forgetAll_7 rfl (i := 0) rfl ?_
    refine gf_3_16 C dX3_forgetAll_8 ?_
    refine g_iload_n C.c dX3_forgetAll_11 rfl (i := 1) rfl ?_
    refine g_iconst C.c dX3_forgetAll_12 (v := (0 : Int32)) (by decide) ?_
    obtain ⟨c1, h⟩ := chk h
    refine g_zast C dX3_forgetAll_13 rfl c1 (by decide) ?_
    refine g_iinc C.c (i := 1) (y := (1 : Int32)) (L' := [some (.ref (kad K 58)), some (.int (x1 + (1 : Int32)))]) dX3_forgetAll_14 rfl (by decide) (Nat.le_of_ble_eq_true rfl) rfl ?_
    refine g_goto C.c (tgt := 2) dX3_forgetAll_17 (by decide) ?_
    have g9 := hI _ (Option.some.inj h).symm
    exact g_mask [true, true] rfl g9
set_option maxRecDepth 4000 in
theorem bX3_forgetAll_b0 {K : KT}  {σ : Sg} {o : Sg} (C : Cx K layC cX3_forgetAll RX3 2 (1) none)  (hQ : Rk K layC (okV o)) (h : fX3_forgetAll_b0  σ = some o) : G K 0 [some (.ref (kad K 58)), none] [] (Wd K layC σ) := by
  unfold fX3_forgetAll_b0 at h
  refine g_iconst C.c dX3_forgetAll_0 (v := (0 : Int32)) (by decide) ?_
  refine g_istore_n C.c (i := 1) (L' := [some (.ref (kad K 58)), some (.int (0 : Int32))]) dX3_forgetAll_1 rfl (Nat.le_of_ble_eq_true rfl) rfl ?_
  refine g_mask [true, true] rfl ?_
  refine lp_bind (Gh := fun s => G K 2 [some (.ref (kad K 58)), some (.int s.1)] [] (Wd K layC s.2)) h (fun s o2 hf gI gE => ?_)
  refine bX3_forgetAll_b2 C gI (fun t2 e => ?_) hf
  · have h := gE _ e
    obtain rfl := Option.some.inj h
    exact g_vret C hQ dX3_forgetAll_20 ⟨rfl, rfl⟩
def fX3_forgetAll (σ : Sg) : Option (Sg) := fX3_forgetAll_b0 σ
theorem ct_X3_forgetAll {σ : Sg} {p : Sg} (h : fX3_forgetAll σ = some p) : Ct layC yX3_forgetAll cX3_forgetAll 2 none 1 (fun ad => [.ref (ad 58)]) σ (okV p) :=
 ct_of (L0 := fun ad => [some (.ref (ad 58)), none]) (by decide) (fun _ => Nat.le_of_ble_eq_true rfl) (fun _ => rfl) (fun K C hQ => g_mask [true, false] rfl (bX3_forgetAll_b0 C hQ h))
-- X3_bestEntry
theorem dX3_bestEntry_0 : decode cX3_bestEntry 0 = .ok (.iconst 2, 1) := by decide +kernel
theorem dX3_bestEntry_1 : decode cX3_bestEntry 1 = .ok (.istore_n 2, 1) := by decide +kernel
theorem dX3_bestEntry_2 : decode cX3_bestEntry 2 = .ok (.iconst 2, 1) := by decide +kernel
theorem dX3_bestEntry_3 : decode cX3_bestEntry 3 = .ok (.istore_n 3, 1) := by decide +kernel
theorem dX3_bestEntry_4 : decode cX3_bestEntry 4 = .ok (.iload_n 3, 1) := by decide +kernel
theorem dX3_bestEntry_5 : decode cX3_bestEntry 5 = .ok (.bipush 24, 2) := by decide +kernel
theorem dX3_bestEntry_7 : decode cX3_bestEntry 7 = .ok (.if_icmp .ge 34, 3) := by decide +kernel
theorem dX3_bestEntry_10 : decode cX3_bestEntry 10 = .ok (.aload_n 0, 1) := by decide +kernel
theorem dX3_bestEntry_11 : decode cX3_bestEntry 11 = .ok (.getfield 13, 3) := by decide +kernel
theorem dX3_bestEntry_14 : decode cX3_bestEntry 14 = .ok (.iload_n 1, 1) := by decide +kernel
theorem dX3_bestEntry_15 : decode cX3_bestEntry 15 = .ok (.aaload, 1) := by decide +kernel
theorem dX3_bestEntry_16 : decode cX3_bestEntry 16 = .ok (.iload_n 3, 1) := by decide +kernel
theorem dX3_bestEntry_17 : decode cX3_bestEntry 17 = .ok (.iaload, 1) := by decide +kernel
theorem dX3_bestEntry_18 : decode cX3_bestEntry 18 = .ok (.aload_n 0, 1) := by decide +kernel
theorem dX3_bestEntry_19 : decode cX3_bestEntry 19 = .ok (.getfield 13, 3) := by decide +kernel
theorem dX3_bestEntry_22 : decode cX3_bestEntry 22 = .ok (.iload_n 1, 1) := by decide +kernel
theorem dX3_bestEntry_23 : decode cX3_bestEntry 23 = .ok (.aaload, 1) := by decide +kernel
theorem dX3_bestEntry_24 : decode cX3_bestEntry 24 = .ok (.iload_n 2, 1) := by decide +kernel
theorem dX3_bestEntry_25 : decode cX3_bestEntry 25 = .ok (.iaload, 1) := by decide +kernel
theorem dX3_bestEntry_26 : decode cX3_bestEntry 26 = .ok (.if_icmp .le 7, 3) := by decide +kernel
theorem dX3_bestEntry_29 : decode cX3_bestEntry 29 = .ok (.iload_n 3, 1) := by decide +kernel
theorem dX3_bestEntry_30 : decode cX3_bestEntry 30 = .ok (.goto 4, 3) := by decide +kernel
theorem dX3_bestEntry_33 : decode cX3_bestEntry 33 = .ok (.iload_n 2, 1) := by decide +kernel
theorem dX3_bestEntry_34 : decode cX3_bestEntry 34 = .ok (.istore_n 2, 1) := by decide +kernel
theorem dX3_bestEntry_35 : decode cX3_bestEntry 35 = .ok (.iinc 3 1, 3) := by decide +kernel
theorem dX3_bestEntry_38 : decode cX3_bestEntry 38 = .ok (.goto (-34), 3) := by decide +kernel
theorem dX3_bestEntry_41 : decode cX3_bestEntry 41 = .ok (.iload_n 2, 1) := by decide +kernel
theorem dX3_bestEntry_42 : decode cX3_bestEntry 42 = .ok (.ireturn, 1) := by decide +kernel
theorem cw_X3_bestEntry : Cw yX3_bestEntry cX3_bestEntry 4 (some .int) 1 := ⟨aw_566, aw_27, ⟨by decide, by decide⟩, by decide +kernel, by decide⟩
theorem gf_3_13 {K : KT} {cc : ByteArray} {nL d pc : Nat} {ret : Option FieldType} {L : List (Option Value)} {st : List Value} {σ : Sg} (C : Cx K layC cc RX3 nL d ret)  (hd : decode cc pc = .ok (.getfield 13, 3)) (k : G K (pc + 3) L (.ref (kad K 59) :: st) (Wd K layC σ)) : G K pc L (.ref (kad K 58) :: st) (Wd K layC σ) := g_get C (o := 58) (ci := 3) (k := 0) hd rfl rfl rfl (by decide) (Or.inl aw_271) inA3 rfl k
def fX3_bestEntry_b34 (x1 : Int32) (x3 : Int32) (y0 : Int32) (σ : Sg) : Option ((Int32 × Int32 × Sg) ⊕ ((Int32 × Sg))) :=
  some (.inl (y0, (x3 + (1 : Int32)), σ))
def fX3_bestEntry_b4 (x1 : Int32) (x2 : Int32) (x3 : Int32) (σ : Sg) : Option ((Int32 × Int32 × Sg) ⊕ ((Int32 × Sg))) :=
  if (24 : Int32) ≤ x3 then (some (.inr (x2, σ))) else (if inb x1 5 = true then (if inb x3 24 = true then (if inb x1 5 = true then (if inb x2 24 = true then (if (rI σ (60 + (x1).toNatClampNeg) (x3).toNatClampNeg) ≤ (rI σ (60 + (x1).toNatClampNeg) (x2).toNatClampNeg) then (fX3_bestEntry_b34 x1 x3 x2 σ) else (fX3_bestEntry_b34 x1 x3 x3 σ)) else none) else none) else none) else none)
def fX3_bestEntry_b0 (x1 : Int32) (σ : Sg) : Option (Int32 × Sg) :=
  Option.bind (lp (fun s => fX3_bestEntry_b4 x1 s.1 s.2.1 s.2.2) FU ((2 : Int32), (2 : Int32), σ)) fun t7 => some (t7.1, t7.2)
set_option maxRecDepth 4000 in
theorem bX3_bestEntry_b34 {K : KT} {x1 : Int32} {x3 : Int32} {y0 : Int32} {σ : Sg} {o : (Int32 × Int32 × Sg) ⊕ ((Int32 × Sg))} (C : Cx K layC cX3_bestEntry RX3 4 (1) (some .int))  (hI : ∀ s' : Int32 × Int32 × Sg, o = .inl s' → G K 4 [some (.ref (kad K 58)), some (.int x1), some (.int s'.1), some (.int s'.2.1)] [] (Wd K layC s'.2.2)) (hE0 : ∀ t : Int32 × Sg, o = .inr t → G K 41 [none, none, some (.int t.1), none] [] (Wd K layC t.2)) (h : fX3_bestEntry_b34 x1 x3 y0 σ = some o) : G K 34 [some (.ref (kad K 58)), some (.int x1), none, some (.int x3)] [.int y0] (Wd K layC σ) := by
  unfold fX3_bestEntry_b34 at h
  refine g_istore_n C.c (i := 2) (L' := [some (.ref (kad K 58)), some (.int x1), some (.int y0), some (.int x3)]) dX3_bestEntry_34 rfl (Nat.le_of_ble_eq_true rfl) rfl ?_
  refine g_iinc C.c (i := 3) (y := (1 : Int32)) (L' := [some (.ref (kad K 58)), some (.int x1), some (.int y0), some (.int (x3 + (1 : Int32)))]) dX3_bestEntry_35 rfl (by decide) (Nat.le_of_ble_eq_true rfl) rfl ?_
  refine g_goto C.c (tgt := 4) dX3_bestEntry_38 (by decide) ?_
  have g9 := hI _ (Option.some.inj h).symm
  exact g_mask [true, true, true, true] rfl g9
set_option maxRecDepth 4000 in
theorem bX3_bestEntry_b4 {K : KT} {x1 : Int32} {x2 : Int32} {x3 : Int32} {σ : Sg} {o : (Int32 × Int32 × Sg) ⊕ ((Int32 × Sg))} (C : Cx K layC cX3_bestEntry RX3 4 (1) (some .int))  (hI : ∀ s' : Int32 × Int32 × Sg, o = .inl s' → G K 4 [some (.ref (kad K 58)), some (.int x1), some (.int s'.1), some (.int s'.2.1)] [] (Wd K layC s'.2.2)) (hE0 : ∀ t : Int32 × Sg, o = .inr t → G K 41 [none, none, some (.int t.1), none] [] (Wd K layC t.2)) (h : fX3_bestEntry_b4 x1 x2 x3 σ = some o) : G K 4 [some (.ref (kad K 58)), some (.int x1), some (.int x2), some (.int x3)] [] (Wd K layC σ) := by
  unfold fX3_bestEntry_b4 at h
  refine g_iload_n C.c dX3_bestEntry_4 rfl (i := 3) rfl ?_
  refine g_bipush C.c dX3_bestEntry_5 (v := (24 : Int32)) (by decide) ?_
  refine g_icmp_ge C.c (tgt := 41) dX3_bestEntry_7 (by decide) (fun c => ?_) (fun c => ?_)
  · replace h := ite_t c h
    have g9 := hE0 _ (Option.some.inj h).symm
    exact g_mask [false, false, true, false] rfl g9
  · replace h := ite_f c h
    refine g_aload_n C.c dX3_bestEntry_10 rfl (i := 0) rfl ?_
    refine gf_3_13 C dX3_bestEntry_11 ?_
    refine g_iload_n C.c dX3_bestEntry_14 rfl (i := 1) rfl ?_
    obtain ⟨c1, h⟩ := chk h
    have hs2 := rw_59 (inb_lt c1)
    refine g_aald5 C (b := 60) dX3_bestEntry_15 rfl c1 rfl rfl ?_
    refine g_iload_n C.c dX3_bestEntry_16 rfl (i := 3) rfl ?_
    obtain ⟨c3, h⟩ := chk h
    refine g_iald C dX3_bestEntry_17 hs2 c3 ?_
    refine g_aload_n C.c dX3_bestEntry_18 rfl (i := 0) rfl ?_
    refine gf_3_13 C dX3_bestEntry_19 ?_
    refine g_iload_n C.c dX3_bestEntry_22 rfl (i := 1) rfl ?_
    obtain ⟨c4, h⟩ := chk h
    have hs5 := rw_59 (inb_lt c4)
    refine g_aald5 C (b := 60) dX3_bestEntry_23 rfl c4 rfl rfl ?_
    refine g_iload_n C.c dX3_bestEntry_24 rfl (i := 2) rfl ?_
    obtain ⟨c6, h⟩ := chk h
    refine g_iald C dX3_bestEntry_25 hs5 c6 ?_
    refine g_icmp_le C.c (tgt := 33) dX3_bestEntry_26 (by decide) (fun c => ?_) (fun c => ?_)
    · replace h := ite_t c h
      refine g_iload_n C.c dX3_bestEntry_33 rfl (i := 2) rfl ?_
      exact g_mask [true, true, false, true] rfl (bX3_bestEntry_b34 C hI hE0 h)
    · replace h := ite_f c h
      refine g_iload_n C.c dX3_bestEntry_29 rfl (i := 3) rfl ?_
      refine g_goto C.c (tgt := 34) dX3_bestEntry_30 (by decide) ?_
      exact g_mask [true, true, false, true] rfl (bX3_bestEntry_b34 C hI hE0 h)
set_option maxRecDepth 4000 in
theorem bX3_bestEntry_b0 {K : KT} {x1 : Int32} {σ : Sg} {o : Int32 × Sg} (C : Cx K layC cX3_bestEntry RX3 4 (1) (some .int))  (hQ : Rk K layC (okI o)) (h : fX3_bestEntry_b0 x1 σ = some o) : G K 0 [some (.ref (kad K 58)), some (.int x1), none, none] [] (Wd K layC σ) := by
  unfold fX3_bestEntry_b0 at h
  refine g_iconst C.c dX3_bestEntry_0 (v := (2 : Int32)) (by decide) ?_
  refine g_istore_n C.c (i := 2) (L' := [some (.ref (kad K 58)), some (.int x1), some (.int (2 : Int32)), none]) dX3_bestEntry_1 rfl (Nat.le_of_ble_eq_true rfl) rfl ?_
  refine g_iconst C.c dX3_bestEntry_2 (v := (2 : Int32)) (by decide) ?_
  refine g_istore_n C.c (i := 3) (L' := [some (.ref (kad K 58)), some (.int x1), some (.int (2 : Int32)), some (.int (2 : Int32))]) dX3_bestEntry_3 rfl (Nat.le_of_ble_eq_true rfl) rfl ?_
  refine g_mask [true, true, true, true] rfl ?_
  refine lp_bind (Gh := fun s => G K 4 [some (.ref (kad K 58)), some (.int x1), some (.int s.1), some (.int s.2.1)] [] (Wd K layC s.2.2)) h (fun s o2 hf gI gE => ?_)
  refine bX3_bestEntry_b4 C gI (fun t7 e => ?_) hf
  · have h := gE _ e
    refine g_iload_n C.c dX3_bestEntry_41 rfl (i := 2) rfl ?_
    obtain rfl := Option.some.inj h
    exact g_iret C hQ dX3_bestEntry_42 rfl ⟨rfl, rfl⟩
def fX3_bestEntry (a0 : Int32) (σ : Sg) : Option (Int32 × Sg) := fX3_bestEntry_b0 a0 σ
theorem ct_X3_bestEntry {a0 : Int32} {σ : Sg} {p : Int32 × Sg} (h : fX3_bestEntry a0 σ = some p) : Ct layC yX3_bestEntry cX3_bestEntry 4 (some .int) 1 (fun ad => [.ref (ad 58), .int a0]) σ (okI p) :=
 ct_of (L0 := fun ad => [some (.ref (ad 58)), some (.int a0), none, none]) (by decide) (fun _ => Nat.le_of_ble_eq_true rfl) (fun _ => rfl) (fun K C hQ => g_mask [true, true, false, false] rfl (bX3_bestEntry_b0 C hQ h))
-- X3_gainBy
theorem dX3_gainBy_0 : decode cX3_gainBy 0 = .ok (.iload_n 2, 1) := by decide +kernel
theorem dX3_gainBy_1 : decode cX3_gainBy 1 = .ok (.ifCond .ne 7, 3) := by decide +kernel
theorem dX3_gainBy_4 : decode cX3_gainBy 4 = .ok (.iconst 0, 1) := by decide +kernel
theorem dX3_gainBy_5 : decode cX3_gainBy 5 = .ok (.goto 28, 3) := by decide +kernel
theorem dX3_gainBy_8 : decode cX3_gainBy 8 = .ok (.aload_n 0, 1) := by decide +kernel
theorem dX3_gainBy_9 : decode cX3_gainBy 9 = .ok (.getfield 13, 3) := by decide +kernel
theorem dX3_gainBy_12 : decode cX3_gainBy 12 = .ok (.iload_n 1, 1) := by decide +kernel
theorem dX3_gainBy_13 : decode cX3_gainBy 13 = .ok (.aaload, 1) := by decide +kernel
theorem dX3_gainBy_14 : decode cX3_gainBy 14 = .ok (.iconst 2, 1) := by decide +kernel
theorem dX3_gainBy_15 : decode cX3_gainBy 15 = .ok (.iload_n 2, 1) := by decide +kernel
theorem dX3_gainBy_16 : decode cX3_gainBy 16 = .ok (.imul, 1) := by decide +kernel
theorem dX3_gainBy_17 : decode cX3_gainBy 17 = .ok (.iaload, 1) := by decide +kernel
theorem dX3_gainBy_18 : decode cX3_gainBy 18 = .ok (.aload_n 0, 1) := by decide +kernel
theorem dX3_gainBy_19 : decode cX3_gainBy 19 = .ok (.getfield 13, 3) := by decide +kernel
theorem dX3_gainBy_22 : decode cX3_gainBy 22 = .ok (.iload_n 1, 1) := by decide +kernel
theorem dX3_gainBy_23 : decode cX3_gainBy 23 = .ok (.aaload, 1) := by decide +kernel
theorem dX3_gainBy_24 : decode cX3_gainBy 24 = .ok (.iconst 2, 1) := by decide +kernel
theorem dX3_gainBy_25 : decode cX3_gainBy 25 = .ok (.iload_n 2, 1) := by decide +kernel
theorem dX3_gainBy_26 : decode cX3_gainBy 26 = .ok (.imul, 1) := by decide +kernel
theorem dX3_gainBy_27 : decode cX3_gainBy 27 = .ok (.iconst 1, 1) := by decide +kernel
theorem dX3_gainBy_28 : decode cX3_gainBy 28 = .ok (.iadd, 1) := by decide +kernel
theorem dX3_gainBy_29 : decode cX3_gainBy 29 = .ok (.iaload, 1) := by decide +kernel
theorem dX3_gainBy_30 : decode cX3_gainBy 30 = .ok (.invokestatic 33, 3) := by decide +kernel
theorem dX3_gainBy_33 : decode cX3_gainBy 33 = .ok (.ireturn, 1) := by decide +kernel
theorem cw_X3_gainBy : Cw yX3_gainBy cX3_gainBy 3 (some .int) 2 := ⟨aw_582, aw_27, ⟨by decide, by decide⟩, by decide +kernel, by decide⟩
def fX3_gainBy_b0 (x1 : Int32) (x2 : Int32) (σ : Sg) : Option (Int32 × Sg) :=
  if x2 = 0 then (some ((0 : Int32), σ)) else (if inb x1 5 = true then (if inb ((2 : Int32) * x2) 24 = true then (if inb x1 5 = true then (if inb (((2 : Int32) * x2) + (1 : Int32)) 24 = true then (some ((imax (rI σ (60 + (x1).toNatClampNeg) (((2 : Int32) * x2)).toNatClampNeg) (rI σ (60 + (x1).toNatClampNeg) ((((2 : Int32) * x2) + (1 : Int32))).toNatClampNeg)), σ)) else none) else none) else none) else none)
set_option maxRecDepth 4000 in
theorem bX3_gainBy_b0 {K : KT} {x1 : Int32} {x2 : Int32} {σ : Sg} {o : Int32 × Sg} (C : Cx K layC cX3_gainBy RX3 3 (1) (some .int))  (hQ : Rk K layC (okI o)) (h : fX3_gainBy_b0 x1 x2 σ = some o) : G K 0 [some (.ref (kad K 58)), some (.int x1), some (.int x2)] [] (Wd K layC σ) := by
  unfold fX3_gainBy_b0 at h
  refine g_iload_n C.c dX3_gainBy_0 rfl (i := 2) rfl ?_
  refine g_if_ne C.c (tgt := 8) dX3_gainBy_1 (by decide) (fun c => ?_) (fun c => ?_)
  · replace h := ite_f c h
    refine g_aload_n C.c dX3_gainBy_8 rfl (i := 0) rfl ?_
    refine gf_3_13 C dX3_gainBy_9 ?_
    refine g_iload_n C.c dX3_gainBy_12 rfl (i := 1) rfl ?_
    obtain ⟨c1, h⟩ := chk h
    have hs2 := rw_59 (inb_lt c1)
    refine g_aald5 C (b := 60) dX3_gainBy_13 rfl c1 rfl rfl ?_
    refine g_iconst C.c dX3_gainBy_14 (v := (2 : Int32)) (by decide) ?_
    refine g_iload_n C.c dX3_gainBy_15 rfl (i := 2) rfl ?_
    refine g_imul C.c dX3_gainBy_16 ?_
    obtain ⟨c3, h⟩ := chk h
    refine g_iald C dX3_gainBy_17 hs2 c3 ?_
    refine g_aload_n C.c dX3_gainBy_18 rfl (i := 0) rfl ?_
    refine gf_3_13 C dX3_gainBy_19 ?_
    refine g_iload_n C.c dX3_gainBy_22 rfl (i := 1) rfl ?_
    obtain ⟨c4, h⟩ := chk h
    have hs5 := rw_59 (inb_lt c4)
    refine g_aald5 C (b := 60) dX3_gainBy_23 rfl c4 rfl rfl ?_
    refine g_iconst C.c dX3_gainBy_24 (v := (2 : Int32)) (by decide) ?_
    refine g_iload_n C.c dX3_gainBy_25 rfl (i := 2) rfl ?_
    refine g_imul C.c dX3_gainBy_26 ?_
    refine g_iconst C.c dX3_gainBy_27 (v := (1 : Int32)) (by decide) ?_
    refine g_iadd C.c dX3_gainBy_28 ?_
    obtain ⟨c6, h⟩ := chk h
    refine g_iald C dX3_gainBy_29 hs5 c6 ?_
    refine g_max C.c dX3_gainBy_30 aw_583 aw_416 aw_29 aw_417 rfl (Nat.le_of_ble_eq_true rfl) (Nat.le_of_ble_eq_true rfl) ?_
    obtain rfl := Option.some.inj h
    exact g_iret C hQ dX3_gainBy_33 rfl ⟨rfl, rfl⟩
  · replace h := ite_t c h
    refine g_iconst C.c dX3_gainBy_4 (v := (0 : Int32)) (by decide) ?_
    refine g_goto C.c (tgt := 33) dX3_gainBy_5 (by decide) ?_
    obtain rfl := Option.some.inj h
    exact g_iret C hQ dX3_gainBy_33 rfl ⟨rfl, rfl⟩
def fX3_gainBy (a0 : Int32) (a1 : Int32) (σ : Sg) : Option (Int32 × Sg) := fX3_gainBy_b0 a0 a1 σ
theorem ct_X3_gainBy {a0 : Int32} {a1 : Int32} {σ : Sg} {p : Int32 × Sg} (h : fX3_gainBy a0 a1 σ = some p) : Ct layC yX3_gainBy cX3_gainBy 3 (some .int) 1 (fun ad => [.ref (ad 58), .int a0, .int a1]) σ (okI p) :=
 ct_of (L0 := fun ad => [some (.ref (ad 58)), some (.int a0), some (.int a1)]) (by decide) (fun _ => Nat.le_of_ble_eq_true rfl) (fun _ => rfl) (fun K C hQ => g_mask [true, true, true] rfl (bX3_gainBy_b0 C hQ h))
-- X3_mostFrom
theorem dX3_mostFrom_0 : decode cX3_mostFrom 0 = .ok (.aload_n 0, 1) := by decide +kernel
theorem dX3_mostFrom_1 : decode cX3_mostFrom 1 = .ok (.getfield 23, 3) := by decide +kernel
theorem dX3_mostFrom_4 : decode cX3_mostFrom 4 = .ok (.iload_n 1, 1) := by decide +kernel
theorem dX3_mostFrom_5 : decode cX3_mostFrom 5 = .ok (.iconst 1, 1) := by decide +kernel
theorem dX3_mostFrom_6 : decode cX3_mostFrom 6 = .ok (.iadd, 1) := by decide +kernel
theorem dX3_mostFrom_7 : decode cX3_mostFrom 7 = .ok (.aaload, 1) := by decide +kernel
theorem dX3_mostFrom_8 : decode cX3_mostFrom 8 = .ok (.iload_n 2, 1) := by decide +kernel
theorem dX3_mostFrom_9 : decode cX3_mostFrom 9 = .ok (.iaload, 1) := by decide +kernel
theorem dX3_mostFrom_10 : decode cX3_mostFrom 10 = .ok (.istore_n 3, 1) := by decide +kernel
theorem dX3_mostFrom_11 : decode cX3_mostFrom 11 = .ok (.iconst 1, 1) := by decide +kernel
theorem dX3_mostFrom_12 : decode cX3_mostFrom 12 = .ok (.istore 4, 2) := by decide +kernel
theorem dX3_mostFrom_14 : decode cX3_mostFrom 14 = .ok (.iload 4, 2) := by decide +kernel
theorem dX3_mostFrom_16 : decode cX3_mostFrom 16 = .ok (.iload_n 2, 1) := by decide +kernel
theorem dX3_mostFrom_17 : decode cX3_mostFrom 17 = .ok (.if_icmp .gt 44, 3) := by decide +kernel
theorem dX3_mostFrom_20 : decode cX3_mostFrom 20 = .ok (.aload_n 0, 1) := by decide +kernel
theorem dX3_mostFrom_21 : decode cX3_mostFrom 21 = .ok (.getfield 20, 3) := by decide +kernel
theorem dX3_mostFrom_24 : decode cX3_mostFrom 24 = .ok (.iload_n 1, 1) := by decide +kernel
theorem dX3_mostFrom_25 : decode cX3_mostFrom 25 = .ok (.baload, 1) := by decide +kernel
theorem dX3_mostFrom_26 : decode cX3_mostFrom 26 = .ok (.ifCond .eq 35, 3) := by decide +kernel
theorem dX3_mostFrom_29 : decode cX3_mostFrom 29 = .ok (.iload_n 3, 1) := by decide +kernel
theorem dX3_mostFrom_30 : decode cX3_mostFrom 30 = .ok (.aload_n 0, 1) := by decide +kernel
theorem dX3_mostFrom_31 : decode cX3_mostFrom 31 = .ok (.iload_n 1, 1) := by decide +kernel
theorem dX3_mostFrom_32 : decode cX3_mostFrom 32 = .ok (.iload 4, 2) := by decide +kernel
theorem dX3_mostFrom_34 : decode cX3_mostFrom 34 = .ok (.invokevirtual 30, 3) := by decide +kernel
theorem dX3_mostFrom_37 : decode cX3_mostFrom 37 = .ok (.aload_n 0, 1) := by decide +kernel
theorem dX3_mostFrom_38 : decode cX3_mostFrom 38 = .ok (.getfield 23, 3) := by decide +kernel
theorem dX3_mostFrom_41 : decode cX3_mostFrom 41 = .ok (.iload_n 1, 1) := by decide +kernel
theorem dX3_mostFrom_42 : decode cX3_mostFrom 42 = .ok (.iconst 1, 1) := by decide +kernel
theorem dX3_mostFrom_43 : decode cX3_mostFrom 43 = .ok (.iadd, 1) := by decide +kernel
theorem dX3_mostFrom_44 : decode cX3_mostFrom 44 = .ok (.aaload, 1) := by decide +kernel
theorem dX3_mostFrom_45 : decode cX3_mostFrom 45 = .ok (.iload_n 2, 1) := by decide +kernel
theorem dX3_mostFrom_46 : decode cX3_mostFrom 46 = .ok (.iload 4, 2) := by decide +kernel
theorem dX3_mostFrom_48 : decode cX3_mostFrom 48 = .ok (.isub, 1) := by decide +kernel
theorem dX3_mostFrom_49 : decode cX3_mostFrom 49 = .ok (.iaload, 1) := by decide +kernel
theorem dX3_mostFrom_50 : decode cX3_mostFrom 50 = .ok (.iadd, 1) := by decide +kernel
theorem dX3_mostFrom_51 : decode cX3_mostFrom 51 = .ok (.invokestatic 33, 3) := by decide +kernel
theorem dX3_mostFrom_54 : decode cX3_mostFrom 54 = .ok (.istore_n 3, 1) := by decide +kernel
theorem dX3_mostFrom_55 : decode cX3_mostFrom 55 = .ok (.iinc 4 1, 3) := by decide +kernel
theorem dX3_mostFrom_58 : decode cX3_mostFrom 58 = .ok (.goto (-44), 3) := by decide +kernel
theorem dX3_mostFrom_61 : decode cX3_mostFrom 61 = .ok (.iload_n 3, 1) := by decide +kernel
theorem dX3_mostFrom_62 : decode cX3_mostFrom 62 = .ok (.ireturn, 1) := by decide +kernel
theorem cw_X3_mostFrom : Cw yX3_mostFrom cX3_mostFrom 5 (some .int) 2 := ⟨aw_578, aw_27, ⟨by decide, by decide⟩, by decide +kernel, by decide⟩
theorem gf_3_23 {K : KT} {cc : ByteArray} {nL d pc : Nat} {ret : Option FieldType} {L : List (Option Value)} {st : List Value} {σ : Sg} (C : Cx K layC cc RX3 nL d ret)  (hd : decode cc pc = .ok (.getfield 23, 3)) (k : G K (pc + 3) L (.ref (kad K 67) :: st) (Wd K layC σ)) : G K pc L (.ref (kad K 58) :: st) (Wd K layC σ) := g_get C (o := 58) (ci := 3) (k := 3) hd rfl rfl rfl (by decide) (Or.inl aw_277) inA3 rfl k
theorem gf_3_20 {K : KT} {cc : ByteArray} {nL d pc : Nat} {ret : Option FieldType} {L : List (Option Value)} {st : List Value} {σ : Sg} (C : Cx K layC cc RX3 nL d ret)  (hd : decode cc pc = .ok (.getfield 20, 3)) (k : G K (pc + 3) L (.ref (kad K 66) :: st) (Wd K layC σ)) : G K pc L (.ref (kad K 58) :: st) (Wd K layC σ) := g_get C (o := 58) (ci := 3) (k := 2) hd rfl rfl rfl (by decide) (Or.inl aw_275) inA3 rfl k
theorem kc_3_30 {K : KT} {cc : ByteArray} {nL d pc : Nat} {ret : Option FieldType} {L : List (Option Value)} {st : List Value} {σ : Sg} (C : Cx K layC cc RX3 nL d ret)  {a0 : Int32} {a1 : Int32}  {p : Int32 × Sg} (hd : decode cc pc = .ok (.invokevirtual 30, 3)) (e : fX3_gainBy a0 a1 σ = some p) (hdd : 1 + 1 ≤ d) (hLn : L.length = nL) (hr : (st.map fun v => v.category).sum ≤ 8) (k : G K (pc + 3) L (.int p.1 :: st) (Wd K layC p.2)) : G K pc L (.int a1 :: .int a0 :: .ref (kad K 58) :: st) (Wd K layC σ) :=
  g_callV C (As := [.int a0, .int a1]) (rest := st) (o := 58) (ci := 3) hd (ct_X3_gainBy e) cw_X3_gainBy (Or.inl aw_579) aw_581 aw_16 rfl rfl rfl hdd hLn rfl rfl hr (fun v τ q => by obtain ⟨rfl, rfl⟩ := q; exact k)
def fX3_mostFrom_b14 (x1 : Int32) (x2 : Int32) (x3 : Int32) (x4 : Int32) (σ : Sg) : Option ((Int32 × Int32 × Sg) ⊕ ((Int32 × Sg))) :=
  if x2 < x4 then (some (.inr (x3, σ))) else (if inb x1 5 = true then (if (rI σ 66 (x1).toNatClampNeg) = 0 then (some (.inr (x3, σ))) else (Option.bind (fX3_gainBy x1 x4 σ) fun p5 => (if inb (x1 + (1 : Int32)) 6 = true then (if inb (x2 - x4) 12 = true then (some (.inl ((imax x3 (p5.1 + (rI p5.2 (68 + ((x1 + (1 : Int32))).toNatClampNeg) ((x2 - x4)).toNatClampNeg))), (x4 + (1 : Int32)), p5.2))) else none) else none))) else none)
def fX3_mostFrom_b0 (x1 : Int32) (x2 : Int32) (σ : Sg) : Option (Int32 × Sg) :=
  if inb (x1 + (1 : Int32)) 6 = true then (if inb x2 12 = true then (Option.bind (lp (fun s => fX3_mostFrom_b14 x1 x2 s.1 s.2.1 s.2.2) FU ((rI σ (68 + ((x1 + (1 : Int32))).toNatClampNeg) (x2).toNatClampNeg), (1 : Int32), σ)) fun t10 => some (t10.1, t10.2)) else none) else none
set_option maxRecDepth 4000 in
theorem bX3_mostFrom_b14 {K : KT} {x1 : Int32} {x2 : Int32} {x3 : Int32} {x4 : Int32} {σ : Sg} {o : (Int32 × Int32 × Sg) ⊕ ((Int32 × Sg))} (C : Cx K layC cX3_mostFrom RX3 5 (2) (some .int))  (hI : ∀ s' : Int32 × Int32 × Sg, o = .inl s' → G K 14 [some (.ref (kad K 58)), some (.int x1), some (.int x2), some (.int s'.1), some (.int s'.2.1)] [] (Wd K layC s'.2.2)) (hE0 : ∀ t : Int32 × Sg, o = .inr t → G K 61 [none, none, none, some (.int t.1), none] [] (Wd K layC t.2)) (h : fX3_mostFrom_b14 x1 x2 x3 x4 σ = some o) : G K 14 [some (.ref (kad K 58)), some (.int x1), some (.int x2), some (.int x3), some (.int x4)] [] (Wd K layC σ) := by
  unfold fX3_mostFrom_b14 at h
  refine g_iload C.c dX3_mostFrom_14 (i := 4) rfl ?_
  refine g_iload_n C.c dX3_mostFrom_16 rfl (i := 2) rfl ?_
  refine g_icmp_gt C.c (tgt := 61) dX3_mostFrom_17 (by decide) (fun c => ?_) (fun c => ?_)
  · replace h := ite_t c h
    have g9 := hE0 _ (Option.some.inj h).symm
    exact g_mask [false, false, false, true, false] rfl g9
  · replace h := ite_f c h
    refine g_aload_n C.c dX3_mostFrom_20 rfl (i := 0) rfl ?_
    refine gf_3_20 C dX3_mostFrom_21 ?_
    refine g_iload_n C.c dX3_mostFrom_24 rfl (i := 1) rfl ?_
    obtain ⟨c4, h⟩ := chk h
    refine g_zald C dX3_mostFrom_25 rfl c4 ?_
    refine g_if_eq C.c (tgt := 61) dX3_mostFrom_26 (by decide) (fun c => ?_) (fun c => ?_)
    · replace h := ite_t c h
      have g9 := hE0 _ (Option.some.inj h).symm
      exact g_mask [false, false, false, true, false] rfl g9
    · replace h := ite_f c h
      refine g_iload_n C.c dX3_mostFrom_29 rfl (i := 3) rfl ?_
      refine g_aload_n C.c dX3_mostFrom_30 rfl (i := 0) rfl ?_
      refine g_iload_n C.c dX3_mostFrom_31 rfl (i := 1) rfl ?_
      refine g_iload C.c dX3_mostFrom_32 (i := 4) rfl ?_
      obtain ⟨p5, e6, h⟩ := Option.bind_eq_some_iff.mp h
      refine kc_3_30 C dX3_mostFrom_34 e6 (Nat.le_of_ble_eq_true rfl) rfl (Nat.le_of_ble_eq_true rfl) ?_
      refine g_aload_n C.c dX3_mostFrom_37 rfl (i := 0) rfl ?_
      refine gf_3_23 C dX3_mostFrom_38 ?_
      refine g_iload_n C.c dX3_mostFrom_41 rfl (i := 1) rfl ?_
      refine g_iconst C.c dX3_mostFrom_42 (v := (1 : Int32)) (by decide) ?_
      refine g_iadd C.c dX3_mostFrom_43 ?_
      obtain ⟨c7, h⟩ := chk h
      have hs8 := rw_67 (inb_lt c7)
      refine g_aald5 C (b := 68) dX3_mostFrom_44 rfl c7 rfl rfl ?_
      refine g_iload_n C.c dX3_mostFrom_45 rfl (i := 2) rfl ?_
      refine g_iload C.c dX3_mostFrom_46 (i := 4) rfl ?_
      refine g_isub C.c dX3_mostFrom_48 ?_
      obtain ⟨c9, h⟩ := chk h
      refine g_iald C dX3_mostFrom_49 hs8 c9 ?_
      refine g_iadd C.c dX3_mostFrom_50 ?_
      refine g_max C.c dX3_mostFrom_51 aw_583 aw_416 aw_29 aw_417 rfl (Nat.le_of_ble_eq_true rfl) (Nat.le_of_ble_eq_true rfl) ?_
      refine g_istore_n C.c (i := 3) (L' := [some (.ref (kad K 58)), some (.int x1), some (.int x2), some (.int (imax x3 (p5.1 + (rI p5.2 (68 + ((x1 + (1 : Int32))).toNatClampNeg) ((x2 - x4)).toNatClampNeg)))), some (.int x4)]) dX3_mostFrom_54 rfl (Nat.le_of_ble_eq_true rfl) rfl ?_
      refine g_iinc C.c (i := 4) (y := (1 : Int32)) (L' := [some (.ref (kad K 58)), some (.int x1), some (.int x2), some (.int (imax x3 (p5.1 + (rI p5.2 (68 + ((x1 + (1 : Int32))).toNatClampNeg) ((x2 - x4)).toNatClampNeg)))), some (.int (x4 + (1 : Int32)))]) dX3_mostFrom_55 rfl (by decide) (Nat.le_of_ble_eq_true rfl) rfl ?_
      refine g_goto C.c (tgt := 14) dX3_mostFrom_58 (by decide) ?_
      have g9 := hI _ (Option.some.inj h).symm
      exact g_mask [true, true, true, true, true] rfl g9
set_option maxRecDepth 4000 in
theorem bX3_mostFrom_b0 {K : KT} {x1 : Int32} {x2 : Int32} {σ : Sg} {o : Int32 × Sg} (C : Cx K layC cX3_mostFrom RX3 5 (2) (some .int))  (hQ : Rk K layC (okI o)) (h : fX3_mostFrom_b0 x1 x2 σ = some o) : G K 0 [some (.ref (kad K 58)), some (.int x1), some (.int x2), none, none] [] (Wd K layC σ) := by
  unfold fX3_mostFrom_b0 at h
  refine g_aload_n C.c dX3_mostFrom_0 rfl (i := 0) rfl ?_
  refine gf_3_23 C dX3_mostFrom_1 ?_
  refine g_iload_n C.c dX3_mostFrom_4 rfl (i := 1) rfl ?_
  refine g_iconst C.c dX3_mostFrom_5 (v := (1 : Int32)) (by decide) ?_
  refine g_iadd C.c dX3_mostFrom_6 ?_
  obtain ⟨c1, h⟩ := chk h
  have hs2 := rw_67 (inb_lt c1)
  refine g_aald5 C (b := 68) dX3_mostFrom_7 rfl c1 rfl rfl ?_
  refine g_iload_n C.c dX3_mostFrom_8 rfl (i := 2) rfl ?_
  obtain ⟨c3, h⟩ := chk h
  refine g_iald C dX3_mostFrom_9 hs2 c3 ?_
  refine g_istore_n C.c (i := 3) (L' := [some (.ref (kad K 58)), some (.int x1), some (.int x2), some (.int (rI σ (68 + ((x1 + (1 : Int32))).toNatClampNeg) (x2).toNatClampNeg)), none]) dX3_mostFrom_10 rfl (Nat.le_of_ble_eq_true rfl) rfl ?_
  refine g_iconst C.c dX3_mostFrom_11 (v := (1 : Int32)) (by decide) ?_
  refine g_istore C.c (i := 4) (L' := [some (.ref (kad K 58)), some (.int x1), some (.int x2), some (.int (rI σ (68 + ((x1 + (1 : Int32))).toNatClampNeg) (x2).toNatClampNeg)), some (.int (1 : Int32))]) dX3_mostFrom_12 (Nat.le_of_ble_eq_true rfl) rfl ?_
  refine g_mask [true, true, true, true, true] rfl ?_
  refine lp_bind (Gh := fun s => G K 14 [some (.ref (kad K 58)), some (.int x1), some (.int x2), some (.int s.1), some (.int s.2.1)] [] (Wd K layC s.2.2)) h (fun s o2 hf gI gE => ?_)
  refine bX3_mostFrom_b14 C gI (fun t10 e => ?_) hf
  · have h := gE _ e
    refine g_iload_n C.c dX3_mostFrom_61 rfl (i := 3) rfl ?_
    obtain rfl := Option.some.inj h
    exact g_iret C hQ dX3_mostFrom_62 rfl ⟨rfl, rfl⟩
def fX3_mostFrom (a0 : Int32) (a1 : Int32) (σ : Sg) : Option (Int32 × Sg) := fX3_mostFrom_b0 a0 a1 σ
theorem ct_X3_mostFrom {a0 : Int32} {a1 : Int32} {σ : Sg} {p : Int32 × Sg} (h : fX3_mostFrom a0 a1 σ = some p) : Ct layC yX3_mostFrom cX3_mostFrom 5 (some .int) 2 (fun ad => [.ref (ad 58), .int a0, .int a1]) σ (okI p) :=
 ct_of (L0 := fun ad => [some (.ref (ad 58)), some (.int a0), some (.int a1), none, none]) (by decide) (fun _ => Nat.le_of_ble_eq_true rfl) (fun _ => rfl) (fun K C hQ => g_mask [true, true, true, false, false] rfl (bX3_mostFrom_b0 C hQ h))
-- X3_deal
theorem dX3_deal_0 : decode cX3_deal 0 = .ok (.iconst 0, 1) := by decide +kernel
theorem dX3_deal_1 : decode cX3_deal 1 = .ok (.istore_n 2, 1) := by decide +kernel
theorem dX3_deal_2 : decode cX3_deal 2 = .ok (.iload_n 2, 1) := by decide +kernel
theorem dX3_deal_3 : decode cX3_deal 3 = .ok (.bipush 11, 2) := by decide +kernel
theorem dX3_deal_5 : decode cX3_deal 5 = .ok (.if_icmp .gt 18, 3) := by decide +kernel
theorem dX3_deal_8 : decode cX3_deal 8 = .ok (.aload_n 0, 1) := by decide +kernel
theorem dX3_deal_9 : decode cX3_deal 9 = .ok (.getfield 23, 3) := by decide +kernel
theorem dX3_deal_12 : decode cX3_deal 12 = .ok (.iload_n 1, 1) := by decide +kernel
theorem dX3_deal_13 : decode cX3_deal 13 = .ok (.aaload, 1) := by decide +kernel
theorem dX3_deal_14 : decode cX3_deal 14 = .ok (.iload_n 2, 1) := by decide +kernel
theorem dX3_deal_15 : decode cX3_deal 15 = .ok (.iconst 0, 1) := by decide +kernel
theorem dX3_deal_16 : decode cX3_deal 16 = .ok (.iastore, 1) := by decide +kernel
theorem dX3_deal_17 : decode cX3_deal 17 = .ok (.iinc 2 1, 3) := by decide +kernel
theorem dX3_deal_20 : decode cX3_deal 20 = .ok (.goto (-18), 3) := by decide +kernel
theorem dX3_deal_23 : decode cX3_deal 23 = .ok (.iload_n 1, 1) := by decide +kernel
theorem dX3_deal_24 : decode cX3_deal 24 = .ok (.iconst 1, 1) := by decide +kernel
theorem dX3_deal_25 : decode cX3_deal 25 = .ok (.isub, 1) := by decide +kernel
theorem dX3_deal_26 : decode cX3_deal 26 = .ok (.istore_n 2, 1) := by decide +kernel
theorem dX3_deal_27 : decode cX3_deal 27 = .ok (.iload_n 2, 1) := by decide +kernel
theorem dX3_deal_28 : decode cX3_deal 28 = .ok (.ifCond .lt 37, 3) := by decide +kernel
theorem dX3_deal_31 : decode cX3_deal 31 = .ok (.iconst 0, 1) := by decide +kernel
theorem dX3_deal_32 : decode cX3_deal 32 = .ok (.istore_n 3, 1) := by decide +kernel
theorem dX3_deal_33 : decode cX3_deal 33 = .ok (.iload_n 3, 1) := by decide +kernel
theorem dX3_deal_34 : decode cX3_deal 34 = .ok (.bipush 11, 2) := by decide +kernel
theorem dX3_deal_36 : decode cX3_deal 36 = .ok (.if_icmp .gt 23, 3) := by decide +kernel
theorem dX3_deal_39 : decode cX3_deal 39 = .ok (.aload_n 0, 1) := by decide +kernel
theorem dX3_deal_40 : decode cX3_deal 40 = .ok (.getfield 23, 3) := by decide +kernel
theorem dX3_deal_43 : decode cX3_deal 43 = .ok (.iload_n 2, 1) := by decide +kernel
theorem dX3_deal_44 : decode cX3_deal 44 = .ok (.aaload, 1) := by decide +kernel
theorem dX3_deal_45 : decode cX3_deal 45 = .ok (.iload_n 3, 1) := by decide +kernel
theorem dX3_deal_46 : decode cX3_deal 46 = .ok (.aload_n 0, 1) := by decide +kernel
theorem dX3_deal_47 : decode cX3_deal 47 = .ok (.iload_n 2, 1) := by decide +kernel
theorem dX3_deal_48 : decode cX3_deal 48 = .ok (.iload_n 3, 1) := by decide +kernel
theorem dX3_deal_49 : decode cX3_deal 49 = .ok (.invokevirtual 26, 3) := by decide +kernel
theorem dX3_deal_52 : decode cX3_deal 52 = .ok (.iastore, 1) := by decide +kernel
theorem dX3_deal_53 : decode cX3_deal 53 = .ok (.iinc 3 1, 3) := by decide +kernel
theorem dX3_deal_56 : decode cX3_deal 56 = .ok (.goto (-23), 3) := by decide +kernel
theorem dX3_deal_59 : decode cX3_deal 59 = .ok (.iinc 2 (-1), 3) := by decide +kernel
theorem dX3_deal_62 : decode cX3_deal 62 = .ok (.goto (-35), 3) := by decide +kernel
theorem dX3_deal_65 : decode cX3_deal 65 = .ok (.return_, 1) := by decide +kernel
theorem cw_X3_deal : Cw yX3_deal cX3_deal 4 none 1 := ⟨aw_574, aw_27, ⟨by decide, by decide⟩, by decide +kernel, by decide⟩
theorem kc_3_26 {K : KT} {cc : ByteArray} {nL d pc : Nat} {ret : Option FieldType} {L : List (Option Value)} {st : List Value} {σ : Sg} (C : Cx K layC cc RX3 nL d ret)  {a0 : Int32} {a1 : Int32}  {p : Int32 × Sg} (hd : decode cc pc = .ok (.invokevirtual 26, 3)) (e : fX3_mostFrom a0 a1 σ = some p) (hdd : 2 + 1 ≤ d) (hLn : L.length = nL) (hr : (st.map fun v => v.category).sum ≤ 8) (k : G K (pc + 3) L (.int p.1 :: st) (Wd K layC p.2)) : G K pc L (.int a1 :: .int a0 :: .ref (kad K 58) :: st) (Wd K layC σ) :=
  g_callV C (As := [.int a0, .int a1]) (rest := st) (o := 58) (ci := 3) hd (ct_X3_mostFrom e) cw_X3_mostFrom (Or.inl aw_575) aw_577 aw_15 rfl rfl rfl hdd hLn rfl rfl hr (fun v τ q => by obtain ⟨rfl, rfl⟩ := q; exact k)
def fX3_deal_b2 (x1 : Int32) (x2 : Int32) (σ : Sg) : Option ((Int32 × Sg) ⊕ ((Sg))) :=
  if (11 : Int32) < x2 then (some (.inr σ)) else (if inb x1 6 = true then (if inb x2 12 = true then (some (.inl ((x2 + (1 : Int32)), (wI σ (68 + (x1).toNatClampNeg) (x2).toNatClampNeg (0 : Int32))))) else none) else none)
def fX3_deal_b33 (x2 : Int32) (x3 : Int32) (σ : Sg) : Option ((Int32 × Sg) ⊕ ((Sg))) :=
  if (11 : Int32) < x3 then (some (.inr σ)) else (if inb x2 6 = true then (Option.bind (fX3_mostFrom x2 x3 σ) fun p8 => (if inb x3 12 = true then (some (.inl ((x3 + (1 : Int32)), (wI p8.2 (68 + (x2).toNatClampNeg) (x3).toNatClampNeg p8.1)))) else none)) else none)
def fX3_deal_b27 (x2 : Int32) (σ : Sg) : Option ((Int32 × Sg) ⊕ ((Sg))) :=
  if x2 < 0 then (some (.inr σ)) else (Option.bind (lp (fun s => fX3_deal_b33 x2 s.1 s.2) FU ((0 : Int32), σ)) fun t11 => some (.inl ((x2 + (-1 : Int32)), t11)))
def fX3_deal_b0 (x1 : Int32) (σ : Sg) : Option (Sg) :=
  Option.bind (lp (fun s => fX3_deal_b2 x1 s.1 s.2) FU ((0 : Int32), σ)) fun t4 => Option.bind (lp (fun s => fX3_deal_b27 s.1 s.2) FU ((x1 - (1 : Int32)), t4)) fun t13 => some t13
set_option maxRecDepth 4000 in
theorem bX3_deal_b2 {K : KT} {x1 : Int32} {x2 : Int32} {σ : Sg} {o : (Int32 × Sg) ⊕ ((Sg))} (C : Cx K layC cX3_deal RX3 4 (3) none)  (hI : ∀ s' : Int32 × Sg, o = .inl s' → G K 2 [some (.ref (kad K 58)), some (.int x1), some (.int s'.1), none] [] (Wd K layC s'.2)) (hE0 : ∀ t : Sg, o = .inr t → G K 23 [some (.ref (kad K 58)), some (.int x1), none, none] [] (Wd K layC t)) (h : fX3_deal_b2 x1 x2 σ = some o) : G K 2 [some (.ref (kad K 58)), some (.int x1), some (.int x2), none] [] (Wd K layC σ) := by
  unfold fX3_deal_b2 at h
  refine g_iload_n C.c dX3_deal_2 rfl (i := 2) rfl ?_
  refine g_bipush C.c dX3_deal_3 (v := (11 : Int32)) (by decide) ?_
  refine g_icmp_gt C.c (tgt := 23) dX3_deal_5 (by decide) (fun c => ?_) (fun c => ?_)
  · replace h := ite_t c h
    have g9 := hE0 _ (Option.some.inj h).symm
    exact g_mask [true, true, false, false] rfl g9
  · replace h := ite_f c h
    refine g_aload_n C.c dX3_deal_8 rfl (i := 0) rfl ?_
    refine gf_3_23 C dX3_deal_9 ?_
    refine g_iload_n C.c dX3_deal_12 rfl (i := 1) rfl ?_
    obtain ⟨c1, h⟩ := chk h
    have hs2 := rw_67 (inb_lt c1)
    refine g_aald5 C (b := 68) dX3_deal_13 rfl c1 rfl rfl ?_
    refine g_iload_n C.c dX3_deal_14 rfl (i := 2) rfl ?_
    refine g_iconst C.c dX3_deal_15 (v := (0 : Int32)) (by decide) ?_
    obtain ⟨c3, h⟩ := chk h
    refine g_iast C dX3_deal_16 hs2 c3 ?_
    refine g_iinc C.c (i := 2) (y := (1 : Int32)) (L' := [some (.ref (kad K 58)), some (.int x1), some (.int (x2 + (1 : Int32))), none]) dX3_deal_17 rfl (by decide) (Nat.le_of_ble_eq_true rfl) rfl ?_
    refine g_goto C.c (tgt := 2) dX3_deal_20 (by decide) ?_
    have g9 := hI _ (Option.some.inj h).symm
    exact g_mask [true, true, true, false] rfl g9
set_option maxRecDepth 4000 in
theorem bX3_deal_b33 {K : KT} {x2 : Int32} {x3 : Int32} {σ : Sg} {o : (Int32 × Sg) ⊕ ((Sg))} (C : Cx K layC cX3_deal RX3 4 (3) none)  (hI : ∀ s' : Int32 × Sg, o = .inl s' → G K 33 [some (.ref (kad K 58)), none, some (.int x2), some (.int s'.1)] [] (Wd K layC s'.2)) (hE0 : ∀ t : Sg, o = .inr t → G K 59 [some (.ref (kad K 58)), none, some (.int x2), none] [] (Wd K layC t)) (h : fX3_deal_b33 x2 x3 σ = some o) : G K 33 [some (.ref (kad K 58)), none, some (.int x2), some (.int x3)] [] (Wd K layC σ) := by
  unfold fX3_deal_b33 at h
  refine g_iload_n C.c dX3_deal_33 rfl (i := 3) rfl ?_
  refine g_bipush C.c dX3_deal_34 (v := (11 : Int32)) (by decide) ?_
  refine g_icmp_gt C.c (tgt := 59) dX3_deal_36 (by decide) (fun c => ?_) (fun c => ?_)
  · replace h := ite_t c h
    have g9 := hE0 _ (Option.some.inj h).symm
    exact g_mask [true, false, true, false] rfl g9
  · replace h := ite_f c h
    refine g_aload_n C.c dX3_deal_39 rfl (i := 0) rfl ?_
    refine gf_3_23 C dX3_deal_40 ?_
    refine g_iload_n C.c dX3_deal_43 rfl (i := 2) rfl ?_
    obtain ⟨c6, h⟩ := chk h
    have hs7 := rw_67 (inb_lt c6)
    refine g_aald5 C (b := 68) dX3_deal_44 rfl c6 rfl rfl ?_
    refine g_iload_n C.c dX3_deal_45 rfl (i := 3) rfl ?_
    refine g_aload_n C.c dX3_deal_46 rfl (i := 0) rfl ?_
    refine g_iload_n C.c dX3_deal_47 rfl (i := 2) rfl ?_
    refine g_iload_n C.c dX3_deal_48 rfl (i := 3) rfl ?_
    obtain ⟨p8, e9, h⟩ := Option.bind_eq_some_iff.mp h
    refine kc_3_26 C dX3_deal_49 e9 (Nat.le_of_ble_eq_true rfl) rfl (Nat.le_of_ble_eq_true rfl) ?_
    obtain ⟨c10, h⟩ := chk h
    refine g_iast C dX3_deal_52 hs7 c10 ?_
    refine g_iinc C.c (i := 3) (y := (1 : Int32)) (L' := [some (.ref (kad K 58)), none, some (.int x2), some (.int (x3 + (1 : Int32)))]) dX3_deal_53 rfl (by decide) (Nat.le_of_ble_eq_true rfl) rfl ?_
    refine g_goto C.c (tgt := 33) dX3_deal_56 (by decide) ?_
    have g9 := hI _ (Option.some.inj h).symm
    exact g_mask [true, false, true, true] rfl g9
set_option maxRecDepth 4000 in
theorem bX3_deal_b27 {K : KT} {x2 : Int32} {σ : Sg} {o : (Int32 × Sg) ⊕ ((Sg))} (C : Cx K layC cX3_deal RX3 4 (3) none)  (hI : ∀ s' : Int32 × Sg, o = .inl s' → G K 27 [some (.ref (kad K 58)), none, some (.int s'.1), none] [] (Wd K layC s'.2)) (hE0 : ∀ t : Sg, o = .inr t → G K 65 [none, none, none, none] [] (Wd K layC t)) (h : fX3_deal_b27 x2 σ = some o) : G K 27 [some (.ref (kad K 58)), none, some (.int x2), none] [] (Wd K layC σ) := by
  unfold fX3_deal_b27 at h
  refine g_iload_n C.c dX3_deal_27 rfl (i := 2) rfl ?_
  refine g_if_lt C.c (tgt := 65) dX3_deal_28 (by decide) (fun c => ?_) (fun c => ?_)
  · replace h := ite_t c h
    have g9 := hE0 _ (Option.some.inj h).symm
    exact g_mask [false, false, false, false] rfl g9
  · replace h := ite_f c h
    refine g_iconst C.c dX3_deal_31 (v := (0 : Int32)) (by decide) ?_
    refine g_istore_n C.c (i := 3) (L' := [some (.ref (kad K 58)), none, some (.int x2), some (.int (0 : Int32))]) dX3_deal_32 rfl (Nat.le_of_ble_eq_true rfl) rfl ?_
    refine g_mask [true, false, true, true] rfl ?_
    refine lp_bind (Gh := fun s => G K 33 [some (.ref (kad K 58)), none, some (.int x2), some (.int s.1)] [] (Wd K layC s.2)) h (fun s o2 hf gI gE => ?_)
    refine bX3_deal_b33 C gI (fun t11 e => ?_) hf
    · have h := gE _ e
      refine g_iinc C.c (i := 2) (y := (-1 : Int32)) (L' := [some (.ref (kad K 58)), none, some (.int (x2 + (-1 : Int32))), none]) dX3_deal_59 rfl (by decide) (Nat.le_of_ble_eq_true rfl) rfl ?_
      refine g_goto C.c (tgt := 27) dX3_deal_62 (by decide) ?_
      have g9 := hI _ (Option.some.inj h).symm
      exact g_mask [true, false, true, false] rfl g9
set_option maxRecDepth 4000 in
theorem bX3_deal_b0 {K : KT} {x1 : Int32} {σ : Sg} {o : Sg} (C : Cx K layC cX3_deal RX3 4 (3) none)  (hQ : Rk K layC (okV o)) (h : fX3_deal_b0 x1 σ = some o) : G K 0 [some (.ref (kad K 58)), some (.int x1), none, none] [] (Wd K layC σ) := by
  unfold fX3_deal_b0 at h
  refine g_iconst C.c dX3_deal_0 (v := (0 : Int32)) (by decide) ?_
  refine g_istore_n C.c (i := 2) (L' := [some (.ref (kad K 58)), some (.int x1), some (.int (0 : Int32)), none]) dX3_deal_1 rfl (Nat.le_of_ble_eq_true rfl) rfl ?_
  refine g_mask [true, true, true, false] rfl ?_
  refine lp_bind (Gh := fun s => G K 2 [some (.ref (kad K 58)), some (.int x1), some (.int s.1), none] [] (Wd K layC s.2)) h (fun s o2 hf gI gE => ?_)
  refine bX3_deal_b2 C gI (fun t4 e => ?_) hf
  · have h := gE _ e
    refine g_iload_n C.c dX3_deal_23 rfl (i := 1) rfl ?_
    refine g_iconst C.c dX3_deal_24 (v := (1 : Int32)) (by decide) ?_
    refine g_isub C.c dX3_deal_25 ?_
    refine g_istore_n C.c (i := 2) (L' := [some (.ref (kad K 58)), some (.int x1), some (.int (x1 - (1 : Int32))), none]) dX3_deal_26 rfl (Nat.le_of_ble_eq_true rfl) rfl ?_
    refine g_mask [true, false, true, false] rfl ?_
    refine lp_bind (Gh := fun s => G K 27 [some (.ref (kad K 58)), none, some (.int s.1), none] [] (Wd K layC s.2)) h (fun s o2 hf gI gE => ?_)
    refine bX3_deal_b27 C gI (fun t13 e => ?_) hf
    · have h := gE _ e
      obtain rfl := Option.some.inj h
      exact g_vret C hQ dX3_deal_65 ⟨rfl, rfl⟩
def fX3_deal (a0 : Int32) (σ : Sg) : Option (Sg) := fX3_deal_b0 a0 σ
theorem ct_X3_deal {a0 : Int32} {σ : Sg} {p : Sg} (h : fX3_deal a0 σ = some p) : Ct layC yX3_deal cX3_deal 4 none 3 (fun ad => [.ref (ad 58), .int a0]) σ (okV p) :=
 ct_of (L0 := fun ad => [some (.ref (ad 58)), some (.int a0), none, none]) (by decide) (fun _ => Nat.le_of_ble_eq_true rfl) (fun _ => rfl) (fun K C hQ => g_mask [true, true, false, false] rfl (bX3_deal_b0 C hQ h))
-- X3_fewestFor
theorem dX3_fewestFor_0 : decode cX3_fewestFor 0 = .ok (.iconst 0, 1) := by decide +kernel
theorem dX3_fewestFor_1 : decode cX3_fewestFor 1 = .ok (.istore_n 3, 1) := by decide +kernel
theorem dX3_fewestFor_2 : decode cX3_fewestFor 2 = .ok (.iload_n 3, 1) := by decide +kernel
theorem dX3_fewestFor_3 : decode cX3_fewestFor 3 = .ok (.iload_n 2, 1) := by decide +kernel
theorem dX3_fewestFor_4 : decode cX3_fewestFor 4 = .ok (.if_icmp .ge 41, 3) := by decide +kernel
theorem dX3_fewestFor_7 : decode cX3_fewestFor 7 = .ok (.aload_n 0, 1) := by decide +kernel
theorem dX3_fewestFor_8 : decode cX3_fewestFor 8 = .ok (.iload_n 1, 1) := by decide +kernel
theorem dX3_fewestFor_9 : decode cX3_fewestFor 9 = .ok (.iload_n 3, 1) := by decide +kernel
theorem dX3_fewestFor_10 : decode cX3_fewestFor 10 = .ok (.invokevirtual 30, 3) := by decide +kernel
theorem dX3_fewestFor_13 : decode cX3_fewestFor 13 = .ok (.aload_n 0, 1) := by decide +kernel
theorem dX3_fewestFor_14 : decode cX3_fewestFor 14 = .ok (.getfield 23, 3) := by decide +kernel
theorem dX3_fewestFor_17 : decode cX3_fewestFor 17 = .ok (.iload_n 1, 1) := by decide +kernel
theorem dX3_fewestFor_18 : decode cX3_fewestFor 18 = .ok (.iconst 1, 1) := by decide +kernel
theorem dX3_fewestFor_19 : decode cX3_fewestFor 19 = .ok (.iadd, 1) := by decide +kernel
theorem dX3_fewestFor_20 : decode cX3_fewestFor 20 = .ok (.aaload, 1) := by decide +kernel
theorem dX3_fewestFor_21 : decode cX3_fewestFor 21 = .ok (.iload_n 2, 1) := by decide +kernel
theorem dX3_fewestFor_22 : decode cX3_fewestFor 22 = .ok (.iload_n 3, 1) := by decide +kernel
theorem dX3_fewestFor_23 : decode cX3_fewestFor 23 = .ok (.isub, 1) := by decide +kernel
theorem dX3_fewestFor_24 : decode cX3_fewestFor 24 = .ok (.iaload, 1) := by decide +kernel
theorem dX3_fewestFor_25 : decode cX3_fewestFor 25 = .ok (.iadd, 1) := by decide +kernel
theorem dX3_fewestFor_26 : decode cX3_fewestFor 26 = .ok (.aload_n 0, 1) := by decide +kernel
theorem dX3_fewestFor_27 : decode cX3_fewestFor 27 = .ok (.getfield 23, 3) := by decide +kernel
theorem dX3_fewestFor_30 : decode cX3_fewestFor 30 = .ok (.iload_n 1, 1) := by decide +kernel
theorem dX3_fewestFor_31 : decode cX3_fewestFor 31 = .ok (.aaload, 1) := by decide +kernel
theorem dX3_fewestFor_32 : decode cX3_fewestFor 32 = .ok (.iload_n 2, 1) := by decide +kernel
theorem dX3_fewestFor_33 : decode cX3_fewestFor 33 = .ok (.iaload, 1) := by decide +kernel
theorem dX3_fewestFor_34 : decode cX3_fewestFor 34 = .ok (.if_icmp .ne 5, 3) := by decide +kernel
theorem dX3_fewestFor_37 : decode cX3_fewestFor 37 = .ok (.iload_n 3, 1) := by decide +kernel
theorem dX3_fewestFor_38 : decode cX3_fewestFor 38 = .ok (.ireturn, 1) := by decide +kernel
theorem dX3_fewestFor_39 : decode cX3_fewestFor 39 = .ok (.iinc 3 1, 3) := by decide +kernel
theorem dX3_fewestFor_42 : decode cX3_fewestFor 42 = .ok (.goto (-40), 3) := by decide +kernel
theorem dX3_fewestFor_45 : decode cX3_fewestFor 45 = .ok (.iload_n 2, 1) := by decide +kernel
theorem dX3_fewestFor_46 : decode cX3_fewestFor 46 = .ok (.ireturn, 1) := by decide +kernel
theorem cw_X3_fewestFor : Cw yX3_fewestFor cX3_fewestFor 4 (some .int) 2 := ⟨aw_591, aw_27, ⟨by decide, by decide⟩, by decide +kernel, by decide⟩
def fX3_fewestFor_b2 (x1 : Int32) (x2 : Int32) (x3 : Int32) (σ : Sg) : Option ((Int32 × Sg) ⊕ (((Int32 × Sg) ⊕ (Sg)))) :=
  if x2 ≤ x3 then (some (.inr (.inr σ))) else (Option.bind (fX3_gainBy x1 x3 σ) fun p1 => (if inb (x1 + (1 : Int32)) 6 = true then (if inb (x2 - x3) 12 = true then (if inb x1 6 = true then (if inb x2 12 = true then (if (p1.1 + (rI p1.2 (68 + ((x1 + (1 : Int32))).toNatClampNeg) ((x2 - x3)).toNatClampNeg)) = (rI p1.2 (68 + (x1).toNatClampNeg) (x2).toNatClampNeg) then (some (.inr (.inl (x3, p1.2)))) else (some (.inl ((x3 + (1 : Int32)), p1.2)))) else none) else none) else none) else none))
def fX3_fewestFor_b0 (x1 : Int32) (x2 : Int32) (σ : Sg) : Option (Int32 × Sg) :=
  Option.bind (lp (fun s => fX3_fewestFor_b2 x1 x2 s.1 s.2) FU ((0 : Int32), σ)) (el (fun t9 => some (t9.1, t9.2)) (fun t9 => some (x2, t9)))
set_option maxRecDepth 4000 in
theorem bX3_fewestFor_b2 {K : KT} {x1 : Int32} {x2 : Int32} {x3 : Int32} {σ : Sg} {o : (Int32 × Sg) ⊕ (((Int32 × Sg) ⊕ (Sg)))} (C : Cx K layC cX3_fewestFor RX3 4 (2) (some .int))  (hI : ∀ s' : Int32 × Sg, o = .inl s' → G K 2 [some (.ref (kad K 58)), some (.int x1), some (.int x2), some (.int s'.1)] [] (Wd K layC s'.2)) (hE0 : ∀ t : Int32 × Sg, o = .inr (.inl t) → G K 37 [none, none, none, some (.int t.1)] [] (Wd K layC t.2)) (hE1 : ∀ t : Sg, o = .inr (.inr t) → G K 45 [none, none, some (.int x2), none] [] (Wd K layC t)) (h : fX3_fewestFor_b2 x1 x2 x3 σ = some o) : G K 2 [some (.ref (kad K 58)), some (.int x1), some (.int x2), some (.int x3)] [] (Wd K layC σ) := by
  unfold fX3_fewestFor_b2 at h
  refine g_iload_n C.c dX3_fewestFor_2 rfl (i := 3) rfl ?_
  refine g_iload_n C.c dX3_fewestFor_3 rfl (i := 2) rfl ?_
  refine g_icmp_ge C.c (tgt := 45) dX3_fewestFor_4 (by decide) (fun c => ?_) (fun c => ?_)
  · replace h := ite_t c h
    have g9 := hE1 _ (Option.some.inj h).symm
    exact g_mask [false, false, true, false] rfl g9
  · replace h := ite_f c h
    refine g_aload_n C.c dX3_fewestFor_7 rfl (i := 0) rfl ?_
    refine g_iload_n C.c dX3_fewestFor_8 rfl (i := 1) rfl ?_
    refine g_iload_n C.c dX3_fewestFor_9 rfl (i := 3) rfl ?_
    obtain ⟨p1, e2, h⟩ := Option.bind_eq_some_iff.mp h
    refine kc_3_30 C dX3_fewestFor_10 e2 (Nat.le_of_ble_eq_true rfl) rfl (Nat.le_of_ble_eq_true rfl) ?_
    refine g_aload_n C.c dX3_fewestFor_13 rfl (i := 0) rfl ?_
    refine gf_3_23 C dX3_fewestFor_14 ?_
    refine g_iload_n C.c dX3_fewestFor_17 rfl (i := 1) rfl ?_
    refine g_iconst C.c dX3_fewestFor_18 (v := (1 : Int32)) (by decide) ?_
    refine g_iadd C.c dX3_fewestFor_19 ?_
    obtain ⟨c3, h⟩ := chk h
    have hs4 := rw_67 (inb_lt c3)
    refine g_aald5 C (b := 68) dX3_fewestFor_20 rfl c3 rfl rfl ?_
    refine g_iload_n C.c dX3_fewestFor_21 rfl (i := 2) rfl ?_
    refine g_iload_n C.c dX3_fewestFor_22 rfl (i := 3) rfl ?_
    refine g_isub C.c dX3_fewestFor_23 ?_
    obtain ⟨c5, h⟩ := chk h
    refine g_iald C dX3_fewestFor_24 hs4 c5 ?_
    refine g_iadd C.c dX3_fewestFor_25 ?_
    refine g_aload_n C.c dX3_fewestFor_26 rfl (i := 0) rfl ?_
    refine gf_3_23 C dX3_fewestFor_27 ?_
    refine g_iload_n C.c dX3_fewestFor_30 rfl (i := 1) rfl ?_
    obtain ⟨c6, h⟩ := chk h
    have hs7 := rw_67 (inb_lt c6)
    refine g_aald5 C (b := 68) dX3_fewestFor_31 rfl c6 rfl rfl ?_
    refine g_iload_n C.c dX3_fewestFor_32 rfl (i := 2) rfl ?_
    obtain ⟨c8, h⟩ := chk h
    refine g_iald C dX3_fewestFor_33 hs7 c8 ?_
    refine g_icmp_ne C.c (tgt := 39) dX3_fewestFor_34 (by decide) (fun c => ?_) (fun c => ?_)
    · replace h := ite_f c h
      refine g_iinc C.c (i := 3) (y := (1 : Int32)) (L' := [some (.ref (kad K 58)), some (.int x1), some (.int x2), some (.int (x3 + (1 : Int32)))]) dX3_fewestFor_39 rfl (by decide) (Nat.le_of_ble_eq_true rfl) rfl ?_
      refine g_goto C.c (tgt := 2) dX3_fewestFor_42 (by decide) ?_
      have g9 := hI _ (Option.some.inj h).symm
      exact g_mask [true, true, true, true] rfl g9
    · replace h := ite_t c h
      have g9 := hE0 _ (Option.some.inj h).symm
      exact g_mask [false, false, false, true] rfl g9
set_option maxRecDepth 4000 in
theorem bX3_fewestFor_b0 {K : KT} {x1 : Int32} {x2 : Int32} {σ : Sg} {o : Int32 × Sg} (C : Cx K layC cX3_fewestFor RX3 4 (2) (some .int))  (hQ : Rk K layC (okI o)) (h : fX3_fewestFor_b0 x1 x2 σ = some o) : G K 0 [some (.ref (kad K 58)), some (.int x1), some (.int x2), none] [] (Wd K layC σ) := by
  unfold fX3_fewestFor_b0 at h
  refine g_iconst C.c dX3_fewestFor_0 (v := (0 : Int32)) (by decide) ?_
  refine g_istore_n C.c (i := 3) (L' := [some (.ref (kad K 58)), some (.int x1), some (.int x2), some (.int (0 : Int32))]) dX3_fewestFor_1 rfl (Nat.le_of_ble_eq_true rfl) rfl ?_
  refine g_mask [true, true, true, true] rfl ?_
  refine lp_bind (Gh := fun s => G K 2 [some (.ref (kad K 58)), some (.int x1), some (.int x2), some (.int s.1)] [] (Wd K layC s.2)) h (fun s o2 hf gI gE => ?_)
  refine bX3_fewestFor_b2 C gI (fun t9 e => ?_) (fun t9 e => ?_) hf
  · have h := el_l (gE _ e)
    refine g_iload_n C.c dX3_fewestFor_37 rfl (i := 3) rfl ?_
    obtain rfl := Option.some.inj h
    exact g_iret C hQ dX3_fewestFor_38 rfl ⟨rfl, rfl⟩
  · have h := el_r (gE _ e)
    refine g_iload_n C.c dX3_fewestFor_45 rfl (i := 2) rfl ?_
    obtain rfl := Option.some.inj h
    exact g_iret C hQ dX3_fewestFor_46 rfl ⟨rfl, rfl⟩
def fX3_fewestFor (a0 : Int32) (a1 : Int32) (σ : Sg) : Option (Int32 × Sg) := fX3_fewestFor_b0 a0 a1 σ
theorem ct_X3_fewestFor {a0 : Int32} {a1 : Int32} {σ : Sg} {p : Int32 × Sg} (h : fX3_fewestFor a0 a1 σ = some p) : Ct layC yX3_fewestFor cX3_fewestFor 4 (some .int) 2 (fun ad => [.ref (ad 58), .int a0, .int a1]) σ (okI p) :=
 ct_of (L0 := fun ad => [some (.ref (ad 58)), some (.int a0), some (.int a1), none]) (by decide) (fun _ => Nat.le_of_ble_eq_true rfl) (fun _ => rfl) (fun K C hQ => g_mask [true, true, true, false] rfl (bX3_fewestFor_b0 C hQ h))
-- X3_tugsFor
theorem dX3_tugsFor_0 : decode cX3_tugsFor 0 = .ok (.iload_n 2, 1) := by decide +kernel
theorem dX3_tugsFor_1 : decode cX3_tugsFor 1 = .ok (.istore_n 3, 1) := by decide +kernel
theorem dX3_tugsFor_2 : decode cX3_tugsFor 2 = .ok (.iconst 0, 1) := by decide +kernel
theorem dX3_tugsFor_3 : decode cX3_tugsFor 3 = .ok (.istore 4, 2) := by decide +kernel
theorem dX3_tugsFor_5 : decode cX3_tugsFor 5 = .ok (.iload 4, 2) := by decide +kernel
theorem dX3_tugsFor_7 : decode cX3_tugsFor 7 = .ok (.iload_n 1, 1) := by decide +kernel
theorem dX3_tugsFor_8 : decode cX3_tugsFor 8 = .ok (.if_icmp .ge 19, 3) := by decide +kernel
theorem dX3_tugsFor_11 : decode cX3_tugsFor 11 = .ok (.iload_n 3, 1) := by decide +kernel
theorem dX3_tugsFor_12 : decode cX3_tugsFor 12 = .ok (.aload_n 0, 1) := by decide +kernel
theorem dX3_tugsFor_13 : decode cX3_tugsFor 13 = .ok (.iload 4, 2) := by decide +kernel
theorem dX3_tugsFor_15 : decode cX3_tugsFor 15 = .ok (.iload_n 3, 1) := by decide +kernel
theorem dX3_tugsFor_16 : decode cX3_tugsFor 16 = .ok (.invokevirtual 38, 3) := by decide +kernel
theorem dX3_tugsFor_19 : decode cX3_tugsFor 19 = .ok (.isub, 1) := by decide +kernel
theorem dX3_tugsFor_20 : decode cX3_tugsFor 20 = .ok (.istore_n 3, 1) := by decide +kernel
theorem dX3_tugsFor_21 : decode cX3_tugsFor 21 = .ok (.iinc 4 1, 3) := by decide +kernel
theorem dX3_tugsFor_24 : decode cX3_tugsFor 24 = .ok (.goto (-19), 3) := by decide +kernel
theorem dX3_tugsFor_27 : decode cX3_tugsFor 27 = .ok (.aload_n 0, 1) := by decide +kernel
theorem dX3_tugsFor_28 : decode cX3_tugsFor 28 = .ok (.iload_n 1, 1) := by decide +kernel
theorem dX3_tugsFor_29 : decode cX3_tugsFor 29 = .ok (.iload_n 3, 1) := by decide +kernel
theorem dX3_tugsFor_30 : decode cX3_tugsFor 30 = .ok (.invokevirtual 38, 3) := by decide +kernel
theorem dX3_tugsFor_33 : decode cX3_tugsFor 33 = .ok (.ireturn, 1) := by decide +kernel
theorem cw_X3_tugsFor : Cw yX3_tugsFor cX3_tugsFor 5 (some .int) 2 := ⟨aw_587, aw_27, ⟨by decide, by decide⟩, by decide +kernel, by decide⟩
theorem kc_3_38 {K : KT} {cc : ByteArray} {nL d pc : Nat} {ret : Option FieldType} {L : List (Option Value)} {st : List Value} {σ : Sg} (C : Cx K layC cc RX3 nL d ret)  {a0 : Int32} {a1 : Int32}  {p : Int32 × Sg} (hd : decode cc pc = .ok (.invokevirtual 38, 3)) (e : fX3_fewestFor a0 a1 σ = some p) (hdd : 2 + 1 ≤ d) (hLn : L.length = nL) (hr : (st.map fun v => v.category).sum ≤ 8) (k : G K (pc + 3) L (.int p.1 :: st) (Wd K layC p.2)) : G K pc L (.int a1 :: .int a0 :: .ref (kad K 58) :: st) (Wd K layC σ) :=
  g_callV C (As := [.int a0, .int a1]) (rest := st) (o := 58) (ci := 3) hd (ct_X3_fewestFor e) cw_X3_fewestFor (Or.inl aw_588) aw_590 aw_17 rfl rfl rfl hdd hLn rfl rfl hr (fun v τ q => by obtain ⟨rfl, rfl⟩ := q; exact k)
def fX3_tugsFor_b5 (x1 : Int32) (x3 : Int32) (x4 : Int32) (σ : Sg) : Option ((Int32 × Int32 × Sg) ⊕ ((Int32 × Sg))) :=
  if x1 ≤ x4 then (some (.inr (x3, σ))) else (Option.bind (fX3_fewestFor x4 x3 σ) fun p1 => (some (.inl ((x3 - p1.1), (x4 + (1 : Int32)), p1.2))))
def fX3_tugsFor_b0 (x1 : Int32) (x2 : Int32) (σ : Sg) : Option (Int32 × Sg) :=
  Option.bind (lp (fun s => fX3_tugsFor_b5 x1 s.1 s.2.1 s.2.2) FU (x2, (0 : Int32), σ)) fun t3 => Option.bind (fX3_fewestFor x1 t3.1 t3.2) fun p5 => (some (p5.1, p5.2))
set_option maxRecDepth 4000 in
theorem bX3_tugsFor_b5 {K : KT} {x1 : Int32} {x3 : Int32} {x4 : Int32} {σ : Sg} {o : (Int32 × Int32 × Sg) ⊕ ((Int32 × Sg))} (C : Cx K layC cX3_tugsFor RX3 5 (3) (some .int))  (hI : ∀ s' : Int32 × Int32 × Sg, o = .inl s' → G K 5 [some (.ref (kad K 58)), some (.int x1), none, some (.int s'.1), some (.int s'.2.1)] [] (Wd K layC s'.2.2)) (hE0 : ∀ t : Int32 × Sg, o = .inr t → G K 27 [some (.ref (kad K 58)), some (.int x1), none, some (.int t.1), none] [] (Wd K layC t.2)) (h : fX3_tugsFor_b5 x1 x3 x4 σ = some o) : G K 5 [some (.ref (kad K 58)), some (.int x1), none, some (.int x3), some (.int x4)] [] (Wd K layC σ) := by
  unfold fX3_tugsFor_b5 at h
  refine g_iload C.c dX3_tugsFor_5 (i := 4) rfl ?_
  refine g_iload_n C.c dX3_tugsFor_7 rfl (i := 1) rfl ?_
  refine g_icmp_ge C.c (tgt := 27) dX3_tugsFor_8 (by decide) (fun c => ?_) (fun c => ?_)
  · replace h := ite_t c h
    have g9 := hE0 _ (Option.some.inj h).symm
    exact g_mask [true, true, false, true, false] rfl g9
  · replace h := ite_f c h
    refine g_iload_n C.c dX3_tugsFor_11 rfl (i := 3) rfl ?_
    refine g_aload_n C.c dX3_tugsFor_12 rfl (i := 0) rfl ?_
    refine g_iload C.c dX3_tugsFor_13 (i := 4) rfl ?_
    refine g_iload_n C.c dX3_tugsFor_15 rfl (i := 3) rfl ?_
    obtain ⟨p1, e2, h⟩ := Option.bind_eq_some_iff.mp h
    refine kc_3_38 C dX3_tugsFor_16 e2 (Nat.le_of_ble_eq_true rfl) rfl (Nat.le_of_ble_eq_true rfl) ?_
    refine g_isub C.c dX3_tugsFor_19 ?_
    refine g_istore_n C.c (i := 3) (L' := [some (.ref (kad K 58)), some (.int x1), none, some (.int (x3 - p1.1)), some (.int x4)]) dX3_tugsFor_20 rfl (Nat.le_of_ble_eq_true rfl) rfl ?_
    refine g_iinc C.c (i := 4) (y := (1 : Int32)) (L' := [some (.ref (kad K 58)), some (.int x1), none, some (.int (x3 - p1.1)), some (.int (x4 + (1 : Int32)))]) dX3_tugsFor_21 rfl (by decide) (Nat.le_of_ble_eq_true rfl) rfl ?_
    refine g_goto C.c (tgt := 5) dX3_tugsFor_24 (by decide) ?_
    have g9 := hI _ (Option.some.inj h).symm
    exact g_mask [true, true, false, true, true] rfl g9
set_option maxRecDepth 4000 in
theorem bX3_tugsFor_b0 {K : KT} {x1 : Int32} {x2 : Int32} {σ : Sg} {o : Int32 × Sg} (C : Cx K layC cX3_tugsFor RX3 5 (3) (some .int))  (hQ : Rk K layC (okI o)) (h : fX3_tugsFor_b0 x1 x2 σ = some o) : G K 0 [some (.ref (kad K 58)), some (.int x1), some (.int x2), none, none] [] (Wd K layC σ) := by
  unfold fX3_tugsFor_b0 at h
  refine g_iload_n C.c dX3_tugsFor_0 rfl (i := 2) rfl ?_
  refine g_istore_n C.c (i := 3) (L' := [some (.ref (kad K 58)), some (.int x1), some (.int x2), some (.int x2), none]) dX3_tugsFor_1 rfl (Nat.le_of_ble_eq_true rfl) rfl ?_
  refine g_iconst C.c dX3_tugsFor_2 (v := (0 : Int32)) (by decide) ?_
  refine g_istore C.c (i := 4) (L' := [some (.ref (kad K 58)), some (.int x1), some (.int x2), some (.int x2), some (.int (0 : Int32))]) dX3_tugsFor_3 (Nat.le_of_ble_eq_true rfl) rfl ?_
  refine g_mask [true, true, false, true, true] rfl ?_
  refine lp_bind (Gh := fun s => G K 5 [some (.ref (kad K 58)), some (.int x1), none, some (.int s.1), some (.int s.2.1)] [] (Wd K layC s.2.2)) h (fun s o2 hf gI gE => ?_)
  refine bX3_tugsFor_b5 C gI (fun t3 e => ?_) hf
  · have h := gE _ e
    refine g_aload_n C.c dX3_tugsFor_27 rfl (i := 0) rfl ?_
    refine g_iload_n C.c dX3_tugsFor_28 rfl (i := 1) rfl ?_
    refine g_iload_n C.c dX3_tugsFor_29 rfl (i := 3) rfl ?_
    obtain ⟨p5, e6, h⟩ := Option.bind_eq_some_iff.mp h
    refine kc_3_38 C dX3_tugsFor_30 e6 (Nat.le_of_ble_eq_true rfl) rfl (Nat.le_of_ble_eq_true rfl) ?_
    obtain rfl := Option.some.inj h
    exact g_iret C hQ dX3_tugsFor_33 rfl ⟨rfl, rfl⟩
def fX3_tugsFor (a0 : Int32) (a1 : Int32) (σ : Sg) : Option (Int32 × Sg) := fX3_tugsFor_b0 a0 a1 σ
theorem ct_X3_tugsFor {a0 : Int32} {a1 : Int32} {σ : Sg} {p : Int32 × Sg} (h : fX3_tugsFor a0 a1 σ = some p) : Ct layC yX3_tugsFor cX3_tugsFor 5 (some .int) 3 (fun ad => [.ref (ad 58), .int a0, .int a1]) σ (okI p) :=
 ct_of (L0 := fun ad => [some (.ref (ad 58)), some (.int a0), some (.int a1), none, none]) (by decide) (fun _ => Nat.le_of_ble_eq_true rfl) (fun _ => rfl) (fun K C hQ => g_mask [true, true, true, false, false] rfl (bX3_tugsFor_b0 C hQ h))
-- X4_cutTo
theorem dX4_cutTo_0 : decode cX4_cutTo 0 = .ok (.aload_n 0, 1) := by decide +kernel
theorem dX4_cutTo_1 : decode cX4_cutTo 1 = .ok (.iconst 0, 1) := by decide +kernel
theorem dX4_cutTo_2 : decode cX4_cutTo 2 = .ok (.aload_n 0, 1) := by decide +kernel
theorem dX4_cutTo_3 : decode cX4_cutTo 3 = .ok (.getfield 21, 3) := by decide +kernel
theorem dX4_cutTo_6 : decode cX4_cutTo 6 = .ok (.iload_n 1, 1) := by decide +kernel
theorem dX4_cutTo_7 : decode cX4_cutTo 7 = .ok (.invokestatic 25, 3) := by decide +kernel
theorem dX4_cutTo_10 : decode cX4_cutTo 10 = .ok (.invokestatic 31, 3) := by decide +kernel
theorem dX4_cutTo_13 : decode cX4_cutTo 13 = .ok (.putfield 21, 3) := by decide +kernel
theorem dX4_cutTo_16 : decode cX4_cutTo 16 = .ok (.return_, 1) := by decide +kernel
theorem cw_X4_cutTo : Cw yX4_cutTo cX4_cutTo 2 none 1 := ⟨aw_411, aw_25, ⟨by decide, by decide⟩, by decide +kernel, by decide⟩
theorem gf_4_21 {K : KT} {cc : ByteArray} {nL d pc : Nat} {ret : Option FieldType} {L : List (Option Value)} {st : List Value} {σ : Sg} (C : Cx K layC cc RX4 nL d ret)  (hd : decode cc pc = .ok (.getfield 21, 3)) (k : G K (pc + 3) L (.int (rI σ 49 3) :: st) (Wd K layC σ)) : G K pc L (.ref (kad K 49) :: st) (Wd K layC σ) := g_get C (o := 49) (ci := 4) (k := 3) hd rfl rfl rfl (by decide) (Or.inl aw_230) inA4 rfl k
theorem pf_4_21 {K : KT} {cc : ByteArray} {nL d pc : Nat} {ret : Option FieldType} {L : List (Option Value)} {st : List Value} {σ : Sg} (C : Cx K layC cc RX4 nL d ret)  {v : Int32}  (hd : decode cc pc = .ok (.putfield 21, 3)) (k : G K (pc + 3) L st (Wd K layC (wI σ 49 3 v))) : G K pc L (.int v :: .ref (kad K 49) :: st) (Wd K layC σ) := g_putI C (o := 49) (ci := 4) (k := 3) hd rfl rfl rfl (by decide) (Or.inl aw_230) inA4 tyX4_ok nmX4 rfl rfl rfl k
def fX4_cutTo_b0 (x1 : Int32) (σ : Sg) : Option (Sg) :=
  some (wI σ 49 3 (imax (0 : Int32) (imin (rI σ 49 3) x1)))
set_option maxRecDepth 4000 in
theorem bX4_cutTo_b0 {K : KT} {x1 : Int32} {σ : Sg} {o : Sg} (C : Cx K layC cX4_cutTo RX4 2 (1) none)  (hQ : Rk K layC (okV o)) (h : fX4_cutTo_b0 x1 σ = some o) : G K 0 [some (.ref (kad K 49)), some (.int x1)] [] (Wd K layC σ) := by
  unfold fX4_cutTo_b0 at h
  refine g_aload_n C.c dX4_cutTo_0 rfl (i := 0) rfl ?_
  refine g_iconst C.c dX4_cutTo_1 (v := (0 : Int32)) (by decide) ?_
  refine g_aload_n C.c dX4_cutTo_2 rfl (i := 0) rfl ?_
  refine gf_4_21 C dX4_cutTo_3 ?_
  refine g_iload_n C.c dX4_cutTo_6 rfl (i := 1) rfl ?_
  refine g_min C.c dX4_cutTo_7 aw_412 aw_413 aw_29 aw_414 rfl (Nat.le_of_ble_eq_true rfl) (Nat.le_of_ble_eq_true rfl) ?_
  refine g_max C.c dX4_cutTo_10 aw_415 aw_416 aw_29 aw_417 rfl (Nat.le_of_ble_eq_true rfl) (Nat.le_of_ble_eq_true rfl) ?_
  refine pf_4_21 C dX4_cutTo_13 ?_
  obtain rfl := Option.some.inj h
  exact g_vret C hQ dX4_cutTo_16 ⟨rfl, rfl⟩
def fX4_cutTo (a0 : Int32) (σ : Sg) : Option (Sg) := fX4_cutTo_b0 a0 σ
theorem ct_X4_cutTo {a0 : Int32} {σ : Sg} {p : Sg} (h : fX4_cutTo a0 σ = some p) : Ct layC yX4_cutTo cX4_cutTo 2 none 1 (fun ad => [.ref (ad 49), .int a0]) σ (okV p) :=
 ct_of (L0 := fun ad => [some (.ref (ad 49)), some (.int a0)]) (by decide) (fun _ => Nat.le_of_ble_eq_true rfl) (fun _ => rfl) (fun K C hQ => g_mask [true, true] rfl (bX4_cutTo_b0 C hQ h))
end
section
-- X9_letters
theorem dX9_letters_0 : decode cX9_letters 0 = .ok (.aload_n 0, 1) := by decide +kernel
theorem dX9_letters_1 : decode cX9_letters 1 = .ok (.getfield 10, 3) := by decide +kernel
theorem dX9_letters_4 : decode cX9_letters 4 = .ok (.lload_n 1, 1) := by decide +kernel
theorem dX9_letters_5 : decode cX9_letters 5 = .ok (.invokevirtual 70, 3) := by decide +kernel
theorem dX9_letters_8 : decode cX9_letters 8 = .ok (.ireturn, 1) := by decide +kernel
theorem cw_X9_letters : Cw yX9_letters cX9_letters 3 (some .int) 1 := ⟨aw_625, aw_19, ⟨by decide, by decide⟩, by decide +kernel, by decide⟩
theorem gf_9_10 {K : KT} {cc : ByteArray} {nL d pc : Nat} {ret : Option FieldType} {L : List (Option Value)} {st : List Value} {σ : Sg} (C : Cx K layC cc RX9 nL d ret)  (hd : decode cc pc = .ok (.getfield 10, 3)) (k : G K (pc + 3) L (.ref (kad K 1) :: st) (Wd K layC σ)) : G K pc L (.ref (kad K 0) :: st) (Wd K layC σ) := g_get C (o := 0) (ci := 9) (k := 0) hd rfl rfl rfl (by decide) (Or.inl aw_307) inA9 rfl k
theorem kc_9_70 {K : KT} {cc : ByteArray} {nL d pc : Nat} {ret : Option FieldType} {L : List (Option Value)} {st : List Value} {σ : Sg} (C : Cx K layC cc RX9 nL d ret)  {a0 : Int64}  {p : Int32 × Sg} (hd : decode cc pc = .ok (.invokevirtual 70, 3)) (e : fX6_append a0 σ = some p) (hdd : 2 + 1 ≤ d) (hLn : L.length = nL) (hr : (st.map fun v => v.category).sum ≤ 8) (k : G K (pc + 3) L (.int p.1 :: st) (Wd K layC p.2)) : G K pc L (.long a0 :: .ref (kad K 1) :: st) (Wd K layC σ) :=
  g_callV C (As := [.long a0]) (rest := st) (o := 1) (ci := 6) hd (ct_X6_append e) cw_X6_append (Or.inl aw_626) aw_627 aw_628 rfl rfl rfl hdd hLn rfl rfl hr (fun v τ q => by obtain ⟨rfl, rfl⟩ := q; exact k)
def fX9_letters_b0 (x1 : Int64) (σ : Sg) : Option (Int32 × Sg) :=
  Option.bind (fX6_append x1 σ) fun p1 => (some (p1.1, p1.2))
set_option maxRecDepth 4000 in
theorem bX9_letters_b0 {K : KT} {x1 : Int64} {σ : Sg} {o : Int32 × Sg} (C : Cx K layC cX9_letters RX9 3 (3) (some .int))  (hQ : Rk K layC (okI o)) (h : fX9_letters_b0 x1 σ = some o) : G K 0 [some (.ref (kad K 0)), some (.long x1), none] [] (Wd K layC σ) := by
  unfold fX9_letters_b0 at h
  refine g_aload_n C.c dX9_letters_0 rfl (i := 0) rfl ?_
  refine gf_9_10 C dX9_letters_1 ?_
  refine g_lload_n C.c dX9_letters_4 rfl (i := 1) rfl ?_
  obtain ⟨p1, e2, h⟩ := Option.bind_eq_some_iff.mp h
  refine kc_9_70 C dX9_letters_5 e2 (Nat.le_of_ble_eq_true rfl) rfl (Nat.le_of_ble_eq_true rfl) ?_
  obtain rfl := Option.some.inj h
  exact g_iret C hQ dX9_letters_8 rfl ⟨rfl, rfl⟩
def fX9_letters (a0 : Int64) (σ : Sg) : Option (Int32 × Sg) := fX9_letters_b0 a0 σ
theorem ct_X9_letters {a0 : Int64} {σ : Sg} {p : Int32 × Sg} (h : fX9_letters a0 σ = some p) : Ct layC yX9_letters cX9_letters 3 (some .int) 3 (fun ad => [.ref (ad 0), .long a0]) σ (okI p) :=
 ct_of (L0 := fun ad => [some (.ref (ad 0)), some (.long a0), none]) (by decide) (fun _ => Nat.le_of_ble_eq_true rfl) (fun _ => rfl) (fun K C hQ => g_mask [true, true, false] rfl (bX9_letters_b0 C hQ h))
-- X9_fault
theorem dX9_fault_0 : decode cX9_fault 0 = .ok (.aload_n 0, 1) := by decide +kernel
theorem dX9_fault_1 : decode cX9_fault 1 = .ok (.getfield 10, 3) := by decide +kernel
theorem dX9_fault_4 : decode cX9_fault 4 = .ok (.invokevirtual 78, 3) := by decide +kernel
theorem dX9_fault_7 : decode cX9_fault 7 = .ok (.ireturn, 1) := by decide +kernel
theorem cw_X9_fault : Cw yX9_fault cX9_fault 1 (some .int) 0 := ⟨aw_347, aw_19, ⟨by decide, by decide⟩, by decide +kernel, by decide⟩
theorem kc_9_78 {K : KT} {cc : ByteArray} {nL d pc : Nat} {ret : Option FieldType} {L : List (Option Value)} {st : List Value} {σ : Sg} (C : Cx K layC cc RX9 nL d ret)    {p : Int32 × Sg} (hd : decode cc pc = .ok (.invokevirtual 78, 3)) (e : fX6_firstWrong σ = some p) (hdd : 3 + 1 ≤ d) (hLn : L.length = nL) (hr : (st.map fun v => v.category).sum ≤ 8) (k : G K (pc + 3) L (.int p.1 :: st) (Wd K layC p.2)) : G K pc L (.ref (kad K 1) :: st) (Wd K layC σ) :=
  g_callV C (As := []) (rest := st) (o := 1) (ci := 6) hd (ct_X6_firstWrong e) cw_X6_firstWrong (Or.inl aw_348) aw_349 aw_350 rfl rfl rfl hdd hLn rfl rfl hr (fun v τ q => by obtain ⟨rfl, rfl⟩ := q; exact k)
def fX9_fault_b0  (σ : Sg) : Option (Int32 × Sg) :=
  Option.bind (fX6_firstWrong σ) fun p1 => (some (p1.1, p1.2))
set_option maxRecDepth 4000 in
theorem bX9_fault_b0 {K : KT}  {σ : Sg} {o : Int32 × Sg} (C : Cx K layC cX9_fault RX9 1 (4) (some .int))  (hQ : Rk K layC (okI o)) (h : fX9_fault_b0  σ = some o) : G K 0 [some (.ref (kad K 0))] [] (Wd K layC σ) := by
  unfold fX9_fault_b0 at h
  refine g_aload_n C.c dX9_fault_0 rfl (i := 0) rfl ?_
  refine gf_9_10 C dX9_fault_1 ?_
  obtain ⟨p1, e2, h⟩ := Option.bind_eq_some_iff.mp h
  refine kc_9_78 C dX9_fault_4 e2 (Nat.le_of_ble_eq_true rfl) rfl (Nat.le_of_ble_eq_true rfl) ?_
  obtain rfl := Option.some.inj h
  exact g_iret C hQ dX9_fault_7 rfl ⟨rfl, rfl⟩
def fX9_fault (σ : Sg) : Option (Int32 × Sg) := fX9_fault_b0 σ
theorem ct_X9_fault {σ : Sg} {p : Int32 × Sg} (h : fX9_fault σ = some p) : Ct layC yX9_fault cX9_fault 1 (some .int) 4 (fun ad => [.ref (ad 0)]) σ (okI p) :=
 ct_of (L0 := fun ad => [some (.ref (ad 0))]) (by decide) (fun _ => Nat.le_of_ble_eq_true rfl) (fun _ => rfl) (fun K C hQ => g_mask [true] rfl (bX9_fault_b0 C hQ h))
-- X9_sea
theorem dX9_sea_0 : decode cX9_sea 0 = .ok (.aload_n 0, 1) := by decide +kernel
theorem dX9_sea_1 : decode cX9_sea 1 = .ok (.getfield 10, 3) := by decide +kernel
theorem dX9_sea_4 : decode cX9_sea 4 = .ok (.invokevirtual 81, 3) := by decide +kernel
theorem dX9_sea_7 : decode cX9_sea 7 = .ok (.ifCond .ne 6, 3) := by decide +kernel
theorem dX9_sea_10 : decode cX9_sea 10 = .ok (.bipush (-103), 2) := by decide +kernel
theorem dX9_sea_12 : decode cX9_sea 12 = .ok (.ireturn, 1) := by decide +kernel
theorem dX9_sea_13 : decode cX9_sea 13 = .ok (.aload_n 0, 1) := by decide +kernel
theorem dX9_sea_14 : decode cX9_sea 14 = .ok (.getfield 27, 3) := by decide +kernel
theorem dX9_sea_17 : decode cX9_sea 17 = .ok (.aload_n 0, 1) := by decide +kernel
theorem dX9_sea_18 : decode cX9_sea 18 = .ok (.getfield 10, 3) := by decide +kernel
theorem dX9_sea_21 : decode cX9_sea 21 = .ok (.invokevirtual 85, 3) := by decide +kernel
theorem dX9_sea_24 : decode cX9_sea 24 = .ok (.aload_n 0, 1) := by decide +kernel
theorem dX9_sea_25 : decode cX9_sea 25 = .ok (.getfield 10, 3) := by decide +kernel
theorem dX9_sea_28 : decode cX9_sea 28 = .ok (.invokevirtual 74, 3) := by decide +kernel
theorem dX9_sea_31 : decode cX9_sea 31 = .ok (.pop, 1) := by decide +kernel
theorem dX9_sea_32 : decode cX9_sea 32 = .ok (.aload_n 0, 1) := by decide +kernel
theorem dX9_sea_33 : decode cX9_sea 33 = .ok (.iconst 0, 1) := by decide +kernel
theorem dX9_sea_34 : decode cX9_sea 34 = .ok (.putfield 91, 3) := by decide +kernel
theorem dX9_sea_37 : decode cX9_sea 37 = .ok (.aload_n 0, 1) := by decide +kernel
theorem dX9_sea_38 : decode cX9_sea 38 = .ok (.getfield 44, 3) := by decide +kernel
theorem dX9_sea_41 : decode cX9_sea 41 = .ok (.iconst 0, 1) := by decide +kernel
theorem dX9_sea_42 : decode cX9_sea 42 = .ok (.invokevirtual 95, 3) := by decide +kernel
theorem dX9_sea_45 : decode cX9_sea 45 = .ok (.aload_n 0, 1) := by decide +kernel
theorem dX9_sea_46 : decode cX9_sea 46 = .ok (.dup, 1) := by decide +kernel
theorem dX9_sea_47 : decode cX9_sea 47 = .ok (.getfield 99, 3) := by decide +kernel
theorem dX9_sea_50 : decode cX9_sea 50 = .ok (.iconst 1, 1) := by decide +kernel
theorem dX9_sea_51 : decode cX9_sea 51 = .ok (.iadd, 1) := by decide +kernel
theorem dX9_sea_52 : decode cX9_sea 52 = .ok (.putfield 99, 3) := by decide +kernel
theorem dX9_sea_55 : decode cX9_sea 55 = .ok (.aload_n 0, 1) := by decide +kernel
theorem dX9_sea_56 : decode cX9_sea 56 = .ok (.getfield 27, 3) := by decide +kernel
theorem dX9_sea_59 : decode cX9_sea 59 = .ok (.getfield 102, 3) := by decide +kernel
theorem dX9_sea_62 : decode cX9_sea 62 = .ok (.ireturn, 1) := by decide +kernel
theorem cw_X9_sea : Cw yX9_sea cX9_sea 1 (some .int) 0 := ⟨aw_370, aw_19, ⟨by decide, by decide⟩, by decide +kernel, by decide⟩
theorem kc_9_81 {K : KT} {cc : ByteArray} {nL d pc : Nat} {ret : Option FieldType} {L : List (Option Value)} {st : List Value} {σ : Sg} (C : Cx K layC cc RX9 nL d ret)    {p : Int32 × Sg} (hd : decode cc pc = .ok (.invokevirtual 81, 3)) (e : fX6_isSea σ = some p) (hdd : 4 + 1 ≤ d) (hLn : L.length = nL) (hr : (st.map fun v => v.category).sum ≤ 8) (k : G K (pc + 3) L (.int p.1 :: st) (Wd K layC p.2)) : G K pc L (.ref (kad K 1) :: st) (Wd K layC σ) :=
  g_callV C (As := []) (rest := st) (o := 1) (ci := 6) hd (ct_X6_isSea e) cw_X6_isSea (Or.inl aw_371) aw_372 aw_373 rfl rfl rfl hdd hLn rfl rfl hr (fun v τ q => by obtain ⟨rfl, rfl⟩ := q; exact k)
theorem gf_9_27 {K : KT} {cc : ByteArray} {nL d pc : Nat} {ret : Option FieldType} {L : List (Option Value)} {st : List Value} {σ : Sg} (C : Cx K layC cc RX9 nL d ret)  (hd : decode cc pc = .ok (.getfield 27, 3)) (k : G K (pc + 3) L (.ref (kad K 4) :: st) (Wd K layC σ)) : G K pc L (.ref (kad K 0) :: st) (Wd K layC σ) := g_get C (o := 0) (ci := 9) (k := 2) hd rfl rfl rfl (by decide) (Or.inl aw_309) inA9 rfl k
theorem kc_9_85 {K : KT} {cc : ByteArray} {nL d pc : Nat} {ret : Option FieldType} {L : List (Option Value)} {st : List Value} {σ : Sg} (C : Cx K layC cc RX9 nL d ret)    {p : Sg} (hd : decode cc pc = .ok (.invokevirtual 85, 3)) (e : fX7_lay σ = some p) (hdd : 3 + 1 ≤ d) (hLn : L.length = nL) (hr : (st.map fun v => v.category).sum ≤ 8) (k : G K (pc + 3) L (st) (Wd K layC p)) : G K pc L (.ref (kad K 1) :: .ref (kad K 4) :: st) (Wd K layC σ) :=
  g_callV C (As := [.ref (kad K 1)]) (rest := st) (o := 4) (ci := 7) hd (ct_X7_lay e) cw_X7_lay (Or.inl aw_376) aw_377 aw_378 rfl rfl rfl hdd hLn rfl rfl hr (fun v τ q => by obtain ⟨rfl, rfl⟩ := q; exact k)
theorem kc_9_74 {K : KT} {cc : ByteArray} {nL d pc : Nat} {ret : Option FieldType} {L : List (Option Value)} {st : List Value} {σ : Sg} (C : Cx K layC cc RX9 nL d ret)    {p : Int32 × Sg} (hd : decode cc pc = .ok (.invokevirtual 74, 3)) (e : fX6_clear σ = some p) (hdd : 1 + 1 ≤ d) (hLn : L.length = nL) (hr : (st.map fun v => v.category).sum ≤ 8) (k : G K (pc + 3) L (.int p.1 :: st) (Wd K layC p.2)) : G K pc L (.ref (kad K 1) :: st) (Wd K layC σ) :=
  g_callV C (As := []) (rest := st) (o := 1) (ci := 6) hd (ct_X6_clear e) cw_X6_clear (Or.inl aw_404) aw_405 aw_406 rfl rfl rfl hdd hLn rfl rfl hr (fun v τ q => by obtain ⟨rfl, rfl⟩ := q; exact k)
theorem pf_9_91 {K : KT} {cc : ByteArray} {nL d pc : Nat} {ret : Option FieldType} {L : List (Option Value)} {st : List Value} {σ : Sg} (C : Cx K layC cc RX9 nL d ret)  {v : Int32}  (hd : decode cc pc = .ok (.putfield 91, 3)) (k : G K (pc + 3) L st (Wd K layC (wI σ 0 9 v))) : G K pc L (.int v :: .ref (kad K 0) :: st) (Wd K layC σ) := g_putI C (o := 0) (ci := 9) (k := 9) hd rfl rfl rfl (by decide) (Or.inl aw_316) inA9 tyX9_ok nmX9 rfl rfl rfl k
theorem gf_9_44 {K : KT} {cc : ByteArray} {nL d pc : Nat} {ret : Option FieldType} {L : List (Option Value)} {st : List Value} {σ : Sg} (C : Cx K layC cc RX9 nL d ret)  (hd : decode cc pc = .ok (.getfield 44, 3)) (k : G K (pc + 3) L (.ref (kad K 49) :: st) (Wd K layC σ)) : G K pc L (.ref (kad K 0) :: st) (Wd K layC σ) := g_get C (o := 0) (ci := 9) (k := 5) hd rfl rfl rfl (by decide) (Or.inl aw_312) inA9 rfl k
theorem kc_9_95 {K : KT} {cc : ByteArray} {nL d pc : Nat} {ret : Option FieldType} {L : List (Option Value)} {st : List Value} {σ : Sg} (C : Cx K layC cc RX9 nL d ret)  {a0 : Int32}  {p : Sg} (hd : decode cc pc = .ok (.invokevirtual 95, 3)) (e : fX4_cutTo a0 σ = some p) (hdd : 1 + 1 ≤ d) (hLn : L.length = nL) (hr : (st.map fun v => v.category).sum ≤ 8) (k : G K (pc + 3) L (st) (Wd K layC p)) : G K pc L (.int a0 :: .ref (kad K 49) :: st) (Wd K layC σ) :=
  g_callV C (As := [.int a0]) (rest := st) (o := 49) (ci := 4) hd (ct_X4_cutTo e) cw_X4_cutTo (Or.inl aw_408) aw_409 aw_410 rfl rfl rfl hdd hLn rfl rfl hr (fun v τ q => by obtain ⟨rfl, rfl⟩ := q; exact k)
theorem gf_9_99 {K : KT} {cc : ByteArray} {nL d pc : Nat} {ret : Option FieldType} {L : List (Option Value)} {st : List Value} {σ : Sg} (C : Cx K layC cc RX9 nL d ret)  (hd : decode cc pc = .ok (.getfield 99, 3)) (k : G K (pc + 3) L (.int (rI σ 0 10) :: st) (Wd K layC σ)) : G K pc L (.ref (kad K 0) :: st) (Wd K layC σ) := g_get C (o := 0) (ci := 9) (k := 10) hd rfl rfl rfl (by decide) (Or.inl aw_317) inA9 rfl k
theorem pf_9_99 {K : KT} {cc : ByteArray} {nL d pc : Nat} {ret : Option FieldType} {L : List (Option Value)} {st : List Value} {σ : Sg} (C : Cx K layC cc RX9 nL d ret)  {v : Int32}  (hd : decode cc pc = .ok (.putfield 99, 3)) (k : G K (pc + 3) L st (Wd K layC (wI σ 0 10 v))) : G K pc L (.int v :: .ref (kad K 0) :: st) (Wd K layC σ) := g_putI C (o := 0) (ci := 9) (k := 10) hd rfl rfl rfl (by decide) (Or.inl aw_317) inA9 tyX9_ok nmX9 rfl rfl rfl k
theorem gf_9_102 {K : KT} {cc : ByteArray} {nL d pc : Nat} {ret : Option FieldType} {L : List (Option Value)} {st : List Value} {σ : Sg} (C : Cx K layC cc RX9 nL d ret)  (hd : decode cc pc = .ok (.getfield 102, 3)) (k : G K (pc + 3) L (.int (rI σ 4 5) :: st) (Wd K layC σ)) : G K pc L (.ref (kad K 4) :: st) (Wd K layC σ) := g_get C (o := 4) (ci := 7) (k := 5) hd rfl rfl rfl (by decide) (Or.inr ⟨_, aw_96⟩) inA7 rfl k
def fX9_sea_b0  (σ : Sg) : Option (Int32 × Sg) :=
  Option.bind (fX6_isSea σ) fun p1 => (if p1.1 = 0 then (some ((-103 : Int32), p1.2)) else (Option.bind (fX7_lay p1.2) fun p3 => (Option.bind (fX6_clear p3) fun p5 => (Option.bind (fX4_cutTo (0 : Int32) (wI p5.2 0 9 (0 : Int32))) fun p7 => (some ((rI (wI p7 0 10 ((rI p7 0 10) + (1 : Int32))) 4 5), (wI p7 0 10 ((rI p7 0 10) + (1 : Int32)))))))))
set_option maxRecDepth 4000 in
theorem bX9_sea_b0 {K : KT}  {σ : Sg} {o : Int32 × Sg} (C : Cx K layC cX9_sea RX9 1 (5) (some .int))  (hQ : Rk K layC (okI o)) (h : fX9_sea_b0  σ = some o) : G K 0 [some (.ref (kad K 0))] [] (Wd K layC σ) := by
  unfold fX9_sea_b0 at h
  refine g_aload_n C.c dX9_sea_0 rfl (i := 0) rfl ?_
  refine gf_9_10 C dX9_sea_1 ?_
  obtain ⟨p1, e2, h⟩ := Option.bind_eq_some_iff.mp h
  refine kc_9_81 C dX9_sea_4 e2 (Nat.le_of_ble_eq_true rfl) rfl (Nat.le_of_ble_eq_true rfl) ?_
  refine g_if_ne C.c (tgt := 13) dX9_sea_7 (by decide) (fun c => ?_) (fun c => ?_)
  · replace h := ite_f c h
    refine g_aload_n C.c dX9_sea_13 rfl (i := 0) rfl ?_
    refine gf_9_27 C dX9_sea_14 ?_
    refine g_aload_n C.c dX9_sea_17 rfl (i := 0) rfl ?_
    refine gf_9_10 C dX9_sea_18 ?_
    obtain ⟨p3, e4, h⟩ := Option.bind_eq_some_iff.mp h
    refine kc_9_85 C dX9_sea_21 e4 (Nat.le_of_ble_eq_true rfl) rfl (Nat.le_of_ble_eq_true rfl) ?_
    refine g_aload_n C.c dX9_sea_24 rfl (i := 0) rfl ?_
    refine gf_9_10 C dX9_sea_25 ?_
    obtain ⟨p5, e6, h⟩ := Option.bind_eq_some_iff.mp h
    refine kc_9_74 C dX9_sea_28 e6 (Nat.le_of_ble_eq_true rfl) rfl (Nat.le_of_ble_eq_true rfl) ?_
    refine g_pop C.c dX9_sea_31 rfl ?_
    refine g_aload_n C.c dX9_sea_32 rfl (i := 0) rfl ?_
    refine g_iconst C.c dX9_sea_33 (v := (0 : Int32)) (by decide) ?_
    refine pf_9_91 C dX9_sea_34 ?_
    refine g_aload_n C.c dX9_sea_37 rfl (i := 0) rfl ?_
    refine gf_9_44 C dX9_sea_38 ?_
    refine g_iconst C.c dX9_sea_41 (v := (0 : Int32)) (by decide) ?_
    obtain ⟨p7, e8, h⟩ := Option.bind_eq_some_iff.mp h
    refine kc_9_95 C dX9_sea_42 e8 (Nat.le_of_ble_eq_true rfl) rfl (Nat.le_of_ble_eq_true rfl) ?_
    refine g_aload_n C.c dX9_sea_45 rfl (i := 0) rfl ?_
    refine g_dup C.c dX9_sea_46 rfl ?_
    refine gf_9_99 C dX9_sea_47 ?_
    refine g_iconst C.c dX9_sea_50 (v := (1 : Int32)) (by decide) ?_
    refine g_iadd C.c dX9_sea_51 ?_
    refine pf_9_99 C dX9_sea_52 ?_
    refine g_aload_n C.c dX9_sea_55 rfl (i := 0) rfl ?_
    refine gf_9_27 C dX9_sea_56 ?_
    refine gf_9_102 C dX9_sea_59 ?_
    obtain rfl := Option.some.inj h
    exact g_iret C hQ dX9_sea_62 rfl ⟨rfl, rfl⟩
  · replace h := ite_t c h
    refine g_bipush C.c dX9_sea_10 (v := (-103 : Int32)) (by decide) ?_
    obtain rfl := Option.some.inj h
    exact g_iret C hQ dX9_sea_12 rfl ⟨rfl, rfl⟩
def fX9_sea (σ : Sg) : Option (Int32 × Sg) := fX9_sea_b0 σ
theorem ct_X9_sea {σ : Sg} {p : Int32 × Sg} (h : fX9_sea σ = some p) : Ct layC yX9_sea cX9_sea 1 (some .int) 5 (fun ad => [.ref (ad 0)]) σ (okI p) :=
 ct_of (L0 := fun ad => [some (.ref (ad 0))]) (by decide) (fun _ => Nat.le_of_ble_eq_true rfl) (fun _ => rfl) (fun K C hQ => g_mask [true] rfl (bX9_sea_b0 C hQ h))
-- X9_square
theorem dX9_square_0 : decode cX9_square 0 = .ok (.aload_n 0, 1) := by decide +kernel
theorem dX9_square_1 : decode cX9_square 1 = .ok (.getfield 27, 3) := by decide +kernel
theorem dX9_square_4 : decode cX9_square 4 = .ok (.iload_n 1, 1) := by decide +kernel
theorem dX9_square_5 : decode cX9_square 5 = .ok (.invokevirtual 105, 3) := by decide +kernel
theorem dX9_square_8 : decode cX9_square 8 = .ok (.ifCond .ne 6, 3) := by decide +kernel
theorem dX9_square_11 : decode cX9_square 11 = .ok (.bipush (-101), 2) := by decide +kernel
theorem dX9_square_13 : decode cX9_square 13 = .ok (.ireturn, 1) := by decide +kernel
theorem dX9_square_14 : decode cX9_square 14 = .ok (.iload_n 2, 1) := by decide +kernel
theorem dX9_square_15 : decode cX9_square 15 = .ok (.tableswitch 55 0 2 #[25, 35, 45], 25) := by decide +kernel
theorem dX9_square_40 : decode cX9_square 40 = .ok (.aload_n 0, 1) := by decide +kernel
theorem dX9_square_41 : decode cX9_square 41 = .ok (.getfield 27, 3) := by decide +kernel
theorem dX9_square_44 : decode cX9_square 44 = .ok (.getfield 109, 3) := by decide +kernel
theorem dX9_square_47 : decode cX9_square 47 = .ok (.iload_n 1, 1) := by decide +kernel
theorem dX9_square_48 : decode cX9_square 48 = .ok (.iaload, 1) := by decide +kernel
theorem dX9_square_49 : decode cX9_square 49 = .ok (.ireturn, 1) := by decide +kernel
theorem dX9_square_50 : decode cX9_square 50 = .ok (.aload_n 0, 1) := by decide +kernel
theorem dX9_square_51 : decode cX9_square 51 = .ok (.getfield 27, 3) := by decide +kernel
theorem dX9_square_54 : decode cX9_square 54 = .ok (.getfield 113, 3) := by decide +kernel
theorem dX9_square_57 : decode cX9_square 57 = .ok (.iload_n 1, 1) := by decide +kernel
theorem dX9_square_58 : decode cX9_square 58 = .ok (.iaload, 1) := by decide +kernel
theorem dX9_square_59 : decode cX9_square 59 = .ok (.ireturn, 1) := by decide +kernel
theorem dX9_square_60 : decode cX9_square 60 = .ok (.aload_n 0, 1) := by decide +kernel
theorem dX9_square_61 : decode cX9_square 61 = .ok (.getfield 27, 3) := by decide +kernel
theorem dX9_square_64 : decode cX9_square 64 = .ok (.getfield 116, 3) := by decide +kernel
theorem dX9_square_67 : decode cX9_square 67 = .ok (.iload_n 1, 1) := by decide +kernel
theorem dX9_square_68 : decode cX9_square 68 = .ok (.iaload, 1) := by decide +kernel
theorem dX9_square_69 : decode cX9_square 69 = .ok (.ireturn, 1) := by decide +kernel
theorem dX9_square_70 : decode cX9_square 70 = .ok (.bipush (-102), 2) := by decide +kernel
theorem dX9_square_72 : decode cX9_square 72 = .ok (.ireturn, 1) := by decide +kernel
theorem cw_X9_square : Cw yX9_square cX9_square 3 (some .int) 2 := ⟨aw_421, aw_19, ⟨by decide, by decide⟩, by decide +kernel, by decide⟩
theorem kc_9_105 {K : KT} {cc : ByteArray} {nL d pc : Nat} {ret : Option FieldType} {L : List (Option Value)} {st : List Value} {σ : Sg} (C : Cx K layC cc RX9 nL d ret)  {a0 : Int32}  {p : Int32 × Sg} (hd : decode cc pc = .ok (.invokevirtual 105, 3)) (e : fX7_has a0 σ = some p) (hdd : 1 + 1 ≤ d) (hLn : L.length = nL) (hr : (st.map fun v => v.category).sum ≤ 8) (k : G K (pc + 3) L (.int p.1 :: st) (Wd K layC p.2)) : G K pc L (.int a0 :: .ref (kad K 4) :: st) (Wd K layC σ) :=
  g_callV C (As := [.int a0]) (rest := st) (o := 4) (ci := 7) hd (ct_X7_has e) cw_X7_has (Or.inl aw_422) aw_423 aw_424 rfl rfl rfl hdd hLn rfl rfl hr (fun v τ q => by obtain ⟨rfl, rfl⟩ := q; exact k)
theorem gf_9_109 {K : KT} {cc : ByteArray} {nL d pc : Nat} {ret : Option FieldType} {L : List (Option Value)} {st : List Value} {σ : Sg} (C : Cx K layC cc RX9 nL d ret)  (hd : decode cc pc = .ok (.getfield 109, 3)) (k : G K (pc + 3) L (.ref (kad K 5) :: st) (Wd K layC σ)) : G K pc L (.ref (kad K 4) :: st) (Wd K layC σ) := g_get C (o := 4) (ci := 7) (k := 0) hd rfl rfl rfl (by decide) (Or.inr ⟨_, aw_84⟩) inA7 rfl k
theorem gf_9_113 {K : KT} {cc : ByteArray} {nL d pc : Nat} {ret : Option FieldType} {L : List (Option Value)} {st : List Value} {σ : Sg} (C : Cx K layC cc RX9 nL d ret)  (hd : decode cc pc = .ok (.getfield 113, 3)) (k : G K (pc + 3) L (.ref (kad K 6) :: st) (Wd K layC σ)) : G K pc L (.ref (kad K 4) :: st) (Wd K layC σ) := g_get C (o := 4) (ci := 7) (k := 1) hd rfl rfl rfl (by decide) (Or.inr ⟨_, aw_87⟩) inA7 rfl k
theorem gf_9_116 {K : KT} {cc : ByteArray} {nL d pc : Nat} {ret : Option FieldType} {L : List (Option Value)} {st : List Value} {σ : Sg} (C : Cx K layC cc RX9 nL d ret)  (hd : decode cc pc = .ok (.getfield 116, 3)) (k : G K (pc + 3) L (.ref (kad K 7) :: st) (Wd K layC σ)) : G K pc L (.ref (kad K 4) :: st) (Wd K layC σ) := g_get C (o := 4) (ci := 7) (k := 2) hd rfl rfl rfl (by decide) (Or.inr ⟨_, aw_90⟩) inA7 rfl k
def fX9_square_b0 (x1 : Int32) (x2 : Int32) (σ : Sg) : Option (Int32 × Sg) :=
  Option.bind (fX7_has x1 σ) fun p1 => (if p1.1 = 0 then (some ((-101 : Int32), p1.2)) else (if x2 = (0 : Int32) then (if inb x1 30 = true then (some ((rI p1.2 5 (x1).toNatClampNeg), p1.2)) else none) else (if x2 = (1 : Int32) then (if inb x1 30 = true then (some ((rI p1.2 6 (x1).toNatClampNeg), p1.2)) else none) else (if x2 = (2 : Int32) then (if inb x1 30 = true then (some ((rI p1.2 7 (x1).toNatClampNeg), p1.2)) else none) else (some ((-102 : Int32), p1.2))))))
set_option maxRecDepth 4000 in
theorem bX9_square_b0 {K : KT} {x1 : Int32} {x2 : Int32} {σ : Sg} {o : Int32 × Sg} (C : Cx K layC cX9_square RX9 3 (2) (some .int))  (hQ : Rk K layC (okI o)) (h : fX9_square_b0 x1 x2 σ = some o) : G K 0 [some (.ref (kad K 0)), some (.int x1), some (.int x2)] [] (Wd K layC σ) := by
  unfold fX9_square_b0 at h
  refine g_aload_n C.c dX9_square_0 rfl (i := 0) rfl ?_
  refine gf_9_27 C dX9_square_1 ?_
  refine g_iload_n C.c dX9_square_4 rfl (i := 1) rfl ?_
  obtain ⟨p1, e2, h⟩ := Option.bind_eq_some_iff.mp h
  refine kc_9_105 C dX9_square_5 e2 (Nat.le_of_ble_eq_true rfl) rfl (Nat.le_of_ble_eq_true rfl) ?_
  refine g_if_ne C.c (tgt := 14) dX9_square_8 (by decide) (fun c => ?_) (fun c => ?_)
  · replace h := ite_f c h
    refine g_iload_n C.c dX9_square_14 rfl (i := 2) rfl ?_
    by_cases c0 : x2 = (0 : Int32)
    · replace h := ite_t c0 h
      refine g_tblIn C.c (tgt := 40) (off := 25) c0 dX9_square_15 (by decide) (by decide) (by decide) (by decide) ?_
      refine g_aload_n C.c dX9_square_40 rfl (i := 0) rfl ?_
      refine gf_9_27 C dX9_square_41 ?_
      refine gf_9_109 C dX9_square_44 ?_
      refine g_iload_n C.c dX9_square_47 rfl (i := 1) rfl ?_
      obtain ⟨c3, h⟩ := chk h
      refine g_iald C dX9_square_48 rfl c3 ?_
      obtain rfl := Option.some.inj h
      exact g_iret C hQ dX9_square_49 rfl ⟨rfl, rfl⟩
    · replace h := ite_f c0 h
      by_cases c1 : x2 = (1 : Int32)
      · replace h := ite_t c1 h
        refine g_tblIn C.c (tgt := 50) (off := 35) c1 dX9_square_15 (by decide) (by decide) (by decide) (by decide) ?_
        refine g_aload_n C.c dX9_square_50 rfl (i := 0) rfl ?_
        refine gf_9_27 C dX9_square_51 ?_
        refine gf_9_113 C dX9_square_54 ?_
        refine g_iload_n C.c dX9_square_57 rfl (i := 1) rfl ?_
        obtain ⟨c4, h⟩ := chk h
        refine g_iald C dX9_square_58 rfl c4 ?_
        obtain rfl := Option.some.inj h
        exact g_iret C hQ dX9_square_59 rfl ⟨rfl, rfl⟩
      · replace h := ite_f c1 h
        by_cases c2 : x2 = (2 : Int32)
        · replace h := ite_t c2 h
          refine g_tblIn C.c (tgt := 60) (off := 45) c2 dX9_square_15 (by decide) (by decide) (by decide) (by decide) ?_
          refine g_aload_n C.c dX9_square_60 rfl (i := 0) rfl ?_
          refine gf_9_27 C dX9_square_61 ?_
          refine gf_9_116 C dX9_square_64 ?_
          refine g_iload_n C.c dX9_square_67 rfl (i := 1) rfl ?_
          obtain ⟨c5, h⟩ := chk h
          refine g_iald C dX9_square_68 rfl c5 ?_
          obtain rfl := Option.some.inj h
          exact g_iret C hQ dX9_square_69 rfl ⟨rfl, rfl⟩
        · replace h := ite_f c2 h
          refine g_tblOut C.c (tgt := 70) [(0 : Int32), (1 : Int32), (2 : Int32)] (by decide) ⟨c0, c1, c2, trivial⟩ dX9_square_15 (by decide) ?_
          refine g_bipush C.c dX9_square_70 (v := (-102 : Int32)) (by decide) ?_
          obtain rfl := Option.some.inj h
          exact g_iret C hQ dX9_square_72 rfl ⟨rfl, rfl⟩
  · replace h := ite_t c h
    refine g_bipush C.c dX9_square_11 (v := (-101 : Int32)) (by decide) ?_
    obtain rfl := Option.some.inj h
    exact g_iret C hQ dX9_square_13 rfl ⟨rfl, rfl⟩
def fX9_square (a0 : Int32) (a1 : Int32) (σ : Sg) : Option (Int32 × Sg) := fX9_square_b0 a0 a1 σ
theorem ct_X9_square {a0 : Int32} {a1 : Int32} {σ : Sg} {p : Int32 × Sg} (h : fX9_square a0 a1 σ = some p) : Ct layC yX9_square cX9_square 3 (some .int) 2 (fun ad => [.ref (ad 0), .int a0, .int a1]) σ (okI p) :=
 ct_of (L0 := fun ad => [some (.ref (ad 0)), some (.int a0), some (.int a1)]) (by decide) (fun _ => Nat.le_of_ble_eq_true rfl) (fun _ => rfl) (fun K C hQ => g_mask [true, true, true] rfl (bX9_square_b0 C hQ h))
-- X9_isSize
theorem dX9_isSize_0 : decode cX9_isSize 0 = .ok (.iload_n 0, 1) := by decide +kernel
theorem dX9_isSize_1 : decode cX9_isSize 1 = .ok (.bipush 10, 2) := by decide +kernel
theorem dX9_isSize_3 : decode cX9_isSize 3 = .ok (.if_icmp .lt 14, 3) := by decide +kernel
theorem dX9_isSize_6 : decode cX9_isSize 6 = .ok (.iload_n 0, 1) := by decide +kernel
theorem dX9_isSize_7 : decode cX9_isSize 7 = .ok (.sipush 999, 3) := by decide +kernel
theorem dX9_isSize_10 : decode cX9_isSize 10 = .ok (.if_icmp .gt 7, 3) := by decide +kernel
theorem dX9_isSize_13 : decode cX9_isSize 13 = .ok (.iconst 1, 1) := by decide +kernel
theorem dX9_isSize_14 : decode cX9_isSize 14 = .ok (.goto 4, 3) := by decide +kernel
theorem dX9_isSize_17 : decode cX9_isSize 17 = .ok (.iconst 0, 1) := by decide +kernel
theorem dX9_isSize_18 : decode cX9_isSize 18 = .ok (.ireturn, 1) := by decide +kernel
theorem cw_X9_isSize : Cw yX9_isSize cX9_isSize 1 (some .boolean) 1 := ⟨aw_451, aw_19, ⟨by decide, by decide⟩, by decide +kernel, by decide⟩
def fX9_isSize_b0 (x0 : Int32) (σ : Sg) : Option (Int32 × Sg) :=
  if x0 < (10 : Int32) then (some ((0 : Int32), σ)) else (if (999 : Int32) < x0 then (some ((0 : Int32), σ)) else (some ((1 : Int32), σ)))
set_option maxRecDepth 4000 in
theorem bX9_isSize_b0 {K : KT} {x0 : Int32} {σ : Sg} {o : Int32 × Sg} (C : Cx K layC cX9_isSize RX9 1 (1) (some .boolean))  (hQ : Rk K layC (okI o)) (h : fX9_isSize_b0 x0 σ = some o) : G K 0 [some (.int x0)] [] (Wd K layC σ) := by
  unfold fX9_isSize_b0 at h
  refine g_iload_n C.c dX9_isSize_0 rfl (i := 0) rfl ?_
  refine g_bipush C.c dX9_isSize_1 (v := (10 : Int32)) (by decide) ?_
  refine g_icmp_lt C.c (tgt := 17) dX9_isSize_3 (by decide) (fun c => ?_) (fun c => ?_)
  · replace h := ite_t c h
    refine g_iconst C.c dX9_isSize_17 (v := (0 : Int32)) (by decide) ?_
    obtain rfl := Option.some.inj h
    exact g_iret C hQ dX9_isSize_18 rfl ⟨rfl, rfl⟩
  · replace h := ite_f c h
    refine g_iload_n C.c dX9_isSize_6 rfl (i := 0) rfl ?_
    refine g_sipush C.c dX9_isSize_7 (v := (999 : Int32)) (by decide) ?_
    refine g_icmp_gt C.c (tgt := 17) dX9_isSize_10 (by decide) (fun c => ?_) (fun c => ?_)
    · replace h := ite_t c h
      refine g_iconst C.c dX9_isSize_17 (v := (0 : Int32)) (by decide) ?_
      obtain rfl := Option.some.inj h
      exact g_iret C hQ dX9_isSize_18 rfl ⟨rfl, rfl⟩
    · replace h := ite_f c h
      refine g_iconst C.c dX9_isSize_13 (v := (1 : Int32)) (by decide) ?_
      refine g_goto C.c (tgt := 18) dX9_isSize_14 (by decide) ?_
      obtain rfl := Option.some.inj h
      exact g_iret C hQ dX9_isSize_18 rfl ⟨rfl, rfl⟩
def fX9_isSize (a0 : Int32) (σ : Sg) : Option (Int32 × Sg) := fX9_isSize_b0 a0 σ
theorem ct_X9_isSize {a0 : Int32} {σ : Sg} {p : Int32 × Sg} (h : fX9_isSize a0 σ = some p) : Ct layC yX9_isSize cX9_isSize 1 (some .boolean) 1 (fun ad => [.int a0]) σ (okI p) :=
 ct_of (L0 := fun ad => [some (.int a0)]) (by decide) (fun _ => Nat.le_of_ble_eq_true rfl) (fun _ => rfl) (fun K C hQ => g_mask [true] rfl (bX9_isSize_b0 C hQ h))
-- X9_isFoot
theorem dX9_isFoot_0 : decode cX9_isFoot 0 = .ok (.iload_n 0, 1) := by decide +kernel
theorem dX9_isFoot_1 : decode cX9_isFoot 1 = .ok (.ifCond .lt 13, 3) := by decide +kernel
theorem dX9_isFoot_4 : decode cX9_isFoot 4 = .ok (.iload_n 0, 1) := by decide +kernel
theorem dX9_isFoot_5 : decode cX9_isFoot 5 = .ok (.bipush 99, 2) := by decide +kernel
theorem dX9_isFoot_7 : decode cX9_isFoot 7 = .ok (.if_icmp .gt 7, 3) := by decide +kernel
theorem dX9_isFoot_10 : decode cX9_isFoot 10 = .ok (.iconst 1, 1) := by decide +kernel
theorem dX9_isFoot_11 : decode cX9_isFoot 11 = .ok (.goto 4, 3) := by decide +kernel
theorem dX9_isFoot_14 : decode cX9_isFoot 14 = .ok (.iconst 0, 1) := by decide +kernel
theorem dX9_isFoot_15 : decode cX9_isFoot 15 = .ok (.ireturn, 1) := by decide +kernel
theorem cw_X9_isFoot : Cw yX9_isFoot cX9_isFoot 1 (some .boolean) 1 := ⟨aw_454, aw_19, ⟨by decide, by decide⟩, by decide +kernel, by decide⟩
def fX9_isFoot_b0 (x0 : Int32) (σ : Sg) : Option (Int32 × Sg) :=
  if x0 < 0 then (some ((0 : Int32), σ)) else (if (99 : Int32) < x0 then (some ((0 : Int32), σ)) else (some ((1 : Int32), σ)))
set_option maxRecDepth 4000 in
theorem bX9_isFoot_b0 {K : KT} {x0 : Int32} {σ : Sg} {o : Int32 × Sg} (C : Cx K layC cX9_isFoot RX9 1 (1) (some .boolean))  (hQ : Rk K layC (okI o)) (h : fX9_isFoot_b0 x0 σ = some o) : G K 0 [some (.int x0)] [] (Wd K layC σ) := by
  unfold fX9_isFoot_b0 at h
  refine g_iload_n C.c dX9_isFoot_0 rfl (i := 0) rfl ?_
  refine g_if_lt C.c (tgt := 14) dX9_isFoot_1 (by decide) (fun c => ?_) (fun c => ?_)
  · replace h := ite_t c h
    refine g_iconst C.c dX9_isFoot_14 (v := (0 : Int32)) (by decide) ?_
    obtain rfl := Option.some.inj h
    exact g_iret C hQ dX9_isFoot_15 rfl ⟨rfl, rfl⟩
  · replace h := ite_f c h
    refine g_iload_n C.c dX9_isFoot_4 rfl (i := 0) rfl ?_
    refine g_bipush C.c dX9_isFoot_5 (v := (99 : Int32)) (by decide) ?_
    refine g_icmp_gt C.c (tgt := 14) dX9_isFoot_7 (by decide) (fun c => ?_) (fun c => ?_)
    · replace h := ite_t c h
      refine g_iconst C.c dX9_isFoot_14 (v := (0 : Int32)) (by decide) ?_
      obtain rfl := Option.some.inj h
      exact g_iret C hQ dX9_isFoot_15 rfl ⟨rfl, rfl⟩
    · replace h := ite_f c h
      refine g_iconst C.c dX9_isFoot_10 (v := (1 : Int32)) (by decide) ?_
      refine g_goto C.c (tgt := 15) dX9_isFoot_11 (by decide) ?_
      obtain rfl := Option.some.inj h
      exact g_iret C hQ dX9_isFoot_15 rfl ⟨rfl, rfl⟩
def fX9_isFoot (a0 : Int32) (σ : Sg) : Option (Int32 × Sg) := fX9_isFoot_b0 a0 σ
theorem ct_X9_isFoot {a0 : Int32} {σ : Sg} {p : Int32 × Sg} (h : fX9_isFoot a0 σ = some p) : Ct layC yX9_isFoot cX9_isFoot 1 (some .boolean) 1 (fun ad => [.int a0]) σ (okI p) :=
 ct_of (L0 := fun ad => [some (.int a0)]) (by decide) (fun _ => Nat.le_of_ble_eq_true rfl) (fun _ => rfl) (fun K C hQ => g_mask [true] rfl (bX9_isFoot_b0 C hQ h))
-- X9_berg
theorem dX9_berg_0 : decode cX9_berg 0 = .ok (.iload_n 1, 1) := by decide +kernel
theorem dX9_berg_1 : decode cX9_berg 1 = .ok (.invokestatic 119, 3) := by decide +kernel
theorem dX9_berg_4 : decode cX9_berg 4 = .ok (.ifCond .ne 6, 3) := by decide +kernel
theorem dX9_berg_7 : decode cX9_berg 7 = .ok (.bipush (-102), 2) := by decide +kernel
theorem dX9_berg_9 : decode cX9_berg 9 = .ok (.ireturn, 1) := by decide +kernel
theorem dX9_berg_10 : decode cX9_berg 10 = .ok (.aload_n 0, 1) := by decide +kernel
theorem dX9_berg_11 : decode cX9_berg 11 = .ok (.getfield 27, 3) := by decide +kernel
theorem dX9_berg_14 : decode cX9_berg 14 = .ok (.iload_n 2, 1) := by decide +kernel
theorem dX9_berg_15 : decode cX9_berg 15 = .ok (.invokevirtual 122, 3) := by decide +kernel
theorem dX9_berg_18 : decode cX9_berg 18 = .ok (.ifCond .ne 6, 3) := by decide +kernel
theorem dX9_berg_21 : decode cX9_berg 21 = .ok (.bipush (-101), 2) := by decide +kernel
theorem dX9_berg_23 : decode cX9_berg 23 = .ok (.ireturn, 1) := by decide +kernel
theorem dX9_berg_24 : decode cX9_berg 24 = .ok (.iload_n 3, 1) := by decide +kernel
theorem dX9_berg_25 : decode cX9_berg 25 = .ok (.invokestatic 125, 3) := by decide +kernel
theorem dX9_berg_28 : decode cX9_berg 28 = .ok (.ifCond .eq 20, 3) := by decide +kernel
theorem dX9_berg_31 : decode cX9_berg 31 = .ok (.iload 4, 2) := by decide +kernel
theorem dX9_berg_33 : decode cX9_berg 33 = .ok (.invokestatic 128, 3) := by decide +kernel
theorem dX9_berg_36 : decode cX9_berg 36 = .ok (.ifCond .eq 12, 3) := by decide +kernel
theorem dX9_berg_39 : decode cX9_berg 39 = .ok (.iload_n 1, 1) := by decide +kernel
theorem dX9_berg_40 : decode cX9_berg 40 = .ok (.iload 5, 2) := by decide +kernel
theorem dX9_berg_42 : decode cX9_berg 42 = .ok (.invokestatic 131, 3) := by decide +kernel
theorem dX9_berg_45 : decode cX9_berg 45 = .ok (.ifCond .ne 6, 3) := by decide +kernel
theorem dX9_berg_48 : decode cX9_berg 48 = .ok (.bipush (-102), 2) := by decide +kernel
theorem dX9_berg_50 : decode cX9_berg 50 = .ok (.ireturn, 1) := by decide +kernel
theorem dX9_berg_51 : decode cX9_berg 51 = .ok (.aload_n 0, 1) := by decide +kernel
theorem dX9_berg_52 : decode cX9_berg 52 = .ok (.getfield 91, 3) := by decide +kernel
theorem dX9_berg_55 : decode cX9_berg 55 = .ok (.iconst 5, 1) := by decide +kernel
theorem dX9_berg_56 : decode cX9_berg 56 = .ok (.if_icmp .lt 6, 3) := by decide +kernel
theorem dX9_berg_59 : decode cX9_berg 59 = .ok (.bipush (-104), 2) := by decide +kernel
theorem dX9_berg_61 : decode cX9_berg 61 = .ok (.ireturn, 1) := by decide +kernel
theorem dX9_berg_62 : decode cX9_berg 62 = .ok (.aload_n 0, 1) := by decide +kernel
theorem dX9_berg_63 : decode cX9_berg 63 = .ok (.getfield 37, 3) := by decide +kernel
theorem dX9_berg_66 : decode cX9_berg 66 = .ok (.aload_n 0, 1) := by decide +kernel
theorem dX9_berg_67 : decode cX9_berg 67 = .ok (.getfield 91, 3) := by decide +kernel
theorem dX9_berg_70 : decode cX9_berg 70 = .ok (.aaload, 1) := by decide +kernel
theorem dX9_berg_71 : decode cX9_berg 71 = .ok (.iload_n 1, 1) := by decide +kernel
theorem dX9_berg_72 : decode cX9_berg 72 = .ok (.iload_n 2, 1) := by decide +kernel
theorem dX9_berg_73 : decode cX9_berg 73 = .ok (.iload_n 3, 1) := by decide +kernel
theorem dX9_berg_74 : decode cX9_berg 74 = .ok (.iload 4, 2) := by decide +kernel
theorem dX9_berg_76 : decode cX9_berg 76 = .ok (.iload 5, 2) := by decide +kernel
theorem dX9_berg_78 : decode cX9_berg 78 = .ok (.invokevirtual 135, 3) := by decide +kernel
theorem dX9_berg_81 : decode cX9_berg 81 = .ok (.aload_n 0, 1) := by decide +kernel
theorem dX9_berg_82 : decode cX9_berg 82 = .ok (.getfield 58, 3) := by decide +kernel
theorem dX9_berg_85 : decode cX9_berg 85 = .ok (.aload_n 0, 1) := by decide +kernel
theorem dX9_berg_86 : decode cX9_berg 86 = .ok (.getfield 91, 3) := by decide +kernel
theorem dX9_berg_89 : decode cX9_berg 89 = .ok (.invokevirtual 139, 3) := by decide +kernel
theorem dX9_berg_92 : decode cX9_berg 92 = .ok (.aload_n 0, 1) := by decide +kernel
theorem dX9_berg_93 : decode cX9_berg 93 = .ok (.dup, 1) := by decide +kernel
theorem dX9_berg_94 : decode cX9_berg 94 = .ok (.getfield 91, 3) := by decide +kernel
theorem dX9_berg_97 : decode cX9_berg 97 = .ok (.iconst 1, 1) := by decide +kernel
theorem dX9_berg_98 : decode cX9_berg 98 = .ok (.iadd, 1) := by decide +kernel
theorem dX9_berg_99 : decode cX9_berg 99 = .ok (.putfield 91, 3) := by decide +kernel
theorem dX9_berg_102 : decode cX9_berg 102 = .ok (.aload_n 0, 1) := by decide +kernel
theorem dX9_berg_103 : decode cX9_berg 103 = .ok (.getfield 91, 3) := by decide +kernel
theorem dX9_berg_106 : decode cX9_berg 106 = .ok (.iconst 1, 1) := by decide +kernel
theorem dX9_berg_107 : decode cX9_berg 107 = .ok (.isub, 1) := by decide +kernel
theorem dX9_berg_108 : decode cX9_berg 108 = .ok (.ireturn, 1) := by decide +kernel
theorem cw_X9_berg : Cw yX9_berg cX9_berg 6 (some .int) 5 := ⟨aw_642, aw_19, ⟨by decide, by decide⟩, by decide +kernel, by decide⟩
theorem kc_9_119 {K : KT} {cc : ByteArray} {nL d pc : Nat} {ret : Option FieldType} {L : List (Option Value)} {st : List Value} {σ : Sg} (C : Cx K layC cc RX9 nL d ret)  {a0 : Int32}  {p : Int32 × Sg} (hd : decode cc pc = .ok (.invokestatic 119, 3)) (e : fX0_isKind a0 σ = some p) (hdd : 1 + 1 ≤ d) (hLn : L.length = nL) (hr : (st.map fun v => v.category).sum ≤ 8) (k : G K (pc + 3) L (.int p.1 :: st) (Wd K layC p.2)) : G K pc L (.int a0 :: st) (Wd K layC σ) :=
  g_callS C (As := [.int a0]) (rest := st) hd (ct_X0_isKind e) cw_X0_isKind (Or.inl aw_434) aw_435 rfl rfl rfl hdd hLn hr (fun v τ q => by obtain ⟨rfl, rfl⟩ := q; exact k)
theorem kc_9_122 {K : KT} {cc : ByteArray} {nL d pc : Nat} {ret : Option FieldType} {L : List (Option Value)} {st : List Value} {σ : Sg} (C : Cx K layC cc RX9 nL d ret)  {a0 : Int32}  {p : Int32 × Sg} (hd : decode cc pc = .ok (.invokevirtual 122, 3)) (e : fX7_hasWarmth a0 σ = some p) (hdd : 2 + 1 ≤ d) (hLn : L.length = nL) (hr : (st.map fun v => v.category).sum ≤ 8) (k : G K (pc + 3) L (.int p.1 :: st) (Wd K layC p.2)) : G K pc L (.int a0 :: .ref (kad K 4) :: st) (Wd K layC σ) :=
  g_callV C (As := [.int a0]) (rest := st) (o := 4) (ci := 7) hd (ct_X7_hasWarmth e) cw_X7_hasWarmth (Or.inl aw_643) aw_644 aw_645 rfl rfl rfl hdd hLn rfl rfl hr (fun v τ q => by obtain ⟨rfl, rfl⟩ := q; exact k)
theorem kc_9_125 {K : KT} {cc : ByteArray} {nL d pc : Nat} {ret : Option FieldType} {L : List (Option Value)} {st : List Value} {σ : Sg} (C : Cx K layC cc RX9 nL d ret)  {a0 : Int32}  {p : Int32 × Sg} (hd : decode cc pc = .ok (.invokestatic 125, 3)) (e : fX9_isSize a0 σ = some p) (hdd : 1 + 1 ≤ d) (hLn : L.length = nL) (hr : (st.map fun v => v.category).sum ≤ 8) (k : G K (pc + 3) L (.int p.1 :: st) (Wd K layC p.2)) : G K pc L (.int a0 :: st) (Wd K layC σ) :=
  g_callS C (As := [.int a0]) (rest := st) hd (ct_X9_isSize e) cw_X9_isSize (Or.inl aw_449) aw_450 rfl rfl rfl hdd hLn hr (fun v τ q => by obtain ⟨rfl, rfl⟩ := q; exact k)
theorem kc_9_128 {K : KT} {cc : ByteArray} {nL d pc : Nat} {ret : Option FieldType} {L : List (Option Value)} {st : List Value} {σ : Sg} (C : Cx K layC cc RX9 nL d ret)  {a0 : Int32}  {p : Int32 × Sg} (hd : decode cc pc = .ok (.invokestatic 128, 3)) (e : fX9_isFoot a0 σ = some p) (hdd : 1 + 1 ≤ d) (hLn : L.length = nL) (hr : (st.map fun v => v.category).sum ≤ 8) (k : G K (pc + 3) L (.int p.1 :: st) (Wd K layC p.2)) : G K pc L (.int a0 :: st) (Wd K layC σ) :=
  g_callS C (As := [.int a0]) (rest := st) hd (ct_X9_isFoot e) cw_X9_isFoot (Or.inl aw_452) aw_453 rfl rfl rfl hdd hLn hr (fun v τ q => by obtain ⟨rfl, rfl⟩ := q; exact k)
theorem kc_9_131 {K : KT} {cc : ByteArray} {nL d pc : Nat} {ret : Option FieldType} {L : List (Option Value)} {st : List Value} {σ : Sg} (C : Cx K layC cc RX9 nL d ret)  {a0 : Int32} {a1 : Int32}  {p : Int32 × Sg} (hd : decode cc pc = .ok (.invokestatic 131, 3)) (e : fX0_mayBreak a0 a1 σ = some p) (hdd : 1 + 1 ≤ d) (hLn : L.length = nL) (hr : (st.map fun v => v.category).sum ≤ 8) (k : G K (pc + 3) L (.int p.1 :: st) (Wd K layC p.2)) : G K pc L (.int a1 :: .int a0 :: st) (Wd K layC σ) :=
  g_callS C (As := [.int a0, .int a1]) (rest := st) hd (ct_X0_mayBreak e) cw_X0_mayBreak (Or.inl aw_648) aw_649 rfl rfl rfl hdd hLn hr (fun v τ q => by obtain ⟨rfl, rfl⟩ := q; exact k)
theorem gf_9_91 {K : KT} {cc : ByteArray} {nL d pc : Nat} {ret : Option FieldType} {L : List (Option Value)} {st : List Value} {σ : Sg} (C : Cx K layC cc RX9 nL d ret)  (hd : decode cc pc = .ok (.getfield 91, 3)) (k : G K (pc + 3) L (.int (rI σ 0 9) :: st) (Wd K layC σ)) : G K pc L (.ref (kad K 0) :: st) (Wd K layC σ) := g_get C (o := 0) (ci := 9) (k := 9) hd rfl rfl rfl (by decide) (Or.inl aw_316) inA9 rfl k
theorem gf_9_37 {K : KT} {cc : ByteArray} {nL d pc : Nat} {ret : Option FieldType} {L : List (Option Value)} {st : List Value} {σ : Sg} (C : Cx K layC cc RX9 nL d ret)  (hd : decode cc pc = .ok (.getfield 37, 3)) (k : G K (pc + 3) L (.ref (kad K 48) :: st) (Wd K layC σ)) : G K pc L (.ref (kad K 0) :: st) (Wd K layC σ) := g_get C (o := 0) (ci := 9) (k := 4) hd rfl rfl rfl (by decide) (Or.inl aw_311) inA9 rfl k
theorem kc_9_135 {K : KT} {cc : ByteArray} {nL d pc : Nat} {ret : Option FieldType} {L : List (Option Value)} {st : List Value} {σ : Sg} (C : Cx K layC cc RX9 nL d ret)  {o0 : Nat} {a0 : Int32} {a1 : Int32} {a2 : Int32} {a3 : Int32} {a4 : Int32} (hY0 : layC[o0]? = some (0, 0, slX0)) {p : Sg} (hd : decode cc pc = .ok (.invokevirtual 135, 3)) (e : fX0_become o0 a0 a1 a2 a3 a4 σ = some p) (hdd : 1 + 1 ≤ d) (hLn : L.length = nL) (hr : (st.map fun v => v.category).sum ≤ 8) (k : G K (pc + 3) L (st) (Wd K layC p)) : G K pc L (.int a4 :: .int a3 :: .int a2 :: .int a1 :: .int a0 :: .ref (kad K o0) :: st) (Wd K layC σ) :=
  g_callV C (As := [.int a0, .int a1, .int a2, .int a3, .int a4]) (rest := st) (o := o0) (ci := 0) hd (ct_X0_become hY0 e) cw_X0_become (Or.inl aw_651) aw_652 aw_653 rfl rfl rfl hdd hLn hY0 rfl hr (fun v τ q => by obtain ⟨rfl, rfl⟩ := q; exact k)
theorem gf_9_58 {K : KT} {cc : ByteArray} {nL d pc : Nat} {ret : Option FieldType} {L : List (Option Value)} {st : List Value} {σ : Sg} (C : Cx K layC cc RX9 nL d ret)  (hd : decode cc pc = .ok (.getfield 58, 3)) (k : G K (pc + 3) L (.ref (kad K 58) :: st) (Wd K layC σ)) : G K pc L (.ref (kad K 0) :: st) (Wd K layC σ) := g_get C (o := 0) (ci := 9) (k := 7) hd rfl rfl rfl (by decide) (Or.inl aw_314) inA9 rfl k
theorem kc_9_139 {K : KT} {cc : ByteArray} {nL d pc : Nat} {ret : Option FieldType} {L : List (Option Value)} {st : List Value} {σ : Sg} (C : Cx K layC cc RX9 nL d ret)  {a0 : Int32}  {p : Sg} (hd : decode cc pc = .ok (.invokevirtual 139, 3)) (e : fX3_forget a0 σ = some p) (hdd : 1 + 1 ≤ d) (hLn : L.length = nL) (hr : (st.map fun v => v.category).sum ≤ 8) (k : G K (pc + 3) L (st) (Wd K layC p)) : G K pc L (.int a0 :: .ref (kad K 58) :: st) (Wd K layC σ) :=
  g_callV C (As := [.int a0]) (rest := st) (o := 58) (ci := 3) hd (ct_X3_forget e) cw_X3_forget (Or.inl aw_455) aw_456 aw_457 rfl rfl rfl hdd hLn rfl rfl hr (fun v τ q => by obtain ⟨rfl, rfl⟩ := q; exact k)
def fX9_berg_b0 (x1 : Int32) (x2 : Int32) (x3 : Int32) (x4 : Int32) (x5 : Int32) (σ : Sg) : Option (Int32 × Sg) :=
  Option.bind (fX0_isKind x1 σ) fun p1 => (if p1.1 = 0 then (some ((-102 : Int32), p1.2)) else (Option.bind (fX7_hasWarmth x2 p1.2) fun p3 => (if p3.1 = 0 then (some ((-101 : Int32), p3.2)) else (Option.bind (fX9_isSize x3 p3.2) fun p5 => (if p5.1 = 0 then (some ((-102 : Int32), p5.2)) else (Option.bind (fX9_isFoot x4 p5.2) fun p7 => (if p7.1 = 0 then (some ((-102 : Int32), p7.2)) else (Option.bind (fX0_mayBreak x1 x5 p7.2) fun p9 => (if p9.1 = 0 then (some ((-102 : Int32), p9.2)) else (if (rI p9.2 0 9) < (5 : Int32) then (if inb (rI p9.2 0 9) 5 = true then (Option.bind (fX0_become (76 + ((rI p9.2 0 9)).toNatClampNeg) x1 x2 x3 x4 x5 p9.2) fun p13 => (Option.bind (fX3_forget (rI p13 0 9) p13) fun p15 => (some (((rI (wI p15 0 9 ((rI p15 0 9) + (1 : Int32))) 0 9) - (1 : Int32)), (wI p15 0 9 ((rI p15 0 9) + (1 : Int32))))))) else none) else (some ((-104 : Int32), p9.2))))))))))))
set_option maxRecDepth 4000 in
theorem bX9_berg_b0 {K : KT} {x1 : Int32} {x2 : Int32} {x3 : Int32} {x4 : Int32} {x5 : Int32} {σ : Sg} {o : Int32 × Sg} (C : Cx K layC cX9_berg RX9 6 (3) (some .int))  (hQ : Rk K layC (okI o)) (h : fX9_berg_b0 x1 x2 x3 x4 x5 σ = some o) : G K 0 [some (.ref (kad K 0)), some (.int x1), some (.int x2), some (.int x3), some (.int x4), some (.int x5)] [] (Wd K layC σ) := by
  unfold fX9_berg_b0 at h
  refine g_iload_n C.c dX9_berg_0 rfl (i := 1) rfl ?_
  obtain ⟨p1, e2, h⟩ := Option.bind_eq_some_iff.mp h
  refine kc_9_119 C dX9_berg_1 e2 (Nat.le_of_ble_eq_true rfl) rfl (Nat.le_of_ble_eq_true rfl) ?_
  refine g_if_ne C.c (tgt := 10) dX9_berg_4 (by decide) (fun c => ?_) (fun c => ?_)
  · replace h := ite_f c h
    refine g_aload_n C.c dX9_berg_10 rfl (i := 0) rfl ?_
    refine gf_9_27 C dX9_berg_11 ?_
    refine g_iload_n C.c dX9_berg_14 rfl (i := 2) rfl ?_
    obtain ⟨p3, e4, h⟩ := Option.bind_eq_some_iff.mp h
    refine kc_9_122 C dX9_berg_15 e4 (Nat.le_of_ble_eq_true rfl) rfl (Nat.le_of_ble_eq_true rfl) ?_
    refine g_if_ne C.c (tgt := 24) dX9_berg_18 (by decide) (fun c => ?_) (fun c => ?_)
    · replace h := ite_f c h
      refine g_iload_n C.c dX9_berg_24 rfl (i := 3) rfl ?_
      obtain ⟨p5, e6, h⟩ := Option.bind_eq_some_iff.mp h
      refine kc_9_125 C dX9_berg_25 e6 (Nat.le_of_ble_eq_true rfl) rfl (Nat.le_of_ble_eq_true rfl) ?_
      refine g_if_eq C.c (tgt := 48) dX9_berg_28 (by decide) (fun c => ?_) (fun c => ?_)
      · replace h := ite_t c h
        refine g_bipush C.c dX9_berg_48 (v := (-102 : Int32)) (by decide) ?_
        obtain rfl := Option.some.inj h
        exact g_iret C hQ dX9_berg_50 rfl ⟨rfl, rfl⟩
      · replace h := ite_f c h
        refine g_iload C.c dX9_berg_31 (i := 4) rfl ?_
        obtain ⟨p7, e8, h⟩ := Option.bind_eq_some_iff.mp h
        refine kc_9_128 C dX9_berg_33 e8 (Nat.le_of_ble_eq_true rfl) rfl (Nat.le_of_ble_eq_true rfl) ?_
        refine g_if_eq C.c (tgt := 48) dX9_berg_36 (by decide) (fun c => ?_) (fun c => ?_)
        · replace h := ite_t c h
          refine g_bipush C.c dX9_berg_48 (v := (-102 : Int32)) (by decide) ?_
          obtain rfl := Option.some.inj h
          exact g_iret C hQ dX9_berg_50 rfl ⟨rfl, rfl⟩
        · replace h := ite_f c h
          refine g_iload_n C.c dX9_berg_39 rfl (i := 1) rfl ?_
          refine g_iload C.c dX9_berg_40 (i := 5) rfl ?_
          obtain ⟨p9, e10, h⟩ := Option.bind_eq_some_iff.mp h
          refine kc_9_131 C dX9_berg_42 e10 (Nat.le_of_ble_eq_true rfl) rfl (Nat.le_of_ble_eq_true rfl) ?_
          refine g_if_ne C.c (tgt := 51) dX9_berg_45 (by decide) (fun c => ?_) (fun c => ?_)
          · replace h := ite_f c h
            refine g_aload_n C.c dX9_berg_51 rfl (i := 0) rfl ?_
            refine gf_9_91 C dX9_berg_52 ?_
            refine g_iconst C.c dX9_berg_55 (v := (5 : Int32)) (by decide) ?_
            refine g_icmp_lt C.c (tgt := 62) dX9_berg_56 (by decide) (fun c => ?_) (fun c => ?_)
            · replace h := ite_t c h
              refine g_aload_n C.c dX9_berg_62 rfl (i := 0) rfl ?_
              refine gf_9_37 C dX9_berg_63 ?_
              refine g_aload_n C.c dX9_berg_66 rfl (i := 0) rfl ?_
              refine gf_9_91 C dX9_berg_67 ?_
              obtain ⟨c11, h⟩ := chk h
              have hs12 := rw_48 (inb_lt c11)
              refine g_aald4 C (b := 76) dX9_berg_70 rfl c11 rfl rfl ?_
              refine g_iload_n C.c dX9_berg_71 rfl (i := 1) rfl ?_
              refine g_iload_n C.c dX9_berg_72 rfl (i := 2) rfl ?_
              refine g_iload_n C.c dX9_berg_73 rfl (i := 3) rfl ?_
              refine g_iload C.c dX9_berg_74 (i := 4) rfl ?_
              refine g_iload C.c dX9_berg_76 (i := 5) rfl ?_
              obtain ⟨p13, e14, h⟩ := Option.bind_eq_some_iff.mp h
              refine kc_9_135 C hs12 dX9_berg_78 e14 (Nat.le_of_ble_eq_true rfl) rfl (Nat.le_of_ble_eq_true rfl) ?_
              refine g_aload_n C.c dX9_berg_81 rfl (i := 0) rfl ?_
              refine gf_9_58 C dX9_berg_82 ?_
              refine g_aload_n C.c dX9_berg_85 rfl (i := 0) rfl ?_
              refine gf_9_91 C dX9_berg_86 ?_
              obtain ⟨p15, e16, h⟩ := Option.bind_eq_some_iff.mp h
              refine kc_9_139 C dX9_berg_89 e16 (Nat.le_of_ble_eq_true rfl) rfl (Nat.le_of_ble_eq_true rfl) ?_
              refine g_aload_n C.c dX9_berg_92 rfl (i := 0) rfl ?_
              refine g_dup C.c dX9_berg_93 rfl ?_
              refine gf_9_91 C dX9_berg_94 ?_
              refine g_iconst C.c dX9_berg_97 (v := (1 : Int32)) (by decide) ?_
              refine g_iadd C.c dX9_berg_98 ?_
              refine pf_9_91 C dX9_berg_99 ?_
              refine g_aload_n C.c dX9_berg_102 rfl (i := 0) rfl ?_
              refine gf_9_91 C dX9_berg_103 ?_
              refine g_iconst C.c dX9_berg_106 (v := (1 : Int32)) (by decide) ?_
              refine g_isub C.c dX9_berg_107 ?_
              obtain rfl := Option.some.inj h
              exact g_iret C hQ dX9_berg_108 rfl ⟨rfl, rfl⟩
            · replace h := ite_f c h
              refine g_bipush C.c dX9_berg_59 (v := (-104 : Int32)) (by decide) ?_
              obtain rfl := Option.some.inj h
              exact g_iret C hQ dX9_berg_61 rfl ⟨rfl, rfl⟩
          · replace h := ite_t c h
            refine g_bipush C.c dX9_berg_48 (v := (-102 : Int32)) (by decide) ?_
            obtain rfl := Option.some.inj h
            exact g_iret C hQ dX9_berg_50 rfl ⟨rfl, rfl⟩
    · replace h := ite_t c h
      refine g_bipush C.c dX9_berg_21 (v := (-101 : Int32)) (by decide) ?_
      obtain rfl := Option.some.inj h
      exact g_iret C hQ dX9_berg_23 rfl ⟨rfl, rfl⟩
  · replace h := ite_t c h
    refine g_bipush C.c dX9_berg_7 (v := (-102 : Int32)) (by decide) ?_
    obtain rfl := Option.some.inj h
    exact g_iret C hQ dX9_berg_9 rfl ⟨rfl, rfl⟩
def fX9_berg (a0 : Int32) (a1 : Int32) (a2 : Int32) (a3 : Int32) (a4 : Int32) (σ : Sg) : Option (Int32 × Sg) := fX9_berg_b0 a0 a1 a2 a3 a4 σ
theorem ct_X9_berg {a0 : Int32} {a1 : Int32} {a2 : Int32} {a3 : Int32} {a4 : Int32} {σ : Sg} {p : Int32 × Sg} (h : fX9_berg a0 a1 a2 a3 a4 σ = some p) : Ct layC yX9_berg cX9_berg 6 (some .int) 3 (fun ad => [.ref (ad 0), .int a0, .int a1, .int a2, .int a3, .int a4]) σ (okI p) :=
 ct_of (L0 := fun ad => [some (.ref (ad 0)), some (.int a0), some (.int a1), some (.int a2), some (.int a3), some (.int a4)]) (by decide) (fun _ => Nat.le_of_ble_eq_true rfl) (fun _ => rfl) (fun K C hQ => g_mask [true, true, true, true, true, true] rfl (bX9_berg_b0 C hQ h))
-- X9_isBerg
theorem dX9_isBerg_0 : decode cX9_isBerg 0 = .ok (.iload_n 1, 1) := by decide +kernel
theorem dX9_isBerg_1 : decode cX9_isBerg 1 = .ok (.ifCond .lt 15, 3) := by decide +kernel
theorem dX9_isBerg_4 : decode cX9_isBerg 4 = .ok (.iload_n 1, 1) := by decide +kernel
theorem dX9_isBerg_5 : decode cX9_isBerg 5 = .ok (.aload_n 0, 1) := by decide +kernel
theorem dX9_isBerg_6 : decode cX9_isBerg 6 = .ok (.getfield 91, 3) := by decide +kernel
theorem dX9_isBerg_9 : decode cX9_isBerg 9 = .ok (.if_icmp .ge 7, 3) := by decide +kernel
theorem dX9_isBerg_12 : decode cX9_isBerg 12 = .ok (.iconst 1, 1) := by decide +kernel
theorem dX9_isBerg_13 : decode cX9_isBerg 13 = .ok (.goto 4, 3) := by decide +kernel
theorem dX9_isBerg_16 : decode cX9_isBerg 16 = .ok (.iconst 0, 1) := by decide +kernel
theorem dX9_isBerg_17 : decode cX9_isBerg 17 = .ok (.ireturn, 1) := by decide +kernel
theorem cw_X9_isBerg : Cw yX9_isBerg cX9_isBerg 2 (some .boolean) 1 := ⟨aw_433, aw_19, ⟨by decide, by decide⟩, by decide +kernel, by decide⟩
def fX9_isBerg_b0 (x1 : Int32) (σ : Sg) : Option (Int32 × Sg) :=
  if x1 < 0 then (some ((0 : Int32), σ)) else (if (rI σ 0 9) ≤ x1 then (some ((0 : Int32), σ)) else (some ((1 : Int32), σ)))
set_option maxRecDepth 4000 in
theorem bX9_isBerg_b0 {K : KT} {x1 : Int32} {σ : Sg} {o : Int32 × Sg} (C : Cx K layC cX9_isBerg RX9 2 (1) (some .boolean))  (hQ : Rk K layC (okI o)) (h : fX9_isBerg_b0 x1 σ = some o) : G K 0 [some (.ref (kad K 0)), some (.int x1)] [] (Wd K layC σ) := by
  unfold fX9_isBerg_b0 at h
  refine g_iload_n C.c dX9_isBerg_0 rfl (i := 1) rfl ?_
  refine g_if_lt C.c (tgt := 16) dX9_isBerg_1 (by decide) (fun c => ?_) (fun c => ?_)
  · replace h := ite_t c h
    refine g_iconst C.c dX9_isBerg_16 (v := (0 : Int32)) (by decide) ?_
    obtain rfl := Option.some.inj h
    exact g_iret C hQ dX9_isBerg_17 rfl ⟨rfl, rfl⟩
  · replace h := ite_f c h
    refine g_iload_n C.c dX9_isBerg_4 rfl (i := 1) rfl ?_
    refine g_aload_n C.c dX9_isBerg_5 rfl (i := 0) rfl ?_
    refine gf_9_91 C dX9_isBerg_6 ?_
    refine g_icmp_ge C.c (tgt := 16) dX9_isBerg_9 (by decide) (fun c => ?_) (fun c => ?_)
    · replace h := ite_t c h
      refine g_iconst C.c dX9_isBerg_16 (v := (0 : Int32)) (by decide) ?_
      obtain rfl := Option.some.inj h
      exact g_iret C hQ dX9_isBerg_17 rfl ⟨rfl, rfl⟩
    · replace h := ite_f c h
      refine g_iconst C.c dX9_isBerg_12 (v := (1 : Int32)) (by decide) ?_
      refine g_goto C.c (tgt := 17) dX9_isBerg_13 (by decide) ?_
      obtain rfl := Option.some.inj h
      exact g_iret C hQ dX9_isBerg_17 rfl ⟨rfl, rfl⟩
def fX9_isBerg (a0 : Int32) (σ : Sg) : Option (Int32 × Sg) := fX9_isBerg_b0 a0 σ
theorem ct_X9_isBerg {a0 : Int32} {σ : Sg} {p : Int32 × Sg} (h : fX9_isBerg a0 σ = some p) : Ct layC yX9_isBerg cX9_isBerg 2 (some .boolean) 1 (fun ad => [.ref (ad 0), .int a0]) σ (okI p) :=
 ct_of (L0 := fun ad => [some (.ref (ad 0)), some (.int a0)]) (by decide) (fun _ => Nat.le_of_ble_eq_true rfl) (fun _ => rfl) (fun K C hQ => g_mask [true, true] rfl (bX9_isBerg_b0 C hQ h))
-- X9_as
theorem dX9_as_0 : decode cX9_as 0 = .ok (.aload_n 0, 1) := by decide +kernel
theorem dX9_as_1 : decode cX9_as 1 = .ok (.iload_n 1, 1) := by decide +kernel
theorem dX9_as_2 : decode cX9_as 2 = .ok (.invokevirtual 142, 3) := by decide +kernel
theorem dX9_as_5 : decode cX9_as 5 = .ok (.ifCond .ne 6, 3) := by decide +kernel
theorem dX9_as_8 : decode cX9_as 8 = .ok (.bipush (-101), 2) := by decide +kernel
theorem dX9_as_10 : decode cX9_as 10 = .ok (.ireturn, 1) := by decide +kernel
theorem dX9_as_11 : decode cX9_as 11 = .ok (.iload_n 2, 1) := by decide +kernel
theorem dX9_as_12 : decode cX9_as 12 = .ok (.invokestatic 119, 3) := by decide +kernel
theorem dX9_as_15 : decode cX9_as 15 = .ok (.ifCond .ne 6, 3) := by decide +kernel
theorem dX9_as_18 : decode cX9_as 18 = .ok (.bipush (-102), 2) := by decide +kernel
theorem dX9_as_20 : decode cX9_as 20 = .ok (.ireturn, 1) := by decide +kernel
theorem dX9_as_21 : decode cX9_as 21 = .ok (.aload_n 0, 1) := by decide +kernel
theorem dX9_as_22 : decode cX9_as 22 = .ok (.getfield 37, 3) := by decide +kernel
theorem dX9_as_25 : decode cX9_as 25 = .ok (.iload_n 1, 1) := by decide +kernel
theorem dX9_as_26 : decode cX9_as 26 = .ok (.aaload, 1) := by decide +kernel
theorem dX9_as_27 : decode cX9_as 27 = .ok (.iload_n 2, 1) := by decide +kernel
theorem dX9_as_28 : decode cX9_as 28 = .ok (.invokevirtual 145, 3) := by decide +kernel
theorem dX9_as_31 : decode cX9_as 31 = .ok (.ifCond .eq 7, 3) := by decide +kernel
theorem dX9_as_34 : decode cX9_as 34 = .ok (.iload_n 1, 1) := by decide +kernel
theorem dX9_as_35 : decode cX9_as 35 = .ok (.goto 4, 3) := by decide +kernel
theorem dX9_as_38 : decode cX9_as 38 = .ok (.iconst (-1), 1) := by decide +kernel
theorem dX9_as_39 : decode cX9_as 39 = .ok (.ireturn, 1) := by decide +kernel
theorem cw_X9_as : Cw yX9_as cX9_as 3 (some .int) 2 := ⟨aw_429, aw_19, ⟨by decide, by decide⟩, by decide +kernel, by decide⟩
theorem kc_9_142 {K : KT} {cc : ByteArray} {nL d pc : Nat} {ret : Option FieldType} {L : List (Option Value)} {st : List Value} {σ : Sg} (C : Cx K layC cc RX9 nL d ret)  {a0 : Int32}  {p : Int32 × Sg} (hd : decode cc pc = .ok (.invokevirtual 142, 3)) (e : fX9_isBerg a0 σ = some p) (hdd : 1 + 1 ≤ d) (hLn : L.length = nL) (hr : (st.map fun v => v.category).sum ≤ 8) (k : G K (pc + 3) L (.int p.1 :: st) (Wd K layC p.2)) : G K pc L (.int a0 :: .ref (kad K 0) :: st) (Wd K layC σ) :=
  g_callV C (As := [.int a0]) (rest := st) (o := 0) (ci := 9) hd (ct_X9_isBerg e) cw_X9_isBerg (Or.inl aw_430) aw_432 aw_7 rfl rfl rfl hdd hLn rfl rfl hr (fun v τ q => by obtain ⟨rfl, rfl⟩ := q; exact k)
theorem kc_9_145 {K : KT} {cc : ByteArray} {nL d pc : Nat} {ret : Option FieldType} {L : List (Option Value)} {st : List Value} {σ : Sg} (C : Cx K layC cc RX9 nL d ret)  {o0 : Nat} {a0 : Int32} (hY0 : layC[o0]? = some (0, 0, slX0)) {p : Int32 × Sg} (hd : decode cc pc = .ok (.invokevirtual 145, 3)) (e : fX0_isA o0 a0 σ = some p) (hdd : 1 + 1 ≤ d) (hLn : L.length = nL) (hr : (st.map fun v => v.category).sum ≤ 8) (k : G K (pc + 3) L (.int p.1 :: st) (Wd K layC p.2)) : G K pc L (.int a0 :: .ref (kad K o0) :: st) (Wd K layC σ) :=
  g_callV C (As := [.int a0]) (rest := st) (o := o0) (ci := 0) hd (ct_X0_isA hY0 e) cw_X0_isA (Or.inl aw_437) aw_438 aw_439 rfl rfl rfl hdd hLn hY0 rfl hr (fun v τ q => by obtain ⟨rfl, rfl⟩ := q; exact k)
def fX9_as_b0 (x1 : Int32) (x2 : Int32) (σ : Sg) : Option (Int32 × Sg) :=
  Option.bind (fX9_isBerg x1 σ) fun p1 => (if p1.1 = 0 then (some ((-101 : Int32), p1.2)) else (Option.bind (fX0_isKind x2 p1.2) fun p3 => (if p3.1 = 0 then (some ((-102 : Int32), p3.2)) else (if inb x1 5 = true then (Option.bind (fX0_isA (76 + (x1).toNatClampNeg) x2 p3.2) fun p7 => (if p7.1 = 0 then (some ((-1 : Int32), p7.2)) else (some (x1, p7.2)))) else none))))
set_option maxRecDepth 4000 in
theorem bX9_as_b0 {K : KT} {x1 : Int32} {x2 : Int32} {σ : Sg} {o : Int32 × Sg} (C : Cx K layC cX9_as RX9 3 (2) (some .int))  (hQ : Rk K layC (okI o)) (h : fX9_as_b0 x1 x2 σ = some o) : G K 0 [some (.ref (kad K 0)), some (.int x1), some (.int x2)] [] (Wd K layC σ) := by
  unfold fX9_as_b0 at h
  refine g_aload_n C.c dX9_as_0 rfl (i := 0) rfl ?_
  refine g_iload_n C.c dX9_as_1 rfl (i := 1) rfl ?_
  obtain ⟨p1, e2, h⟩ := Option.bind_eq_some_iff.mp h
  refine kc_9_142 C dX9_as_2 e2 (Nat.le_of_ble_eq_true rfl) rfl (Nat.le_of_ble_eq_true rfl) ?_
  refine g_if_ne C.c (tgt := 11) dX9_as_5 (by decide) (fun c => ?_) (fun c => ?_)
  · replace h := ite_f c h
    refine g_iload_n C.c dX9_as_11 rfl (i := 2) rfl ?_
    obtain ⟨p3, e4, h⟩ := Option.bind_eq_some_iff.mp h
    refine kc_9_119 C dX9_as_12 e4 (Nat.le_of_ble_eq_true rfl) rfl (Nat.le_of_ble_eq_true rfl) ?_
    refine g_if_ne C.c (tgt := 21) dX9_as_15 (by decide) (fun c => ?_) (fun c => ?_)
    · replace h := ite_f c h
      refine g_aload_n C.c dX9_as_21 rfl (i := 0) rfl ?_
      refine gf_9_37 C dX9_as_22 ?_
      refine g_iload_n C.c dX9_as_25 rfl (i := 1) rfl ?_
      obtain ⟨c5, h⟩ := chk h
      have hs6 := rw_48 (inb_lt c5)
      refine g_aald4 C (b := 76) dX9_as_26 rfl c5 rfl rfl ?_
      refine g_iload_n C.c dX9_as_27 rfl (i := 2) rfl ?_
      obtain ⟨p7, e8, h⟩ := Option.bind_eq_some_iff.mp h
      refine kc_9_145 C hs6 dX9_as_28 e8 (Nat.le_of_ble_eq_true rfl) rfl (Nat.le_of_ble_eq_true rfl) ?_
      refine g_if_eq C.c (tgt := 38) dX9_as_31 (by decide) (fun c => ?_) (fun c => ?_)
      · replace h := ite_t c h
        refine g_iconst C.c dX9_as_38 (v := (-1 : Int32)) (by decide) ?_
        obtain rfl := Option.some.inj h
        exact g_iret C hQ dX9_as_39 rfl ⟨rfl, rfl⟩
      · replace h := ite_f c h
        refine g_iload_n C.c dX9_as_34 rfl (i := 1) rfl ?_
        refine g_goto C.c (tgt := 39) dX9_as_35 (by decide) ?_
        obtain rfl := Option.some.inj h
        exact g_iret C hQ dX9_as_39 rfl ⟨rfl, rfl⟩
    · replace h := ite_t c h
      refine g_bipush C.c dX9_as_18 (v := (-102 : Int32)) (by decide) ?_
      obtain rfl := Option.some.inj h
      exact g_iret C hQ dX9_as_20 rfl ⟨rfl, rfl⟩
  · replace h := ite_t c h
    refine g_bipush C.c dX9_as_8 (v := (-101 : Int32)) (by decide) ?_
    obtain rfl := Option.some.inj h
    exact g_iret C hQ dX9_as_10 rfl ⟨rfl, rfl⟩
def fX9_as (a0 : Int32) (a1 : Int32) (σ : Sg) : Option (Int32 × Sg) := fX9_as_b0 a0 a1 σ
theorem ct_X9_as {a0 : Int32} {a1 : Int32} {σ : Sg} {p : Int32 × Sg} (h : fX9_as a0 a1 σ = some p) : Ct layC yX9_as cX9_as 3 (some .int) 2 (fun ad => [.ref (ad 0), .int a0, .int a1]) σ (okI p) :=
 ct_of (L0 := fun ad => [some (.ref (ad 0)), some (.int a0), some (.int a1)]) (by decide) (fun _ => Nat.le_of_ble_eq_true rfl) (fun _ => rfl) (fun K C hQ => g_mask [true, true, true] rfl (bX9_as_b0 C hQ h))
-- X9_about
theorem dX9_about_0 : decode cX9_about 0 = .ok (.aload_n 0, 1) := by decide +kernel
theorem dX9_about_1 : decode cX9_about 1 = .ok (.iload_n 1, 1) := by decide +kernel
theorem dX9_about_2 : decode cX9_about 2 = .ok (.invokevirtual 142, 3) := by decide +kernel
theorem dX9_about_5 : decode cX9_about 5 = .ok (.ifCond .ne 6, 3) := by decide +kernel
theorem dX9_about_8 : decode cX9_about 8 = .ok (.bipush (-101), 2) := by decide +kernel
theorem dX9_about_10 : decode cX9_about 10 = .ok (.ireturn, 1) := by decide +kernel
theorem dX9_about_11 : decode cX9_about 11 = .ok (.iload_n 2, 1) := by decide +kernel
theorem dX9_about_12 : decode cX9_about 12 = .ok (.tableswitch 86 0 4 #[36, 46, 56, 66, 76], 36) := by decide +kernel
theorem dX9_about_48 : decode cX9_about 48 = .ok (.aload_n 0, 1) := by decide +kernel
theorem dX9_about_49 : decode cX9_about 49 = .ok (.getfield 37, 3) := by decide +kernel
theorem dX9_about_52 : decode cX9_about 52 = .ok (.iload_n 1, 1) := by decide +kernel
theorem dX9_about_53 : decode cX9_about 53 = .ok (.aaload, 1) := by decide +kernel
theorem dX9_about_54 : decode cX9_about 54 = .ok (.getfield 148, 3) := by decide +kernel
theorem dX9_about_57 : decode cX9_about 57 = .ok (.ireturn, 1) := by decide +kernel
theorem dX9_about_58 : decode cX9_about 58 = .ok (.aload_n 0, 1) := by decide +kernel
theorem dX9_about_59 : decode cX9_about 59 = .ok (.getfield 37, 3) := by decide +kernel
theorem dX9_about_62 : decode cX9_about 62 = .ok (.iload_n 1, 1) := by decide +kernel
theorem dX9_about_63 : decode cX9_about 63 = .ok (.aaload, 1) := by decide +kernel
theorem dX9_about_64 : decode cX9_about 64 = .ok (.getfield 151, 3) := by decide +kernel
theorem dX9_about_67 : decode cX9_about 67 = .ok (.ireturn, 1) := by decide +kernel
theorem dX9_about_68 : decode cX9_about 68 = .ok (.aload_n 0, 1) := by decide +kernel
theorem dX9_about_69 : decode cX9_about 69 = .ok (.getfield 37, 3) := by decide +kernel
theorem dX9_about_72 : decode cX9_about 72 = .ok (.iload_n 1, 1) := by decide +kernel
theorem dX9_about_73 : decode cX9_about 73 = .ok (.aaload, 1) := by decide +kernel
theorem dX9_about_74 : decode cX9_about 74 = .ok (.getfield 154, 3) := by decide +kernel
theorem dX9_about_77 : decode cX9_about 77 = .ok (.ireturn, 1) := by decide +kernel
theorem dX9_about_78 : decode cX9_about 78 = .ok (.aload_n 0, 1) := by decide +kernel
theorem dX9_about_79 : decode cX9_about 79 = .ok (.getfield 37, 3) := by decide +kernel
theorem dX9_about_82 : decode cX9_about 82 = .ok (.iload_n 1, 1) := by decide +kernel
theorem dX9_about_83 : decode cX9_about 83 = .ok (.aaload, 1) := by decide +kernel
theorem dX9_about_84 : decode cX9_about 84 = .ok (.getfield 157, 3) := by decide +kernel
theorem dX9_about_87 : decode cX9_about 87 = .ok (.ireturn, 1) := by decide +kernel
theorem dX9_about_88 : decode cX9_about 88 = .ok (.aload_n 0, 1) := by decide +kernel
theorem dX9_about_89 : decode cX9_about 89 = .ok (.getfield 37, 3) := by decide +kernel
theorem dX9_about_92 : decode cX9_about 92 = .ok (.iload_n 1, 1) := by decide +kernel
theorem dX9_about_93 : decode cX9_about 93 = .ok (.aaload, 1) := by decide +kernel
theorem dX9_about_94 : decode cX9_about 94 = .ok (.getfield 160, 3) := by decide +kernel
theorem dX9_about_97 : decode cX9_about 97 = .ok (.ireturn, 1) := by decide +kernel
theorem dX9_about_98 : decode cX9_about 98 = .ok (.bipush (-102), 2) := by decide +kernel
theorem dX9_about_100 : decode cX9_about 100 = .ok (.ireturn, 1) := by decide +kernel
theorem cw_X9_about : Cw yX9_about cX9_about 3 (some .int) 2 := ⟨aw_444, aw_19, ⟨by decide, by decide⟩, by decide +kernel, by decide⟩
theorem gf_9_148d {K : KT} {cc : ByteArray} {nL d pc : Nat} {ret : Option FieldType} {L : List (Option Value)} {st : List Value} {σ : Sg} (C : Cx K layC cc RX9 nL d ret) {o : Nat} (hY : layC[o]? = some (0, 0, slX0)) (hd : decode cc pc = .ok (.getfield 148, 3)) (k : G K (pc + 3) L (.int (rI σ o 0) :: st) (Wd K layC σ)) : G K pc L (.ref (kad K o) :: st) (Wd K layC σ) := g_get C (o := o) (ci := 0) (k := 0) hd hY rfl rfl (by decide) (Or.inr ⟨_, aw_135⟩) inA0 rfl k
theorem gf_9_151d {K : KT} {cc : ByteArray} {nL d pc : Nat} {ret : Option FieldType} {L : List (Option Value)} {st : List Value} {σ : Sg} (C : Cx K layC cc RX9 nL d ret) {o : Nat} (hY : layC[o]? = some (0, 0, slX0)) (hd : decode cc pc = .ok (.getfield 151, 3)) (k : G K (pc + 3) L (.int (rI σ o 1) :: st) (Wd K layC σ)) : G K pc L (.ref (kad K o) :: st) (Wd K layC σ) := g_get C (o := o) (ci := 0) (k := 1) hd hY rfl rfl (by decide) (Or.inr ⟨_, aw_138⟩) inA0 rfl k
theorem gf_9_154d {K : KT} {cc : ByteArray} {nL d pc : Nat} {ret : Option FieldType} {L : List (Option Value)} {st : List Value} {σ : Sg} (C : Cx K layC cc RX9 nL d ret) {o : Nat} (hY : layC[o]? = some (0, 0, slX0)) (hd : decode cc pc = .ok (.getfield 154, 3)) (k : G K (pc + 3) L (.int (rI σ o 2) :: st) (Wd K layC σ)) : G K pc L (.ref (kad K o) :: st) (Wd K layC σ) := g_get C (o := o) (ci := 0) (k := 2) hd hY rfl rfl (by decide) (Or.inr ⟨_, aw_140⟩) inA0 rfl k
theorem gf_9_157d {K : KT} {cc : ByteArray} {nL d pc : Nat} {ret : Option FieldType} {L : List (Option Value)} {st : List Value} {σ : Sg} (C : Cx K layC cc RX9 nL d ret) {o : Nat} (hY : layC[o]? = some (0, 0, slX0)) (hd : decode cc pc = .ok (.getfield 157, 3)) (k : G K (pc + 3) L (.int (rI σ o 3) :: st) (Wd K layC σ)) : G K pc L (.ref (kad K o) :: st) (Wd K layC σ) := g_get C (o := o) (ci := 0) (k := 3) hd hY rfl rfl (by decide) (Or.inr ⟨_, aw_143⟩) inA0 rfl k
theorem gf_9_160d {K : KT} {cc : ByteArray} {nL d pc : Nat} {ret : Option FieldType} {L : List (Option Value)} {st : List Value} {σ : Sg} (C : Cx K layC cc RX9 nL d ret) {o : Nat} (hY : layC[o]? = some (0, 0, slX0)) (hd : decode cc pc = .ok (.getfield 160, 3)) (k : G K (pc + 3) L (.int (rI σ o 4) :: st) (Wd K layC σ)) : G K pc L (.ref (kad K o) :: st) (Wd K layC σ) := g_get C (o := o) (ci := 0) (k := 4) hd hY rfl rfl (by decide) (Or.inr ⟨_, aw_145⟩) inA0 rfl k
def fX9_about_b0 (x1 : Int32) (x2 : Int32) (σ : Sg) : Option (Int32 × Sg) :=
  Option.bind (fX9_isBerg x1 σ) fun p1 => (if p1.1 = 0 then (some ((-101 : Int32), p1.2)) else (if x2 = (0 : Int32) then (if inb x1 5 = true then (some ((rI p1.2 (76 + (x1).toNatClampNeg) 0), p1.2)) else none) else (if x2 = (1 : Int32) then (if inb x1 5 = true then (some ((rI p1.2 (76 + (x1).toNatClampNeg) 1), p1.2)) else none) else (if x2 = (2 : Int32) then (if inb x1 5 = true then (some ((rI p1.2 (76 + (x1).toNatClampNeg) 2), p1.2)) else none) else (if x2 = (3 : Int32) then (if inb x1 5 = true then (some ((rI p1.2 (76 + (x1).toNatClampNeg) 3), p1.2)) else none) else (if x2 = (4 : Int32) then (if inb x1 5 = true then (some ((rI p1.2 (76 + (x1).toNatClampNeg) 4), p1.2)) else none) else (some ((-102 : Int32), p1.2))))))))
set_option maxRecDepth 4000 in
theorem bX9_about_b0 {K : KT} {x1 : Int32} {x2 : Int32} {σ : Sg} {o : Int32 × Sg} (C : Cx K layC cX9_about RX9 3 (2) (some .int))  (hQ : Rk K layC (okI o)) (h : fX9_about_b0 x1 x2 σ = some o) : G K 0 [some (.ref (kad K 0)), some (.int x1), some (.int x2)] [] (Wd K layC σ) := by
  unfold fX9_about_b0 at h
  refine g_aload_n C.c dX9_about_0 rfl (i := 0) rfl ?_
  refine g_iload_n C.c dX9_about_1 rfl (i := 1) rfl ?_
  obtain ⟨p1, e2, h⟩ := Option.bind_eq_some_iff.mp h
  refine kc_9_142 C dX9_about_2 e2 (Nat.le_of_ble_eq_true rfl) rfl (Nat.le_of_ble_eq_true rfl) ?_
  refine g_if_ne C.c (tgt := 11) dX9_about_5 (by decide) (fun c => ?_) (fun c => ?_)
  · replace h := ite_f c h
    refine g_iload_n C.c dX9_about_11 rfl (i := 2) rfl ?_
    by_cases c0 : x2 = (0 : Int32)
    · replace h := ite_t c0 h
      refine g_tblIn C.c (tgt := 48) (off := 36) c0 dX9_about_12 (by decide) (by decide) (by decide) (by decide) ?_
      refine g_aload_n C.c dX9_about_48 rfl (i := 0) rfl ?_
      refine gf_9_37 C dX9_about_49 ?_
      refine g_iload_n C.c dX9_about_52 rfl (i := 1) rfl ?_
      obtain ⟨c3, h⟩ := chk h
      have hs4 := rw_48 (inb_lt c3)
      refine g_aald4 C (b := 76) dX9_about_53 rfl c3 rfl rfl ?_
      refine gf_9_148d C hs4 dX9_about_54 ?_
      obtain rfl := Option.some.inj h
      exact g_iret C hQ dX9_about_57 rfl ⟨rfl, rfl⟩
    · replace h := ite_f c0 h
      by_cases c1 : x2 = (1 : Int32)
      · replace h := ite_t c1 h
        refine g_tblIn C.c (tgt := 58) (off := 46) c1 dX9_about_12 (by decide) (by decide) (by decide) (by decide) ?_
        refine g_aload_n C.c dX9_about_58 rfl (i := 0) rfl ?_
        refine gf_9_37 C dX9_about_59 ?_
        refine g_iload_n C.c dX9_about_62 rfl (i := 1) rfl ?_
        obtain ⟨c5, h⟩ := chk h
        have hs6 := rw_48 (inb_lt c5)
        refine g_aald4 C (b := 76) dX9_about_63 rfl c5 rfl rfl ?_
        refine gf_9_151d C hs6 dX9_about_64 ?_
        obtain rfl := Option.some.inj h
        exact g_iret C hQ dX9_about_67 rfl ⟨rfl, rfl⟩
      · replace h := ite_f c1 h
        by_cases c2 : x2 = (2 : Int32)
        · replace h := ite_t c2 h
          refine g_tblIn C.c (tgt := 68) (off := 56) c2 dX9_about_12 (by decide) (by decide) (by decide) (by decide) ?_
          refine g_aload_n C.c dX9_about_68 rfl (i := 0) rfl ?_
          refine gf_9_37 C dX9_about_69 ?_
          refine g_iload_n C.c dX9_about_72 rfl (i := 1) rfl ?_
          obtain ⟨c7, h⟩ := chk h
          have hs8 := rw_48 (inb_lt c7)
          refine g_aald4 C (b := 76) dX9_about_73 rfl c7 rfl rfl ?_
          refine gf_9_154d C hs8 dX9_about_74 ?_
          obtain rfl := Option.some.inj h
          exact g_iret C hQ dX9_about_77 rfl ⟨rfl, rfl⟩
        · replace h := ite_f c2 h
          by_cases c3 : x2 = (3 : Int32)
          · replace h := ite_t c3 h
            refine g_tblIn C.c (tgt := 78) (off := 66) c3 dX9_about_12 (by decide) (by decide) (by decide) (by decide) ?_
            refine g_aload_n C.c dX9_about_78 rfl (i := 0) rfl ?_
            refine gf_9_37 C dX9_about_79 ?_
            refine g_iload_n C.c dX9_about_82 rfl (i := 1) rfl ?_
            obtain ⟨c9, h⟩ := chk h
            have hs10 := rw_48 (inb_lt c9)
            refine g_aald4 C (b := 76) dX9_about_83 rfl c9 rfl rfl ?_
            refine gf_9_157d C hs10 dX9_about_84 ?_
            obtain rfl := Option.some.inj h
            exact g_iret C hQ dX9_about_87 rfl ⟨rfl, rfl⟩
          · replace h := ite_f c3 h
            by_cases c4 : x2 = (4 : Int32)
            · replace h := ite_t c4 h
              refine g_tblIn C.c (tgt := 88) (off := 76) c4 dX9_about_12 (by decide) (by decide) (by decide) (by decide) ?_
              refine g_aload_n C.c dX9_about_88 rfl (i := 0) rfl ?_
              refine gf_9_37 C dX9_about_89 ?_
              refine g_iload_n C.c dX9_about_92 rfl (i := 1) rfl ?_
              obtain ⟨c11, h⟩ := chk h
              have hs12 := rw_48 (inb_lt c11)
              refine g_aald4 C (b := 76) dX9_about_93 rfl c11 rfl rfl ?_
              refine gf_9_160d C hs12 dX9_about_94 ?_
              obtain rfl := Option.some.inj h
              exact g_iret C hQ dX9_about_97 rfl ⟨rfl, rfl⟩
            · replace h := ite_f c4 h
              refine g_tblOut C.c (tgt := 98) [(0 : Int32), (1 : Int32), (2 : Int32), (3 : Int32), (4 : Int32)] (by decide) ⟨c0, c1, c2, c3, c4, trivial⟩ dX9_about_12 (by decide) ?_
              refine g_bipush C.c dX9_about_98 (v := (-102 : Int32)) (by decide) ?_
              obtain rfl := Option.some.inj h
              exact g_iret C hQ dX9_about_100 rfl ⟨rfl, rfl⟩
  · replace h := ite_t c h
    refine g_bipush C.c dX9_about_8 (v := (-101 : Int32)) (by decide) ?_
    obtain rfl := Option.some.inj h
    exact g_iret C hQ dX9_about_10 rfl ⟨rfl, rfl⟩
def fX9_about (a0 : Int32) (a1 : Int32) (σ : Sg) : Option (Int32 × Sg) := fX9_about_b0 a0 a1 σ
theorem ct_X9_about {a0 : Int32} {a1 : Int32} {σ : Sg} {p : Int32 × Sg} (h : fX9_about a0 a1 σ = some p) : Ct layC yX9_about cX9_about 3 (some .int) 2 (fun ad => [.ref (ad 0), .int a0, .int a1]) σ (okI p) :=
 ct_of (L0 := fun ad => [some (.ref (ad 0)), some (.int a0), some (.int a1)]) (by decide) (fun _ => Nat.le_of_ble_eq_true rfl) (fun _ => rfl) (fun K C hQ => g_mask [true, true, true] rfl (bX9_about_b0 C hQ h))
-- X9_change
theorem dX9_change_0 : decode cX9_change 0 = .ok (.aload_n 0, 1) := by decide +kernel
theorem dX9_change_1 : decode cX9_change 1 = .ok (.iload_n 1, 1) := by decide +kernel
theorem dX9_change_2 : decode cX9_change 2 = .ok (.invokevirtual 142, 3) := by decide +kernel
theorem dX9_change_5 : decode cX9_change 5 = .ok (.ifCond .ne 6, 3) := by decide +kernel
theorem dX9_change_8 : decode cX9_change 8 = .ok (.bipush (-101), 2) := by decide +kernel
theorem dX9_change_10 : decode cX9_change 10 = .ok (.ireturn, 1) := by decide +kernel
theorem dX9_change_11 : decode cX9_change 11 = .ok (.iload_n 2, 1) := by decide +kernel
theorem dX9_change_12 : decode cX9_change 12 = .ok (.iconst 2, 1) := by decide +kernel
theorem dX9_change_13 : decode cX9_change 13 = .ok (.if_icmp .ne 14, 3) := by decide +kernel
theorem dX9_change_16 : decode cX9_change 16 = .ok (.iload_n 3, 1) := by decide +kernel
theorem dX9_change_17 : decode cX9_change 17 = .ok (.invokestatic 125, 3) := by decide +kernel
theorem dX9_change_20 : decode cX9_change 20 = .ok (.ifCond .eq 7, 3) := by decide +kernel
theorem dX9_change_23 : decode cX9_change 23 = .ok (.iconst 1, 1) := by decide +kernel
theorem dX9_change_24 : decode cX9_change 24 = .ok (.goto 4, 3) := by decide +kernel
theorem dX9_change_27 : decode cX9_change 27 = .ok (.iconst 0, 1) := by decide +kernel
theorem dX9_change_28 : decode cX9_change 28 = .ok (.istore 4, 2) := by decide +kernel
theorem dX9_change_30 : decode cX9_change 30 = .ok (.iload_n 2, 1) := by decide +kernel
theorem dX9_change_31 : decode cX9_change 31 = .ok (.iconst 3, 1) := by decide +kernel
theorem dX9_change_32 : decode cX9_change 32 = .ok (.if_icmp .ne 14, 3) := by decide +kernel
theorem dX9_change_35 : decode cX9_change 35 = .ok (.iload_n 3, 1) := by decide +kernel
theorem dX9_change_36 : decode cX9_change 36 = .ok (.invokestatic 128, 3) := by decide +kernel
theorem dX9_change_39 : decode cX9_change 39 = .ok (.ifCond .eq 7, 3) := by decide +kernel
theorem dX9_change_42 : decode cX9_change 42 = .ok (.iconst 1, 1) := by decide +kernel
theorem dX9_change_43 : decode cX9_change 43 = .ok (.goto 4, 3) := by decide +kernel
theorem dX9_change_46 : decode cX9_change 46 = .ok (.iconst 0, 1) := by decide +kernel
theorem dX9_change_47 : decode cX9_change 47 = .ok (.istore 5, 2) := by decide +kernel
theorem dX9_change_49 : decode cX9_change 49 = .ok (.iload 4, 2) := by decide +kernel
theorem dX9_change_51 : decode cX9_change 51 = .ok (.ifCond .ne 11, 3) := by decide +kernel
theorem dX9_change_54 : decode cX9_change 54 = .ok (.iload 5, 2) := by decide +kernel
theorem dX9_change_56 : decode cX9_change 56 = .ok (.ifCond .ne 6, 3) := by decide +kernel
theorem dX9_change_59 : decode cX9_change 59 = .ok (.bipush (-102), 2) := by decide +kernel
theorem dX9_change_61 : decode cX9_change 61 = .ok (.ireturn, 1) := by decide +kernel
theorem dX9_change_62 : decode cX9_change 62 = .ok (.aload_n 0, 1) := by decide +kernel
theorem dX9_change_63 : decode cX9_change 63 = .ok (.getfield 58, 3) := by decide +kernel
theorem dX9_change_66 : decode cX9_change 66 = .ok (.iload_n 1, 1) := by decide +kernel
theorem dX9_change_67 : decode cX9_change 67 = .ok (.invokevirtual 139, 3) := by decide +kernel
theorem dX9_change_70 : decode cX9_change 70 = .ok (.aload_n 0, 1) := by decide +kernel
theorem dX9_change_71 : decode cX9_change 71 = .ok (.getfield 37, 3) := by decide +kernel
theorem dX9_change_74 : decode cX9_change 74 = .ok (.iload_n 1, 1) := by decide +kernel
theorem dX9_change_75 : decode cX9_change 75 = .ok (.aaload, 1) := by decide +kernel
theorem dX9_change_76 : decode cX9_change 76 = .ok (.astore 6, 2) := by decide +kernel
theorem dX9_change_78 : decode cX9_change 78 = .ok (.iload 4, 2) := by decide +kernel
theorem dX9_change_80 : decode cX9_change 80 = .ok (.ifCond .eq 11, 3) := by decide +kernel
theorem dX9_change_83 : decode cX9_change 83 = .ok (.aload 6, 2) := by decide +kernel
theorem dX9_change_85 : decode cX9_change 85 = .ok (.getfield 154, 3) := by decide +kernel
theorem dX9_change_88 : decode cX9_change 88 = .ok (.goto 8, 3) := by decide +kernel
theorem dX9_change_91 : decode cX9_change 91 = .ok (.aload 6, 2) := by decide +kernel
theorem dX9_change_93 : decode cX9_change 93 = .ok (.getfield 157, 3) := by decide +kernel
theorem dX9_change_96 : decode cX9_change 96 = .ok (.istore 7, 2) := by decide +kernel
theorem dX9_change_98 : decode cX9_change 98 = .ok (.iload 4, 2) := by decide +kernel
theorem dX9_change_100 : decode cX9_change 100 = .ok (.ifCond .eq 12, 3) := by decide +kernel
theorem dX9_change_103 : decode cX9_change 103 = .ok (.aload 6, 2) := by decide +kernel
theorem dX9_change_105 : decode cX9_change 105 = .ok (.iload_n 3, 1) := by decide +kernel
theorem dX9_change_106 : decode cX9_change 106 = .ok (.putfield 154, 3) := by decide +kernel
theorem dX9_change_109 : decode cX9_change 109 = .ok (.goto 9, 3) := by decide +kernel
theorem dX9_change_112 : decode cX9_change 112 = .ok (.aload 6, 2) := by decide +kernel
theorem dX9_change_114 : decode cX9_change 114 = .ok (.iload_n 3, 1) := by decide +kernel
theorem dX9_change_115 : decode cX9_change 115 = .ok (.putfield 157, 3) := by decide +kernel
theorem dX9_change_118 : decode cX9_change 118 = .ok (.iload 7, 2) := by decide +kernel
theorem dX9_change_120 : decode cX9_change 120 = .ok (.ireturn, 1) := by decide +kernel
theorem cw_X9_change : Cw yX9_change cX9_change 8 (some .int) 3 := ⟨aw_448, aw_19, ⟨by decide, by decide⟩, by decide +kernel, by decide⟩
theorem pf_9_157d {K : KT} {cc : ByteArray} {nL d pc : Nat} {ret : Option FieldType} {L : List (Option Value)} {st : List Value} {σ : Sg} (C : Cx K layC cc RX9 nL d ret) {o : Nat} (hY : layC[o]? = some (0, 0, slX0)) {v : Int32}  (hd : decode cc pc = .ok (.putfield 157, 3)) (k : G K (pc + 3) L st (Wd K layC (wI σ o 3 v))) : G K pc L (.int v :: .ref (kad K o) :: st) (Wd K layC σ) := g_putI C (o := o) (ci := 0) (k := 3) hd hY rfl rfl (by decide) (Or.inr ⟨_, aw_143⟩) inA0 tyX0_ok nmX0 rfl rfl rfl k
theorem pf_9_154d {K : KT} {cc : ByteArray} {nL d pc : Nat} {ret : Option FieldType} {L : List (Option Value)} {st : List Value} {σ : Sg} (C : Cx K layC cc RX9 nL d ret) {o : Nat} (hY : layC[o]? = some (0, 0, slX0)) {v : Int32}  (hd : decode cc pc = .ok (.putfield 154, 3)) (k : G K (pc + 3) L st (Wd K layC (wI σ o 2 v))) : G K pc L (.int v :: .ref (kad K o) :: st) (Wd K layC σ) := g_putI C (o := o) (ci := 0) (k := 2) hd hY rfl rfl (by decide) (Or.inr ⟨_, aw_140⟩) inA0 tyX0_ok nmX0 rfl rfl rfl k
def fX9_change_b96 (x3 : Int32) (x4 : Int32) (w6 : Nat) (y0 : Int32) (σ : Sg) : Option (Int32 × Sg) :=
  if x4 = 0 then (some (y0, (wI σ w6 3 x3))) else (some (y0, (wI σ w6 2 x3)))
def fX9_change_b62 (x1 : Int32) (x3 : Int32) (x4 : Int32) (σ : Sg) : Option (Int32 × Sg) :=
  Option.bind (fX3_forget x1 σ) fun p3 => (if inb x1 5 = true then (if x4 = 0 then (fX9_change_b96 x3 x4 (76 + (x1).toNatClampNeg) (rI p3 (76 + (x1).toNatClampNeg) 3) p3) else (fX9_change_b96 x3 x4 (76 + (x1).toNatClampNeg) (rI p3 (76 + (x1).toNatClampNeg) 2) p3)) else none)
def fX9_change_b47 (x1 : Int32) (x3 : Int32) (x4 : Int32) (y0 : Int32) (σ : Sg) : Option (Int32 × Sg) :=
  if x4 = 0 then (if y0 = 0 then (some ((-102 : Int32), σ)) else (fX9_change_b62 x1 x3 x4 σ)) else (fX9_change_b62 x1 x3 x4 σ)
def fX9_change_b46 (x1 : Int32) (x3 : Int32) (x4 : Int32) (σ : Sg) : Option (Int32 × Sg) :=
  fX9_change_b47 x1 x3 x4 (0 : Int32) σ
def fX9_change_b28 (x1 : Int32) (x2 : Int32) (x3 : Int32) (y0 : Int32) (σ : Sg) : Option (Int32 × Sg) :=
  if x2 = (3 : Int32) then (Option.bind (fX9_isFoot x3 σ) fun p7 => (if p7.1 = 0 then (fX9_change_b46 x1 x3 y0 p7.2) else (fX9_change_b47 x1 x3 y0 (1 : Int32) p7.2))) else (fX9_change_b46 x1 x3 y0 σ)
def fX9_change_b27 (x1 : Int32) (x2 : Int32) (x3 : Int32) (σ : Sg) : Option (Int32 × Sg) :=
  fX9_change_b28 x1 x2 x3 (0 : Int32) σ
def fX9_change_b0 (x1 : Int32) (x2 : Int32) (x3 : Int32) (σ : Sg) : Option (Int32 × Sg) :=
  Option.bind (fX9_isBerg x1 σ) fun p1 => (if p1.1 = 0 then (some ((-101 : Int32), p1.2)) else (if x2 = (2 : Int32) then (Option.bind (fX9_isSize x3 p1.2) fun p9 => (if p9.1 = 0 then (fX9_change_b27 x1 x2 x3 p9.2) else (fX9_change_b28 x1 x2 x3 (1 : Int32) p9.2))) else (fX9_change_b27 x1 x2 x3 p1.2)))
set_option maxRecDepth 4000 in
theorem bX9_change_b96 {K : KT} {x3 : Int32} {x4 : Int32} {w6 : Nat} {y0 : Int32} {σ : Sg} {o : Int32 × Sg} (C : Cx K layC cX9_change RX9 8 (2) (some .int)) (hw6 : layC[w6]? = some (0, 0, slX0)) (hQ : Rk K layC (okI o)) (h : fX9_change_b96 x3 x4 w6 y0 σ = some o) : G K 96 [none, none, none, some (.int x3), some (.int x4), none, some (.ref (kad K w6)), none] [.int y0] (Wd K layC σ) := by
  unfold fX9_change_b96 at h
  refine g_istore C.c (i := 7) (L' := [none, none, none, some (.int x3), some (.int x4), none, some (.ref (kad K w6)), some (.int y0)]) dX9_change_96 (Nat.le_of_ble_eq_true rfl) rfl ?_
  refine g_iload C.c dX9_change_98 (i := 4) rfl ?_
  refine g_if_eq C.c (tgt := 112) dX9_change_100 (by decide) (fun c => ?_) (fun c => ?_)
  · replace h := ite_t c h
    refine g_aload C.c dX9_change_112 (i := 6) rfl ?_
    refine g_iload_n C.c dX9_change_114 rfl (i := 3) rfl ?_
    refine pf_9_157d C hw6 dX9_change_115 ?_
    refine g_iload C.c dX9_change_118 (i := 7) rfl ?_
    obtain rfl := Option.some.inj h
    exact g_iret C hQ dX9_change_120 rfl ⟨rfl, rfl⟩
  · replace h := ite_f c h
    refine g_aload C.c dX9_change_103 (i := 6) rfl ?_
    refine g_iload_n C.c dX9_change_105 rfl (i := 3) rfl ?_
    refine pf_9_154d C hw6 dX9_change_106 ?_
    refine g_goto C.c (tgt := 118) dX9_change_109 (by decide) ?_
    refine g_iload C.c dX9_change_118 (i := 7) rfl ?_
    obtain rfl := Option.some.inj h
    exact g_iret C hQ dX9_change_120 rfl ⟨rfl, rfl⟩
set_option maxRecDepth 4000 in
theorem bX9_change_b62 {K : KT} {x1 : Int32} {x3 : Int32} {x4 : Int32} {σ : Sg} {o : Int32 × Sg} (C : Cx K layC cX9_change RX9 8 (2) (some .int))  (hQ : Rk K layC (okI o)) (h : fX9_change_b62 x1 x3 x4 σ = some o) : G K 62 [some (.ref (kad K 0)), some (.int x1), none, some (.int x3), some (.int x4), none, none, none] [] (Wd K layC σ) := by
  unfold fX9_change_b62 at h
  refine g_aload_n C.c dX9_change_62 rfl (i := 0) rfl ?_
  refine gf_9_58 C dX9_change_63 ?_
  refine g_iload_n C.c dX9_change_66 rfl (i := 1) rfl ?_
  obtain ⟨p3, e4, h⟩ := Option.bind_eq_some_iff.mp h
  refine kc_9_139 C dX9_change_67 e4 (Nat.le_of_ble_eq_true rfl) rfl (Nat.le_of_ble_eq_true rfl) ?_
  refine g_aload_n C.c dX9_change_70 rfl (i := 0) rfl ?_
  refine gf_9_37 C dX9_change_71 ?_
  refine g_iload_n C.c dX9_change_74 rfl (i := 1) rfl ?_
  obtain ⟨c5, h⟩ := chk h
  have hs6 := rw_48 (inb_lt c5)
  refine g_aald4 C (b := 76) dX9_change_75 rfl c5 rfl rfl ?_
  refine g_astore C.c (i := 6) (L' := [some (.ref (kad K 0)), some (.int x1), none, some (.int x3), some (.int x4), none, some (.ref (kad K (76 + (x1).toNatClampNeg))), none]) dX9_change_76 (Nat.le_of_ble_eq_true rfl) rfl ?_
  refine g_iload C.c dX9_change_78 (i := 4) rfl ?_
  refine g_if_eq C.c (tgt := 91) dX9_change_80 (by decide) (fun c => ?_) (fun c => ?_)
  · replace h := ite_t c h
    refine g_aload C.c dX9_change_91 (i := 6) rfl ?_
    refine gf_9_157d C hs6 dX9_change_93 ?_
    exact g_mask [false, false, false, true, true, false, true, false] rfl (bX9_change_b96 C hs6 hQ h)
  · replace h := ite_f c h
    refine g_aload C.c dX9_change_83 (i := 6) rfl ?_
    refine gf_9_154d C hs6 dX9_change_85 ?_
    refine g_goto C.c (tgt := 96) dX9_change_88 (by decide) ?_
    exact g_mask [false, false, false, true, true, false, true, false] rfl (bX9_change_b96 C hs6 hQ h)
set_option maxRecDepth 4000 in
theorem bX9_change_b47 {K : KT} {x1 : Int32} {x3 : Int32} {x4 : Int32} {y0 : Int32} {σ : Sg} {o : Int32 × Sg} (C : Cx K layC cX9_change RX9 8 (2) (some .int))  (hQ : Rk K layC (okI o)) (h : fX9_change_b47 x1 x3 x4 y0 σ = some o) : G K 47 [some (.ref (kad K 0)), some (.int x1), none, some (.int x3), some (.int x4), none, none, none] [.int y0] (Wd K layC σ) := by
  unfold fX9_change_b47 at h
  refine g_istore C.c (i := 5) (L' := [some (.ref (kad K 0)), some (.int x1), none, some (.int x3), some (.int x4), some (.int y0), none, none]) dX9_change_47 (Nat.le_of_ble_eq_true rfl) rfl ?_
  refine g_iload C.c dX9_change_49 (i := 4) rfl ?_
  refine g_if_ne C.c (tgt := 62) dX9_change_51 (by decide) (fun c => ?_) (fun c => ?_)
  · replace h := ite_f c h
    exact g_mask [true, true, false, true, true, false, false, false] rfl (bX9_change_b62 C hQ h)
  · replace h := ite_t c h
    refine g_iload C.c dX9_change_54 (i := 5) rfl ?_
    refine g_if_ne C.c (tgt := 62) dX9_change_56 (by decide) (fun c => ?_) (fun c => ?_)
    · replace h := ite_f c h
      exact g_mask [true, true, false, true, true, false, false, false] rfl (bX9_change_b62 C hQ h)
    · replace h := ite_t c h
      refine g_bipush C.c dX9_change_59 (v := (-102 : Int32)) (by decide) ?_
      obtain rfl := Option.some.inj h
      exact g_iret C hQ dX9_change_61 rfl ⟨rfl, rfl⟩
set_option maxRecDepth 4000 in
theorem bX9_change_b46 {K : KT} {x1 : Int32} {x3 : Int32} {x4 : Int32} {σ : Sg} {o : Int32 × Sg} (C : Cx K layC cX9_change RX9 8 (2) (some .int))  (hQ : Rk K layC (okI o)) (h : fX9_change_b46 x1 x3 x4 σ = some o) : G K 46 [some (.ref (kad K 0)), some (.int x1), none, some (.int x3), some (.int x4), none, none, none] [] (Wd K layC σ) := by
  unfold fX9_change_b46 at h
  refine g_iconst C.c dX9_change_46 (v := (0 : Int32)) (by decide) ?_
  exact g_mask [true, true, false, true, true, false, false, false] rfl (bX9_change_b47 C hQ h)
set_option maxRecDepth 4000 in
theorem bX9_change_b28 {K : KT} {x1 : Int32} {x2 : Int32} {x3 : Int32} {y0 : Int32} {σ : Sg} {o : Int32 × Sg} (C : Cx K layC cX9_change RX9 8 (2) (some .int))  (hQ : Rk K layC (okI o)) (h : fX9_change_b28 x1 x2 x3 y0 σ = some o) : G K 28 [some (.ref (kad K 0)), some (.int x1), some (.int x2), some (.int x3), none, none, none, none] [.int y0] (Wd K layC σ) := by
  unfold fX9_change_b28 at h
  refine g_istore C.c (i := 4) (L' := [some (.ref (kad K 0)), some (.int x1), some (.int x2), some (.int x3), some (.int y0), none, none, none]) dX9_change_28 (Nat.le_of_ble_eq_true rfl) rfl ?_
  refine g_iload_n C.c dX9_change_30 rfl (i := 2) rfl ?_
  refine g_iconst C.c dX9_change_31 (v := (3 : Int32)) (by decide) ?_
  refine g_icmp_ne C.c (tgt := 46) dX9_change_32 (by decide) (fun c => ?_) (fun c => ?_)
  · replace h := ite_f c h
    exact g_mask [true, true, false, true, true, false, false, false] rfl (bX9_change_b46 C hQ h)
  · replace h := ite_t c h
    refine g_iload_n C.c dX9_change_35 rfl (i := 3) rfl ?_
    obtain ⟨p7, e8, h⟩ := Option.bind_eq_some_iff.mp h
    refine kc_9_128 C dX9_change_36 e8 (Nat.le_of_ble_eq_true rfl) rfl (Nat.le_of_ble_eq_true rfl) ?_
    refine g_if_eq C.c (tgt := 46) dX9_change_39 (by decide) (fun c => ?_) (fun c => ?_)
    · replace h := ite_t c h
      exact g_mask [true, true, false, true, true, false, false, false] rfl (bX9_change_b46 C hQ h)
    · replace h := ite_f c h
      refine g_iconst C.c dX9_change_42 (v := (1 : Int32)) (by decide) ?_
      refine g_goto C.c (tgt := 47) dX9_change_43 (by decide) ?_
      exact g_mask [true, true, false, true, true, false, false, false] rfl (bX9_change_b47 C hQ h)
set_option maxRecDepth 4000 in
theorem bX9_change_b27 {K : KT} {x1 : Int32} {x2 : Int32} {x3 : Int32} {σ : Sg} {o : Int32 × Sg} (C : Cx K layC cX9_change RX9 8 (2) (some .int))  (hQ : Rk K layC (okI o)) (h : fX9_change_b27 x1 x2 x3 σ = some o) : G K 27 [some (.ref (kad K 0)), some (.int x1), some (.int x2), some (.int x3), none, none, none, none] [] (Wd K layC σ) := by
  unfold fX9_change_b27 at h
  refine g_iconst C.c dX9_change_27 (v := (0 : Int32)) (by decide) ?_
  exact g_mask [true, true, true, true, false, false, false, false] rfl (bX9_change_b28 C hQ h)
set_option maxRecDepth 4000 in
theorem bX9_change_b0 {K : KT} {x1 : Int32} {x2 : Int32} {x3 : Int32} {σ : Sg} {o : Int32 × Sg} (C : Cx K layC cX9_change RX9 8 (2) (some .int))  (hQ : Rk K layC (okI o)) (h : fX9_change_b0 x1 x2 x3 σ = some o) : G K 0 [some (.ref (kad K 0)), some (.int x1), some (.int x2), some (.int x3), none, none, none, none] [] (Wd K layC σ) := by
  unfold fX9_change_b0 at h
  refine g_aload_n C.c dX9_change_0 rfl (i := 0) rfl ?_
  refine g_iload_n C.c dX9_change_1 rfl (i := 1) rfl ?_
  obtain ⟨p1, e2, h⟩ := Option.bind_eq_some_iff.mp h
  refine kc_9_142 C dX9_change_2 e2 (Nat.le_of_ble_eq_true rfl) rfl (Nat.le_of_ble_eq_true rfl) ?_
  refine g_if_ne C.c (tgt := 11) dX9_change_5 (by decide) (fun c => ?_) (fun c => ?_)
  · replace h := ite_f c h
    refine g_iload_n C.c dX9_change_11 rfl (i := 2) rfl ?_
    refine g_iconst C.c dX9_change_12 (v := (2 : Int32)) (by decide) ?_
    refine g_icmp_ne C.c (tgt := 27) dX9_change_13 (by decide) (fun c => ?_) (fun c => ?_)
    · replace h := ite_f c h
      exact g_mask [true, true, true, true, false, false, false, false] rfl (bX9_change_b27 C hQ h)
    · replace h := ite_t c h
      refine g_iload_n C.c dX9_change_16 rfl (i := 3) rfl ?_
      obtain ⟨p9, e10, h⟩ := Option.bind_eq_some_iff.mp h
      refine kc_9_125 C dX9_change_17 e10 (Nat.le_of_ble_eq_true rfl) rfl (Nat.le_of_ble_eq_true rfl) ?_
      refine g_if_eq C.c (tgt := 27) dX9_change_20 (by decide) (fun c => ?_) (fun c => ?_)
      · replace h := ite_t c h
        exact g_mask [true, true, true, true, false, false, false, false] rfl (bX9_change_b27 C hQ h)
      · replace h := ite_f c h
        refine g_iconst C.c dX9_change_23 (v := (1 : Int32)) (by decide) ?_
        refine g_goto C.c (tgt := 28) dX9_change_24 (by decide) ?_
        exact g_mask [true, true, true, true, false, false, false, false] rfl (bX9_change_b28 C hQ h)
  · replace h := ite_t c h
    refine g_bipush C.c dX9_change_8 (v := (-101 : Int32)) (by decide) ?_
    obtain rfl := Option.some.inj h
    exact g_iret C hQ dX9_change_10 rfl ⟨rfl, rfl⟩
def fX9_change (a0 : Int32) (a1 : Int32) (a2 : Int32) (σ : Sg) : Option (Int32 × Sg) := fX9_change_b0 a0 a1 a2 σ
theorem ct_X9_change {a0 : Int32} {a1 : Int32} {a2 : Int32} {σ : Sg} {p : Int32 × Sg} (h : fX9_change a0 a1 a2 σ = some p) : Ct layC yX9_change cX9_change 8 (some .int) 2 (fun ad => [.ref (ad 0), .int a0, .int a1, .int a2]) σ (okI p) :=
 ct_of (L0 := fun ad => [some (.ref (ad 0)), some (.int a0), some (.int a1), some (.int a2), none, none, none, none]) (by decide) (fun _ => Nat.le_of_ble_eq_true rfl) (fun _ => rfl) (fun K C hQ => g_mask [true, true, true, true, false, false, false, false] rfl (bX9_change_b0 C hQ h))
-- X9_coin
theorem dX9_coin_0 : decode cX9_coin 0 = .ok (.aload_n 0, 1) := by decide +kernel
theorem dX9_coin_1 : decode cX9_coin 1 = .ok (.getfield 34, 3) := by decide +kernel
theorem dX9_coin_4 : decode cX9_coin 4 = .ok (.iload_n 1, 1) := by decide +kernel
theorem dX9_coin_5 : decode cX9_coin 5 = .ok (.iload_n 2, 1) := by decide +kernel
theorem dX9_coin_6 : decode cX9_coin 6 = .ok (.invokevirtual 163, 3) := by decide +kernel
theorem dX9_coin_9 : decode cX9_coin 9 = .ok (.ifCond .ne 6, 3) := by decide +kernel
theorem dX9_coin_12 : decode cX9_coin 12 = .ok (.bipush (-102), 2) := by decide +kernel
theorem dX9_coin_14 : decode cX9_coin 14 = .ok (.ireturn, 1) := by decide +kernel
theorem dX9_coin_15 : decode cX9_coin 15 = .ok (.aload_n 0, 1) := by decide +kernel
theorem dX9_coin_16 : decode cX9_coin 16 = .ok (.getfield 58, 3) := by decide +kernel
theorem dX9_coin_19 : decode cX9_coin 19 = .ok (.invokevirtual 168, 3) := by decide +kernel
theorem dX9_coin_22 : decode cX9_coin 22 = .ok (.aload_n 0, 1) := by decide +kernel
theorem dX9_coin_23 : decode cX9_coin 23 = .ok (.getfield 34, 3) := by decide +kernel
theorem dX9_coin_26 : decode cX9_coin 26 = .ok (.iload_n 1, 1) := by decide +kernel
theorem dX9_coin_27 : decode cX9_coin 27 = .ok (.iload_n 2, 1) := by decide +kernel
theorem dX9_coin_28 : decode cX9_coin 28 = .ok (.invokevirtual 171, 3) := by decide +kernel
theorem dX9_coin_31 : decode cX9_coin 31 = .ok (.ireturn, 1) := by decide +kernel
theorem cw_X9_coin : Cw yX9_coin cX9_coin 3 (some .int) 2 := ⟨aw_462, aw_19, ⟨by decide, by decide⟩, by decide +kernel, by decide⟩
theorem gf_9_34 {K : KT} {cc : ByteArray} {nL d pc : Nat} {ret : Option FieldType} {L : List (Option Value)} {st : List Value} {σ : Sg} (C : Cx K layC cc RX9 nL d ret)  (hd : decode cc pc = .ok (.getfield 34, 3)) (k : G K (pc + 3) L (.ref (kad K 40) :: st) (Wd K layC σ)) : G K pc L (.ref (kad K 0) :: st) (Wd K layC σ) := g_get C (o := 0) (ci := 9) (k := 3) hd rfl rfl rfl (by decide) (Or.inl aw_310) inA9 rfl k
theorem kc_9_163 {K : KT} {cc : ByteArray} {nL d pc : Nat} {ret : Option FieldType} {L : List (Option Value)} {st : List Value} {σ : Sg} (C : Cx K layC cc RX9 nL d ret)  {o0 : Nat} {a0 : Int32} {a1 : Int32} (hY0 : layC[o0]? = some (0, 1, slX1)) {p : Int32 × Sg} (hd : decode cc pc = .ok (.invokevirtual 163, 3)) (e : fX1_mayBe o0 a0 a1 σ = some p) (hdd : 1 + 1 ≤ d) (hLn : L.length = nL) (hr : (st.map fun v => v.category).sum ≤ 8) (k : G K (pc + 3) L (.int p.1 :: st) (Wd K layC p.2)) : G K pc L (.int a1 :: .int a0 :: .ref (kad K o0) :: st) (Wd K layC σ) :=
  g_callV C (As := [.int a0, .int a1]) (rest := st) (o := o0) (ci := 1) hd (ct_X1_mayBe hY0 e) cw_X1_mayBe (Or.inl aw_463) aw_464 aw_465 rfl rfl rfl hdd hLn hY0 rfl hr (fun v τ q => by obtain ⟨rfl, rfl⟩ := q; exact k)
theorem kc_9_168 {K : KT} {cc : ByteArray} {nL d pc : Nat} {ret : Option FieldType} {L : List (Option Value)} {st : List Value} {σ : Sg} (C : Cx K layC cc RX9 nL d ret)    {p : Sg} (hd : decode cc pc = .ok (.invokevirtual 168, 3)) (e : fX3_forgetAll σ = some p) (hdd : 1 + 1 ≤ d) (hLn : L.length = nL) (hr : (st.map fun v => v.category).sum ≤ 8) (k : G K (pc + 3) L (st) (Wd K layC p)) : G K pc L (.ref (kad K 58) :: st) (Wd K layC σ) :=
  g_callV C (As := []) (rest := st) (o := 58) (ci := 3) hd (ct_X3_forgetAll e) cw_X3_forgetAll (Or.inl aw_471) aw_472 aw_473 rfl rfl rfl hdd hLn rfl rfl hr (fun v τ q => by obtain ⟨rfl, rfl⟩ := q; exact k)
theorem kc_9_171 {K : KT} {cc : ByteArray} {nL d pc : Nat} {ret : Option FieldType} {L : List (Option Value)} {st : List Value} {σ : Sg} (C : Cx K layC cc RX9 nL d ret)  {o0 : Nat} {a0 : Int32} {a1 : Int32} (hY0 : layC[o0]? = some (0, 1, slX1)) {p : Int32 × Sg} (hd : decode cc pc = .ok (.invokevirtual 171, 3)) (e : fX1_put o0 a0 a1 σ = some p) (hdd : 1 + 1 ≤ d) (hLn : L.length = nL) (hr : (st.map fun v => v.category).sum ≤ 8) (k : G K (pc + 3) L (.int p.1 :: st) (Wd K layC p.2)) : G K pc L (.int a1 :: .int a0 :: .ref (kad K o0) :: st) (Wd K layC σ) :=
  g_callV C (As := [.int a0, .int a1]) (rest := st) (o := o0) (ci := 1) hd (ct_X1_put hY0 e) cw_X1_put (Or.inl aw_475) aw_476 aw_477 rfl rfl rfl hdd hLn hY0 rfl hr (fun v τ q => by obtain ⟨rfl, rfl⟩ := q; exact k)
def fX9_coin_b0 (x1 : Int32) (x2 : Int32) (σ : Sg) : Option (Int32 × Sg) :=
  Option.bind (fX1_mayBe 40 x1 x2 σ) fun p1 => (if p1.1 = 0 then (some ((-102 : Int32), p1.2)) else (Option.bind (fX3_forgetAll p1.2) fun p3 => (Option.bind (fX1_put 40 x1 x2 p3) fun p5 => (some (p5.1, p5.2)))))
set_option maxRecDepth 4000 in
theorem bX9_coin_b0 {K : KT} {x1 : Int32} {x2 : Int32} {σ : Sg} {o : Int32 × Sg} (C : Cx K layC cX9_coin RX9 3 (2) (some .int))  (hQ : Rk K layC (okI o)) (h : fX9_coin_b0 x1 x2 σ = some o) : G K 0 [some (.ref (kad K 0)), some (.int x1), some (.int x2)] [] (Wd K layC σ) := by
  unfold fX9_coin_b0 at h
  refine g_aload_n C.c dX9_coin_0 rfl (i := 0) rfl ?_
  refine gf_9_34 C dX9_coin_1 ?_
  refine g_iload_n C.c dX9_coin_4 rfl (i := 1) rfl ?_
  refine g_iload_n C.c dX9_coin_5 rfl (i := 2) rfl ?_
  obtain ⟨p1, e2, h⟩ := Option.bind_eq_some_iff.mp h
  refine kc_9_163 C rfl dX9_coin_6 e2 (Nat.le_of_ble_eq_true rfl) rfl (Nat.le_of_ble_eq_true rfl) ?_
  refine g_if_ne C.c (tgt := 15) dX9_coin_9 (by decide) (fun c => ?_) (fun c => ?_)
  · replace h := ite_f c h
    refine g_aload_n C.c dX9_coin_15 rfl (i := 0) rfl ?_
    refine gf_9_58 C dX9_coin_16 ?_
    obtain ⟨p3, e4, h⟩ := Option.bind_eq_some_iff.mp h
    refine kc_9_168 C dX9_coin_19 e4 (Nat.le_of_ble_eq_true rfl) rfl (Nat.le_of_ble_eq_true rfl) ?_
    refine g_aload_n C.c dX9_coin_22 rfl (i := 0) rfl ?_
    refine gf_9_34 C dX9_coin_23 ?_
    refine g_iload_n C.c dX9_coin_26 rfl (i := 1) rfl ?_
    refine g_iload_n C.c dX9_coin_27 rfl (i := 2) rfl ?_
    obtain ⟨p5, e6, h⟩ := Option.bind_eq_some_iff.mp h
    refine kc_9_171 C rfl dX9_coin_28 e6 (Nat.le_of_ble_eq_true rfl) rfl (Nat.le_of_ble_eq_true rfl) ?_
    obtain rfl := Option.some.inj h
    exact g_iret C hQ dX9_coin_31 rfl ⟨rfl, rfl⟩
  · replace h := ite_t c h
    refine g_bipush C.c dX9_coin_12 (v := (-102 : Int32)) (by decide) ?_
    obtain rfl := Option.some.inj h
    exact g_iret C hQ dX9_coin_14 rfl ⟨rfl, rfl⟩
def fX9_coin (a0 : Int32) (a1 : Int32) (σ : Sg) : Option (Int32 × Sg) := fX9_coin_b0 a0 a1 σ
theorem ct_X9_coin {a0 : Int32} {a1 : Int32} {σ : Sg} {p : Int32 × Sg} (h : fX9_coin a0 a1 σ = some p) : Ct layC yX9_coin cX9_coin 3 (some .int) 2 (fun ad => [.ref (ad 0), .int a0, .int a1]) σ (okI p) :=
 ct_of (L0 := fun ad => [some (.ref (ad 0)), some (.int a0), some (.int a1)]) (by decide) (fun _ => Nat.le_of_ble_eq_true rfl) (fun _ => rfl) (fun K C hQ => g_mask [true, true, true] rfl (bX9_coin_b0 C hQ h))
-- X9_isTugs
theorem dX9_isTugs_0 : decode cX9_isTugs 0 = .ok (.iload_n 0, 1) := by decide +kernel
theorem dX9_isTugs_1 : decode cX9_isTugs 1 = .ok (.iconst 1, 1) := by decide +kernel
theorem dX9_isTugs_2 : decode cX9_isTugs 2 = .ok (.if_icmp .lt 13, 3) := by decide +kernel
theorem dX9_isTugs_5 : decode cX9_isTugs 5 = .ok (.iload_n 0, 1) := by decide +kernel
theorem dX9_isTugs_6 : decode cX9_isTugs 6 = .ok (.bipush 11, 2) := by decide +kernel
theorem dX9_isTugs_8 : decode cX9_isTugs 8 = .ok (.if_icmp .gt 7, 3) := by decide +kernel
theorem dX9_isTugs_11 : decode cX9_isTugs 11 = .ok (.iconst 1, 1) := by decide +kernel
theorem dX9_isTugs_12 : decode cX9_isTugs 12 = .ok (.goto 4, 3) := by decide +kernel
theorem dX9_isTugs_15 : decode cX9_isTugs 15 = .ok (.iconst 0, 1) := by decide +kernel
theorem dX9_isTugs_16 : decode cX9_isTugs 16 = .ok (.ireturn, 1) := by decide +kernel
theorem cw_X9_isTugs : Cw yX9_isTugs cX9_isTugs 1 (some .boolean) 1 := ⟨aw_486, aw_19, ⟨by decide, by decide⟩, by decide +kernel, by decide⟩
def fX9_isTugs_b0 (x0 : Int32) (σ : Sg) : Option (Int32 × Sg) :=
  if x0 < (1 : Int32) then (some ((0 : Int32), σ)) else (if (11 : Int32) < x0 then (some ((0 : Int32), σ)) else (some ((1 : Int32), σ)))
set_option maxRecDepth 4000 in
theorem bX9_isTugs_b0 {K : KT} {x0 : Int32} {σ : Sg} {o : Int32 × Sg} (C : Cx K layC cX9_isTugs RX9 1 (1) (some .boolean))  (hQ : Rk K layC (okI o)) (h : fX9_isTugs_b0 x0 σ = some o) : G K 0 [some (.int x0)] [] (Wd K layC σ) := by
  unfold fX9_isTugs_b0 at h
  refine g_iload_n C.c dX9_isTugs_0 rfl (i := 0) rfl ?_
  refine g_iconst C.c dX9_isTugs_1 (v := (1 : Int32)) (by decide) ?_
  refine g_icmp_lt C.c (tgt := 15) dX9_isTugs_2 (by decide) (fun c => ?_) (fun c => ?_)
  · replace h := ite_t c h
    refine g_iconst C.c dX9_isTugs_15 (v := (0 : Int32)) (by decide) ?_
    obtain rfl := Option.some.inj h
    exact g_iret C hQ dX9_isTugs_16 rfl ⟨rfl, rfl⟩
  · replace h := ite_f c h
    refine g_iload_n C.c dX9_isTugs_5 rfl (i := 0) rfl ?_
    refine g_bipush C.c dX9_isTugs_6 (v := (11 : Int32)) (by decide) ?_
    refine g_icmp_gt C.c (tgt := 15) dX9_isTugs_8 (by decide) (fun c => ?_) (fun c => ?_)
    · replace h := ite_t c h
      refine g_iconst C.c dX9_isTugs_15 (v := (0 : Int32)) (by decide) ?_
      obtain rfl := Option.some.inj h
      exact g_iret C hQ dX9_isTugs_16 rfl ⟨rfl, rfl⟩
    · replace h := ite_f c h
      refine g_iconst C.c dX9_isTugs_11 (v := (1 : Int32)) (by decide) ?_
      refine g_goto C.c (tgt := 16) dX9_isTugs_12 (by decide) ?_
      obtain rfl := Option.some.inj h
      exact g_iret C hQ dX9_isTugs_16 rfl ⟨rfl, rfl⟩
def fX9_isTugs (a0 : Int32) (σ : Sg) : Option (Int32 × Sg) := fX9_isTugs_b0 a0 σ
theorem ct_X9_isTugs {a0 : Int32} {σ : Sg} {p : Int32 × Sg} (h : fX9_isTugs a0 σ = some p) : Ct layC yX9_isTugs cX9_isTugs 1 (some .boolean) 1 (fun ad => [.int a0]) σ (okI p) :=
 ct_of (L0 := fun ad => [some (.int a0)]) (by decide) (fun _ => Nat.le_of_ble_eq_true rfl) (fun _ => rfl) (fun K C hQ => g_mask [true] rfl (bX9_isTugs_b0 C hQ h))
-- X9_hasWay
theorem dX9_hasWay_0 : decode cX9_hasWay 0 = .ok (.aload_n 0, 1) := by decide +kernel
theorem dX9_hasWay_1 : decode cX9_hasWay 1 = .ok (.getfield 27, 3) := by decide +kernel
theorem dX9_hasWay_4 : decode cX9_hasWay 4 = .ok (.getfield 204, 3) := by decide +kernel
theorem dX9_hasWay_7 : decode cX9_hasWay 7 = .ok (.aload_n 0, 1) := by decide +kernel
theorem dX9_hasWay_8 : decode cX9_hasWay 8 = .ok (.getfield 37, 3) := by decide +kernel
theorem dX9_hasWay_11 : decode cX9_hasWay 11 = .ok (.iload_n 1, 1) := by decide +kernel
theorem dX9_hasWay_12 : decode cX9_hasWay 12 = .ok (.aaload, 1) := by decide +kernel
theorem dX9_hasWay_13 : decode cX9_hasWay 13 = .ok (.getfield 151, 3) := by decide +kernel
theorem dX9_hasWay_16 : decode cX9_hasWay 16 = .ok (.iaload, 1) := by decide +kernel
theorem dX9_hasWay_17 : decode cX9_hasWay 17 = .ok (.ifCond .le 7, 3) := by decide +kernel
theorem dX9_hasWay_20 : decode cX9_hasWay 20 = .ok (.iconst 1, 1) := by decide +kernel
theorem dX9_hasWay_21 : decode cX9_hasWay 21 = .ok (.goto 4, 3) := by decide +kernel
theorem dX9_hasWay_24 : decode cX9_hasWay 24 = .ok (.iconst 0, 1) := by decide +kernel
theorem dX9_hasWay_25 : decode cX9_hasWay 25 = .ok (.ireturn, 1) := by decide +kernel
theorem cw_X9_hasWay : Cw yX9_hasWay cX9_hasWay 2 (some .boolean) 1 := ⟨aw_491, aw_19, ⟨by decide, by decide⟩, by decide +kernel, by decide⟩
theorem gf_9_204 {K : KT} {cc : ByteArray} {nL d pc : Nat} {ret : Option FieldType} {L : List (Option Value)} {st : List Value} {σ : Sg} (C : Cx K layC cc RX9 nL d ret)  (hd : decode cc pc = .ok (.getfield 204, 3)) (k : G K (pc + 3) L (.ref (kad K 8) :: st) (Wd K layC σ)) : G K pc L (.ref (kad K 4) :: st) (Wd K layC σ) := g_get C (o := 4) (ci := 7) (k := 3) hd rfl rfl rfl (by decide) (Or.inr ⟨_, aw_92⟩) inA7 rfl k
def fX9_hasWay_b0 (x1 : Int32) (σ : Sg) : Option (Int32 × Sg) :=
  if inb x1 5 = true then (if inb (rI σ (76 + (x1).toNatClampNeg) 1) 30 = true then (if (rI σ 8 ((rI σ (76 + (x1).toNatClampNeg) 1)).toNatClampNeg) ≤ 0 then (some ((0 : Int32), σ)) else (some ((1 : Int32), σ))) else none) else none
set_option maxRecDepth 4000 in
theorem bX9_hasWay_b0 {K : KT} {x1 : Int32} {σ : Sg} {o : Int32 × Sg} (C : Cx K layC cX9_hasWay RX9 2 (1) (some .boolean))  (hQ : Rk K layC (okI o)) (h : fX9_hasWay_b0 x1 σ = some o) : G K 0 [some (.ref (kad K 0)), some (.int x1)] [] (Wd K layC σ) := by
  unfold fX9_hasWay_b0 at h
  refine g_aload_n C.c dX9_hasWay_0 rfl (i := 0) rfl ?_
  refine gf_9_27 C dX9_hasWay_1 ?_
  refine gf_9_204 C dX9_hasWay_4 ?_
  refine g_aload_n C.c dX9_hasWay_7 rfl (i := 0) rfl ?_
  refine gf_9_37 C dX9_hasWay_8 ?_
  refine g_iload_n C.c dX9_hasWay_11 rfl (i := 1) rfl ?_
  obtain ⟨c1, h⟩ := chk h
  have hs2 := rw_48 (inb_lt c1)
  refine g_aald4 C (b := 76) dX9_hasWay_12 rfl c1 rfl rfl ?_
  refine gf_9_151d C hs2 dX9_hasWay_13 ?_
  obtain ⟨c3, h⟩ := chk h
  refine g_iald C dX9_hasWay_16 rfl c3 ?_
  refine g_if_le C.c (tgt := 24) dX9_hasWay_17 (by decide) (fun c => ?_) (fun c => ?_)
  · replace h := ite_t c h
    refine g_iconst C.c dX9_hasWay_24 (v := (0 : Int32)) (by decide) ?_
    obtain rfl := Option.some.inj h
    exact g_iret C hQ dX9_hasWay_25 rfl ⟨rfl, rfl⟩
  · replace h := ite_f c h
    refine g_iconst C.c dX9_hasWay_20 (v := (1 : Int32)) (by decide) ?_
    refine g_goto C.c (tgt := 25) dX9_hasWay_21 (by decide) ?_
    obtain rfl := Option.some.inj h
    exact g_iret C hQ dX9_hasWay_25 rfl ⟨rfl, rfl⟩
def fX9_hasWay (a0 : Int32) (σ : Sg) : Option (Int32 × Sg) := fX9_hasWay_b0 a0 σ
theorem ct_X9_hasWay {a0 : Int32} {σ : Sg} {p : Int32 × Sg} (h : fX9_hasWay a0 σ = some p) : Ct layC yX9_hasWay cX9_hasWay 2 (some .boolean) 1 (fun ad => [.ref (ad 0), .int a0]) σ (okI p) :=
 ct_of (L0 := fun ad => [some (.ref (ad 0)), some (.int a0)]) (by decide) (fun _ => Nat.le_of_ble_eq_true rfl) (fun _ => rfl) (fun K C hQ => g_mask [true, true] rfl (bX9_hasWay_b0 C hQ h))
-- X9_tow
theorem dX9_tow_0 : decode cX9_tow 0 = .ok (.aload_n 0, 1) := by decide +kernel
theorem dX9_tow_1 : decode cX9_tow 1 = .ok (.iload_n 1, 1) := by decide +kernel
theorem dX9_tow_2 : decode cX9_tow 2 = .ok (.invokevirtual 142, 3) := by decide +kernel
theorem dX9_tow_5 : decode cX9_tow 5 = .ok (.ifCond .ne 6, 3) := by decide +kernel
theorem dX9_tow_8 : decode cX9_tow 8 = .ok (.ldc 175, 2) := by decide +kernel
theorem dX9_tow_10 : decode cX9_tow 10 = .ok (.ireturn, 1) := by decide +kernel
theorem dX9_tow_11 : decode cX9_tow 11 = .ok (.iload 4, 2) := by decide +kernel
theorem dX9_tow_13 : decode cX9_tow 13 = .ok (.bipush 10, 2) := by decide +kernel
theorem dX9_tow_15 : decode cX9_tow 15 = .ok (.if_icmp .lt 14, 3) := by decide +kernel
theorem dX9_tow_18 : decode cX9_tow 18 = .ok (.iload 4, 2) := by decide +kernel
theorem dX9_tow_20 : decode cX9_tow 20 = .ok (.bipush 19, 2) := by decide +kernel
theorem dX9_tow_22 : decode cX9_tow 22 = .ok (.if_icmp .ge 7, 3) := by decide +kernel
theorem dX9_tow_25 : decode cX9_tow 25 = .ok (.iconst 1, 1) := by decide +kernel
theorem dX9_tow_26 : decode cX9_tow 26 = .ok (.goto 4, 3) := by decide +kernel
theorem dX9_tow_29 : decode cX9_tow 29 = .ok (.iconst 0, 1) := by decide +kernel
theorem dX9_tow_30 : decode cX9_tow 30 = .ok (.istore 5, 2) := by decide +kernel
theorem dX9_tow_32 : decode cX9_tow 32 = .ok (.iload_n 2, 1) := by decide +kernel
theorem dX9_tow_33 : decode cX9_tow 33 = .ok (.invokestatic 176, 3) := by decide +kernel
theorem dX9_tow_36 : decode cX9_tow 36 = .ok (.ifCond .eq 19, 3) := by decide +kernel
theorem dX9_tow_39 : decode cX9_tow 39 = .ok (.iload 5, 2) := by decide +kernel
theorem dX9_tow_41 : decode cX9_tow 41 = .ok (.ifCond .ne 17, 3) := by decide +kernel
theorem dX9_tow_44 : decode cX9_tow 44 = .ok (.iload 4, 2) := by decide +kernel
theorem dX9_tow_46 : decode cX9_tow 46 = .ok (.ifCond .lt 9, 3) := by decide +kernel
theorem dX9_tow_49 : decode cX9_tow 49 = .ok (.iload 4, 2) := by decide +kernel
theorem dX9_tow_51 : decode cX9_tow 51 = .ok (.iconst 3, 1) := by decide +kernel
theorem dX9_tow_52 : decode cX9_tow 52 = .ok (.if_icmp .le 6, 3) := by decide +kernel
theorem dX9_tow_55 : decode cX9_tow 55 = .ok (.ldc 179, 2) := by decide +kernel
theorem dX9_tow_57 : decode cX9_tow 57 = .ok (.ireturn, 1) := by decide +kernel
theorem dX9_tow_58 : decode cX9_tow 58 = .ok (.aload_n 0, 1) := by decide +kernel
theorem dX9_tow_59 : decode cX9_tow 59 = .ok (.iload_n 1, 1) := by decide +kernel
theorem dX9_tow_60 : decode cX9_tow 60 = .ok (.invokevirtual 180, 3) := by decide +kernel
theorem dX9_tow_63 : decode cX9_tow 63 = .ok (.ifCond .ne 6, 3) := by decide +kernel
theorem dX9_tow_66 : decode cX9_tow 66 = .ok (.ldc 183, 2) := by decide +kernel
theorem dX9_tow_68 : decode cX9_tow 68 = .ok (.ireturn, 1) := by decide +kernel
theorem dX9_tow_69 : decode cX9_tow 69 = .ok (.aload_n 0, 1) := by decide +kernel
theorem dX9_tow_70 : decode cX9_tow 70 = .ok (.getfield 19, 3) := by decide +kernel
theorem dX9_tow_73 : decode cX9_tow 73 = .ok (.aload_n 0, 1) := by decide +kernel
theorem dX9_tow_74 : decode cX9_tow 74 = .ok (.getfield 37, 3) := by decide +kernel
theorem dX9_tow_77 : decode cX9_tow 77 = .ok (.iload_n 1, 1) := by decide +kernel
theorem dX9_tow_78 : decode cX9_tow 78 = .ok (.aaload, 1) := by decide +kernel
theorem dX9_tow_79 : decode cX9_tow 79 = .ok (.aload_n 0, 1) := by decide +kernel
theorem dX9_tow_80 : decode cX9_tow 80 = .ok (.getfield 37, 3) := by decide +kernel
theorem dX9_tow_83 : decode cX9_tow 83 = .ok (.iload_n 1, 1) := by decide +kernel
theorem dX9_tow_84 : decode cX9_tow 84 = .ok (.aaload, 1) := by decide +kernel
theorem dX9_tow_85 : decode cX9_tow 85 = .ok (.getfield 154, 3) := by decide +kernel
theorem dX9_tow_88 : decode cX9_tow 88 = .ok (.iload_n 2, 1) := by decide +kernel
theorem dX9_tow_89 : decode cX9_tow 89 = .ok (.iload_n 3, 1) := by decide +kernel
theorem dX9_tow_90 : decode cX9_tow 90 = .ok (.invokevirtual 184, 3) := by decide +kernel
theorem dX9_tow_93 : decode cX9_tow 93 = .ok (.iload 4, 2) := by decide +kernel
theorem dX9_tow_95 : decode cX9_tow 95 = .ok (.tableswitch 61 0 3 #[29, 37, 45, 53], 29) := by decide +kernel
theorem dX9_tow_124 : decode cX9_tow 124 = .ok (.aload_n 0, 1) := by decide +kernel
theorem dX9_tow_125 : decode cX9_tow 125 = .ok (.getfield 19, 3) := by decide +kernel
theorem dX9_tow_128 : decode cX9_tow 128 = .ok (.getfield 188, 3) := by decide +kernel
theorem dX9_tow_131 : decode cX9_tow 131 = .ok (.ireturn, 1) := by decide +kernel
theorem dX9_tow_132 : decode cX9_tow 132 = .ok (.aload_n 0, 1) := by decide +kernel
theorem dX9_tow_133 : decode cX9_tow 133 = .ok (.getfield 19, 3) := by decide +kernel
theorem dX9_tow_136 : decode cX9_tow 136 = .ok (.getfield 191, 3) := by decide +kernel
theorem dX9_tow_139 : decode cX9_tow 139 = .ok (.ireturn, 1) := by decide +kernel
theorem dX9_tow_140 : decode cX9_tow 140 = .ok (.aload_n 0, 1) := by decide +kernel
theorem dX9_tow_141 : decode cX9_tow 141 = .ok (.getfield 19, 3) := by decide +kernel
theorem dX9_tow_144 : decode cX9_tow 144 = .ok (.getfield 194, 3) := by decide +kernel
theorem dX9_tow_147 : decode cX9_tow 147 = .ok (.ireturn, 1) := by decide +kernel
theorem dX9_tow_148 : decode cX9_tow 148 = .ok (.aload_n 0, 1) := by decide +kernel
theorem dX9_tow_149 : decode cX9_tow 149 = .ok (.getfield 19, 3) := by decide +kernel
theorem dX9_tow_152 : decode cX9_tow 152 = .ok (.getfield 197, 3) := by decide +kernel
theorem dX9_tow_155 : decode cX9_tow 155 = .ok (.ireturn, 1) := by decide +kernel
theorem dX9_tow_156 : decode cX9_tow 156 = .ok (.aload_n 0, 1) := by decide +kernel
theorem dX9_tow_157 : decode cX9_tow 157 = .ok (.getfield 19, 3) := by decide +kernel
theorem dX9_tow_160 : decode cX9_tow 160 = .ok (.iload 4, 2) := by decide +kernel
theorem dX9_tow_162 : decode cX9_tow 162 = .ok (.bipush 10, 2) := by decide +kernel
theorem dX9_tow_164 : decode cX9_tow 164 = .ok (.isub, 1) := by decide +kernel
theorem dX9_tow_165 : decode cX9_tow 165 = .ok (.invokevirtual 200, 3) := by decide +kernel
theorem dX9_tow_168 : decode cX9_tow 168 = .ok (.ireturn, 1) := by decide +kernel
theorem cw_X9_tow : Cw yX9_tow cX9_tow 6 (some .int) 4 := ⟨aw_482, aw_19, ⟨by decide, by decide⟩, by decide +kernel, by decide⟩
theorem kc_9_176 {K : KT} {cc : ByteArray} {nL d pc : Nat} {ret : Option FieldType} {L : List (Option Value)} {st : List Value} {σ : Sg} (C : Cx K layC cc RX9 nL d ret)  {a0 : Int32}  {p : Int32 × Sg} (hd : decode cc pc = .ok (.invokestatic 176, 3)) (e : fX9_isTugs a0 σ = some p) (hdd : 1 + 1 ≤ d) (hLn : L.length = nL) (hr : (st.map fun v => v.category).sum ≤ 8) (k : G K (pc + 3) L (.int p.1 :: st) (Wd K layC p.2)) : G K pc L (.int a0 :: st) (Wd K layC σ) :=
  g_callS C (As := [.int a0]) (rest := st) hd (ct_X9_isTugs e) cw_X9_isTugs (Or.inl aw_484) aw_485 rfl rfl rfl hdd hLn hr (fun v τ q => by obtain ⟨rfl, rfl⟩ := q; exact k)
theorem kc_9_180 {K : KT} {cc : ByteArray} {nL d pc : Nat} {ret : Option FieldType} {L : List (Option Value)} {st : List Value} {σ : Sg} (C : Cx K layC cc RX9 nL d ret)  {a0 : Int32}  {p : Int32 × Sg} (hd : decode cc pc = .ok (.invokevirtual 180, 3)) (e : fX9_hasWay a0 σ = some p) (hdd : 1 + 1 ≤ d) (hLn : L.length = nL) (hr : (st.map fun v => v.category).sum ≤ 8) (k : G K (pc + 3) L (.int p.1 :: st) (Wd K layC p.2)) : G K pc L (.int a0 :: .ref (kad K 0) :: st) (Wd K layC σ) :=
  g_callV C (As := [.int a0]) (rest := st) (o := 0) (ci := 9) hd (ct_X9_hasWay e) cw_X9_hasWay (Or.inl aw_488) aw_490 aw_8 rfl rfl rfl hdd hLn rfl rfl hr (fun v τ q => by obtain ⟨rfl, rfl⟩ := q; exact k)
theorem gf_9_19 {K : KT} {cc : ByteArray} {nL d pc : Nat} {ret : Option FieldType} {L : List (Option Value)} {st : List Value} {σ : Sg} (C : Cx K layC cc RX9 nL d ret)  (hd : decode cc pc = .ok (.getfield 19, 3)) (k : G K (pc + 3) L (.ref (kad K 3) :: st) (Wd K layC σ)) : G K pc L (.ref (kad K 0) :: st) (Wd K layC σ) := g_get C (o := 0) (ci := 9) (k := 1) hd rfl rfl rfl (by decide) (Or.inl aw_308) inA9 rfl k
theorem kc_9_184 {K : KT} {cc : ByteArray} {nL d pc : Nat} {ret : Option FieldType} {L : List (Option Value)} {st : List Value} {σ : Sg} (C : Cx K layC cc RX9 nL d ret)  {q0 : Nat} {a1 : Int32} {a2 : Int32} {a3 : Int32} (hYq0 : layC[q0]? = some (0, 0, slX0)) {p : Sg} (hd : decode cc pc = .ok (.invokevirtual 184, 3)) (e : fX8_seek q0 a1 a2 a3 σ = some p) (hdd : 15 + 1 ≤ d) (hLn : L.length = nL) (hr : (st.map fun v => v.category).sum ≤ 8) (k : G K (pc + 3) L (st) (Wd K layC p)) : G K pc L (.int a3 :: .int a2 :: .int a1 :: .ref (kad K q0) :: .ref (kad K 3) :: st) (Wd K layC σ) :=
  g_callV C (As := [.ref (kad K q0), .int a1, .int a2, .int a3]) (rest := st) (o := 3) (ci := 8) hd (ct_X8_seek hYq0 e) cw_X8_seek (Or.inl aw_493) aw_494 aw_495 rfl rfl rfl hdd hLn rfl rfl hr (fun v τ q => by obtain ⟨rfl, rfl⟩ := q; exact k)
theorem gf_9_188 {K : KT} {cc : ByteArray} {nL d pc : Nat} {ret : Option FieldType} {L : List (Option Value)} {st : List Value} {σ : Sg} (C : Cx K layC cc RX9 nL d ret)  (hd : decode cc pc = .ok (.getfield 188, 3)) (k : G K (pc + 3) L (.int (rI σ 3 11) :: st) (Wd K layC σ)) : G K pc L (.ref (kad K 3) :: st) (Wd K layC σ) := g_get C (o := 3) (ci := 8) (k := 11) hd rfl rfl rfl (by decide) (Or.inr ⟨_, aw_174⟩) inA8 rfl k
theorem gf_9_191 {K : KT} {cc : ByteArray} {nL d pc : Nat} {ret : Option FieldType} {L : List (Option Value)} {st : List Value} {σ : Sg} (C : Cx K layC cc RX9 nL d ret)  (hd : decode cc pc = .ok (.getfield 191, 3)) (k : G K (pc + 3) L (.int (rI σ 3 12) :: st) (Wd K layC σ)) : G K pc L (.ref (kad K 3) :: st) (Wd K layC σ) := g_get C (o := 3) (ci := 8) (k := 12) hd rfl rfl rfl (by decide) (Or.inr ⟨_, aw_176⟩) inA8 rfl k
theorem gf_9_194 {K : KT} {cc : ByteArray} {nL d pc : Nat} {ret : Option FieldType} {L : List (Option Value)} {st : List Value} {σ : Sg} (C : Cx K layC cc RX9 nL d ret)  (hd : decode cc pc = .ok (.getfield 194, 3)) (k : G K (pc + 3) L (.int (rI σ 3 13) :: st) (Wd K layC σ)) : G K pc L (.ref (kad K 3) :: st) (Wd K layC σ) := g_get C (o := 3) (ci := 8) (k := 13) hd rfl rfl rfl (by decide) (Or.inr ⟨_, aw_178⟩) inA8 rfl k
theorem gf_9_197 {K : KT} {cc : ByteArray} {nL d pc : Nat} {ret : Option FieldType} {L : List (Option Value)} {st : List Value} {σ : Sg} (C : Cx K layC cc RX9 nL d ret)  (hd : decode cc pc = .ok (.getfield 197, 3)) (k : G K (pc + 3) L (.int (rI σ 3 14) :: st) (Wd K layC σ)) : G K pc L (.ref (kad K 3) :: st) (Wd K layC σ) := g_get C (o := 3) (ci := 8) (k := 14) hd rfl rfl rfl (by decide) (Or.inr ⟨_, aw_180⟩) inA8 rfl k
theorem kc_9_200 {K : KT} {cc : ByteArray} {nL d pc : Nat} {ret : Option FieldType} {L : List (Option Value)} {st : List Value} {σ : Sg} (C : Cx K layC cc RX9 nL d ret)  {a0 : Int32}  {p : Int32 × Sg} (hd : decode cc pc = .ok (.invokevirtual 200, 3)) (e : fX8_stepAt a0 σ = some p) (hdd : 1 + 1 ≤ d) (hLn : L.length = nL) (hr : (st.map fun v => v.category).sum ≤ 8) (k : G K (pc + 3) L (.int p.1 :: st) (Wd K layC p.2)) : G K pc L (.int a0 :: .ref (kad K 3) :: st) (Wd K layC σ) :=
  g_callV C (As := [.int a0]) (rest := st) (o := 3) (ci := 8) hd (ct_X8_stepAt e) cw_X8_stepAt (Or.inl aw_541) aw_542 aw_543 rfl rfl rfl hdd hLn rfl rfl hr (fun v τ q => by obtain ⟨rfl, rfl⟩ := q; exact k)
def fX9_tow_b58 (x1 : Int32) (x2 : Int32) (x3 : Int32) (x4 : Int32) (σ : Sg) : Option (Int32 × Sg) :=
  Option.bind (fX9_hasWay x1 σ) fun p5 => (if p5.1 = 0 then (some ((-100001 : Int32), p5.2)) else (if inb x1 5 = true then (if inb x1 5 = true then (Option.bind (fX8_seek (76 + (x1).toNatClampNeg) (rI p5.2 (76 + (x1).toNatClampNeg) 2) x2 x3 p5.2) fun p11 => (if x4 = (0 : Int32) then (some ((rI p11 3 11), p11)) else (if x4 = (1 : Int32) then (some ((rI p11 3 12), p11)) else (if x4 = (2 : Int32) then (some ((rI p11 3 13), p11)) else (if x4 = (3 : Int32) then (some ((rI p11 3 14), p11)) else (Option.bind (fX8_stepAt (x4 - (10 : Int32)) p11) fun p13 => (some (p13.1, p13.2)))))))) else none) else none))
def fX9_tow_b30 (x1 : Int32) (x2 : Int32) (x3 : Int32) (x4 : Int32) (y0 : Int32) (σ : Sg) : Option (Int32 × Sg) :=
  Option.bind (fX9_isTugs x2 σ) fun p3 => (if p3.1 = 0 then (some ((-100102 : Int32), p3.2)) else (if y0 = 0 then (if x4 < 0 then (some ((-100102 : Int32), p3.2)) else (if x4 ≤ (3 : Int32) then (fX9_tow_b58 x1 x2 x3 x4 p3.2) else (some ((-100102 : Int32), p3.2)))) else (fX9_tow_b58 x1 x2 x3 x4 p3.2)))
def fX9_tow_b29 (x1 : Int32) (x2 : Int32) (x3 : Int32) (x4 : Int32) (σ : Sg) : Option (Int32 × Sg) :=
  fX9_tow_b30 x1 x2 x3 x4 (0 : Int32) σ
def fX9_tow_b0 (x1 : Int32) (x2 : Int32) (x3 : Int32) (x4 : Int32) (σ : Sg) : Option (Int32 × Sg) :=
  Option.bind (fX9_isBerg x1 σ) fun p1 => (if p1.1 = 0 then (some ((-100101 : Int32), p1.2)) else (if x4 < (10 : Int32) then (fX9_tow_b29 x1 x2 x3 x4 p1.2) else (if (19 : Int32) ≤ x4 then (fX9_tow_b29 x1 x2 x3 x4 p1.2) else (fX9_tow_b30 x1 x2 x3 x4 (1 : Int32) p1.2))))
set_option maxRecDepth 4000 in
theorem bX9_tow_b58 {K : KT} {x1 : Int32} {x2 : Int32} {x3 : Int32} {x4 : Int32} {σ : Sg} {o : Int32 × Sg} (C : Cx K layC cX9_tow RX9 6 (16) (some .int))  (hQ : Rk K layC (okI o)) (h : fX9_tow_b58 x1 x2 x3 x4 σ = some o) : G K 58 [some (.ref (kad K 0)), some (.int x1), some (.int x2), some (.int x3), some (.int x4), none] [] (Wd K layC σ) := by
  unfold fX9_tow_b58 at h
  refine g_aload_n C.c dX9_tow_58 rfl (i := 0) rfl ?_
  refine g_iload_n C.c dX9_tow_59 rfl (i := 1) rfl ?_
  obtain ⟨p5, e6, h⟩ := Option.bind_eq_some_iff.mp h
  refine kc_9_180 C dX9_tow_60 e6 (Nat.le_of_ble_eq_true rfl) rfl (Nat.le_of_ble_eq_true rfl) ?_
  refine g_if_ne C.c (tgt := 69) dX9_tow_63 (by decide) (fun c => ?_) (fun c => ?_)
  · replace h := ite_f c h
    refine g_aload_n C.c dX9_tow_69 rfl (i := 0) rfl ?_
    refine gf_9_19 C dX9_tow_70 ?_
    refine g_aload_n C.c dX9_tow_73 rfl (i := 0) rfl ?_
    refine gf_9_37 C dX9_tow_74 ?_
    refine g_iload_n C.c dX9_tow_77 rfl (i := 1) rfl ?_
    obtain ⟨c7, h⟩ := chk h
    have hs8 := rw_48 (inb_lt c7)
    refine g_aald4 C (b := 76) dX9_tow_78 rfl c7 rfl rfl ?_
    refine g_aload_n C.c dX9_tow_79 rfl (i := 0) rfl ?_
    refine gf_9_37 C dX9_tow_80 ?_
    refine g_iload_n C.c dX9_tow_83 rfl (i := 1) rfl ?_
    obtain ⟨c9, h⟩ := chk h
    have hs10 := rw_48 (inb_lt c9)
    refine g_aald4 C (b := 76) dX9_tow_84 rfl c9 rfl rfl ?_
    refine gf_9_154d C hs10 dX9_tow_85 ?_
    refine g_iload_n C.c dX9_tow_88 rfl (i := 2) rfl ?_
    refine g_iload_n C.c dX9_tow_89 rfl (i := 3) rfl ?_
    obtain ⟨p11, e12, h⟩ := Option.bind_eq_some_iff.mp h
    refine kc_9_184 C hs8 dX9_tow_90 e12 (Nat.le_of_ble_eq_true rfl) rfl (Nat.le_of_ble_eq_true rfl) ?_
    refine g_iload C.c dX9_tow_93 (i := 4) rfl ?_
    by_cases c0 : x4 = (0 : Int32)
    · replace h := ite_t c0 h
      refine g_tblIn C.c (tgt := 124) (off := 29) c0 dX9_tow_95 (by decide) (by decide) (by decide) (by decide) ?_
      refine g_aload_n C.c dX9_tow_124 rfl (i := 0) rfl ?_
      refine gf_9_19 C dX9_tow_125 ?_
      refine gf_9_188 C dX9_tow_128 ?_
      obtain rfl := Option.some.inj h
      exact g_iret C hQ dX9_tow_131 rfl ⟨rfl, rfl⟩
    · replace h := ite_f c0 h
      by_cases c1 : x4 = (1 : Int32)
      · replace h := ite_t c1 h
        refine g_tblIn C.c (tgt := 132) (off := 37) c1 dX9_tow_95 (by decide) (by decide) (by decide) (by decide) ?_
        refine g_aload_n C.c dX9_tow_132 rfl (i := 0) rfl ?_
        refine gf_9_19 C dX9_tow_133 ?_
        refine gf_9_191 C dX9_tow_136 ?_
        obtain rfl := Option.some.inj h
        exact g_iret C hQ dX9_tow_139 rfl ⟨rfl, rfl⟩
      · replace h := ite_f c1 h
        by_cases c2 : x4 = (2 : Int32)
        · replace h := ite_t c2 h
          refine g_tblIn C.c (tgt := 140) (off := 45) c2 dX9_tow_95 (by decide) (by decide) (by decide) (by decide) ?_
          refine g_aload_n C.c dX9_tow_140 rfl (i := 0) rfl ?_
          refine gf_9_19 C dX9_tow_141 ?_
          refine gf_9_194 C dX9_tow_144 ?_
          obtain rfl := Option.some.inj h
          exact g_iret C hQ dX9_tow_147 rfl ⟨rfl, rfl⟩
        · replace h := ite_f c2 h
          by_cases c3 : x4 = (3 : Int32)
          · replace h := ite_t c3 h
            refine g_tblIn C.c (tgt := 148) (off := 53) c3 dX9_tow_95 (by decide) (by decide) (by decide) (by decide) ?_
            refine g_aload_n C.c dX9_tow_148 rfl (i := 0) rfl ?_
            refine gf_9_19 C dX9_tow_149 ?_
            refine gf_9_197 C dX9_tow_152 ?_
            obtain rfl := Option.some.inj h
            exact g_iret C hQ dX9_tow_155 rfl ⟨rfl, rfl⟩
          · replace h := ite_f c3 h
            refine g_tblOut C.c (tgt := 156) [(0 : Int32), (1 : Int32), (2 : Int32), (3 : Int32)] (by decide) ⟨c0, c1, c2, c3, trivial⟩ dX9_tow_95 (by decide) ?_
            refine g_aload_n C.c dX9_tow_156 rfl (i := 0) rfl ?_
            refine gf_9_19 C dX9_tow_157 ?_
            refine g_iload C.c dX9_tow_160 (i := 4) rfl ?_
            refine g_bipush C.c dX9_tow_162 (v := (10 : Int32)) (by decide) ?_
            refine g_isub C.c dX9_tow_164 ?_
            obtain ⟨p13, e14, h⟩ := Option.bind_eq_some_iff.mp h
            refine kc_9_200 C dX9_tow_165 e14 (Nat.le_of_ble_eq_true rfl) rfl (Nat.le_of_ble_eq_true rfl) ?_
            obtain rfl := Option.some.inj h
            exact g_iret C hQ dX9_tow_168 rfl ⟨rfl, rfl⟩
  · replace h := ite_t c h
    refine g_ldc C.c (v := (-100001 : Int32)) aw_492 dX9_tow_66 ?_
    obtain rfl := Option.some.inj h
    exact g_iret C hQ dX9_tow_68 rfl ⟨rfl, rfl⟩
set_option maxRecDepth 4000 in
theorem bX9_tow_b30 {K : KT} {x1 : Int32} {x2 : Int32} {x3 : Int32} {x4 : Int32} {y0 : Int32} {σ : Sg} {o : Int32 × Sg} (C : Cx K layC cX9_tow RX9 6 (16) (some .int))  (hQ : Rk K layC (okI o)) (h : fX9_tow_b30 x1 x2 x3 x4 y0 σ = some o) : G K 30 [some (.ref (kad K 0)), some (.int x1), some (.int x2), some (.int x3), some (.int x4), none] [.int y0] (Wd K layC σ) := by
  unfold fX9_tow_b30 at h
  refine g_istore C.c (i := 5) (L' := [some (.ref (kad K 0)), some (.int x1), some (.int x2), some (.int x3), some (.int x4), some (.int y0)]) dX9_tow_30 (Nat.le_of_ble_eq_true rfl) rfl ?_
  refine g_iload_n C.c dX9_tow_32 rfl (i := 2) rfl ?_
  obtain ⟨p3, e4, h⟩ := Option.bind_eq_some_iff.mp h
  refine kc_9_176 C dX9_tow_33 e4 (Nat.le_of_ble_eq_true rfl) rfl (Nat.le_of_ble_eq_true rfl) ?_
  refine g_if_eq C.c (tgt := 55) dX9_tow_36 (by decide) (fun c => ?_) (fun c => ?_)
  · replace h := ite_t c h
    refine g_ldc C.c (v := (-100102 : Int32)) aw_487 dX9_tow_55 ?_
    obtain rfl := Option.some.inj h
    exact g_iret C hQ dX9_tow_57 rfl ⟨rfl, rfl⟩
  · replace h := ite_f c h
    refine g_iload C.c dX9_tow_39 (i := 5) rfl ?_
    refine g_if_ne C.c (tgt := 58) dX9_tow_41 (by decide) (fun c => ?_) (fun c => ?_)
    · replace h := ite_f c h
      exact g_mask [true, true, true, true, true, false] rfl (bX9_tow_b58 C hQ h)
    · replace h := ite_t c h
      refine g_iload C.c dX9_tow_44 (i := 4) rfl ?_
      refine g_if_lt C.c (tgt := 55) dX9_tow_46 (by decide) (fun c => ?_) (fun c => ?_)
      · replace h := ite_t c h
        refine g_ldc C.c (v := (-100102 : Int32)) aw_487 dX9_tow_55 ?_
        obtain rfl := Option.some.inj h
        exact g_iret C hQ dX9_tow_57 rfl ⟨rfl, rfl⟩
      · replace h := ite_f c h
        refine g_iload C.c dX9_tow_49 (i := 4) rfl ?_
        refine g_iconst C.c dX9_tow_51 (v := (3 : Int32)) (by decide) ?_
        refine g_icmp_le C.c (tgt := 58) dX9_tow_52 (by decide) (fun c => ?_) (fun c => ?_)
        · replace h := ite_t c h
          exact g_mask [true, true, true, true, true, false] rfl (bX9_tow_b58 C hQ h)
        · replace h := ite_f c h
          refine g_ldc C.c (v := (-100102 : Int32)) aw_487 dX9_tow_55 ?_
          obtain rfl := Option.some.inj h
          exact g_iret C hQ dX9_tow_57 rfl ⟨rfl, rfl⟩
set_option maxRecDepth 4000 in
theorem bX9_tow_b29 {K : KT} {x1 : Int32} {x2 : Int32} {x3 : Int32} {x4 : Int32} {σ : Sg} {o : Int32 × Sg} (C : Cx K layC cX9_tow RX9 6 (16) (some .int))  (hQ : Rk K layC (okI o)) (h : fX9_tow_b29 x1 x2 x3 x4 σ = some o) : G K 29 [some (.ref (kad K 0)), some (.int x1), some (.int x2), some (.int x3), some (.int x4), none] [] (Wd K layC σ) := by
  unfold fX9_tow_b29 at h
  refine g_iconst C.c dX9_tow_29 (v := (0 : Int32)) (by decide) ?_
  exact g_mask [true, true, true, true, true, false] rfl (bX9_tow_b30 C hQ h)
set_option maxRecDepth 4000 in
theorem bX9_tow_b0 {K : KT} {x1 : Int32} {x2 : Int32} {x3 : Int32} {x4 : Int32} {σ : Sg} {o : Int32 × Sg} (C : Cx K layC cX9_tow RX9 6 (16) (some .int))  (hQ : Rk K layC (okI o)) (h : fX9_tow_b0 x1 x2 x3 x4 σ = some o) : G K 0 [some (.ref (kad K 0)), some (.int x1), some (.int x2), some (.int x3), some (.int x4), none] [] (Wd K layC σ) := by
  unfold fX9_tow_b0 at h
  refine g_aload_n C.c dX9_tow_0 rfl (i := 0) rfl ?_
  refine g_iload_n C.c dX9_tow_1 rfl (i := 1) rfl ?_
  obtain ⟨p1, e2, h⟩ := Option.bind_eq_some_iff.mp h
  refine kc_9_142 C dX9_tow_2 e2 (Nat.le_of_ble_eq_true rfl) rfl (Nat.le_of_ble_eq_true rfl) ?_
  refine g_if_ne C.c (tgt := 11) dX9_tow_5 (by decide) (fun c => ?_) (fun c => ?_)
  · replace h := ite_f c h
    refine g_iload C.c dX9_tow_11 (i := 4) rfl ?_
    refine g_bipush C.c dX9_tow_13 (v := (10 : Int32)) (by decide) ?_
    refine g_icmp_lt C.c (tgt := 29) dX9_tow_15 (by decide) (fun c => ?_) (fun c => ?_)
    · replace h := ite_t c h
      exact g_mask [true, true, true, true, true, false] rfl (bX9_tow_b29 C hQ h)
    · replace h := ite_f c h
      refine g_iload C.c dX9_tow_18 (i := 4) rfl ?_
      refine g_bipush C.c dX9_tow_20 (v := (19 : Int32)) (by decide) ?_
      refine g_icmp_ge C.c (tgt := 29) dX9_tow_22 (by decide) (fun c => ?_) (fun c => ?_)
      · replace h := ite_t c h
        exact g_mask [true, true, true, true, true, false] rfl (bX9_tow_b29 C hQ h)
      · replace h := ite_f c h
        refine g_iconst C.c dX9_tow_25 (v := (1 : Int32)) (by decide) ?_
        refine g_goto C.c (tgt := 30) dX9_tow_26 (by decide) ?_
        exact g_mask [true, true, true, true, true, false] rfl (bX9_tow_b30 C hQ h)
  · replace h := ite_t c h
    refine g_ldc C.c (v := (-100101 : Int32)) aw_483 dX9_tow_8 ?_
    obtain rfl := Option.some.inj h
    exact g_iret C hQ dX9_tow_10 rfl ⟨rfl, rfl⟩
def fX9_tow (a0 : Int32) (a1 : Int32) (a2 : Int32) (a3 : Int32) (σ : Sg) : Option (Int32 × Sg) := fX9_tow_b0 a0 a1 a2 a3 σ
theorem ct_X9_tow {a0 : Int32} {a1 : Int32} {a2 : Int32} {a3 : Int32} {σ : Sg} {p : Int32 × Sg} (h : fX9_tow a0 a1 a2 a3 σ = some p) : Ct layC yX9_tow cX9_tow 6 (some .int) 16 (fun ad => [.ref (ad 0), .int a0, .int a1, .int a2, .int a3]) σ (okI p) :=
 ct_of (L0 := fun ad => [some (.ref (ad 0)), some (.int a0), some (.int a1), some (.int a2), some (.int a3), none]) (by decide) (fun _ => Nat.le_of_ble_eq_true rfl) (fun _ => rfl) (fun K C hQ => g_mask [true, true, true, true, true, false] rfl (bX9_tow_b0 C hQ h))
-- X9_ways
theorem dX9_ways_0 : decode cX9_ways 0 = .ok (.aload_n 0, 1) := by decide +kernel
theorem dX9_ways_1 : decode cX9_ways 1 = .ok (.iload_n 1, 1) := by decide +kernel
theorem dX9_ways_2 : decode cX9_ways 2 = .ok (.invokevirtual 142, 3) := by decide +kernel
theorem dX9_ways_5 : decode cX9_ways 5 = .ok (.ifCond .eq 23, 3) := by decide +kernel
theorem dX9_ways_8 : decode cX9_ways 8 = .ok (.aload_n 0, 1) := by decide +kernel
theorem dX9_ways_9 : decode cX9_ways 9 = .ok (.getfield 27, 3) := by decide +kernel
theorem dX9_ways_12 : decode cX9_ways 12 = .ok (.getfield 204, 3) := by decide +kernel
theorem dX9_ways_15 : decode cX9_ways 15 = .ok (.aload_n 0, 1) := by decide +kernel
theorem dX9_ways_16 : decode cX9_ways 16 = .ok (.getfield 37, 3) := by decide +kernel
theorem dX9_ways_19 : decode cX9_ways 19 = .ok (.iload_n 1, 1) := by decide +kernel
theorem dX9_ways_20 : decode cX9_ways 20 = .ok (.aaload, 1) := by decide +kernel
theorem dX9_ways_21 : decode cX9_ways 21 = .ok (.getfield 151, 3) := by decide +kernel
theorem dX9_ways_24 : decode cX9_ways 24 = .ok (.iaload, 1) := by decide +kernel
theorem dX9_ways_25 : decode cX9_ways 25 = .ok (.goto 5, 3) := by decide +kernel
theorem dX9_ways_28 : decode cX9_ways 28 = .ok (.bipush (-101), 2) := by decide +kernel
theorem dX9_ways_30 : decode cX9_ways 30 = .ok (.ireturn, 1) := by decide +kernel
theorem cw_X9_ways : Cw yX9_ways cX9_ways 2 (some .int) 1 := ⟨aw_548, aw_19, ⟨by decide, by decide⟩, by decide +kernel, by decide⟩
def fX9_ways_b0 (x1 : Int32) (σ : Sg) : Option (Int32 × Sg) :=
  Option.bind (fX9_isBerg x1 σ) fun p1 => (if p1.1 = 0 then (some ((-101 : Int32), p1.2)) else (if inb x1 5 = true then (if inb (rI p1.2 (76 + (x1).toNatClampNeg) 1) 30 = true then (some ((rI p1.2 8 ((rI p1.2 (76 + (x1).toNatClampNeg) 1)).toNatClampNeg), p1.2)) else none) else none))
set_option maxRecDepth 4000 in
theorem bX9_ways_b0 {K : KT} {x1 : Int32} {σ : Sg} {o : Int32 × Sg} (C : Cx K layC cX9_ways RX9 2 (2) (some .int))  (hQ : Rk K layC (okI o)) (h : fX9_ways_b0 x1 σ = some o) : G K 0 [some (.ref (kad K 0)), some (.int x1)] [] (Wd K layC σ) := by
  unfold fX9_ways_b0 at h
  refine g_aload_n C.c dX9_ways_0 rfl (i := 0) rfl ?_
  refine g_iload_n C.c dX9_ways_1 rfl (i := 1) rfl ?_
  obtain ⟨p1, e2, h⟩ := Option.bind_eq_some_iff.mp h
  refine kc_9_142 C dX9_ways_2 e2 (Nat.le_of_ble_eq_true rfl) rfl (Nat.le_of_ble_eq_true rfl) ?_
  refine g_if_eq C.c (tgt := 28) dX9_ways_5 (by decide) (fun c => ?_) (fun c => ?_)
  · replace h := ite_t c h
    refine g_bipush C.c dX9_ways_28 (v := (-101 : Int32)) (by decide) ?_
    obtain rfl := Option.some.inj h
    exact g_iret C hQ dX9_ways_30 rfl ⟨rfl, rfl⟩
  · replace h := ite_f c h
    refine g_aload_n C.c dX9_ways_8 rfl (i := 0) rfl ?_
    refine gf_9_27 C dX9_ways_9 ?_
    refine gf_9_204 C dX9_ways_12 ?_
    refine g_aload_n C.c dX9_ways_15 rfl (i := 0) rfl ?_
    refine gf_9_37 C dX9_ways_16 ?_
    refine g_iload_n C.c dX9_ways_19 rfl (i := 1) rfl ?_
    obtain ⟨c3, h⟩ := chk h
    have hs4 := rw_48 (inb_lt c3)
    refine g_aald4 C (b := 76) dX9_ways_20 rfl c3 rfl rfl ?_
    refine gf_9_151d C hs4 dX9_ways_21 ?_
    obtain ⟨c5, h⟩ := chk h
    refine g_iald C dX9_ways_24 rfl c5 ?_
    refine g_goto C.c (tgt := 30) dX9_ways_25 (by decide) ?_
    obtain rfl := Option.some.inj h
    exact g_iret C hQ dX9_ways_30 rfl ⟨rfl, rfl⟩
def fX9_ways (a0 : Int32) (σ : Sg) : Option (Int32 × Sg) := fX9_ways_b0 a0 σ
theorem ct_X9_ways {a0 : Int32} {σ : Sg} {p : Int32 × Sg} (h : fX9_ways a0 σ = some p) : Ct layC yX9_ways cX9_ways 2 (some .int) 2 (fun ad => [.ref (ad 0), .int a0]) σ (okI p) :=
 ct_of (L0 := fun ad => [some (.ref (ad 0)), some (.int a0)]) (by decide) (fun _ => Nat.le_of_ble_eq_true rfl) (fun _ => rfl) (fun K C hQ => g_mask [true, true] rfl (bX9_ways_b0 C hQ h))
-- X9_weigh
theorem dX9_weigh_0 : decode cX9_weigh 0 = .ok (.aload_n 0, 1) := by decide +kernel
theorem dX9_weigh_1 : decode cX9_weigh 1 = .ok (.getfield 58, 3) := by decide +kernel
theorem dX9_weigh_4 : decode cX9_weigh 4 = .ok (.getfield 340, 3) := by decide +kernel
theorem dX9_weigh_7 : decode cX9_weigh 7 = .ok (.iload_n 1, 1) := by decide +kernel
theorem dX9_weigh_8 : decode cX9_weigh 8 = .ok (.baload, 1) := by decide +kernel
theorem dX9_weigh_9 : decode cX9_weigh 9 = .ok (.ifCond .eq 4, 3) := by decide +kernel
theorem dX9_weigh_12 : decode cX9_weigh 12 = .ok (.return_, 1) := by decide +kernel
theorem dX9_weigh_13 : decode cX9_weigh 13 = .ok (.aload_n 0, 1) := by decide +kernel
theorem dX9_weigh_14 : decode cX9_weigh 14 = .ok (.getfield 58, 3) := by decide +kernel
theorem dX9_weigh_17 : decode cX9_weigh 17 = .ok (.getfield 340, 3) := by decide +kernel
theorem dX9_weigh_20 : decode cX9_weigh 20 = .ok (.iload_n 1, 1) := by decide +kernel
theorem dX9_weigh_21 : decode cX9_weigh 21 = .ok (.iconst 1, 1) := by decide +kernel
theorem dX9_weigh_22 : decode cX9_weigh 22 = .ok (.bastore, 1) := by decide +kernel
theorem dX9_weigh_23 : decode cX9_weigh 23 = .ok (.aload_n 0, 1) := by decide +kernel
theorem dX9_weigh_24 : decode cX9_weigh 24 = .ok (.getfield 58, 3) := by decide +kernel
theorem dX9_weigh_27 : decode cX9_weigh 27 = .ok (.getfield 344, 3) := by decide +kernel
theorem dX9_weigh_30 : decode cX9_weigh 30 = .ok (.iload_n 1, 1) := by decide +kernel
theorem dX9_weigh_31 : decode cX9_weigh 31 = .ok (.aload_n 0, 1) := by decide +kernel
theorem dX9_weigh_32 : decode cX9_weigh 32 = .ok (.iload_n 1, 1) := by decide +kernel
theorem dX9_weigh_33 : decode cX9_weigh 33 = .ok (.invokevirtual 180, 3) := by decide +kernel
theorem dX9_weigh_36 : decode cX9_weigh 36 = .ok (.bastore, 1) := by decide +kernel
theorem dX9_weigh_37 : decode cX9_weigh 37 = .ok (.aload_n 0, 1) := by decide +kernel
theorem dX9_weigh_38 : decode cX9_weigh 38 = .ok (.getfield 58, 3) := by decide +kernel
theorem dX9_weigh_41 : decode cX9_weigh 41 = .ok (.getfield 344, 3) := by decide +kernel
theorem dX9_weigh_44 : decode cX9_weigh 44 = .ok (.iload_n 1, 1) := by decide +kernel
theorem dX9_weigh_45 : decode cX9_weigh 45 = .ok (.baload, 1) := by decide +kernel
theorem dX9_weigh_46 : decode cX9_weigh 46 = .ok (.ifCond .ne 4, 3) := by decide +kernel
theorem dX9_weigh_49 : decode cX9_weigh 49 = .ok (.return_, 1) := by decide +kernel
theorem dX9_weigh_50 : decode cX9_weigh 50 = .ok (.iconst 2, 1) := by decide +kernel
theorem dX9_weigh_51 : decode cX9_weigh 51 = .ok (.istore_n 2, 1) := by decide +kernel
theorem dX9_weigh_52 : decode cX9_weigh 52 = .ok (.iload_n 2, 1) := by decide +kernel
theorem dX9_weigh_53 : decode cX9_weigh 53 = .ok (.bipush 24, 2) := by decide +kernel
theorem dX9_weigh_55 : decode cX9_weigh 55 = .ok (.if_icmp .ge 57, 3) := by decide +kernel
theorem dX9_weigh_58 : decode cX9_weigh 58 = .ok (.aload_n 0, 1) := by decide +kernel
theorem dX9_weigh_59 : decode cX9_weigh 59 = .ok (.getfield 19, 3) := by decide +kernel
theorem dX9_weigh_62 : decode cX9_weigh 62 = .ok (.aload_n 0, 1) := by decide +kernel
theorem dX9_weigh_63 : decode cX9_weigh 63 = .ok (.getfield 37, 3) := by decide +kernel
theorem dX9_weigh_66 : decode cX9_weigh 66 = .ok (.iload_n 1, 1) := by decide +kernel
theorem dX9_weigh_67 : decode cX9_weigh 67 = .ok (.aaload, 1) := by decide +kernel
theorem dX9_weigh_68 : decode cX9_weigh 68 = .ok (.aload_n 0, 1) := by decide +kernel
theorem dX9_weigh_69 : decode cX9_weigh 69 = .ok (.getfield 37, 3) := by decide +kernel
theorem dX9_weigh_72 : decode cX9_weigh 72 = .ok (.iload_n 1, 1) := by decide +kernel
theorem dX9_weigh_73 : decode cX9_weigh 73 = .ok (.aaload, 1) := by decide +kernel
theorem dX9_weigh_74 : decode cX9_weigh 74 = .ok (.getfield 154, 3) := by decide +kernel
theorem dX9_weigh_77 : decode cX9_weigh 77 = .ok (.iload_n 2, 1) := by decide +kernel
theorem dX9_weigh_78 : decode cX9_weigh 78 = .ok (.invokestatic 213, 3) := by decide +kernel
theorem dX9_weigh_81 : decode cX9_weigh 81 = .ok (.iload_n 2, 1) := by decide +kernel
theorem dX9_weigh_82 : decode cX9_weigh 82 = .ok (.invokestatic 216, 3) := by decide +kernel
theorem dX9_weigh_85 : decode cX9_weigh 85 = .ok (.invokevirtual 184, 3) := by decide +kernel
theorem dX9_weigh_88 : decode cX9_weigh 88 = .ok (.aload_n 0, 1) := by decide +kernel
theorem dX9_weigh_89 : decode cX9_weigh 89 = .ok (.getfield 58, 3) := by decide +kernel
theorem dX9_weigh_92 : decode cX9_weigh 92 = .ok (.getfield 219, 3) := by decide +kernel
theorem dX9_weigh_95 : decode cX9_weigh 95 = .ok (.iload_n 1, 1) := by decide +kernel
theorem dX9_weigh_96 : decode cX9_weigh 96 = .ok (.aaload, 1) := by decide +kernel
theorem dX9_weigh_97 : decode cX9_weigh 97 = .ok (.iload_n 2, 1) := by decide +kernel
theorem dX9_weigh_98 : decode cX9_weigh 98 = .ok (.aload_n 0, 1) := by decide +kernel
theorem dX9_weigh_99 : decode cX9_weigh 99 = .ok (.getfield 19, 3) := by decide +kernel
theorem dX9_weigh_102 : decode cX9_weigh 102 = .ok (.getfield 194, 3) := by decide +kernel
theorem dX9_weigh_105 : decode cX9_weigh 105 = .ok (.iastore, 1) := by decide +kernel
theorem dX9_weigh_106 : decode cX9_weigh 106 = .ok (.iinc 2 1, 3) := by decide +kernel
theorem dX9_weigh_109 : decode cX9_weigh 109 = .ok (.goto (-57), 3) := by decide +kernel
theorem dX9_weigh_112 : decode cX9_weigh 112 = .ok (.return_, 1) := by decide +kernel
theorem cw_X9_weigh : Cw yX9_weigh cX9_weigh 3 none 1 := ⟨aw_556, aw_19, ⟨by decide, by decide⟩, by decide +kernel, by decide⟩
theorem gf_9_340 {K : KT} {cc : ByteArray} {nL d pc : Nat} {ret : Option FieldType} {L : List (Option Value)} {st : List Value} {σ : Sg} (C : Cx K layC cc RX9 nL d ret)  (hd : decode cc pc = .ok (.getfield 340, 3)) (k : G K (pc + 3) L (.ref (kad K 65) :: st) (Wd K layC σ)) : G K pc L (.ref (kad K 58) :: st) (Wd K layC σ) := g_get C (o := 58) (ci := 3) (k := 1) hd rfl rfl rfl (by decide) (Or.inr ⟨_, aw_274⟩) inA3 rfl k
theorem gf_9_344 {K : KT} {cc : ByteArray} {nL d pc : Nat} {ret : Option FieldType} {L : List (Option Value)} {st : List Value} {σ : Sg} (C : Cx K layC cc RX9 nL d ret)  (hd : decode cc pc = .ok (.getfield 344, 3)) (k : G K (pc + 3) L (.ref (kad K 66) :: st) (Wd K layC σ)) : G K pc L (.ref (kad K 58) :: st) (Wd K layC σ) := g_get C (o := 58) (ci := 3) (k := 2) hd rfl rfl rfl (by decide) (Or.inr ⟨_, aw_276⟩) inA3 rfl k
theorem kc_9_213 {K : KT} {cc : ByteArray} {nL d pc : Nat} {ret : Option FieldType} {L : List (Option Value)} {st : List Value} {σ : Sg} (C : Cx K layC cc RX9 nL d ret)  {a0 : Int32}  {p : Int32 × Sg} (hd : decode cc pc = .ok (.invokestatic 213, 3)) (e : fX3_tugsOf a0 σ = some p) (hdd : 1 + 1 ≤ d) (hLn : L.length = nL) (hr : (st.map fun v => v.category).sum ≤ 8) (k : G K (pc + 3) L (.int p.1 :: st) (Wd K layC p.2)) : G K pc L (.int a0 :: st) (Wd K layC σ) :=
  g_callS C (As := [.int a0]) (rest := st) hd (ct_X3_tugsOf e) cw_X3_tugsOf (Or.inl aw_557) aw_558 rfl rfl rfl hdd hLn hr (fun v τ q => by obtain ⟨rfl, rfl⟩ := q; exact k)
theorem kc_9_216 {K : KT} {cc : ByteArray} {nL d pc : Nat} {ret : Option FieldType} {L : List (Option Value)} {st : List Value} {σ : Sg} (C : Cx K layC cc RX9 nL d ret)  {a0 : Int32}  {p : Int32 × Sg} (hd : decode cc pc = .ok (.invokestatic 216, 3)) (e : fX3_hasSkirt a0 σ = some p) (hdd : 1 + 1 ≤ d) (hLn : L.length = nL) (hr : (st.map fun v => v.category).sum ≤ 8) (k : G K (pc + 3) L (.int p.1 :: st) (Wd K layC p.2)) : G K pc L (.int a0 :: st) (Wd K layC σ) :=
  g_callS C (As := [.int a0]) (rest := st) hd (ct_X3_hasSkirt e) cw_X3_hasSkirt (Or.inl aw_560) aw_561 rfl rfl rfl hdd hLn hr (fun v τ q => by obtain ⟨rfl, rfl⟩ := q; exact k)
theorem gf_9_219 {K : KT} {cc : ByteArray} {nL d pc : Nat} {ret : Option FieldType} {L : List (Option Value)} {st : List Value} {σ : Sg} (C : Cx K layC cc RX9 nL d ret)  (hd : decode cc pc = .ok (.getfield 219, 3)) (k : G K (pc + 3) L (.ref (kad K 59) :: st) (Wd K layC σ)) : G K pc L (.ref (kad K 58) :: st) (Wd K layC σ) := g_get C (o := 58) (ci := 3) (k := 0) hd rfl rfl rfl (by decide) (Or.inr ⟨_, aw_272⟩) inA3 rfl k
def fX9_weigh_b52 (x1 : Int32) (x2 : Int32) (σ : Sg) : Option ((Int32 × Sg) ⊕ ((Sg))) :=
  if (24 : Int32) ≤ x2 then (some (.inr σ)) else (if inb x1 5 = true then (if inb x1 5 = true then (Option.bind (fX3_tugsOf x2 σ) fun p12 => (Option.bind (fX3_hasSkirt x2 p12.2) fun p14 => (Option.bind (fX8_seek (76 + (x1).toNatClampNeg) (rI σ (76 + (x1).toNatClampNeg) 2) p12.1 p14.1 p14.2) fun p16 => (if inb x1 5 = true then (if inb x2 24 = true then (some (.inl ((x2 + (1 : Int32)), (wI p16 (60 + (x1).toNatClampNeg) (x2).toNatClampNeg (rI p16 3 13))))) else none) else none)))) else none) else none)
def fX9_weigh_b0 (x1 : Int32) (σ : Sg) : Option (Sg) :=
  if inb x1 5 = true then (if (rI σ 65 (x1).toNatClampNeg) = 0 then (if inb x1 5 = true then (Option.bind (fX9_hasWay x1 (wI σ 65 (x1).toNatClampNeg (1 : Int32))) fun p3 => (if inb x1 5 = true then (if isB p3.1 = true then (if inb x1 5 = true then (if (rI (wI p3.2 66 (x1).toNatClampNeg p3.1) 66 (x1).toNatClampNeg) = 0 then (some (wI p3.2 66 (x1).toNatClampNeg p3.1)) else (Option.bind (lp (fun s => fX9_weigh_b52 x1 s.1 s.2) FU ((2 : Int32), (wI p3.2 66 (x1).toNatClampNeg p3.1))) fun t21 => some t21)) else none) else none) else none)) else none) else (some σ)) else none
set_option maxRecDepth 4000 in
theorem bX9_weigh_b52 {K : KT} {x1 : Int32} {x2 : Int32} {σ : Sg} {o : (Int32 × Sg) ⊕ ((Sg))} (C : Cx K layC cX9_weigh RX9 3 (16) none)  (hI : ∀ s' : Int32 × Sg, o = .inl s' → G K 52 [some (.ref (kad K 0)), some (.int x1), some (.int s'.1)] [] (Wd K layC s'.2)) (hE0 : ∀ t : Sg, o = .inr t → G K 112 [none, none, none] [] (Wd K layC t)) (h : fX9_weigh_b52 x1 x2 σ = some o) : G K 52 [some (.ref (kad K 0)), some (.int x1), some (.int x2)] [] (Wd K layC σ) := by
  unfold fX9_weigh_b52 at h
  refine g_iload_n C.c dX9_weigh_52 rfl (i := 2) rfl ?_
  refine g_bipush C.c dX9_weigh_53 (v := (24 : Int32)) (by decide) ?_
  refine g_icmp_ge C.c (tgt := 112) dX9_weigh_55 (by decide) (fun c => ?_) (fun c => ?_)
  · replace h := ite_t c h
    have g9 := hE0 _ (Option.some.inj h).symm
    exact g_mask [false, false, false] rfl g9
  · replace h := ite_f c h
    refine g_aload_n C.c dX9_weigh_58 rfl (i := 0) rfl ?_
    refine gf_9_19 C dX9_weigh_59 ?_
    refine g_aload_n C.c dX9_weigh_62 rfl (i := 0) rfl ?_
    refine gf_9_37 C dX9_weigh_63 ?_
    refine g_iload_n C.c dX9_weigh_66 rfl (i := 1) rfl ?_
    obtain ⟨c8, h⟩ := chk h
    have hs9 := rw_48 (inb_lt c8)
    refine g_aald4 C (b := 76) dX9_weigh_67 rfl c8 rfl rfl ?_
    refine g_aload_n C.c dX9_weigh_68 rfl (i := 0) rfl ?_
    refine gf_9_37 C dX9_weigh_69 ?_
    refine g_iload_n C.c dX9_weigh_72 rfl (i := 1) rfl ?_
    obtain ⟨c10, h⟩ := chk h
    have hs11 := rw_48 (inb_lt c10)
    refine g_aald4 C (b := 76) dX9_weigh_73 rfl c10 rfl rfl ?_
    refine gf_9_154d C hs11 dX9_weigh_74 ?_
    refine g_iload_n C.c dX9_weigh_77 rfl (i := 2) rfl ?_
    obtain ⟨p12, e13, h⟩ := Option.bind_eq_some_iff.mp h
    refine kc_9_213 C dX9_weigh_78 e13 (Nat.le_of_ble_eq_true rfl) rfl (Nat.le_of_ble_eq_true rfl) ?_
    refine g_iload_n C.c dX9_weigh_81 rfl (i := 2) rfl ?_
    obtain ⟨p14, e15, h⟩ := Option.bind_eq_some_iff.mp h
    refine kc_9_216 C dX9_weigh_82 e15 (Nat.le_of_ble_eq_true rfl) rfl (Nat.le_of_ble_eq_true rfl) ?_
    obtain ⟨p16, e17, h⟩ := Option.bind_eq_some_iff.mp h
    refine kc_9_184 C hs9 dX9_weigh_85 e17 (Nat.le_of_ble_eq_true rfl) rfl (Nat.le_of_ble_eq_true rfl) ?_
    refine g_aload_n C.c dX9_weigh_88 rfl (i := 0) rfl ?_
    refine gf_9_58 C dX9_weigh_89 ?_
    refine gf_9_219 C dX9_weigh_92 ?_
    refine g_iload_n C.c dX9_weigh_95 rfl (i := 1) rfl ?_
    obtain ⟨c18, h⟩ := chk h
    have hs19 := rw_59 (inb_lt c18)
    refine g_aald5 C (b := 60) dX9_weigh_96 rfl c18 rfl rfl ?_
    refine g_iload_n C.c dX9_weigh_97 rfl (i := 2) rfl ?_
    refine g_aload_n C.c dX9_weigh_98 rfl (i := 0) rfl ?_
    refine gf_9_19 C dX9_weigh_99 ?_
    refine gf_9_194 C dX9_weigh_102 ?_
    obtain ⟨c20, h⟩ := chk h
    refine g_iast C dX9_weigh_105 hs19 c20 ?_
    refine g_iinc C.c (i := 2) (y := (1 : Int32)) (L' := [some (.ref (kad K 0)), some (.int x1), some (.int (x2 + (1 : Int32)))]) dX9_weigh_106 rfl (by decide) (Nat.le_of_ble_eq_true rfl) rfl ?_
    refine g_goto C.c (tgt := 52) dX9_weigh_109 (by decide) ?_
    have g9 := hI _ (Option.some.inj h).symm
    exact g_mask [true, true, true] rfl g9
set_option maxRecDepth 4000 in
theorem bX9_weigh_b0 {K : KT} {x1 : Int32} {σ : Sg} {o : Sg} (C : Cx K layC cX9_weigh RX9 3 (16) none)  (hQ : Rk K layC (okV o)) (h : fX9_weigh_b0 x1 σ = some o) : G K 0 [some (.ref (kad K 0)), some (.int x1), none] [] (Wd K layC σ) := by
  unfold fX9_weigh_b0 at h
  refine g_aload_n C.c dX9_weigh_0 rfl (i := 0) rfl ?_
  refine gf_9_58 C dX9_weigh_1 ?_
  refine gf_9_340 C dX9_weigh_4 ?_
  refine g_iload_n C.c dX9_weigh_7 rfl (i := 1) rfl ?_
  obtain ⟨c1, h⟩ := chk h
  refine g_zald C dX9_weigh_8 rfl c1 ?_
  refine g_if_eq C.c (tgt := 13) dX9_weigh_9 (by decide) (fun c => ?_) (fun c => ?_)
  · replace h := ite_t c h
    refine g_aload_n C.c dX9_weigh_13 rfl (i := 0) rfl ?_
    refine gf_9_58 C dX9_weigh_14 ?_
    refine gf_9_340 C dX9_weigh_17 ?_
    refine g_iload_n C.c dX9_weigh_20 rfl (i := 1) rfl ?_
    refine g_iconst C.c dX9_weigh_21 (v := (1 : Int32)) (by decide) ?_
    obtain ⟨c2, h⟩ := chk h
    refine g_zast C dX9_weigh_22 rfl c2 (by decide) ?_
    refine g_aload_n C.c dX9_weigh_23 rfl (i := 0) rfl ?_
    refine gf_9_58 C dX9_weigh_24 ?_
    refine gf_9_344 C dX9_weigh_27 ?_
    refine g_iload_n C.c dX9_weigh_30 rfl (i := 1) rfl ?_
    refine g_aload_n C.c dX9_weigh_31 rfl (i := 0) rfl ?_
    refine g_iload_n C.c dX9_weigh_32 rfl (i := 1) rfl ?_
    obtain ⟨p3, e4, h⟩ := Option.bind_eq_some_iff.mp h
    refine kc_9_180 C dX9_weigh_33 e4 (Nat.le_of_ble_eq_true rfl) rfl (Nat.le_of_ble_eq_true rfl) ?_
    obtain ⟨c5, h⟩ := chk h
    obtain ⟨c6, h⟩ := chk h
    refine g_zast C dX9_weigh_36 rfl c5 c6 ?_
    refine g_aload_n C.c dX9_weigh_37 rfl (i := 0) rfl ?_
    refine gf_9_58 C dX9_weigh_38 ?_
    refine gf_9_344 C dX9_weigh_41 ?_
    refine g_iload_n C.c dX9_weigh_44 rfl (i := 1) rfl ?_
    obtain ⟨c7, h⟩ := chk h
    refine g_zald C dX9_weigh_45 rfl c7 ?_
    refine g_if_ne C.c (tgt := 50) dX9_weigh_46 (by decide) (fun c => ?_) (fun c => ?_)
    · replace h := ite_f c h
      refine g_iconst C.c dX9_weigh_50 (v := (2 : Int32)) (by decide) ?_
      refine g_istore_n C.c (i := 2) (L' := [some (.ref (kad K 0)), some (.int x1), some (.int (2 : Int32))]) dX9_weigh_51 rfl (Nat.le_of_ble_eq_true rfl) rfl ?_
      refine g_mask [true, true, true] rfl ?_
      refine lp_bind (Gh := fun s => G K 52 [some (.ref (kad K 0)), some (.int x1), some (.int s.1)] [] (Wd K layC s.2)) h (fun s o2 hf gI gE => ?_)
      refine bX9_weigh_b52 C gI (fun t21 e => ?_) hf
      · have h := gE _ e
        obtain rfl := Option.some.inj h
        exact g_vret C hQ dX9_weigh_112 ⟨rfl, rfl⟩
    · replace h := ite_t c h
      obtain rfl := Option.some.inj h
      exact g_vret C hQ dX9_weigh_49 ⟨rfl, rfl⟩
  · replace h := ite_f c h
    obtain rfl := Option.some.inj h
    exact g_vret C hQ dX9_weigh_12 ⟨rfl, rfl⟩
def fX9_weigh (a0 : Int32) (σ : Sg) : Option (Sg) := fX9_weigh_b0 a0 σ
theorem ct_X9_weigh {a0 : Int32} {σ : Sg} {p : Sg} (h : fX9_weigh a0 σ = some p) : Ct layC yX9_weigh cX9_weigh 3 none 16 (fun ad => [.ref (ad 0), .int a0]) σ (okV p) :=
 ct_of (L0 := fun ad => [some (.ref (ad 0)), some (.int a0), none]) (by decide) (fun _ => Nat.le_of_ble_eq_true rfl) (fun _ => rfl) (fun K C hQ => g_mask [true, true, false] rfl (bX9_weigh_b0 C hQ h))
-- X9_best
theorem dX9_best_0 : decode cX9_best 0 = .ok (.aload_n 0, 1) := by decide +kernel
theorem dX9_best_1 : decode cX9_best 1 = .ok (.iload_n 1, 1) := by decide +kernel
theorem dX9_best_2 : decode cX9_best 2 = .ok (.invokevirtual 142, 3) := by decide +kernel
theorem dX9_best_5 : decode cX9_best 5 = .ok (.ifCond .ne 6, 3) := by decide +kernel
theorem dX9_best_8 : decode cX9_best 8 = .ok (.ldc 175, 2) := by decide +kernel
theorem dX9_best_10 : decode cX9_best 10 = .ok (.ireturn, 1) := by decide +kernel
theorem dX9_best_11 : decode cX9_best 11 = .ok (.iload_n 2, 1) := by decide +kernel
theorem dX9_best_12 : decode cX9_best 12 = .ok (.ifCond .lt 8, 3) := by decide +kernel
theorem dX9_best_15 : decode cX9_best 15 = .ok (.iload_n 2, 1) := by decide +kernel
theorem dX9_best_16 : decode cX9_best 16 = .ok (.iconst 2, 1) := by decide +kernel
theorem dX9_best_17 : decode cX9_best 17 = .ok (.if_icmp .le 6, 3) := by decide +kernel
theorem dX9_best_20 : decode cX9_best 20 = .ok (.ldc 179, 2) := by decide +kernel
theorem dX9_best_22 : decode cX9_best 22 = .ok (.ireturn, 1) := by decide +kernel
theorem dX9_best_23 : decode cX9_best 23 = .ok (.aload_n 0, 1) := by decide +kernel
theorem dX9_best_24 : decode cX9_best 24 = .ok (.iload_n 1, 1) := by decide +kernel
theorem dX9_best_25 : decode cX9_best 25 = .ok (.invokevirtual 180, 3) := by decide +kernel
theorem dX9_best_28 : decode cX9_best 28 = .ok (.ifCond .ne 6, 3) := by decide +kernel
theorem dX9_best_31 : decode cX9_best 31 = .ok (.ldc 183, 2) := by decide +kernel
theorem dX9_best_33 : decode cX9_best 33 = .ok (.ireturn, 1) := by decide +kernel
theorem dX9_best_34 : decode cX9_best 34 = .ok (.aload_n 0, 1) := by decide +kernel
theorem dX9_best_35 : decode cX9_best 35 = .ok (.iload_n 1, 1) := by decide +kernel
theorem dX9_best_36 : decode cX9_best 36 = .ok (.invokevirtual 207, 3) := by decide +kernel
theorem dX9_best_39 : decode cX9_best 39 = .ok (.aload_n 0, 1) := by decide +kernel
theorem dX9_best_40 : decode cX9_best 40 = .ok (.getfield 58, 3) := by decide +kernel
theorem dX9_best_43 : decode cX9_best 43 = .ok (.iload_n 1, 1) := by decide +kernel
theorem dX9_best_44 : decode cX9_best 44 = .ok (.invokevirtual 210, 3) := by decide +kernel
theorem dX9_best_47 : decode cX9_best 47 = .ok (.istore_n 3, 1) := by decide +kernel
theorem dX9_best_48 : decode cX9_best 48 = .ok (.iload_n 2, 1) := by decide +kernel
theorem dX9_best_49 : decode cX9_best 49 = .ok (.lookupswitch 45 #[(0, 27), (1, 32)], 27) := by decide +kernel
theorem dX9_best_76 : decode cX9_best 76 = .ok (.iload_n 3, 1) := by decide +kernel
theorem dX9_best_77 : decode cX9_best 77 = .ok (.invokestatic 213, 3) := by decide +kernel
theorem dX9_best_80 : decode cX9_best 80 = .ok (.ireturn, 1) := by decide +kernel
theorem dX9_best_81 : decode cX9_best 81 = .ok (.iload_n 3, 1) := by decide +kernel
theorem dX9_best_82 : decode cX9_best 82 = .ok (.invokestatic 216, 3) := by decide +kernel
theorem dX9_best_85 : decode cX9_best 85 = .ok (.ifCond .eq 7, 3) := by decide +kernel
theorem dX9_best_88 : decode cX9_best 88 = .ok (.iconst 1, 1) := by decide +kernel
theorem dX9_best_89 : decode cX9_best 89 = .ok (.goto 4, 3) := by decide +kernel
theorem dX9_best_92 : decode cX9_best 92 = .ok (.iconst 0, 1) := by decide +kernel
theorem dX9_best_93 : decode cX9_best 93 = .ok (.ireturn, 1) := by decide +kernel
theorem dX9_best_94 : decode cX9_best 94 = .ok (.aload_n 0, 1) := by decide +kernel
theorem dX9_best_95 : decode cX9_best 95 = .ok (.getfield 58, 3) := by decide +kernel
theorem dX9_best_98 : decode cX9_best 98 = .ok (.getfield 219, 3) := by decide +kernel
theorem dX9_best_101 : decode cX9_best 101 = .ok (.iload_n 1, 1) := by decide +kernel
theorem dX9_best_102 : decode cX9_best 102 = .ok (.aaload, 1) := by decide +kernel
theorem dX9_best_103 : decode cX9_best 103 = .ok (.iload_n 3, 1) := by decide +kernel
theorem dX9_best_104 : decode cX9_best 104 = .ok (.iaload, 1) := by decide +kernel
theorem dX9_best_105 : decode cX9_best 105 = .ok (.ireturn, 1) := by decide +kernel
theorem cw_X9_best : Cw yX9_best cX9_best 4 (some .int) 2 := ⟨aw_552, aw_19, ⟨by decide, by decide⟩, by decide +kernel, by decide⟩
theorem kc_9_207 {K : KT} {cc : ByteArray} {nL d pc : Nat} {ret : Option FieldType} {L : List (Option Value)} {st : List Value} {σ : Sg} (C : Cx K layC cc RX9 nL d ret)  {a0 : Int32}  {p : Sg} (hd : decode cc pc = .ok (.invokevirtual 207, 3)) (e : fX9_weigh a0 σ = some p) (hdd : 16 + 1 ≤ d) (hLn : L.length = nL) (hr : (st.map fun v => v.category).sum ≤ 8) (k : G K (pc + 3) L (st) (Wd K layC p)) : G K pc L (.int a0 :: .ref (kad K 0) :: st) (Wd K layC σ) :=
  g_callV C (As := [.int a0]) (rest := st) (o := 0) (ci := 9) hd (ct_X9_weigh e) cw_X9_weigh (Or.inl aw_553) aw_555 aw_14 rfl rfl rfl hdd hLn rfl rfl hr (fun v τ q => by obtain ⟨rfl, rfl⟩ := q; exact k)
theorem kc_9_210 {K : KT} {cc : ByteArray} {nL d pc : Nat} {ret : Option FieldType} {L : List (Option Value)} {st : List Value} {σ : Sg} (C : Cx K layC cc RX9 nL d ret)  {a0 : Int32}  {p : Int32 × Sg} (hd : decode cc pc = .ok (.invokevirtual 210, 3)) (e : fX3_bestEntry a0 σ = some p) (hdd : 1 + 1 ≤ d) (hLn : L.length = nL) (hr : (st.map fun v => v.category).sum ≤ 8) (k : G K (pc + 3) L (.int p.1 :: st) (Wd K layC p.2)) : G K pc L (.int a0 :: .ref (kad K 58) :: st) (Wd K layC σ) :=
  g_callV C (As := [.int a0]) (rest := st) (o := 58) (ci := 3) hd (ct_X3_bestEntry e) cw_X3_bestEntry (Or.inl aw_563) aw_564 aw_565 rfl rfl rfl hdd hLn rfl rfl hr (fun v τ q => by obtain ⟨rfl, rfl⟩ := q; exact k)
def fX9_best_b0 (x1 : Int32) (x2 : Int32) (σ : Sg) : Option (Int32 × Sg) :=
  Option.bind (fX9_isBerg x1 σ) fun p1 => (if p1.1 = 0 then (some ((-100101 : Int32), p1.2)) else (if x2 < 0 then (some ((-100102 : Int32), p1.2)) else (if x2 ≤ (2 : Int32) then (Option.bind (fX9_hasWay x1 p1.2) fun p3 => (if p3.1 = 0 then (some ((-100001 : Int32), p3.2)) else (Option.bind (fX9_weigh x1 p3.2) fun p5 => (Option.bind (fX3_bestEntry x1 p5) fun p7 => (if x2 = (0 : Int32) then (Option.bind (fX3_tugsOf p7.1 p7.2) fun p9 => (some (p9.1, p9.2))) else (if x2 = (1 : Int32) then (Option.bind (fX3_hasSkirt p7.1 p7.2) fun p11 => (if p11.1 = 0 then (some ((0 : Int32), p11.2)) else (some ((1 : Int32), p11.2)))) else (if inb x1 5 = true then (if inb p7.1 24 = true then (some ((rI p7.2 (60 + (x1).toNatClampNeg) (p7.1).toNatClampNeg), p7.2)) else none) else none))))))) else (some ((-100102 : Int32), p1.2)))))
set_option maxRecDepth 4000 in
theorem bX9_best_b0 {K : KT} {x1 : Int32} {x2 : Int32} {σ : Sg} {o : Int32 × Sg} (C : Cx K layC cX9_best RX9 4 (17) (some .int))  (hQ : Rk K layC (okI o)) (h : fX9_best_b0 x1 x2 σ = some o) : G K 0 [some (.ref (kad K 0)), some (.int x1), some (.int x2), none] [] (Wd K layC σ) := by
  unfold fX9_best_b0 at h
  refine g_aload_n C.c dX9_best_0 rfl (i := 0) rfl ?_
  refine g_iload_n C.c dX9_best_1 rfl (i := 1) rfl ?_
  obtain ⟨p1, e2, h⟩ := Option.bind_eq_some_iff.mp h
  refine kc_9_142 C dX9_best_2 e2 (Nat.le_of_ble_eq_true rfl) rfl (Nat.le_of_ble_eq_true rfl) ?_
  refine g_if_ne C.c (tgt := 11) dX9_best_5 (by decide) (fun c => ?_) (fun c => ?_)
  · replace h := ite_f c h
    refine g_iload_n C.c dX9_best_11 rfl (i := 2) rfl ?_
    refine g_if_lt C.c (tgt := 20) dX9_best_12 (by decide) (fun c => ?_) (fun c => ?_)
    · replace h := ite_t c h
      refine g_ldc C.c (v := (-100102 : Int32)) aw_487 dX9_best_20 ?_
      obtain rfl := Option.some.inj h
      exact g_iret C hQ dX9_best_22 rfl ⟨rfl, rfl⟩
    · replace h := ite_f c h
      refine g_iload_n C.c dX9_best_15 rfl (i := 2) rfl ?_
      refine g_iconst C.c dX9_best_16 (v := (2 : Int32)) (by decide) ?_
      refine g_icmp_le C.c (tgt := 23) dX9_best_17 (by decide) (fun c => ?_) (fun c => ?_)
      · replace h := ite_t c h
        refine g_aload_n C.c dX9_best_23 rfl (i := 0) rfl ?_
        refine g_iload_n C.c dX9_best_24 rfl (i := 1) rfl ?_
        obtain ⟨p3, e4, h⟩ := Option.bind_eq_some_iff.mp h
        refine kc_9_180 C dX9_best_25 e4 (Nat.le_of_ble_eq_true rfl) rfl (Nat.le_of_ble_eq_true rfl) ?_
        refine g_if_ne C.c (tgt := 34) dX9_best_28 (by decide) (fun c => ?_) (fun c => ?_)
        · replace h := ite_f c h
          refine g_aload_n C.c dX9_best_34 rfl (i := 0) rfl ?_
          refine g_iload_n C.c dX9_best_35 rfl (i := 1) rfl ?_
          obtain ⟨p5, e6, h⟩ := Option.bind_eq_some_iff.mp h
          refine kc_9_207 C dX9_best_36 e6 (Nat.le_of_ble_eq_true rfl) rfl (Nat.le_of_ble_eq_true rfl) ?_
          refine g_aload_n C.c dX9_best_39 rfl (i := 0) rfl ?_
          refine gf_9_58 C dX9_best_40 ?_
          refine g_iload_n C.c dX9_best_43 rfl (i := 1) rfl ?_
          obtain ⟨p7, e8, h⟩ := Option.bind_eq_some_iff.mp h
          refine kc_9_210 C dX9_best_44 e8 (Nat.le_of_ble_eq_true rfl) rfl (Nat.le_of_ble_eq_true rfl) ?_
          refine g_istore_n C.c (i := 3) (L' := [some (.ref (kad K 0)), some (.int x1), some (.int x2), some (.int p7.1)]) dX9_best_47 rfl (Nat.le_of_ble_eq_true rfl) rfl ?_
          refine g_iload_n C.c dX9_best_48 rfl (i := 2) rfl ?_
          by_cases c0 : x2 = (0 : Int32)
          · replace h := ite_t c0 h
            refine g_lkIn C.c (tgt := 76) (off := 27) c0 dX9_best_49 (by decide) (by decide) (by decide) ?_
            refine g_iload_n C.c dX9_best_76 rfl (i := 3) rfl ?_
            obtain ⟨p9, e10, h⟩ := Option.bind_eq_some_iff.mp h
            refine kc_9_213 C dX9_best_77 e10 (Nat.le_of_ble_eq_true rfl) rfl (Nat.le_of_ble_eq_true rfl) ?_
            obtain rfl := Option.some.inj h
            exact g_iret C hQ dX9_best_80 rfl ⟨rfl, rfl⟩
          · replace h := ite_f c0 h
            by_cases c1 : x2 = (1 : Int32)
            · replace h := ite_t c1 h
              refine g_lkIn C.c (tgt := 81) (off := 32) c1 dX9_best_49 (by decide) (by decide) (by decide) ?_
              refine g_iload_n C.c dX9_best_81 rfl (i := 3) rfl ?_
              obtain ⟨p11, e12, h⟩ := Option.bind_eq_some_iff.mp h
              refine kc_9_216 C dX9_best_82 e12 (Nat.le_of_ble_eq_true rfl) rfl (Nat.le_of_ble_eq_true rfl) ?_
              refine g_if_eq C.c (tgt := 92) dX9_best_85 (by decide) (fun c => ?_) (fun c => ?_)
              · replace h := ite_t c h
                refine g_iconst C.c dX9_best_92 (v := (0 : Int32)) (by decide) ?_
                obtain rfl := Option.some.inj h
                exact g_iret C hQ dX9_best_93 rfl ⟨rfl, rfl⟩
              · replace h := ite_f c h
                refine g_iconst C.c dX9_best_88 (v := (1 : Int32)) (by decide) ?_
                refine g_goto C.c (tgt := 93) dX9_best_89 (by decide) ?_
                obtain rfl := Option.some.inj h
                exact g_iret C hQ dX9_best_93 rfl ⟨rfl, rfl⟩
            · replace h := ite_f c1 h
              refine g_lkOut C.c (tgt := 94) [(0 : Int32), (1 : Int32)] (by decide) ⟨c0, c1, trivial⟩ dX9_best_49 (by decide) (by decide) ?_
              refine g_aload_n C.c dX9_best_94 rfl (i := 0) rfl ?_
              refine gf_9_58 C dX9_best_95 ?_
              refine gf_9_219 C dX9_best_98 ?_
              refine g_iload_n C.c dX9_best_101 rfl (i := 1) rfl ?_
              obtain ⟨c13, h⟩ := chk h
              have hs14 := rw_59 (inb_lt c13)
              refine g_aald5 C (b := 60) dX9_best_102 rfl c13 rfl rfl ?_
              refine g_iload_n C.c dX9_best_103 rfl (i := 3) rfl ?_
              obtain ⟨c15, h⟩ := chk h
              refine g_iald C dX9_best_104 hs14 c15 ?_
              obtain rfl := Option.some.inj h
              exact g_iret C hQ dX9_best_105 rfl ⟨rfl, rfl⟩
        · replace h := ite_t c h
          refine g_ldc C.c (v := (-100001 : Int32)) aw_492 dX9_best_31 ?_
          obtain rfl := Option.some.inj h
          exact g_iret C hQ dX9_best_33 rfl ⟨rfl, rfl⟩
      · replace h := ite_f c h
        refine g_ldc C.c (v := (-100102 : Int32)) aw_487 dX9_best_20 ?_
        obtain rfl := Option.some.inj h
        exact g_iret C hQ dX9_best_22 rfl ⟨rfl, rfl⟩
  · replace h := ite_t c h
    refine g_ldc C.c (v := (-100101 : Int32)) aw_483 dX9_best_8 ?_
    obtain rfl := Option.some.inj h
    exact g_iret C hQ dX9_best_10 rfl ⟨rfl, rfl⟩
def fX9_best (a0 : Int32) (a1 : Int32) (σ : Sg) : Option (Int32 × Sg) := fX9_best_b0 a0 a1 σ
theorem ct_X9_best {a0 : Int32} {a1 : Int32} {σ : Sg} {p : Int32 × Sg} (h : fX9_best a0 a1 σ = some p) : Ct layC yX9_best cX9_best 4 (some .int) 17 (fun ad => [.ref (ad 0), .int a0, .int a1]) σ (okI p) :=
 ct_of (L0 := fun ad => [some (.ref (ad 0)), some (.int a0), some (.int a1), none]) (by decide) (fun _ => Nat.le_of_ble_eq_true rfl) (fun _ => rfl) (fun K C hQ => g_mask [true, true, true, false] rfl (bX9_best_b0 C hQ h))
-- X9_season
theorem dX9_season_0 : decode cX9_season 0 = .ok (.aload_n 0, 1) := by decide +kernel
theorem dX9_season_1 : decode cX9_season 1 = .ok (.getfield 99, 3) := by decide +kernel
theorem dX9_season_4 : decode cX9_season 4 = .ok (.ifCond .ne 6, 3) := by decide +kernel
theorem dX9_season_7 : decode cX9_season 7 = .ok (.bipush (-103), 2) := by decide +kernel
theorem dX9_season_9 : decode cX9_season 9 = .ok (.ireturn, 1) := by decide +kernel
theorem dX9_season_10 : decode cX9_season 10 = .ok (.iload_n 1, 1) := by decide +kernel
theorem dX9_season_11 : decode cX9_season 11 = .ok (.invokestatic 176, 3) := by decide +kernel
theorem dX9_season_14 : decode cX9_season 14 = .ok (.ifCond .eq 12, 3) := by decide +kernel
theorem dX9_season_17 : decode cX9_season 17 = .ok (.iload_n 2, 1) := by decide +kernel
theorem dX9_season_18 : decode cX9_season 18 = .ok (.ifCond .lt 8, 3) := by decide +kernel
theorem dX9_season_21 : decode cX9_season 21 = .ok (.iload_n 2, 1) := by decide +kernel
theorem dX9_season_22 : decode cX9_season 22 = .ok (.iconst 5, 1) := by decide +kernel
theorem dX9_season_23 : decode cX9_season 23 = .ok (.if_icmp .le 6, 3) := by decide +kernel
theorem dX9_season_26 : decode cX9_season 26 = .ok (.bipush (-102), 2) := by decide +kernel
theorem dX9_season_28 : decode cX9_season 28 = .ok (.ireturn, 1) := by decide +kernel
theorem dX9_season_29 : decode cX9_season 29 = .ok (.iconst 0, 1) := by decide +kernel
theorem dX9_season_30 : decode cX9_season 30 = .ok (.istore_n 3, 1) := by decide +kernel
theorem dX9_season_31 : decode cX9_season 31 = .ok (.iload_n 3, 1) := by decide +kernel
theorem dX9_season_32 : decode cX9_season 32 = .ok (.aload_n 0, 1) := by decide +kernel
theorem dX9_season_33 : decode cX9_season 33 = .ok (.getfield 91, 3) := by decide +kernel
theorem dX9_season_36 : decode cX9_season 36 = .ok (.if_icmp .ge 14, 3) := by decide +kernel
theorem dX9_season_39 : decode cX9_season 39 = .ok (.aload_n 0, 1) := by decide +kernel
theorem dX9_season_40 : decode cX9_season 40 = .ok (.iload_n 3, 1) := by decide +kernel
theorem dX9_season_41 : decode cX9_season 41 = .ok (.invokevirtual 207, 3) := by decide +kernel
theorem dX9_season_44 : decode cX9_season 44 = .ok (.iinc 3 1, 3) := by decide +kernel
theorem dX9_season_47 : decode cX9_season 47 = .ok (.goto (-16), 3) := by decide +kernel
theorem dX9_season_50 : decode cX9_season 50 = .ok (.aload_n 0, 1) := by decide +kernel
theorem dX9_season_51 : decode cX9_season 51 = .ok (.getfield 58, 3) := by decide +kernel
theorem dX9_season_54 : decode cX9_season 54 = .ok (.aload_n 0, 1) := by decide +kernel
theorem dX9_season_55 : decode cX9_season 55 = .ok (.getfield 91, 3) := by decide +kernel
theorem dX9_season_58 : decode cX9_season 58 = .ok (.invokevirtual 223, 3) := by decide +kernel
theorem dX9_season_61 : decode cX9_season 61 = .ok (.iload_n 2, 1) := by decide +kernel
theorem dX9_season_62 : decode cX9_season 62 = .ok (.ifCond .ne 15, 3) := by decide +kernel
theorem dX9_season_65 : decode cX9_season 65 = .ok (.aload_n 0, 1) := by decide +kernel
theorem dX9_season_66 : decode cX9_season 66 = .ok (.getfield 58, 3) := by decide +kernel
theorem dX9_season_69 : decode cX9_season 69 = .ok (.getfield 226, 3) := by decide +kernel
theorem dX9_season_72 : decode cX9_season 72 = .ok (.iconst 0, 1) := by decide +kernel
theorem dX9_season_73 : decode cX9_season 73 = .ok (.aaload, 1) := by decide +kernel
theorem dX9_season_74 : decode cX9_season 74 = .ok (.iload_n 1, 1) := by decide +kernel
theorem dX9_season_75 : decode cX9_season 75 = .ok (.iaload, 1) := by decide +kernel
theorem dX9_season_76 : decode cX9_season 76 = .ok (.ireturn, 1) := by decide +kernel
theorem dX9_season_77 : decode cX9_season 77 = .ok (.iload_n 2, 1) := by decide +kernel
theorem dX9_season_78 : decode cX9_season 78 = .ok (.aload_n 0, 1) := by decide +kernel
theorem dX9_season_79 : decode cX9_season 79 = .ok (.getfield 91, 3) := by decide +kernel
theorem dX9_season_82 : decode cX9_season 82 = .ok (.if_icmp .gt 17, 3) := by decide +kernel
theorem dX9_season_85 : decode cX9_season 85 = .ok (.aload_n 0, 1) := by decide +kernel
theorem dX9_season_86 : decode cX9_season 86 = .ok (.getfield 58, 3) := by decide +kernel
theorem dX9_season_89 : decode cX9_season 89 = .ok (.iload_n 2, 1) := by decide +kernel
theorem dX9_season_90 : decode cX9_season 90 = .ok (.iconst 1, 1) := by decide +kernel
theorem dX9_season_91 : decode cX9_season 91 = .ok (.isub, 1) := by decide +kernel
theorem dX9_season_92 : decode cX9_season 92 = .ok (.iload_n 1, 1) := by decide +kernel
theorem dX9_season_93 : decode cX9_season 93 = .ok (.invokevirtual 229, 3) := by decide +kernel
theorem dX9_season_96 : decode cX9_season 96 = .ok (.goto 4, 3) := by decide +kernel
theorem dX9_season_99 : decode cX9_season 99 = .ok (.iconst (-1), 1) := by decide +kernel
theorem dX9_season_100 : decode cX9_season 100 = .ok (.ireturn, 1) := by decide +kernel
theorem cw_X9_season : Cw yX9_season cX9_season 4 (some .int) 2 := ⟨aw_570, aw_19, ⟨by decide, by decide⟩, by decide +kernel, by decide⟩
theorem kc_9_223 {K : KT} {cc : ByteArray} {nL d pc : Nat} {ret : Option FieldType} {L : List (Option Value)} {st : List Value} {σ : Sg} (C : Cx K layC cc RX9 nL d ret)  {a0 : Int32}  {p : Sg} (hd : decode cc pc = .ok (.invokevirtual 223, 3)) (e : fX3_deal a0 σ = some p) (hdd : 3 + 1 ≤ d) (hLn : L.length = nL) (hr : (st.map fun v => v.category).sum ≤ 8) (k : G K (pc + 3) L (st) (Wd K layC p)) : G K pc L (.int a0 :: .ref (kad K 58) :: st) (Wd K layC σ) :=
  g_callV C (As := [.int a0]) (rest := st) (o := 58) (ci := 3) hd (ct_X3_deal e) cw_X3_deal (Or.inl aw_571) aw_572 aw_573 rfl rfl rfl hdd hLn rfl rfl hr (fun v τ q => by obtain ⟨rfl, rfl⟩ := q; exact k)
theorem kc_9_229 {K : KT} {cc : ByteArray} {nL d pc : Nat} {ret : Option FieldType} {L : List (Option Value)} {st : List Value} {σ : Sg} (C : Cx K layC cc RX9 nL d ret)  {a0 : Int32} {a1 : Int32}  {p : Int32 × Sg} (hd : decode cc pc = .ok (.invokevirtual 229, 3)) (e : fX3_tugsFor a0 a1 σ = some p) (hdd : 3 + 1 ≤ d) (hLn : L.length = nL) (hr : (st.map fun v => v.category).sum ≤ 8) (k : G K (pc + 3) L (.int p.1 :: st) (Wd K layC p.2)) : G K pc L (.int a1 :: .int a0 :: .ref (kad K 58) :: st) (Wd K layC σ) :=
  g_callV C (As := [.int a0, .int a1]) (rest := st) (o := 58) (ci := 3) hd (ct_X3_tugsFor e) cw_X3_tugsFor (Or.inl aw_584) aw_585 aw_586 rfl rfl rfl hdd hLn rfl rfl hr (fun v τ q => by obtain ⟨rfl, rfl⟩ := q; exact k)
theorem gf_9_226 {K : KT} {cc : ByteArray} {nL d pc : Nat} {ret : Option FieldType} {L : List (Option Value)} {st : List Value} {σ : Sg} (C : Cx K layC cc RX9 nL d ret)  (hd : decode cc pc = .ok (.getfield 226, 3)) (k : G K (pc + 3) L (.ref (kad K 67) :: st) (Wd K layC σ)) : G K pc L (.ref (kad K 58) :: st) (Wd K layC σ) := g_get C (o := 58) (ci := 3) (k := 3) hd rfl rfl rfl (by decide) (Or.inr ⟨_, aw_278⟩) inA3 rfl k
def fX9_season_b31 (x1 : Int32) (x2 : Int32) (x3 : Int32) (σ : Sg) : Option ((Int32 × Sg) ⊕ ((Sg))) :=
  if (rI σ 0 9) ≤ x3 then (some (.inr σ)) else (Option.bind (fX9_weigh x3 σ) fun p3 => (some (.inl ((x3 + (1 : Int32)), p3))))
def fX9_season_b0 (x1 : Int32) (x2 : Int32) (σ : Sg) : Option (Int32 × Sg) :=
  if (rI σ 0 10) = 0 then (some ((-103 : Int32), σ)) else (Option.bind (fX9_isTugs x1 σ) fun p1 => (if p1.1 = 0 then (some ((-102 : Int32), p1.2)) else (if x2 < 0 then (some ((-102 : Int32), p1.2)) else (if x2 ≤ (5 : Int32) then (Option.bind (lp (fun s => fX9_season_b31 x1 x2 s.1 s.2) FU ((0 : Int32), p1.2)) fun t5 => Option.bind (fX3_deal (rI t5 0 9) t5) fun p7 => (if x2 = 0 then (if inb x1 12 = true then (some ((rI p7 (68 + ((0 : Int32)).toNatClampNeg) (x1).toNatClampNeg), p7)) else none) else (if (rI p7 0 9) < x2 then (some ((-1 : Int32), p7)) else (Option.bind (fX3_tugsFor (x2 - (1 : Int32)) x1 p7) fun p9 => (some (p9.1, p9.2)))))) else (some ((-102 : Int32), p1.2))))))
set_option maxRecDepth 4000 in
theorem bX9_season_b31 {K : KT} {x1 : Int32} {x2 : Int32} {x3 : Int32} {σ : Sg} {o : (Int32 × Sg) ⊕ ((Sg))} (C : Cx K layC cX9_season RX9 4 (17) (some .int))  (hI : ∀ s' : Int32 × Sg, o = .inl s' → G K 31 [some (.ref (kad K 0)), some (.int x1), some (.int x2), some (.int s'.1)] [] (Wd K layC s'.2)) (hE0 : ∀ t : Sg, o = .inr t → G K 50 [some (.ref (kad K 0)), some (.int x1), some (.int x2), none] [] (Wd K layC t)) (h : fX9_season_b31 x1 x2 x3 σ = some o) : G K 31 [some (.ref (kad K 0)), some (.int x1), some (.int x2), some (.int x3)] [] (Wd K layC σ) := by
  unfold fX9_season_b31 at h
  refine g_iload_n C.c dX9_season_31 rfl (i := 3) rfl ?_
  refine g_aload_n C.c dX9_season_32 rfl (i := 0) rfl ?_
  refine gf_9_91 C dX9_season_33 ?_
  refine g_icmp_ge C.c (tgt := 50) dX9_season_36 (by decide) (fun c => ?_) (fun c => ?_)
  · replace h := ite_t c h
    have g9 := hE0 _ (Option.some.inj h).symm
    exact g_mask [true, true, true, false] rfl g9
  · replace h := ite_f c h
    refine g_aload_n C.c dX9_season_39 rfl (i := 0) rfl ?_
    refine g_iload_n C.c dX9_season_40 rfl (i := 3) rfl ?_
    obtain ⟨p3, e4, h⟩ := Option.bind_eq_some_iff.mp h
    refine kc_9_207 C dX9_season_41 e4 (Nat.le_of_ble_eq_true rfl) rfl (Nat.le_of_ble_eq_true rfl) ?_
    refine g_iinc C.c (i := 3) (y := (1 : Int32)) (L' := [some (.ref (kad K 0)), some (.int x1), some (.int x2), some (.int (x3 + (1 : Int32)))]) dX9_season_44 rfl (by decide) (Nat.le_of_ble_eq_true rfl) rfl ?_
    refine g_goto C.c (tgt := 31) dX9_season_47 (by decide) ?_
    have g9 := hI _ (Option.some.inj h).symm
    exact g_mask [true, true, true, true] rfl g9
set_option maxRecDepth 4000 in
theorem bX9_season_b0 {K : KT} {x1 : Int32} {x2 : Int32} {σ : Sg} {o : Int32 × Sg} (C : Cx K layC cX9_season RX9 4 (17) (some .int))  (hQ : Rk K layC (okI o)) (h : fX9_season_b0 x1 x2 σ = some o) : G K 0 [some (.ref (kad K 0)), some (.int x1), some (.int x2), none] [] (Wd K layC σ) := by
  unfold fX9_season_b0 at h
  refine g_aload_n C.c dX9_season_0 rfl (i := 0) rfl ?_
  refine gf_9_99 C dX9_season_1 ?_
  refine g_if_ne C.c (tgt := 10) dX9_season_4 (by decide) (fun c => ?_) (fun c => ?_)
  · replace h := ite_f c h
    refine g_iload_n C.c dX9_season_10 rfl (i := 1) rfl ?_
    obtain ⟨p1, e2, h⟩ := Option.bind_eq_some_iff.mp h
    refine kc_9_176 C dX9_season_11 e2 (Nat.le_of_ble_eq_true rfl) rfl (Nat.le_of_ble_eq_true rfl) ?_
    refine g_if_eq C.c (tgt := 26) dX9_season_14 (by decide) (fun c => ?_) (fun c => ?_)
    · replace h := ite_t c h
      refine g_bipush C.c dX9_season_26 (v := (-102 : Int32)) (by decide) ?_
      obtain rfl := Option.some.inj h
      exact g_iret C hQ dX9_season_28 rfl ⟨rfl, rfl⟩
    · replace h := ite_f c h
      refine g_iload_n C.c dX9_season_17 rfl (i := 2) rfl ?_
      refine g_if_lt C.c (tgt := 26) dX9_season_18 (by decide) (fun c => ?_) (fun c => ?_)
      · replace h := ite_t c h
        refine g_bipush C.c dX9_season_26 (v := (-102 : Int32)) (by decide) ?_
        obtain rfl := Option.some.inj h
        exact g_iret C hQ dX9_season_28 rfl ⟨rfl, rfl⟩
      · replace h := ite_f c h
        refine g_iload_n C.c dX9_season_21 rfl (i := 2) rfl ?_
        refine g_iconst C.c dX9_season_22 (v := (5 : Int32)) (by decide) ?_
        refine g_icmp_le C.c (tgt := 29) dX9_season_23 (by decide) (fun c => ?_) (fun c => ?_)
        · replace h := ite_t c h
          refine g_iconst C.c dX9_season_29 (v := (0 : Int32)) (by decide) ?_
          refine g_istore_n C.c (i := 3) (L' := [some (.ref (kad K 0)), some (.int x1), some (.int x2), some (.int (0 : Int32))]) dX9_season_30 rfl (Nat.le_of_ble_eq_true rfl) rfl ?_
          refine g_mask [true, true, true, true] rfl ?_
          refine lp_bind (Gh := fun s => G K 31 [some (.ref (kad K 0)), some (.int x1), some (.int x2), some (.int s.1)] [] (Wd K layC s.2)) h (fun s o2 hf gI gE => ?_)
          refine bX9_season_b31 C gI (fun t5 e => ?_) hf
          · have h := gE _ e
            refine g_aload_n C.c dX9_season_50 rfl (i := 0) rfl ?_
            refine gf_9_58 C dX9_season_51 ?_
            refine g_aload_n C.c dX9_season_54 rfl (i := 0) rfl ?_
            refine gf_9_91 C dX9_season_55 ?_
            obtain ⟨p7, e8, h⟩ := Option.bind_eq_some_iff.mp h
            refine kc_9_223 C dX9_season_58 e8 (Nat.le_of_ble_eq_true rfl) rfl (Nat.le_of_ble_eq_true rfl) ?_
            refine g_iload_n C.c dX9_season_61 rfl (i := 2) rfl ?_
            refine g_if_ne C.c (tgt := 77) dX9_season_62 (by decide) (fun c => ?_) (fun c => ?_)
            · replace h := ite_f c h
              refine g_iload_n C.c dX9_season_77 rfl (i := 2) rfl ?_
              refine g_aload_n C.c dX9_season_78 rfl (i := 0) rfl ?_
              refine gf_9_91 C dX9_season_79 ?_
              refine g_icmp_gt C.c (tgt := 99) dX9_season_82 (by decide) (fun c => ?_) (fun c => ?_)
              · replace h := ite_t c h
                refine g_iconst C.c dX9_season_99 (v := (-1 : Int32)) (by decide) ?_
                obtain rfl := Option.some.inj h
                exact g_iret C hQ dX9_season_100 rfl ⟨rfl, rfl⟩
              · replace h := ite_f c h
                refine g_aload_n C.c dX9_season_85 rfl (i := 0) rfl ?_
                refine gf_9_58 C dX9_season_86 ?_
                refine g_iload_n C.c dX9_season_89 rfl (i := 2) rfl ?_
                refine g_iconst C.c dX9_season_90 (v := (1 : Int32)) (by decide) ?_
                refine g_isub C.c dX9_season_91 ?_
                refine g_iload_n C.c dX9_season_92 rfl (i := 1) rfl ?_
                obtain ⟨p9, e10, h⟩ := Option.bind_eq_some_iff.mp h
                refine kc_9_229 C dX9_season_93 e10 (Nat.le_of_ble_eq_true rfl) rfl (Nat.le_of_ble_eq_true rfl) ?_
                refine g_goto C.c (tgt := 100) dX9_season_96 (by decide) ?_
                obtain rfl := Option.some.inj h
                exact g_iret C hQ dX9_season_100 rfl ⟨rfl, rfl⟩
            · replace h := ite_t c h
              refine g_aload_n C.c dX9_season_65 rfl (i := 0) rfl ?_
              refine gf_9_58 C dX9_season_66 ?_
              refine gf_9_226 C dX9_season_69 ?_
              refine g_iconst C.c dX9_season_72 (v := (0 : Int32)) (by decide) ?_
              have hs11 := rw_67 (j := ((0 : Int32)).toNatClampNeg) (by decide)
              refine g_aald5 C (b := 68) dX9_season_73 rfl (by decide) rfl rfl ?_
              refine g_iload_n C.c dX9_season_74 rfl (i := 1) rfl ?_
              obtain ⟨c12, h⟩ := chk h
              refine g_iald C dX9_season_75 hs11 c12 ?_
              obtain rfl := Option.some.inj h
              exact g_iret C hQ dX9_season_76 rfl ⟨rfl, rfl⟩
        · replace h := ite_f c h
          refine g_bipush C.c dX9_season_26 (v := (-102 : Int32)) (by decide) ?_
          obtain rfl := Option.some.inj h
          exact g_iret C hQ dX9_season_28 rfl ⟨rfl, rfl⟩
  · replace h := ite_t c h
    refine g_bipush C.c dX9_season_7 (v := (-103 : Int32)) (by decide) ?_
    obtain rfl := Option.some.inj h
    exact g_iret C hQ dX9_season_9 rfl ⟨rfl, rfl⟩
def fX9_season (a0 : Int32) (a1 : Int32) (σ : Sg) : Option (Int32 × Sg) := fX9_season_b0 a0 a1 σ
theorem ct_X9_season {a0 : Int32} {a1 : Int32} {σ : Sg} {p : Int32 × Sg} (h : fX9_season a0 a1 σ = some p) : Ct layC yX9_season cX9_season 4 (some .int) 17 (fun ad => [.ref (ad 0), .int a0, .int a1]) σ (okI p) :=
 ct_of (L0 := fun ad => [some (.ref (ad 0)), some (.int a0), some (.int a1), none]) (by decide) (fun _ => Nat.le_of_ble_eq_true rfl) (fun _ => rfl) (fun K C hQ => g_mask [true, true, true, false] rfl (bX9_season_b0 C hQ h))
-- X9_more
theorem dX9_more_0 : decode cX9_more 0 = .ok (.aload_n 0, 1) := by decide +kernel
theorem dX9_more_1 : decode cX9_more 1 = .ok (.getfield 99, 3) := by decide +kernel
theorem dX9_more_4 : decode cX9_more 4 = .ok (.ifCond .ne 6, 3) := by decide +kernel
theorem dX9_more_7 : decode cX9_more 7 = .ok (.bipush (-103), 2) := by decide +kernel
theorem dX9_more_9 : decode cX9_more 9 = .ok (.ireturn, 1) := by decide +kernel
theorem dX9_more_10 : decode cX9_more 10 = .ok (.iload_n 1, 1) := by decide +kernel
theorem dX9_more_11 : decode cX9_more 11 = .ok (.iconst 1, 1) := by decide +kernel
theorem dX9_more_12 : decode cX9_more 12 = .ok (.if_icmp .lt 9, 3) := by decide +kernel
theorem dX9_more_15 : decode cX9_more 15 = .ok (.iload_n 1, 1) := by decide +kernel
theorem dX9_more_16 : decode cX9_more 16 = .ok (.bipush 11, 2) := by decide +kernel
theorem dX9_more_18 : decode cX9_more 18 = .ok (.if_icmp .lt 6, 3) := by decide +kernel
theorem dX9_more_21 : decode cX9_more 21 = .ok (.bipush (-102), 2) := by decide +kernel
theorem dX9_more_23 : decode cX9_more 23 = .ok (.ireturn, 1) := by decide +kernel
theorem dX9_more_24 : decode cX9_more 24 = .ok (.aload_n 0, 1) := by decide +kernel
theorem dX9_more_25 : decode cX9_more 25 = .ok (.iload_n 1, 1) := by decide +kernel
theorem dX9_more_26 : decode cX9_more 26 = .ok (.iconst 1, 1) := by decide +kernel
theorem dX9_more_27 : decode cX9_more 27 = .ok (.iadd, 1) := by decide +kernel
theorem dX9_more_28 : decode cX9_more 28 = .ok (.iconst 0, 1) := by decide +kernel
theorem dX9_more_29 : decode cX9_more 29 = .ok (.invokevirtual 232, 3) := by decide +kernel
theorem dX9_more_32 : decode cX9_more 32 = .ok (.aload_n 0, 1) := by decide +kernel
theorem dX9_more_33 : decode cX9_more 33 = .ok (.iload_n 1, 1) := by decide +kernel
theorem dX9_more_34 : decode cX9_more 34 = .ok (.iconst 0, 1) := by decide +kernel
theorem dX9_more_35 : decode cX9_more 35 = .ok (.invokevirtual 232, 3) := by decide +kernel
theorem dX9_more_38 : decode cX9_more 38 = .ok (.isub, 1) := by decide +kernel
theorem dX9_more_39 : decode cX9_more 39 = .ok (.ireturn, 1) := by decide +kernel
theorem cw_X9_more : Cw yX9_more cX9_more 2 (some .int) 1 := ⟨aw_595, aw_19, ⟨by decide, by decide⟩, by decide +kernel, by decide⟩
theorem kc_9_232 {K : KT} {cc : ByteArray} {nL d pc : Nat} {ret : Option FieldType} {L : List (Option Value)} {st : List Value} {σ : Sg} (C : Cx K layC cc RX9 nL d ret)  {a0 : Int32} {a1 : Int32}  {p : Int32 × Sg} (hd : decode cc pc = .ok (.invokevirtual 232, 3)) (e : fX9_season a0 a1 σ = some p) (hdd : 17 + 1 ≤ d) (hLn : L.length = nL) (hr : (st.map fun v => v.category).sum ≤ 8) (k : G K (pc + 3) L (.int p.1 :: st) (Wd K layC p.2)) : G K pc L (.int a1 :: .int a0 :: .ref (kad K 0) :: st) (Wd K layC σ) :=
  g_callV C (As := [.int a0, .int a1]) (rest := st) (o := 0) (ci := 9) hd (ct_X9_season e) cw_X9_season (Or.inl aw_596) aw_568 aw_569 rfl rfl rfl hdd hLn rfl rfl hr (fun v τ q => by obtain ⟨rfl, rfl⟩ := q; exact k)
def fX9_more_b0 (x1 : Int32) (σ : Sg) : Option (Int32 × Sg) :=
  if (rI σ 0 10) = 0 then (some ((-103 : Int32), σ)) else (if x1 < (1 : Int32) then (some ((-102 : Int32), σ)) else (if x1 < (11 : Int32) then (Option.bind (fX9_season (x1 + (1 : Int32)) (0 : Int32) σ) fun p1 => (Option.bind (fX9_season x1 (0 : Int32) p1.2) fun p3 => (some ((p1.1 - p3.1), p3.2)))) else (some ((-102 : Int32), σ))))
set_option maxRecDepth 4000 in
theorem bX9_more_b0 {K : KT} {x1 : Int32} {σ : Sg} {o : Int32 × Sg} (C : Cx K layC cX9_more RX9 2 (18) (some .int))  (hQ : Rk K layC (okI o)) (h : fX9_more_b0 x1 σ = some o) : G K 0 [some (.ref (kad K 0)), some (.int x1)] [] (Wd K layC σ) := by
  unfold fX9_more_b0 at h
  refine g_aload_n C.c dX9_more_0 rfl (i := 0) rfl ?_
  refine gf_9_99 C dX9_more_1 ?_
  refine g_if_ne C.c (tgt := 10) dX9_more_4 (by decide) (fun c => ?_) (fun c => ?_)
  · replace h := ite_f c h
    refine g_iload_n C.c dX9_more_10 rfl (i := 1) rfl ?_
    refine g_iconst C.c dX9_more_11 (v := (1 : Int32)) (by decide) ?_
    refine g_icmp_lt C.c (tgt := 21) dX9_more_12 (by decide) (fun c => ?_) (fun c => ?_)
    · replace h := ite_t c h
      refine g_bipush C.c dX9_more_21 (v := (-102 : Int32)) (by decide) ?_
      obtain rfl := Option.some.inj h
      exact g_iret C hQ dX9_more_23 rfl ⟨rfl, rfl⟩
    · replace h := ite_f c h
      refine g_iload_n C.c dX9_more_15 rfl (i := 1) rfl ?_
      refine g_bipush C.c dX9_more_16 (v := (11 : Int32)) (by decide) ?_
      refine g_icmp_lt C.c (tgt := 24) dX9_more_18 (by decide) (fun c => ?_) (fun c => ?_)
      · replace h := ite_t c h
        refine g_aload_n C.c dX9_more_24 rfl (i := 0) rfl ?_
        refine g_iload_n C.c dX9_more_25 rfl (i := 1) rfl ?_
        refine g_iconst C.c dX9_more_26 (v := (1 : Int32)) (by decide) ?_
        refine g_iadd C.c dX9_more_27 ?_
        refine g_iconst C.c dX9_more_28 (v := (0 : Int32)) (by decide) ?_
        obtain ⟨p1, e2, h⟩ := Option.bind_eq_some_iff.mp h
        refine kc_9_232 C dX9_more_29 e2 (Nat.le_of_ble_eq_true rfl) rfl (Nat.le_of_ble_eq_true rfl) ?_
        refine g_aload_n C.c dX9_more_32 rfl (i := 0) rfl ?_
        refine g_iload_n C.c dX9_more_33 rfl (i := 1) rfl ?_
        refine g_iconst C.c dX9_more_34 (v := (0 : Int32)) (by decide) ?_
        obtain ⟨p3, e4, h⟩ := Option.bind_eq_some_iff.mp h
        refine kc_9_232 C dX9_more_35 e4 (Nat.le_of_ble_eq_true rfl) rfl (Nat.le_of_ble_eq_true rfl) ?_
        refine g_isub C.c dX9_more_38 ?_
        obtain rfl := Option.some.inj h
        exact g_iret C hQ dX9_more_39 rfl ⟨rfl, rfl⟩
      · replace h := ite_f c h
        refine g_bipush C.c dX9_more_21 (v := (-102 : Int32)) (by decide) ?_
        obtain rfl := Option.some.inj h
        exact g_iret C hQ dX9_more_23 rfl ⟨rfl, rfl⟩
  · replace h := ite_t c h
    refine g_bipush C.c dX9_more_7 (v := (-103 : Int32)) (by decide) ?_
    obtain rfl := Option.some.inj h
    exact g_iret C hQ dX9_more_9 rfl ⟨rfl, rfl⟩
def fX9_more (a0 : Int32) (σ : Sg) : Option (Int32 × Sg) := fX9_more_b0 a0 σ
theorem ct_X9_more {a0 : Int32} {σ : Sg} {p : Int32 × Sg} (h : fX9_more a0 σ = some p) : Ct layC yX9_more cX9_more 2 (some .int) 18 (fun ad => [.ref (ad 0), .int a0]) σ (okI p) :=
 ct_of (L0 := fun ad => [some (.ref (ad 0)), some (.int a0)]) (by decide) (fun _ => Nat.le_of_ble_eq_true rfl) (fun _ => rfl) (fun K C hQ => g_mask [true, true] rfl (bX9_more_b0 C hQ h))
-- X9_drawn
theorem dX9_drawn_0 : decode cX9_drawn 0 = .ok (.aload_n 0, 1) := by decide +kernel
theorem dX9_drawn_1 : decode cX9_drawn 1 = .ok (.iload_n 1, 1) := by decide +kernel
theorem dX9_drawn_2 : decode cX9_drawn 2 = .ok (.invokevirtual 142, 3) := by decide +kernel
theorem dX9_drawn_5 : decode cX9_drawn 5 = .ok (.ifCond .ne 6, 3) := by decide +kernel
theorem dX9_drawn_8 : decode cX9_drawn 8 = .ok (.bipush (-101), 2) := by decide +kernel
theorem dX9_drawn_10 : decode cX9_drawn 10 = .ok (.ireturn, 1) := by decide +kernel
theorem dX9_drawn_11 : decode cX9_drawn 11 = .ok (.iload_n 2, 1) := by decide +kernel
theorem dX9_drawn_12 : decode cX9_drawn 12 = .ok (.invokestatic 176, 3) := by decide +kernel
theorem dX9_drawn_15 : decode cX9_drawn 15 = .ok (.ifCond .eq 19, 3) := by decide +kernel
theorem dX9_drawn_18 : decode cX9_drawn 18 = .ok (.iload 4, 2) := by decide +kernel
theorem dX9_drawn_20 : decode cX9_drawn 20 = .ok (.ifCond .lt 14, 3) := by decide +kernel
theorem dX9_drawn_23 : decode cX9_drawn 23 = .ok (.iload 5, 2) := by decide +kernel
theorem dX9_drawn_25 : decode cX9_drawn 25 = .ok (.ifCond .lt 9, 3) := by decide +kernel
theorem dX9_drawn_28 : decode cX9_drawn 28 = .ok (.iload 5, 2) := by decide +kernel
theorem dX9_drawn_30 : decode cX9_drawn 30 = .ok (.iconst 2, 1) := by decide +kernel
theorem dX9_drawn_31 : decode cX9_drawn 31 = .ok (.if_icmp .le 6, 3) := by decide +kernel
theorem dX9_drawn_34 : decode cX9_drawn 34 = .ok (.bipush (-102), 2) := by decide +kernel
theorem dX9_drawn_36 : decode cX9_drawn 36 = .ok (.ireturn, 1) := by decide +kernel
theorem dX9_drawn_37 : decode cX9_drawn 37 = .ok (.aload_n 0, 1) := by decide +kernel
theorem dX9_drawn_38 : decode cX9_drawn 38 = .ok (.iload_n 1, 1) := by decide +kernel
theorem dX9_drawn_39 : decode cX9_drawn 39 = .ok (.invokevirtual 180, 3) := by decide +kernel
theorem dX9_drawn_42 : decode cX9_drawn 42 = .ok (.ifCond .ne 5, 3) := by decide +kernel
theorem dX9_drawn_45 : decode cX9_drawn 45 = .ok (.iconst (-1), 1) := by decide +kernel
theorem dX9_drawn_46 : decode cX9_drawn 46 = .ok (.ireturn, 1) := by decide +kernel
theorem dX9_drawn_47 : decode cX9_drawn 47 = .ok (.aload_n 0, 1) := by decide +kernel
theorem dX9_drawn_48 : decode cX9_drawn 48 = .ok (.getfield 19, 3) := by decide +kernel
theorem dX9_drawn_51 : decode cX9_drawn 51 = .ok (.aload_n 0, 1) := by decide +kernel
theorem dX9_drawn_52 : decode cX9_drawn 52 = .ok (.getfield 37, 3) := by decide +kernel
theorem dX9_drawn_55 : decode cX9_drawn 55 = .ok (.iload_n 1, 1) := by decide +kernel
theorem dX9_drawn_56 : decode cX9_drawn 56 = .ok (.aaload, 1) := by decide +kernel
theorem dX9_drawn_57 : decode cX9_drawn 57 = .ok (.aload_n 0, 1) := by decide +kernel
theorem dX9_drawn_58 : decode cX9_drawn 58 = .ok (.getfield 37, 3) := by decide +kernel
theorem dX9_drawn_61 : decode cX9_drawn 61 = .ok (.iload_n 1, 1) := by decide +kernel
theorem dX9_drawn_62 : decode cX9_drawn 62 = .ok (.aaload, 1) := by decide +kernel
theorem dX9_drawn_63 : decode cX9_drawn 63 = .ok (.getfield 154, 3) := by decide +kernel
theorem dX9_drawn_66 : decode cX9_drawn 66 = .ok (.iload_n 2, 1) := by decide +kernel
theorem dX9_drawn_67 : decode cX9_drawn 67 = .ok (.iload_n 3, 1) := by decide +kernel
theorem dX9_drawn_68 : decode cX9_drawn 68 = .ok (.invokevirtual 184, 3) := by decide +kernel
theorem dX9_drawn_71 : decode cX9_drawn 71 = .ok (.aload_n 0, 1) := by decide +kernel
theorem dX9_drawn_72 : decode cX9_drawn 72 = .ok (.getfield 19, 3) := by decide +kernel
theorem dX9_drawn_75 : decode cX9_drawn 75 = .ok (.iload 4, 2) := by decide +kernel
theorem dX9_drawn_77 : decode cX9_drawn 77 = .ok (.invokevirtual 235, 3) := by decide +kernel
theorem dX9_drawn_80 : decode cX9_drawn 80 = .ok (.iload 5, 2) := by decide +kernel
theorem dX9_drawn_82 : decode cX9_drawn 82 = .ok (.lookupswitch 42 #[(0, 26), (1, 34)], 26) := by decide +kernel
theorem dX9_drawn_108 : decode cX9_drawn 108 = .ok (.aload_n 0, 1) := by decide +kernel
theorem dX9_drawn_109 : decode cX9_drawn 109 = .ok (.getfield 19, 3) := by decide +kernel
theorem dX9_drawn_112 : decode cX9_drawn 112 = .ok (.getfield 188, 3) := by decide +kernel
theorem dX9_drawn_115 : decode cX9_drawn 115 = .ok (.ireturn, 1) := by decide +kernel
theorem dX9_drawn_116 : decode cX9_drawn 116 = .ok (.aload_n 0, 1) := by decide +kernel
theorem dX9_drawn_117 : decode cX9_drawn 117 = .ok (.getfield 19, 3) := by decide +kernel
theorem dX9_drawn_120 : decode cX9_drawn 120 = .ok (.getfield 191, 3) := by decide +kernel
theorem dX9_drawn_123 : decode cX9_drawn 123 = .ok (.ireturn, 1) := by decide +kernel
theorem dX9_drawn_124 : decode cX9_drawn 124 = .ok (.aload_n 0, 1) := by decide +kernel
theorem dX9_drawn_125 : decode cX9_drawn 125 = .ok (.getfield 19, 3) := by decide +kernel
theorem dX9_drawn_128 : decode cX9_drawn 128 = .ok (.getfield 238, 3) := by decide +kernel
theorem dX9_drawn_131 : decode cX9_drawn 131 = .ok (.l2i, 1) := by decide +kernel
theorem dX9_drawn_132 : decode cX9_drawn 132 = .ok (.ireturn, 1) := by decide +kernel
theorem cw_X9_drawn : Cw yX9_drawn cX9_drawn 6 (some .int) 5 := ⟨aw_600, aw_19, ⟨by decide, by decide⟩, by decide +kernel, by decide⟩
theorem kc_9_235 {K : KT} {cc : ByteArray} {nL d pc : Nat} {ret : Option FieldType} {L : List (Option Value)} {st : List Value} {σ : Sg} (C : Cx K layC cc RX9 nL d ret)  {a0 : Int32}  {p : Sg} (hd : decode cc pc = .ok (.invokevirtual 235, 3)) (e : fX8_towAgain a0 σ = some p) (hdd : 3 + 1 ≤ d) (hLn : L.length = nL) (hr : (st.map fun v => v.category).sum ≤ 8) (k : G K (pc + 3) L (st) (Wd K layC p)) : G K pc L (.int a0 :: .ref (kad K 3) :: st) (Wd K layC σ) :=
  g_callV C (As := [.int a0]) (rest := st) (o := 3) (ci := 8) hd (ct_X8_towAgain e) cw_X8_towAgain (Or.inl aw_601) aw_602 aw_603 rfl rfl rfl hdd hLn rfl rfl hr (fun v τ q => by obtain ⟨rfl, rfl⟩ := q; exact k)
theorem gf_9_238 {K : KT} {cc : ByteArray} {nL d pc : Nat} {ret : Option FieldType} {L : List (Option Value)} {st : List Value} {σ : Sg} (C : Cx K layC cc RX9 nL d ret)  (hd : decode cc pc = .ok (.getfield 238, 3)) (k : G K (pc + 3) L (.long (rJ σ 3 16) :: st) (Wd K layC σ)) : G K pc L (.ref (kad K 3) :: st) (Wd K layC σ) := g_get C (o := 3) (ci := 8) (k := 16) hd rfl rfl rfl (by decide) (Or.inr ⟨_, aw_183⟩) inA8 rfl k
def fX9_drawn_b0 (x1 : Int32) (x2 : Int32) (x3 : Int32) (x4 : Int32) (x5 : Int32) (σ : Sg) : Option (Int32 × Sg) :=
  Option.bind (fX9_isBerg x1 σ) fun p1 => (if p1.1 = 0 then (some ((-101 : Int32), p1.2)) else (Option.bind (fX9_isTugs x2 p1.2) fun p3 => (if p3.1 = 0 then (some ((-102 : Int32), p3.2)) else (if x4 < 0 then (some ((-102 : Int32), p3.2)) else (if x5 < 0 then (some ((-102 : Int32), p3.2)) else (if x5 ≤ (2 : Int32) then (Option.bind (fX9_hasWay x1 p3.2) fun p5 => (if p5.1 = 0 then (some ((-1 : Int32), p5.2)) else (if inb x1 5 = true then (if inb x1 5 = true then (Option.bind (fX8_seek (76 + (x1).toNatClampNeg) (rI p5.2 (76 + (x1).toNatClampNeg) 2) x2 x3 p5.2) fun p11 => (Option.bind (fX8_towAgain x4 p11) fun p13 => (if x5 = (0 : Int32) then (some ((rI p13 3 11), p13)) else (if x5 = (1 : Int32) then (some ((rI p13 3 12), p13)) else (some (((rJ p13 3 16)).toInt32, p13)))))) else none) else none))) else (some ((-102 : Int32), p3.2))))))))
set_option maxRecDepth 4000 in
theorem bX9_drawn_b0 {K : KT} {x1 : Int32} {x2 : Int32} {x3 : Int32} {x4 : Int32} {x5 : Int32} {σ : Sg} {o : Int32 × Sg} (C : Cx K layC cX9_drawn RX9 6 (16) (some .int))  (hQ : Rk K layC (okI o)) (h : fX9_drawn_b0 x1 x2 x3 x4 x5 σ = some o) : G K 0 [some (.ref (kad K 0)), some (.int x1), some (.int x2), some (.int x3), some (.int x4), some (.int x5)] [] (Wd K layC σ) := by
  unfold fX9_drawn_b0 at h
  refine g_aload_n C.c dX9_drawn_0 rfl (i := 0) rfl ?_
  refine g_iload_n C.c dX9_drawn_1 rfl (i := 1) rfl ?_
  obtain ⟨p1, e2, h⟩ := Option.bind_eq_some_iff.mp h
  refine kc_9_142 C dX9_drawn_2 e2 (Nat.le_of_ble_eq_true rfl) rfl (Nat.le_of_ble_eq_true rfl) ?_
  refine g_if_ne C.c (tgt := 11) dX9_drawn_5 (by decide) (fun c => ?_) (fun c => ?_)
  · replace h := ite_f c h
    refine g_iload_n C.c dX9_drawn_11 rfl (i := 2) rfl ?_
    obtain ⟨p3, e4, h⟩ := Option.bind_eq_some_iff.mp h
    refine kc_9_176 C dX9_drawn_12 e4 (Nat.le_of_ble_eq_true rfl) rfl (Nat.le_of_ble_eq_true rfl) ?_
    refine g_if_eq C.c (tgt := 34) dX9_drawn_15 (by decide) (fun c => ?_) (fun c => ?_)
    · replace h := ite_t c h
      refine g_bipush C.c dX9_drawn_34 (v := (-102 : Int32)) (by decide) ?_
      obtain rfl := Option.some.inj h
      exact g_iret C hQ dX9_drawn_36 rfl ⟨rfl, rfl⟩
    · replace h := ite_f c h
      refine g_iload C.c dX9_drawn_18 (i := 4) rfl ?_
      refine g_if_lt C.c (tgt := 34) dX9_drawn_20 (by decide) (fun c => ?_) (fun c => ?_)
      · replace h := ite_t c h
        refine g_bipush C.c dX9_drawn_34 (v := (-102 : Int32)) (by decide) ?_
        obtain rfl := Option.some.inj h
        exact g_iret C hQ dX9_drawn_36 rfl ⟨rfl, rfl⟩
      · replace h := ite_f c h
        refine g_iload C.c dX9_drawn_23 (i := 5) rfl ?_
        refine g_if_lt C.c (tgt := 34) dX9_drawn_25 (by decide) (fun c => ?_) (fun c => ?_)
        · replace h := ite_t c h
          refine g_bipush C.c dX9_drawn_34 (v := (-102 : Int32)) (by decide) ?_
          obtain rfl := Option.some.inj h
          exact g_iret C hQ dX9_drawn_36 rfl ⟨rfl, rfl⟩
        · replace h := ite_f c h
          refine g_iload C.c dX9_drawn_28 (i := 5) rfl ?_
          refine g_iconst C.c dX9_drawn_30 (v := (2 : Int32)) (by decide) ?_
          refine g_icmp_le C.c (tgt := 37) dX9_drawn_31 (by decide) (fun c => ?_) (fun c => ?_)
          · replace h := ite_t c h
            refine g_aload_n C.c dX9_drawn_37 rfl (i := 0) rfl ?_
            refine g_iload_n C.c dX9_drawn_38 rfl (i := 1) rfl ?_
            obtain ⟨p5, e6, h⟩ := Option.bind_eq_some_iff.mp h
            refine kc_9_180 C dX9_drawn_39 e6 (Nat.le_of_ble_eq_true rfl) rfl (Nat.le_of_ble_eq_true rfl) ?_
            refine g_if_ne C.c (tgt := 47) dX9_drawn_42 (by decide) (fun c => ?_) (fun c => ?_)
            · replace h := ite_f c h
              refine g_aload_n C.c dX9_drawn_47 rfl (i := 0) rfl ?_
              refine gf_9_19 C dX9_drawn_48 ?_
              refine g_aload_n C.c dX9_drawn_51 rfl (i := 0) rfl ?_
              refine gf_9_37 C dX9_drawn_52 ?_
              refine g_iload_n C.c dX9_drawn_55 rfl (i := 1) rfl ?_
              obtain ⟨c7, h⟩ := chk h
              have hs8 := rw_48 (inb_lt c7)
              refine g_aald4 C (b := 76) dX9_drawn_56 rfl c7 rfl rfl ?_
              refine g_aload_n C.c dX9_drawn_57 rfl (i := 0) rfl ?_
              refine gf_9_37 C dX9_drawn_58 ?_
              refine g_iload_n C.c dX9_drawn_61 rfl (i := 1) rfl ?_
              obtain ⟨c9, h⟩ := chk h
              have hs10 := rw_48 (inb_lt c9)
              refine g_aald4 C (b := 76) dX9_drawn_62 rfl c9 rfl rfl ?_
              refine gf_9_154d C hs10 dX9_drawn_63 ?_
              refine g_iload_n C.c dX9_drawn_66 rfl (i := 2) rfl ?_
              refine g_iload_n C.c dX9_drawn_67 rfl (i := 3) rfl ?_
              obtain ⟨p11, e12, h⟩ := Option.bind_eq_some_iff.mp h
              refine kc_9_184 C hs8 dX9_drawn_68 e12 (Nat.le_of_ble_eq_true rfl) rfl (Nat.le_of_ble_eq_true rfl) ?_
              refine g_aload_n C.c dX9_drawn_71 rfl (i := 0) rfl ?_
              refine gf_9_19 C dX9_drawn_72 ?_
              refine g_iload C.c dX9_drawn_75 (i := 4) rfl ?_
              obtain ⟨p13, e14, h⟩ := Option.bind_eq_some_iff.mp h
              refine kc_9_235 C dX9_drawn_77 e14 (Nat.le_of_ble_eq_true rfl) rfl (Nat.le_of_ble_eq_true rfl) ?_
              refine g_iload C.c dX9_drawn_80 (i := 5) rfl ?_
              by_cases c0 : x5 = (0 : Int32)
              · replace h := ite_t c0 h
                refine g_lkIn C.c (tgt := 108) (off := 26) c0 dX9_drawn_82 (by decide) (by decide) (by decide) ?_
                refine g_aload_n C.c dX9_drawn_108 rfl (i := 0) rfl ?_
                refine gf_9_19 C dX9_drawn_109 ?_
                refine gf_9_188 C dX9_drawn_112 ?_
                obtain rfl := Option.some.inj h
                exact g_iret C hQ dX9_drawn_115 rfl ⟨rfl, rfl⟩
              · replace h := ite_f c0 h
                by_cases c1 : x5 = (1 : Int32)
                · replace h := ite_t c1 h
                  refine g_lkIn C.c (tgt := 116) (off := 34) c1 dX9_drawn_82 (by decide) (by decide) (by decide) ?_
                  refine g_aload_n C.c dX9_drawn_116 rfl (i := 0) rfl ?_
                  refine gf_9_19 C dX9_drawn_117 ?_
                  refine gf_9_191 C dX9_drawn_120 ?_
                  obtain rfl := Option.some.inj h
                  exact g_iret C hQ dX9_drawn_123 rfl ⟨rfl, rfl⟩
                · replace h := ite_f c1 h
                  refine g_lkOut C.c (tgt := 124) [(0 : Int32), (1 : Int32)] (by decide) ⟨c0, c1, trivial⟩ dX9_drawn_82 (by decide) (by decide) ?_
                  refine g_aload_n C.c dX9_drawn_124 rfl (i := 0) rfl ?_
                  refine gf_9_19 C dX9_drawn_125 ?_
                  refine gf_9_238 C dX9_drawn_128 ?_
                  refine g_l2i C.c dX9_drawn_131 ?_
                  obtain rfl := Option.some.inj h
                  exact g_iret C hQ dX9_drawn_132 rfl ⟨rfl, rfl⟩
            · replace h := ite_t c h
              refine g_iconst C.c dX9_drawn_45 (v := (-1 : Int32)) (by decide) ?_
              obtain rfl := Option.some.inj h
              exact g_iret C hQ dX9_drawn_46 rfl ⟨rfl, rfl⟩
          · replace h := ite_f c h
            refine g_bipush C.c dX9_drawn_34 (v := (-102 : Int32)) (by decide) ?_
            obtain rfl := Option.some.inj h
            exact g_iret C hQ dX9_drawn_36 rfl ⟨rfl, rfl⟩
  · replace h := ite_t c h
    refine g_bipush C.c dX9_drawn_8 (v := (-101 : Int32)) (by decide) ?_
    obtain rfl := Option.some.inj h
    exact g_iret C hQ dX9_drawn_10 rfl ⟨rfl, rfl⟩
def fX9_drawn (a0 : Int32) (a1 : Int32) (a2 : Int32) (a3 : Int32) (a4 : Int32) (σ : Sg) : Option (Int32 × Sg) := fX9_drawn_b0 a0 a1 a2 a3 a4 σ
theorem ct_X9_drawn {a0 : Int32} {a1 : Int32} {a2 : Int32} {a3 : Int32} {a4 : Int32} {σ : Sg} {p : Int32 × Sg} (h : fX9_drawn a0 a1 a2 a3 a4 σ = some p) : Ct layC yX9_drawn cX9_drawn 6 (some .int) 16 (fun ad => [.ref (ad 0), .int a0, .int a1, .int a2, .int a3, .int a4]) σ (okI p) :=
 ct_of (L0 := fun ad => [some (.ref (ad 0)), some (.int a0), some (.int a1), some (.int a2), some (.int a3), some (.int a4)]) (by decide) (fun _ => Nat.le_of_ble_eq_true rfl) (fun _ => rfl) (fun K C hQ => g_mask [true, true, true, true, true, true] rfl (bX9_drawn_b0 C hQ h))
-- X9_came
theorem dX9_came_0 : decode cX9_came 0 = .ok (.aload_n 0, 1) := by decide +kernel
theorem dX9_came_1 : decode cX9_came 1 = .ok (.iload_n 1, 1) := by decide +kernel
theorem dX9_came_2 : decode cX9_came 2 = .ok (.invokevirtual 142, 3) := by decide +kernel
theorem dX9_came_5 : decode cX9_came 5 = .ok (.ifCond .ne 6, 3) := by decide +kernel
theorem dX9_came_8 : decode cX9_came 8 = .ok (.bipush (-101), 2) := by decide +kernel
theorem dX9_came_10 : decode cX9_came 10 = .ok (.ireturn, 1) := by decide +kernel
theorem dX9_came_11 : decode cX9_came 11 = .ok (.iload_n 2, 1) := by decide +kernel
theorem dX9_came_12 : decode cX9_came 12 = .ok (.invokestatic 176, 3) := by decide +kernel
theorem dX9_came_15 : decode cX9_came 15 = .ok (.ifCond .eq 27, 3) := by decide +kernel
theorem dX9_came_18 : decode cX9_came 18 = .ok (.iload 4, 2) := by decide +kernel
theorem dX9_came_20 : decode cX9_came 20 = .ok (.ifCond .lt 22, 3) := by decide +kernel
theorem dX9_came_23 : decode cX9_came 23 = .ok (.iload 4, 2) := by decide +kernel
theorem dX9_came_25 : decode cX9_came 25 = .ok (.sipush 999, 3) := by decide +kernel
theorem dX9_came_28 : decode cX9_came 28 = .ok (.if_icmp .gt 14, 3) := by decide +kernel
theorem dX9_came_31 : decode cX9_came 31 = .ok (.iload 5, 2) := by decide +kernel
theorem dX9_came_33 : decode cX9_came 33 = .ok (.ifCond .lt 9, 3) := by decide +kernel
theorem dX9_came_36 : decode cX9_came 36 = .ok (.iload 5, 2) := by decide +kernel
theorem dX9_came_38 : decode cX9_came 38 = .ok (.iconst 2, 1) := by decide +kernel
theorem dX9_came_39 : decode cX9_came 39 = .ok (.if_icmp .le 6, 3) := by decide +kernel
theorem dX9_came_42 : decode cX9_came 42 = .ok (.bipush (-102), 2) := by decide +kernel
theorem dX9_came_44 : decode cX9_came 44 = .ok (.ireturn, 1) := by decide +kernel
theorem dX9_came_45 : decode cX9_came 45 = .ok (.aload_n 0, 1) := by decide +kernel
theorem dX9_came_46 : decode cX9_came 46 = .ok (.iload_n 1, 1) := by decide +kernel
theorem dX9_came_47 : decode cX9_came 47 = .ok (.invokevirtual 180, 3) := by decide +kernel
theorem dX9_came_50 : decode cX9_came 50 = .ok (.ifCond .eq 12, 3) := by decide +kernel
theorem dX9_came_53 : decode cX9_came 53 = .ok (.aload_n 0, 1) := by decide +kernel
theorem dX9_came_54 : decode cX9_came 54 = .ok (.getfield 242, 3) := by decide +kernel
theorem dX9_came_57 : decode cX9_came 57 = .ok (.bipush 20, 2) := by decide +kernel
theorem dX9_came_59 : decode cX9_came 59 = .ok (.if_icmp .lt 6, 3) := by decide +kernel
theorem dX9_came_62 : decode cX9_came 62 = .ok (.bipush (-103), 2) := by decide +kernel
theorem dX9_came_64 : decode cX9_came 64 = .ok (.ireturn, 1) := by decide +kernel
theorem dX9_came_65 : decode cX9_came 65 = .ok (.aload_n 0, 1) := by decide +kernel
theorem dX9_came_66 : decode cX9_came 66 = .ok (.dup, 1) := by decide +kernel
theorem dX9_came_67 : decode cX9_came 67 = .ok (.getfield 242, 3) := by decide +kernel
theorem dX9_came_70 : decode cX9_came 70 = .ok (.iconst 1, 1) := by decide +kernel
theorem dX9_came_71 : decode cX9_came 71 = .ok (.iadd, 1) := by decide +kernel
theorem dX9_came_72 : decode cX9_came 72 = .ok (.putfield 242, 3) := by decide +kernel
theorem dX9_came_75 : decode cX9_came 75 = .ok (.iconst 0, 1) := by decide +kernel
theorem dX9_came_76 : decode cX9_came 76 = .ok (.istore 6, 2) := by decide +kernel
theorem dX9_came_78 : decode cX9_came 78 = .ok (.iconst (-1), 1) := by decide +kernel
theorem dX9_came_79 : decode cX9_came 79 = .ok (.istore 7, 2) := by decide +kernel
theorem dX9_came_81 : decode cX9_came 81 = .ok (.iconst (-1), 1) := by decide +kernel
theorem dX9_came_82 : decode cX9_came 82 = .ok (.istore 8, 2) := by decide +kernel
theorem dX9_came_84 : decode cX9_came 84 = .ok (.bipush 10, 2) := by decide +kernel
theorem dX9_came_86 : decode cX9_came 86 = .ok (.istore 9, 2) := by decide +kernel
theorem dX9_came_88 : decode cX9_came 88 = .ok (.iload 9, 2) := by decide +kernel
theorem dX9_came_90 : decode cX9_came 90 = .ok (.sipush 999, 3) := by decide +kernel
theorem dX9_came_93 : decode cX9_came 93 = .ok (.if_icmp .gt 60, 3) := by decide +kernel
theorem dX9_came_96 : decode cX9_came 96 = .ok (.aload_n 0, 1) := by decide +kernel
theorem dX9_came_97 : decode cX9_came 97 = .ok (.getfield 19, 3) := by decide +kernel
theorem dX9_came_100 : decode cX9_came 100 = .ok (.aload_n 0, 1) := by decide +kernel
theorem dX9_came_101 : decode cX9_came 101 = .ok (.getfield 37, 3) := by decide +kernel
theorem dX9_came_104 : decode cX9_came 104 = .ok (.iload_n 1, 1) := by decide +kernel
theorem dX9_came_105 : decode cX9_came 105 = .ok (.aaload, 1) := by decide +kernel
theorem dX9_came_106 : decode cX9_came 106 = .ok (.iload 9, 2) := by decide +kernel
theorem dX9_came_108 : decode cX9_came 108 = .ok (.iload_n 2, 1) := by decide +kernel
theorem dX9_came_109 : decode cX9_came 109 = .ok (.iload_n 3, 1) := by decide +kernel
theorem dX9_came_110 : decode cX9_came 110 = .ok (.invokevirtual 184, 3) := by decide +kernel
theorem dX9_came_113 : decode cX9_came 113 = .ok (.aload_n 0, 1) := by decide +kernel
theorem dX9_came_114 : decode cX9_came 114 = .ok (.getfield 19, 3) := by decide +kernel
theorem dX9_came_117 : decode cX9_came 117 = .ok (.getfield 188, 3) := by decide +kernel
theorem dX9_came_120 : decode cX9_came 120 = .ok (.iload 4, 2) := by decide +kernel
theorem dX9_came_122 : decode cX9_came 122 = .ok (.if_icmp .ne 25, 3) := by decide +kernel
theorem dX9_came_125 : decode cX9_came 125 = .ok (.iinc 6 1, 3) := by decide +kernel
theorem dX9_came_128 : decode cX9_came 128 = .ok (.iload 7, 2) := by decide +kernel
theorem dX9_came_130 : decode cX9_came 130 = .ok (.iconst (-1), 1) := by decide +kernel
theorem dX9_came_131 : decode cX9_came 131 = .ok (.if_icmp .ne 8, 3) := by decide +kernel
theorem dX9_came_134 : decode cX9_came 134 = .ok (.iload 9, 2) := by decide +kernel
theorem dX9_came_136 : decode cX9_came 136 = .ok (.goto 5, 3) := by decide +kernel
theorem dX9_came_139 : decode cX9_came 139 = .ok (.iload 7, 2) := by decide +kernel
theorem dX9_came_141 : decode cX9_came 141 = .ok (.istore 7, 2) := by decide +kernel
theorem dX9_came_143 : decode cX9_came 143 = .ok (.iload 9, 2) := by decide +kernel
theorem dX9_came_145 : decode cX9_came 145 = .ok (.istore 8, 2) := by decide +kernel
theorem dX9_came_147 : decode cX9_came 147 = .ok (.iinc 9 1, 3) := by decide +kernel
theorem dX9_came_150 : decode cX9_came 150 = .ok (.goto (-62), 3) := by decide +kernel
theorem dX9_came_153 : decode cX9_came 153 = .ok (.iload 5, 2) := by decide +kernel
theorem dX9_came_155 : decode cX9_came 155 = .ok (.lookupswitch 31 #[(0, 25), (1, 28)], 25) := by decide +kernel
theorem dX9_came_180 : decode cX9_came 180 = .ok (.iload 6, 2) := by decide +kernel
theorem dX9_came_182 : decode cX9_came 182 = .ok (.ireturn, 1) := by decide +kernel
theorem dX9_came_183 : decode cX9_came 183 = .ok (.iload 7, 2) := by decide +kernel
theorem dX9_came_185 : decode cX9_came 185 = .ok (.ireturn, 1) := by decide +kernel
theorem dX9_came_186 : decode cX9_came 186 = .ok (.iload 8, 2) := by decide +kernel
theorem dX9_came_188 : decode cX9_came 188 = .ok (.ireturn, 1) := by decide +kernel
theorem cw_X9_came : Cw yX9_came cX9_came 10 (some .int) 5 := ⟨aw_608, aw_19, ⟨by decide, by decide⟩, by decide +kernel, by decide⟩
theorem gf_9_242 {K : KT} {cc : ByteArray} {nL d pc : Nat} {ret : Option FieldType} {L : List (Option Value)} {st : List Value} {σ : Sg} (C : Cx K layC cc RX9 nL d ret)  (hd : decode cc pc = .ok (.getfield 242, 3)) (k : G K (pc + 3) L (.int (rI σ 0 11) :: st) (Wd K layC σ)) : G K pc L (.ref (kad K 0) :: st) (Wd K layC σ) := g_get C (o := 0) (ci := 9) (k := 11) hd rfl rfl rfl (by decide) (Or.inl aw_318) inA9 rfl k
theorem pf_9_242 {K : KT} {cc : ByteArray} {nL d pc : Nat} {ret : Option FieldType} {L : List (Option Value)} {st : List Value} {σ : Sg} (C : Cx K layC cc RX9 nL d ret)  {v : Int32}  (hd : decode cc pc = .ok (.putfield 242, 3)) (k : G K (pc + 3) L st (Wd K layC (wI σ 0 11 v))) : G K pc L (.int v :: .ref (kad K 0) :: st) (Wd K layC σ) := g_putI C (o := 0) (ci := 9) (k := 11) hd rfl rfl rfl (by decide) (Or.inl aw_318) inA9 tyX9_ok nmX9 rfl rfl rfl k
def fX9_came_b147 (x1 : Int32) (x2 : Int32) (x3 : Int32) (x4 : Int32) (x5 : Int32) (x6 : Int32) (x7 : Int32) (x8 : Int32) (x9 : Int32) (σ : Sg) : Option ((Int32 × Int32 × Int32 × Int32 × Sg) ⊕ ((Int32 × Int32 × Int32 × Sg))) :=
  some (.inl (x6, x7, x8, (x9 + (1 : Int32)), σ))
def fX9_came_b141 (x1 : Int32) (x2 : Int32) (x3 : Int32) (x4 : Int32) (x5 : Int32) (x6 : Int32) (x9 : Int32) (y0 : Int32) (σ : Sg) : Option ((Int32 × Int32 × Int32 × Int32 × Sg) ⊕ ((Int32 × Int32 × Int32 × Sg))) :=
  fX9_came_b147 x1 x2 x3 x4 x5 x6 y0 x9 x9 σ
def fX9_came_b88 (x1 : Int32) (x2 : Int32) (x3 : Int32) (x4 : Int32) (x5 : Int32) (x6 : Int32) (x7 : Int32) (x8 : Int32) (x9 : Int32) (σ : Sg) : Option ((Int32 × Int32 × Int32 × Int32 × Sg) ⊕ ((Int32 × Int32 × Int32 × Sg))) :=
  if (999 : Int32) < x9 then (some (.inr (x6, x7, x8, σ))) else (if inb x1 5 = true then (Option.bind (fX8_seek (76 + (x1).toNatClampNeg) x9 x2 x3 σ) fun p9 => (if (rI p9 3 11) = x4 then (if x7 = (-1 : Int32) then (fX9_came_b141 x1 x2 x3 x4 x5 (x6 + (1 : Int32)) x9 x9 p9) else (fX9_came_b141 x1 x2 x3 x4 x5 (x6 + (1 : Int32)) x9 x7 p9)) else (fX9_came_b147 x1 x2 x3 x4 x5 x6 x7 x8 x9 p9))) else none)
def fX9_came_b0 (x1 : Int32) (x2 : Int32) (x3 : Int32) (x4 : Int32) (x5 : Int32) (σ : Sg) : Option (Int32 × Sg) :=
  Option.bind (fX9_isBerg x1 σ) fun p1 => (if p1.1 = 0 then (some ((-101 : Int32), p1.2)) else (Option.bind (fX9_isTugs x2 p1.2) fun p3 => (if p3.1 = 0 then (some ((-102 : Int32), p3.2)) else (if x4 < 0 then (some ((-102 : Int32), p3.2)) else (if (999 : Int32) < x4 then (some ((-102 : Int32), p3.2)) else (if x5 < 0 then (some ((-102 : Int32), p3.2)) else (if x5 ≤ (2 : Int32) then (Option.bind (fX9_hasWay x1 p3.2) fun p5 => (if p5.1 = 0 then (some ((-103 : Int32), p5.2)) else (if (rI p5.2 0 11) < (20 : Int32) then (Option.bind (lp (fun s => fX9_came_b88 x1 x2 x3 x4 x5 s.1 s.2.1 s.2.2.1 s.2.2.2.1 s.2.2.2.2) FU ((0 : Int32), (-1 : Int32), (-1 : Int32), (10 : Int32), (wI p5.2 0 11 ((rI p5.2 0 11) + (1 : Int32))))) fun t11 => if x5 = (0 : Int32) then (some (t11.1, t11.2.2.2)) else (if x5 = (1 : Int32) then (some (t11.2.1, t11.2.2.2)) else (some (t11.2.2.1, t11.2.2.2)))) else (some ((-103 : Int32), p5.2))))) else (some ((-102 : Int32), p3.2)))))))))
set_option maxRecDepth 4000 in
theorem bX9_came_b147 {K : KT} {x1 : Int32} {x2 : Int32} {x3 : Int32} {x4 : Int32} {x5 : Int32} {x6 : Int32} {x7 : Int32} {x8 : Int32} {x9 : Int32} {σ : Sg} {o : (Int32 × Int32 × Int32 × Int32 × Sg) ⊕ ((Int32 × Int32 × Int32 × Sg))} (C : Cx K layC cX9_came RX9 10 (16) (some .int))  (hI : ∀ s' : Int32 × Int32 × Int32 × Int32 × Sg, o = .inl s' → G K 88 [some (.ref (kad K 0)), some (.int x1), some (.int x2), some (.int x3), some (.int x4), some (.int x5), some (.int s'.1), some (.int s'.2.1), some (.int s'.2.2.1), some (.int s'.2.2.2.1)] [] (Wd K layC s'.2.2.2.2)) (hE0 : ∀ t : Int32 × Int32 × Int32 × Sg, o = .inr t → G K 153 [none, none, none, none, none, some (.int x5), some (.int t.1), some (.int t.2.1), some (.int t.2.2.1), none] [] (Wd K layC t.2.2.2)) (h : fX9_came_b147 x1 x2 x3 x4 x5 x6 x7 x8 x9 σ = some o) : G K 147 [some (.ref (kad K 0)), some (.int x1), some (.int x2), some (.int x3), some (.int x4), some (.int x5), some (.int x6), some (.int x7), some (.int x8), some (.int x9)] [] (Wd K layC σ) := by
  unfold fX9_came_b147 at h
  refine g_iinc C.c (i := 9) (y := (1 : Int32)) (L' := [some (.ref (kad K 0)), some (.int x1), some (.int x2), some (.int x3), some (.int x4), some (.int x5), some (.int x6), some (.int x7), some (.int x8), some (.int (x9 + (1 : Int32)))]) dX9_came_147 rfl (by decide) (Nat.le_of_ble_eq_true rfl) rfl ?_
  refine g_goto C.c (tgt := 88) dX9_came_150 (by decide) ?_
  have g9 := hI _ (Option.some.inj h).symm
  exact g_mask [true, true, true, true, true, true, true, true, true, true] rfl g9
set_option maxRecDepth 4000 in
theorem bX9_came_b141 {K : KT} {x1 : Int32} {x2 : Int32} {x3 : Int32} {x4 : Int32} {x5 : Int32} {x6 : Int32} {x9 : Int32} {y0 : Int32} {σ : Sg} {o : (Int32 × Int32 × Int32 × Int32 × Sg) ⊕ ((Int32 × Int32 × Int32 × Sg))} (C : Cx K layC cX9_came RX9 10 (16) (some .int))  (hI : ∀ s' : Int32 × Int32 × Int32 × Int32 × Sg, o = .inl s' → G K 88 [some (.ref (kad K 0)), some (.int x1), some (.int x2), some (.int x3), some (.int x4), some (.int x5), some (.int s'.1), some (.int s'.2.1), some (.int s'.2.2.1), some (.int s'.2.2.2.1)] [] (Wd K layC s'.2.2.2.2)) (hE0 : ∀ t : Int32 × Int32 × Int32 × Sg, o = .inr t → G K 153 [none, none, none, none, none, some (.int x5), some (.int t.1), some (.int t.2.1), some (.int t.2.2.1), none] [] (Wd K layC t.2.2.2)) (h : fX9_came_b141 x1 x2 x3 x4 x5 x6 x9 y0 σ = some o) : G K 141 [some (.ref (kad K 0)), some (.int x1), some (.int x2), some (.int x3), some (.int x4), some (.int x5), some (.int x6), none, none, some (.int x9)] [.int y0] (Wd K layC σ) := by
  unfold fX9_came_b141 at h
  refine g_istore C.c (i := 7) (L' := [some (.ref (kad K 0)), some (.int x1), some (.int x2), some (.int x3), some (.int x4), some (.int x5), some (.int x6), some (.int y0), none, some (.int x9)]) dX9_came_141 (Nat.le_of_ble_eq_true rfl) rfl ?_
  refine g_iload C.c dX9_came_143 (i := 9) rfl ?_
  refine g_istore C.c (i := 8) (L' := [some (.ref (kad K 0)), some (.int x1), some (.int x2), some (.int x3), some (.int x4), some (.int x5), some (.int x6), some (.int y0), some (.int x9), some (.int x9)]) dX9_came_145 (Nat.le_of_ble_eq_true rfl) rfl ?_
  exact g_mask [true, true, true, true, true, true, true, true, true, true] rfl (bX9_came_b147 C hI hE0 h)
set_option maxRecDepth 4000 in
theorem bX9_came_b88 {K : KT} {x1 : Int32} {x2 : Int32} {x3 : Int32} {x4 : Int32} {x5 : Int32} {x6 : Int32} {x7 : Int32} {x8 : Int32} {x9 : Int32} {σ : Sg} {o : (Int32 × Int32 × Int32 × Int32 × Sg) ⊕ ((Int32 × Int32 × Int32 × Sg))} (C : Cx K layC cX9_came RX9 10 (16) (some .int))  (hI : ∀ s' : Int32 × Int32 × Int32 × Int32 × Sg, o = .inl s' → G K 88 [some (.ref (kad K 0)), some (.int x1), some (.int x2), some (.int x3), some (.int x4), some (.int x5), some (.int s'.1), some (.int s'.2.1), some (.int s'.2.2.1), some (.int s'.2.2.2.1)] [] (Wd K layC s'.2.2.2.2)) (hE0 : ∀ t : Int32 × Int32 × Int32 × Sg, o = .inr t → G K 153 [none, none, none, none, none, some (.int x5), some (.int t.1), some (.int t.2.1), some (.int t.2.2.1), none] [] (Wd K layC t.2.2.2)) (h : fX9_came_b88 x1 x2 x3 x4 x5 x6 x7 x8 x9 σ = some o) : G K 88 [some (.ref (kad K 0)), some (.int x1), some (.int x2), some (.int x3), some (.int x4), some (.int x5), some (.int x6), some (.int x7), some (.int x8), some (.int x9)] [] (Wd K layC σ) := by
  unfold fX9_came_b88 at h
  refine g_iload C.c dX9_came_88 (i := 9) rfl ?_
  refine g_sipush C.c dX9_came_90 (v := (999 : Int32)) (by decide) ?_
  refine g_icmp_gt C.c (tgt := 153) dX9_came_93 (by decide) (fun c => ?_) (fun c => ?_)
  · replace h := ite_t c h
    have g9 := hE0 _ (Option.some.inj h).symm
    exact g_mask [false, false, false, false, false, true, true, true, true, false] rfl g9
  · replace h := ite_f c h
    refine g_aload_n C.c dX9_came_96 rfl (i := 0) rfl ?_
    refine gf_9_19 C dX9_came_97 ?_
    refine g_aload_n C.c dX9_came_100 rfl (i := 0) rfl ?_
    refine gf_9_37 C dX9_came_101 ?_
    refine g_iload_n C.c dX9_came_104 rfl (i := 1) rfl ?_
    obtain ⟨c7, h⟩ := chk h
    have hs8 := rw_48 (inb_lt c7)
    refine g_aald4 C (b := 76) dX9_came_105 rfl c7 rfl rfl ?_
    refine g_iload C.c dX9_came_106 (i := 9) rfl ?_
    refine g_iload_n C.c dX9_came_108 rfl (i := 2) rfl ?_
    refine g_iload_n C.c dX9_came_109 rfl (i := 3) rfl ?_
    obtain ⟨p9, e10, h⟩ := Option.bind_eq_some_iff.mp h
    refine kc_9_184 C hs8 dX9_came_110 e10 (Nat.le_of_ble_eq_true rfl) rfl (Nat.le_of_ble_eq_true rfl) ?_
    refine g_aload_n C.c dX9_came_113 rfl (i := 0) rfl ?_
    refine gf_9_19 C dX9_came_114 ?_
    refine gf_9_188 C dX9_came_117 ?_
    refine g_iload C.c dX9_came_120 (i := 4) rfl ?_
    refine g_icmp_ne C.c (tgt := 147) dX9_came_122 (by decide) (fun c => ?_) (fun c => ?_)
    · replace h := ite_f c h
      exact g_mask [true, true, true, true, true, true, true, true, true, true] rfl (bX9_came_b147 C hI hE0 h)
    · replace h := ite_t c h
      refine g_iinc C.c (i := 6) (y := (1 : Int32)) (L' := [some (.ref (kad K 0)), some (.int x1), some (.int x2), some (.int x3), some (.int x4), some (.int x5), some (.int (x6 + (1 : Int32))), some (.int x7), some (.int x8), some (.int x9)]) dX9_came_125 rfl (by decide) (Nat.le_of_ble_eq_true rfl) rfl ?_
      refine g_iload C.c dX9_came_128 (i := 7) rfl ?_
      refine g_iconst C.c dX9_came_130 (v := (-1 : Int32)) (by decide) ?_
      refine g_icmp_ne C.c (tgt := 139) dX9_came_131 (by decide) (fun c => ?_) (fun c => ?_)
      · replace h := ite_f c h
        refine g_iload C.c dX9_came_139 (i := 7) rfl ?_
        exact g_mask [true, true, true, true, true, true, true, false, false, true] rfl (bX9_came_b141 C hI hE0 h)
      · replace h := ite_t c h
        refine g_iload C.c dX9_came_134 (i := 9) rfl ?_
        refine g_goto C.c (tgt := 141) dX9_came_136 (by decide) ?_
        exact g_mask [true, true, true, true, true, true, true, false, false, true] rfl (bX9_came_b141 C hI hE0 h)
set_option maxRecDepth 4000 in
theorem bX9_came_b0 {K : KT} {x1 : Int32} {x2 : Int32} {x3 : Int32} {x4 : Int32} {x5 : Int32} {σ : Sg} {o : Int32 × Sg} (C : Cx K layC cX9_came RX9 10 (16) (some .int))  (hQ : Rk K layC (okI o)) (h : fX9_came_b0 x1 x2 x3 x4 x5 σ = some o) : G K 0 [some (.ref (kad K 0)), some (.int x1), some (.int x2), some (.int x3), some (.int x4), some (.int x5), none, none, none, none] [] (Wd K layC σ) := by
  unfold fX9_came_b0 at h
  refine g_aload_n C.c dX9_came_0 rfl (i := 0) rfl ?_
  refine g_iload_n C.c dX9_came_1 rfl (i := 1) rfl ?_
  obtain ⟨p1, e2, h⟩ := Option.bind_eq_some_iff.mp h
  refine kc_9_142 C dX9_came_2 e2 (Nat.le_of_ble_eq_true rfl) rfl (Nat.le_of_ble_eq_true rfl) ?_
  refine g_if_ne C.c (tgt := 11) dX9_came_5 (by decide) (fun c => ?_) (fun c => ?_)
  · replace h := ite_f c h
    refine g_iload_n C.c dX9_came_11 rfl (i := 2) rfl ?_
    obtain ⟨p3, e4, h⟩ := Option.bind_eq_some_iff.mp h
    refine kc_9_176 C dX9_came_12 e4 (Nat.le_of_ble_eq_true rfl) rfl (Nat.le_of_ble_eq_true rfl) ?_
    refine g_if_eq C.c (tgt := 42) dX9_came_15 (by decide) (fun c => ?_) (fun c => ?_)
    · replace h := ite_t c h
      refine g_bipush C.c dX9_came_42 (v := (-102 : Int32)) (by decide) ?_
      obtain rfl := Option.some.inj h
      exact g_iret C hQ dX9_came_44 rfl ⟨rfl, rfl⟩
    · replace h := ite_f c h
      refine g_iload C.c dX9_came_18 (i := 4) rfl ?_
      refine g_if_lt C.c (tgt := 42) dX9_came_20 (by decide) (fun c => ?_) (fun c => ?_)
      · replace h := ite_t c h
        refine g_bipush C.c dX9_came_42 (v := (-102 : Int32)) (by decide) ?_
        obtain rfl := Option.some.inj h
        exact g_iret C hQ dX9_came_44 rfl ⟨rfl, rfl⟩
      · replace h := ite_f c h
        refine g_iload C.c dX9_came_23 (i := 4) rfl ?_
        refine g_sipush C.c dX9_came_25 (v := (999 : Int32)) (by decide) ?_
        refine g_icmp_gt C.c (tgt := 42) dX9_came_28 (by decide) (fun c => ?_) (fun c => ?_)
        · replace h := ite_t c h
          refine g_bipush C.c dX9_came_42 (v := (-102 : Int32)) (by decide) ?_
          obtain rfl := Option.some.inj h
          exact g_iret C hQ dX9_came_44 rfl ⟨rfl, rfl⟩
        · replace h := ite_f c h
          refine g_iload C.c dX9_came_31 (i := 5) rfl ?_
          refine g_if_lt C.c (tgt := 42) dX9_came_33 (by decide) (fun c => ?_) (fun c => ?_)
          · replace h := ite_t c h
            refine g_bipush C.c dX9_came_42 (v := (-102 : Int32)) (by decide) ?_
            obtain rfl := Option.some.inj h
            exact g_iret C hQ dX9_came_44 rfl ⟨rfl, rfl⟩
          · replace h := ite_f c h
            refine g_iload C.c dX9_came_36 (i := 5) rfl ?_
            refine g_iconst C.c dX9_came_38 (v := (2 : Int32)) (by decide) ?_
            refine g_icmp_le C.c (tgt := 45) dX9_came_39 (by decide) (fun c => ?_) (fun c => ?_)
            · replace h := ite_t c h
              refine g_aload_n C.c dX9_came_45 rfl (i := 0) rfl ?_
              refine g_iload_n C.c dX9_came_46 rfl (i := 1) rfl ?_
              obtain ⟨p5, e6, h⟩ := Option.bind_eq_some_iff.mp h
              refine kc_9_180 C dX9_came_47 e6 (Nat.le_of_ble_eq_true rfl) rfl (Nat.le_of_ble_eq_true rfl) ?_
              refine g_if_eq C.c (tgt := 62) dX9_came_50 (by decide) (fun c => ?_) (fun c => ?_)
              · replace h := ite_t c h
                refine g_bipush C.c dX9_came_62 (v := (-103 : Int32)) (by decide) ?_
                obtain rfl := Option.some.inj h
                exact g_iret C hQ dX9_came_64 rfl ⟨rfl, rfl⟩
              · replace h := ite_f c h
                refine g_aload_n C.c dX9_came_53 rfl (i := 0) rfl ?_
                refine gf_9_242 C dX9_came_54 ?_
                refine g_bipush C.c dX9_came_57 (v := (20 : Int32)) (by decide) ?_
                refine g_icmp_lt C.c (tgt := 65) dX9_came_59 (by decide) (fun c => ?_) (fun c => ?_)
                · replace h := ite_t c h
                  refine g_aload_n C.c dX9_came_65 rfl (i := 0) rfl ?_
                  refine g_dup C.c dX9_came_66 rfl ?_
                  refine gf_9_242 C dX9_came_67 ?_
                  refine g_iconst C.c dX9_came_70 (v := (1 : Int32)) (by decide) ?_
                  refine g_iadd C.c dX9_came_71 ?_
                  refine pf_9_242 C dX9_came_72 ?_
                  refine g_iconst C.c dX9_came_75 (v := (0 : Int32)) (by decide) ?_
                  refine g_istore C.c (i := 6) (L' := [some (.ref (kad K 0)), some (.int x1), some (.int x2), some (.int x3), some (.int x4), some (.int x5), some (.int (0 : Int32)), none, none, none]) dX9_came_76 (Nat.le_of_ble_eq_true rfl) rfl ?_
                  refine g_iconst C.c dX9_came_78 (v := (-1 : Int32)) (by decide) ?_
                  refine g_istore C.c (i := 7) (L' := [some (.ref (kad K 0)), some (.int x1), some (.int x2), some (.int x3), some (.int x4), some (.int x5), some (.int (0 : Int32)), some (.int (-1 : Int32)), none, none]) dX9_came_79 (Nat.le_of_ble_eq_true rfl) rfl ?_
                  refine g_iconst C.c dX9_came_81 (v := (-1 : Int32)) (by decide) ?_
                  refine g_istore C.c (i := 8) (L' := [some (.ref (kad K 0)), some (.int x1), some (.int x2), some (.int x3), some (.int x4), some (.int x5), some (.int (0 : Int32)), some (.int (-1 : Int32)), some (.int (-1 : Int32)), none]) dX9_came_82 (Nat.le_of_ble_eq_true rfl) rfl ?_
                  refine g_bipush C.c dX9_came_84 (v := (10 : Int32)) (by decide) ?_
                  refine g_istore C.c (i := 9) (L' := [some (.ref (kad K 0)), some (.int x1), some (.int x2), some (.int x3), some (.int x4), some (.int x5), some (.int (0 : Int32)), some (.int (-1 : Int32)), some (.int (-1 : Int32)), some (.int (10 : Int32))]) dX9_came_86 (Nat.le_of_ble_eq_true rfl) rfl ?_
                  refine g_mask [true, true, true, true, true, true, true, true, true, true] rfl ?_
                  refine lp_bind (Gh := fun s => G K 88 [some (.ref (kad K 0)), some (.int x1), some (.int x2), some (.int x3), some (.int x4), some (.int x5), some (.int s.1), some (.int s.2.1), some (.int s.2.2.1), some (.int s.2.2.2.1)] [] (Wd K layC s.2.2.2.2)) h (fun s o2 hf gI gE => ?_)
                  refine bX9_came_b88 C gI (fun t11 e => ?_) hf
                  · have h := gE _ e
                    refine g_iload C.c dX9_came_153 (i := 5) rfl ?_
                    by_cases c0 : x5 = (0 : Int32)
                    · replace h := ite_t c0 h
                      refine g_lkIn C.c (tgt := 180) (off := 25) c0 dX9_came_155 (by decide) (by decide) (by decide) ?_
                      refine g_iload C.c dX9_came_180 (i := 6) rfl ?_
                      obtain rfl := Option.some.inj h
                      exact g_iret C hQ dX9_came_182 rfl ⟨rfl, rfl⟩
                    · replace h := ite_f c0 h
                      by_cases c1 : x5 = (1 : Int32)
                      · replace h := ite_t c1 h
                        refine g_lkIn C.c (tgt := 183) (off := 28) c1 dX9_came_155 (by decide) (by decide) (by decide) ?_
                        refine g_iload C.c dX9_came_183 (i := 7) rfl ?_
                        obtain rfl := Option.some.inj h
                        exact g_iret C hQ dX9_came_185 rfl ⟨rfl, rfl⟩
                      · replace h := ite_f c1 h
                        refine g_lkOut C.c (tgt := 186) [(0 : Int32), (1 : Int32)] (by decide) ⟨c0, c1, trivial⟩ dX9_came_155 (by decide) (by decide) ?_
                        refine g_iload C.c dX9_came_186 (i := 8) rfl ?_
                        obtain rfl := Option.some.inj h
                        exact g_iret C hQ dX9_came_188 rfl ⟨rfl, rfl⟩
                · replace h := ite_f c h
                  refine g_bipush C.c dX9_came_62 (v := (-103 : Int32)) (by decide) ?_
                  obtain rfl := Option.some.inj h
                  exact g_iret C hQ dX9_came_64 rfl ⟨rfl, rfl⟩
            · replace h := ite_f c h
              refine g_bipush C.c dX9_came_42 (v := (-102 : Int32)) (by decide) ?_
              obtain rfl := Option.some.inj h
              exact g_iret C hQ dX9_came_44 rfl ⟨rfl, rfl⟩
  · replace h := ite_t c h
    refine g_bipush C.c dX9_came_8 (v := (-101 : Int32)) (by decide) ?_
    obtain rfl := Option.some.inj h
    exact g_iret C hQ dX9_came_10 rfl ⟨rfl, rfl⟩
def fX9_came (a0 : Int32) (a1 : Int32) (a2 : Int32) (a3 : Int32) (a4 : Int32) (σ : Sg) : Option (Int32 × Sg) := fX9_came_b0 a0 a1 a2 a3 a4 σ
theorem ct_X9_came {a0 : Int32} {a1 : Int32} {a2 : Int32} {a3 : Int32} {a4 : Int32} {σ : Sg} {p : Int32 × Sg} (h : fX9_came a0 a1 a2 a3 a4 σ = some p) : Ct layC yX9_came cX9_came 10 (some .int) 16 (fun ad => [.ref (ad 0), .int a0, .int a1, .int a2, .int a3, .int a4]) σ (okI p) :=
 ct_of (L0 := fun ad => [some (.ref (ad 0)), some (.int a0), some (.int a1), some (.int a2), some (.int a3), some (.int a4), none, none, none, none]) (by decide) (fun _ => Nat.le_of_ble_eq_true rfl) (fun _ => rfl) (fun K C hQ => g_mask [true, true, true, true, true, true, false, false, false, false] rfl (bX9_came_b0 C hQ h))
end
