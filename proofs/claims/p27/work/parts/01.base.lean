-- ===== PART A: goes FIRST, ahead of the names: the tables' words, and 'selects' of the private methods out of them =====
/-- a private method of a class that the tables say can be made, by its rows of tables_1 -/
def lw_okq (q : MethodName × Nat) : Prop := (q.1.cls ≠ "java/lang/invoke/MethodHandle" ∧ q.1.cls ≠ "java/lang/invoke/VarHandle") ∧ Cond.instantiable q.1.cls q.2 ∈ tables_1 ∧ Cond.privateMethod q.1 ∈ tables_1 ∧ Cond.instanceMethod q.1 ∈ tables_1
theorem lw_p0 : lw_okq (⟨"IceForCoast$Page", "takes", "(I)Z"⟩, 7) := ⟨⟨by decide +kernel, by decide +kernel⟩, List.mem_of_getElem? (i := 22) (by decide +kernel), List.mem_of_getElem? (i := 335) (by decide +kernel), List.mem_of_getElem? (i := 336) (by decide +kernel)⟩
theorem lw_p1 : lw_okq (⟨"IceForCoast$Page", "takesRowEnd", "()Z"⟩, 7) := ⟨⟨by decide +kernel, by decide +kernel⟩, List.mem_of_getElem? (i := 22) (by decide +kernel), List.mem_of_getElem? (i := 339) (by decide +kernel), List.mem_of_getElem? (i := 340) (by decide +kernel)⟩
theorem lw_p2 : lw_okq (⟨"IceForCoast$Page", "takesSquare", "(I)Z"⟩, 7) := ⟨⟨by decide +kernel, by decide +kernel⟩, List.mem_of_getElem? (i := 22) (by decide +kernel), List.mem_of_getElem? (i := 346) (by decide +kernel), List.mem_of_getElem? (i := 347) (by decide +kernel)⟩
theorem lw_p3 : lw_okq (⟨"IceForCoast$Sea", "layLetter", "(I)V"⟩, 8) := ⟨⟨by decide +kernel, by decide +kernel⟩, List.mem_of_getElem? (i := 58) (by decide +kernel), List.mem_of_getElem? (i := 367) (by decide +kernel), List.mem_of_getElem? (i := 368) (by decide +kernel)⟩
theorem lw_p4 : lw_okq (⟨"IceForCoast$Sea", "measure", "()V"⟩, 8) := ⟨⟨by decide +kernel, by decide +kernel⟩, List.mem_of_getElem? (i := 58) (by decide +kernel), List.mem_of_getElem? (i := 372) (by decide +kernel), List.mem_of_getElem? (i := 373) (by decide +kernel)⟩
theorem lw_p5 : lw_okq (⟨"IceForCoast$Sea", "openWays", "(I)V"⟩, 8) := ⟨⟨by decide +kernel, by decide +kernel⟩, List.mem_of_getElem? (i := 58) (by decide +kernel), List.mem_of_getElem? (i := 379) (by decide +kernel), List.mem_of_getElem? (i := 380) (by decide +kernel)⟩
theorem lw_p6 : lw_okq (⟨"IceForCoast$Sea", "beside", "(II)I"⟩, 8) := ⟨⟨by decide +kernel, by decide +kernel⟩, List.mem_of_getElem? (i := 58) (by decide +kernel), List.mem_of_getElem? (i := 383) (by decide +kernel), List.mem_of_getElem? (i := 384) (by decide +kernel)⟩
theorem lw_p7 : lw_okq (⟨"IceForCoast", "isBerg", "(I)Z"⟩, 12) := ⟨⟨by decide +kernel, by decide +kernel⟩, List.mem_of_getElem? (i := 14) (by decide +kernel), List.mem_of_getElem? (i := 413) (by decide +kernel), List.mem_of_getElem? (i := 414) (by decide +kernel)⟩
theorem lw_p8 : lw_okq (⟨"IceForCoast", "hasWay", "(I)Z"⟩, 12) := ⟨⟨by decide +kernel, by decide +kernel⟩, List.mem_of_getElem? (i := 14) (by decide +kernel), List.mem_of_getElem? (i := 471) (by decide +kernel), List.mem_of_getElem? (i := 472) (by decide +kernel)⟩
theorem lw_p9 : lw_okq (⟨"IceForCoast$Tow", "isHopeless", "(I)Z"⟩, 17) := ⟨⟨by decide +kernel, by decide +kernel⟩, List.mem_of_getElem? (i := 52) (by decide +kernel), List.mem_of_getElem? (i := 484) (by decide +kernel), List.mem_of_getElem? (i := 485) (by decide +kernel)⟩
theorem lw_p10 : lw_okq (⟨"IceForCoast$Tow", "choose", "(I)V"⟩, 17) := ⟨⟨by decide +kernel, by decide +kernel⟩, List.mem_of_getElem? (i := 52) (by decide +kernel), List.mem_of_getElem? (i := 492) (by decide +kernel), List.mem_of_getElem? (i := 493) (by decide +kernel)⟩
theorem lw_p11 : lw_okq (⟨"IceForCoast$Tow", "pass", "(III)V"⟩, 17) := ⟨⟨by decide +kernel, by decide +kernel⟩, List.mem_of_getElem? (i := 52) (by decide +kernel), List.mem_of_getElem? (i := 499) (by decide +kernel), List.mem_of_getElem? (i := 500) (by decide +kernel)⟩
theorem lw_p12 : lw_okq (⟨"IceForCoast$Tow", "daysOfStep", "(III)I"⟩, 17) := ⟨⟨by decide +kernel, by decide +kernel⟩, List.mem_of_getElem? (i := 52) (by decide +kernel), List.mem_of_getElem? (i := 503) (by decide +kernel), List.mem_of_getElem? (i := 504) (by decide +kernel)⟩
theorem lw_p13 : lw_okq (⟨"IceForCoast$Tow", "drawnWarmth", "(I)I"⟩, 17) := ⟨⟨by decide +kernel, by decide +kernel⟩, List.mem_of_getElem? (i := 52) (by decide +kernel), List.mem_of_getElem? (i := 507) (by decide +kernel), List.mem_of_getElem? (i := 508) (by decide +kernel)⟩
theorem lw_p14 : lw_okq (⟨"IceForCoast", "weigh", "(I)V"⟩, 12) := ⟨⟨by decide +kernel, by decide +kernel⟩, List.mem_of_getElem? (i := 14) (by decide +kernel), List.mem_of_getElem? (i := 536) (by decide +kernel), List.mem_of_getElem? (i := 537) (by decide +kernel)⟩
theorem lw_p15 : lw_okq (⟨"IceForCoast$Ledger", "mostFrom", "(II)I"⟩, 4) := ⟨⟨by decide +kernel, by decide +kernel⟩, List.mem_of_getElem? (i := 247) (by decide +kernel), List.mem_of_getElem? (i := 558) (by decide +kernel), List.mem_of_getElem? (i := 559) (by decide +kernel)⟩
def lw_privs_1 : List (MethodName × Nat) := [(⟨"IceForCoast$Page", "takes", "(I)Z"⟩, 7), (⟨"IceForCoast$Page", "takesRowEnd", "()Z"⟩, 7), (⟨"IceForCoast$Page", "takesSquare", "(I)Z"⟩, 7), (⟨"IceForCoast$Sea", "layLetter", "(I)V"⟩, 8), (⟨"IceForCoast$Sea", "measure", "()V"⟩, 8), (⟨"IceForCoast$Sea", "openWays", "(I)V"⟩, 8), (⟨"IceForCoast$Sea", "beside", "(II)I"⟩, 8), (⟨"IceForCoast", "isBerg", "(I)Z"⟩, 12), (⟨"IceForCoast", "hasWay", "(I)Z"⟩, 12), (⟨"IceForCoast$Tow", "isHopeless", "(I)Z"⟩, 17), (⟨"IceForCoast$Tow", "choose", "(I)V"⟩, 17), (⟨"IceForCoast$Tow", "pass", "(III)V"⟩, 17), (⟨"IceForCoast$Tow", "daysOfStep", "(III)I"⟩, 17), (⟨"IceForCoast$Tow", "drawnWarmth", "(I)I"⟩, 17), (⟨"IceForCoast", "weigh", "(I)V"⟩, 12), (⟨"IceForCoast$Ledger", "mostFrom", "(II)I"⟩, 4)]
theorem lw_r1 : ∀ q ∈ lw_privs_1, lw_okq q := List.forall_mem_cons.mpr ⟨lw_p0, List.forall_mem_cons.mpr ⟨lw_p1, List.forall_mem_cons.mpr ⟨lw_p2, List.forall_mem_cons.mpr ⟨lw_p3, List.forall_mem_cons.mpr ⟨lw_p4, List.forall_mem_cons.mpr ⟨lw_p5, List.forall_mem_cons.mpr ⟨lw_p6, List.forall_mem_cons.mpr ⟨lw_p7, List.forall_mem_cons.mpr ⟨lw_p8, List.forall_mem_cons.mpr ⟨lw_p9, List.forall_mem_cons.mpr ⟨lw_p10, List.forall_mem_cons.mpr ⟨lw_p11, List.forall_mem_cons.mpr ⟨lw_p12, List.forall_mem_cons.mpr ⟨lw_p13, List.forall_mem_cons.mpr ⟨lw_p14, List.forall_mem_cons.mpr ⟨lw_p15, fun _ h => absurd h List.not_mem_nil⟩⟩⟩⟩⟩⟩⟩⟩⟩⟩⟩⟩⟩⟩⟩⟩
theorem lw_p16 : lw_okq (⟨"IceForCoast$Ledger", "gainBy", "(II)I"⟩, 4) := ⟨⟨by decide +kernel, by decide +kernel⟩, List.mem_of_getElem? (i := 247) (by decide +kernel), List.mem_of_getElem? (i := 562) (by decide +kernel), List.mem_of_getElem? (i := 563) (by decide +kernel)⟩
theorem lw_p17 : lw_okq (⟨"IceForCoast$Ledger", "fewestFor", "(II)I"⟩, 4) := ⟨⟨by decide +kernel, by decide +kernel⟩, List.mem_of_getElem? (i := 247) (by decide +kernel), List.mem_of_getElem? (i := 571) (by decide +kernel), List.mem_of_getElem? (i := 572) (by decide +kernel)⟩
def lw_privs_2 : List (MethodName × Nat) := [(⟨"IceForCoast$Ledger", "gainBy", "(II)I"⟩, 4), (⟨"IceForCoast$Ledger", "fewestFor", "(II)I"⟩, 4)]
theorem lw_r2 : ∀ q ∈ lw_privs_2, lw_okq q := List.forall_mem_cons.mpr ⟨lw_p16, List.forall_mem_cons.mpr ⟨lw_p17, fun _ h => absurd h List.not_mem_nil⟩⟩
def lw_privs : List (MethodName × Nat) := lw_privs_1 ++ (lw_privs_2)
def lw_tbl : List Cond := k2_sels lw_privs ++ tables_1
theorem lw_privs_ok : ∀ q ∈ lw_privs, lw_okq q := by
  show ∀ q ∈ lw_privs_1 ++ (lw_privs_2), lw_okq q
  exact List.forall_mem_append.mpr ⟨lw_r1, lw_r2⟩
/-! ===== BEGIN printed: names, fields, word lists, decode rows ===== -/
def RX0 : String := "IceForCoast$Berg"
def TX0 : u_T := fun k => match k with
  | 0 => ("IceForCoast$Berg", "kind", "I", false)
  | 1 => ("IceForCoast$Berg", "square", "I", false)
  | 2 => ("IceForCoast$Berg", "size", "I", false)
  | 3 => ("IceForCoast$Berg", "foot", "I", false)
  | 4 => ("IceForCoast$Berg", "n", "I", false)
  | _ => ("IceForCoast$Berg", "flat", "Z", false)
def tyX0 : Nat → FieldType := fun k => match k with
  | 0 => .int
  | 1 => .int
  | 2 => .int
  | 3 => .int
  | 4 => .int
  | _ => .boolean
abbrev wsX00 : List Cond := u_ws RX0 TX0 6
theorem nmX0 : ∀ a, a < 6 → ∀ b, b < 6 → a ≠ b → (TX0 a).2.1 ≠ (TX0 b).2.1 := by decide +kernel
theorem tyX0_ok : ∀ k, k < 6 → parseFieldDescriptor (TX0 k).2.2.1 = some (tyX0 k) := by decide +kernel
abbrev cX0_init : ByteArray := prog_2_method_1_code
def yX0_init : MethodName := ⟨RX0, "<init>", "()V"⟩
abbrev cX0_isKind : ByteArray := prog_2_method_2_code
def yX0_isKind : MethodName := ⟨RX0, "isKind", "(I)Z"⟩
abbrev cX0_mayBreak : ByteArray := prog_2_method_3_code
def yX0_mayBreak : MethodName := ⟨RX0, "mayBreak", "(II)Z"⟩
abbrev cX0_become : ByteArray := prog_2_method_4_code
def yX0_become : MethodName := ⟨RX0, "become", "(IIIII)V"⟩
abbrev cX0_isA : ByteArray := prog_2_method_5_code
def yX0_isA : MethodName := ⟨RX0, "isA", "(I)Z"⟩
abbrev cX0_meltOf : ByteArray := prog_2_method_6_code
def yX0_meltOf : MethodName := ⟨RX0, "meltOf", "(II)I"⟩
abbrev cX0_breaksOn : ByteArray := prog_2_method_7_code
def yX0_breaksOn : MethodName := ⟨RX0, "breaksOn", "(I)Z"⟩
def RX1 : String := "IceForCoast$Coins"
def TX1 : u_T := fun k => match k with
  | _ => ("IceForCoast$Coins", "value", "[I", true)
def tyX1 : Nat → FieldType := fun k => match k with
  | _ => .array .int
abbrev wsX10 : List Cond := u_ws RX1 TX1 1
theorem nmX1 : ∀ a, a < 1 → ∀ b, b < 1 → a ≠ b → (TX1 a).2.1 ≠ (TX1 b).2.1 := by decide +kernel
theorem tyX1_ok : ∀ k, k < 1 → parseFieldDescriptor (TX1 k).2.2.1 = some (tyX1 k) := by decide +kernel
abbrev cX1_init : ByteArray := prog_3_method_1_code
def yX1_init : MethodName := ⟨RX1, "<init>", "()V"⟩
abbrev cX1_mayBe : ByteArray := prog_3_method_2_code
def yX1_mayBe : MethodName := ⟨RX1, "mayBe", "(II)Z"⟩
abbrev cX1_put : ByteArray := prog_3_method_3_code
def yX1_put : MethodName := ⟨RX1, "put", "(II)I"⟩
abbrev cX1_gainOf : ByteArray := prog_3_method_5_code
def yX1_gainOf : MethodName := ⟨RX1, "gainOf", "(IIIZ)I"⟩
def RX2 : String := "IceForCoast$Image"
def TX2 : u_T := fun k => match k with
  | 0 => ("IceForCoast$Image", "sizes", "[I", true)
  | 1 => ("IceForCoast$Image", "feet", "[I", true)
  | 2 => ("IceForCoast$Image", "coins", "LIceForCoast$Coins;", true)
  | 3 => ("IceForCoast$Image", "bergCount", "I", false)
  | 4 => ("IceForCoast$Image", "lineCount", "I", false)
  | _ => ("IceForCoast$Image", "seaNumber", "I", false)
def tyX2 : Nat → FieldType := fun k => match k with
  | 0 => .array .int
  | 1 => .array .int
  | 2 => .object "IceForCoast$Coins"
  | 3 => .int
  | 4 => .int
  | _ => .int
abbrev wsX20 : List Cond := u_ws RX2 TX2 6
theorem nmX2 : ∀ a, a < 6 → ∀ b, b < 6 → a ≠ b → (TX2 a).2.1 ≠ (TX2 b).2.1 := by decide +kernel
theorem tyX2_ok : ∀ k, k < 6 → parseFieldDescriptor (TX2 k).2.2.1 = some (tyX2 k) := by decide +kernel
abbrev cX2_init : ByteArray := prog_4_method_1_code
def yX2_init : MethodName := ⟨RX2, "<init>", "()V"⟩
def RX3 : String := "IceForCoast$Ledger"
def TX3 : u_T := fun k => match k with
  | 0 => ("IceForCoast$Ledger", "gains", "[[I", true)
  | 1 => ("IceForCoast$Ledger", "known", "[Z", true)
  | 2 => ("IceForCoast$Ledger", "towable", "[Z", true)
  | _ => ("IceForCoast$Ledger", "most", "[[I", true)
def tyX3 : Nat → FieldType := fun k => match k with
  | 0 => .array (.array .int)
  | 1 => .array .boolean
  | 2 => .array .boolean
  | _ => .array (.array .int)
abbrev wsX30 : List Cond := u_ws RX3 TX3 4
theorem nmX3 : ∀ a, a < 4 → ∀ b, b < 4 → a ≠ b → (TX3 a).2.1 ≠ (TX3 b).2.1 := by decide +kernel
theorem tyX3_ok : ∀ k, k < 4 → parseFieldDescriptor (TX3 k).2.2.1 = some (tyX3 k) := by decide +kernel
abbrev cX3_init : ByteArray := prog_5_method_1_code
def yX3_init : MethodName := ⟨RX3, "<init>", "()V"⟩
abbrev cX3_tugsOf : ByteArray := prog_5_method_2_code
def yX3_tugsOf : MethodName := ⟨RX3, "tugsOf", "(I)I"⟩
abbrev cX3_hasSkirt : ByteArray := prog_5_method_3_code
def yX3_hasSkirt : MethodName := ⟨RX3, "hasSkirt", "(I)Z"⟩
abbrev cX3_forget : ByteArray := prog_5_method_4_code
def yX3_forget : MethodName := ⟨RX3, "forget", "(I)V"⟩
abbrev cX3_forgetAll : ByteArray := prog_5_method_5_code
def yX3_forgetAll : MethodName := ⟨RX3, "forgetAll", "()V"⟩
abbrev cX3_bestEntry : ByteArray := prog_5_method_6_code
def yX3_bestEntry : MethodName := ⟨RX3, "bestEntry", "(I)I"⟩
abbrev cX3_deal : ByteArray := prog_5_method_7_code
def yX3_deal : MethodName := ⟨RX3, "deal", "(I)V"⟩
abbrev cX3_mostFrom : ByteArray := prog_5_method_8_code
def yX3_mostFrom : MethodName := ⟨RX3, "mostFrom", "(II)I"⟩
abbrev cX3_gainBy : ByteArray := prog_5_method_9_code
def yX3_gainBy : MethodName := ⟨RX3, "gainBy", "(II)I"⟩
abbrev cX3_tugsFor : ByteArray := prog_5_method_10_code
def yX3_tugsFor : MethodName := ⟨RX3, "tugsFor", "(II)I"⟩
abbrev cX3_fewestFor : ByteArray := prog_5_method_11_code
def yX3_fewestFor : MethodName := ⟨RX3, "fewestFor", "(II)I"⟩
def RX4 : String := "IceForCoast$Lines"
def TX4 : u_T := fun k => match k with
  | 0 => ("IceForCoast$Lines", "house", "[I", true)
  | 1 => ("IceForCoast$Lines", "berg", "[I", true)
  | 2 => ("IceForCoast$Lines", "day", "[I", true)
  | _ => ("IceForCoast$Lines", "length", "I", false)
def tyX4 : Nat → FieldType := fun k => match k with
  | 0 => .array .int
  | 1 => .array .int
  | 2 => .array .int
  | _ => .int
abbrev wsX40 : List Cond := u_ws RX4 TX4 4
theorem nmX4 : ∀ a, a < 4 → ∀ b, b < 4 → a ≠ b → (TX4 a).2.1 ≠ (TX4 b).2.1 := by decide +kernel
theorem tyX4_ok : ∀ k, k < 4 → parseFieldDescriptor (TX4 k).2.2.1 = some (tyX4 k) := by decide +kernel
abbrev cX4_init : ByteArray := prog_6_method_1_code
def yX4_init : MethodName := ⟨RX4, "<init>", "()V"⟩
abbrev cX4_cutTo : ByteArray := prog_6_method_3_code
def yX4_cutTo : MethodName := ⟨RX4, "cutTo", "(I)V"⟩
def RX5 : String := "IceForCoast$Odds"
def TX5 : u_T := fun k => match k with
  | 0 => ("IceForCoast$Odds", "water", "[J", true)
  | 1 => ("IceForCoast$Odds", "above", "J", false)
  | 2 => ("IceForCoast$Odds", "below", "J", false)
  | _ => ("IceForCoast$Odds", "letsOff", "Z", false)
def tyX5 : Nat → FieldType := fun k => match k with
  | 0 => .array .long
  | 1 => .long
  | 2 => .long
  | _ => .boolean
abbrev wsX50 : List Cond := u_ws RX5 TX5 4
theorem nmX5 : ∀ a, a < 4 → ∀ b, b < 4 → a ≠ b → (TX5 a).2.1 ≠ (TX5 b).2.1 := by decide +kernel
theorem tyX5_ok : ∀ k, k < 4 → parseFieldDescriptor (TX5 k).2.2.1 = some (tyX5 k) := by decide +kernel
abbrev cX5_init : ByteArray := prog_7_method_1_code
def yX5_init : MethodName := ⟨RX5, "<init>", "()V"⟩
def RX6 : String := "IceForCoast$Page"
def TX6 : u_T := fun k => match k with
  | 0 => ("IceForCoast$Page", "codes", "[I", true)
  | 1 => ("IceForCoast$Page", "length", "I", false)
  | 2 => ("IceForCoast$Page", "row", "I", false)
  | 3 => ("IceForCoast$Page", "inRow", "I", false)
  | 4 => ("IceForCoast$Page", "width", "I", false)
  | 5 => ("IceForCoast$Page", "harbours", "I", false)
  | _ => ("IceForCoast$Page", "currentMayCome", "Z", false)
def tyX6 : Nat → FieldType := fun k => match k with
  | 0 => .array .int
  | 1 => .int
  | 2 => .int
  | 3 => .int
  | 4 => .int
  | 5 => .int
  | _ => .boolean
abbrev wsX60 : List Cond := u_ws RX6 TX6 7
theorem nmX6 : ∀ a, a < 7 → ∀ b, b < 7 → a ≠ b → (TX6 a).2.1 ≠ (TX6 b).2.1 := by decide +kernel
theorem tyX6_ok : ∀ k, k < 7 → parseFieldDescriptor (TX6 k).2.2.1 = some (tyX6 k) := by decide +kernel
abbrev cX6_init : ByteArray := prog_8_method_1_code
def yX6_init : MethodName := ⟨RX6, "<init>", "()V"⟩
abbrev cX6_append : ByteArray := prog_8_method_2_code
def yX6_append : MethodName := ⟨RX6, "append", "(J)I"⟩
abbrev cX6_byteOf : ByteArray := prog_8_method_3_code
def yX6_byteOf : MethodName := ⟨RX6, "byteOf", "(JI)I"⟩
abbrev cX6_clear : ByteArray := prog_8_method_4_code
def yX6_clear : MethodName := ⟨RX6, "clear", "()I"⟩
abbrev cX6_codeAt : ByteArray := prog_8_method_5_code
def yX6_codeAt : MethodName := ⟨RX6, "codeAt", "(I)I"⟩
abbrev cX6_firstWrong : ByteArray := prog_8_method_6_code
def yX6_firstWrong : MethodName := ⟨RX6, "firstWrong", "()I"⟩
abbrev cX6_isSea : ByteArray := prog_8_method_7_code
def yX6_isSea : MethodName := ⟨RX6, "isSea", "()Z"⟩
abbrev cX6_takes : ByteArray := prog_8_method_8_code
def yX6_takes : MethodName := ⟨RX6, "takes", "(I)Z"⟩
abbrev cX6_takesRowEnd : ByteArray := prog_8_method_9_code
def yX6_takesRowEnd : MethodName := ⟨RX6, "takesRowEnd", "()Z"⟩
abbrev cX6_takesSquare : ByteArray := prog_8_method_10_code
def yX6_takesSquare : MethodName := ⟨RX6, "takesSquare", "(I)Z"⟩
def RX7 : String := "IceForCoast$Sea"
def TX7 : u_T := fun k => match k with
  | 0 => ("IceForCoast$Sea", "warmth", "[I", true)
  | 1 => ("IceForCoast$Sea", "current", "[I", true)
  | 2 => ("IceForCoast$Sea", "far", "[I", true)
  | 3 => ("IceForCoast$Sea", "waysFrom", "[I", true)
  | 4 => ("IceForCoast$Sea", "next", "[[I", true)
  | 5 => ("IceForCoast$Sea", "squares", "I", false)
  | 6 => ("IceForCoast$Sea", "width", "I", false)
  | _ => ("IceForCoast$Sea", "harbour", "I", false)
def tyX7 : Nat → FieldType := fun k => match k with
  | 0 => .array .int
  | 1 => .array .int
  | 2 => .array .int
  | 3 => .array .int
  | 4 => .array (.array .int)
  | 5 => .int
  | 6 => .int
  | _ => .int
abbrev wsX70 : List Cond := u_ws RX7 TX7 8
theorem nmX7 : ∀ a, a < 8 → ∀ b, b < 8 → a ≠ b → (TX7 a).2.1 ≠ (TX7 b).2.1 := by decide +kernel
theorem tyX7_ok : ∀ k, k < 8 → parseFieldDescriptor (TX7 k).2.2.1 = some (tyX7 k) := by decide +kernel
abbrev cX7_init : ByteArray := prog_9_method_1_code
def yX7_init : MethodName := ⟨RX7, "<init>", "()V"⟩
abbrev cX7_wayOf : ByteArray := prog_9_method_2_code
def yX7_wayOf : MethodName := ⟨RX7, "wayOf", "(I)I"⟩
abbrev cX7_has : ByteArray := prog_9_method_3_code
def yX7_has : MethodName := ⟨RX7, "has", "(I)Z"⟩
abbrev cX7_hasWarmth : ByteArray := prog_9_method_4_code
def yX7_hasWarmth : MethodName := ⟨RX7, "hasWarmth", "(I)Z"⟩
abbrev cX7_lay : ByteArray := prog_9_method_5_code
def yX7_lay : MethodName := ⟨RX7, "lay", "(LIceForCoast$Page;)V"⟩
abbrev cX7_layLetter : ByteArray := prog_9_method_6_code
def yX7_layLetter : MethodName := ⟨RX7, "layLetter", "(I)V"⟩
abbrev cX7_measure : ByteArray := prog_9_method_7_code
def yX7_measure : MethodName := ⟨RX7, "measure", "()V"⟩
abbrev cX7_openWays : ByteArray := prog_9_method_8_code
def yX7_openWays : MethodName := ⟨RX7, "openWays", "(I)V"⟩
abbrev cX7_beside : ByteArray := prog_9_method_9_code
def yX7_beside : MethodName := ⟨RX7, "beside", "(II)I"⟩
def RX8 : String := "IceForCoast$Tow"
def TX8 : u_T := fun k => match k with
  | 0 => ("IceForCoast$Tow", "sea", "LIceForCoast$Sea;", true)
  | 1 => ("IceForCoast$Tow", "coins", "LIceForCoast$Coins;", true)
  | 2 => ("IceForCoast$Tow", "sizeAt", "[I", true)
  | 3 => ("IceForCoast$Tow", "footAt", "[I", true)
  | 4 => ("IceForCoast$Tow", "dayAt", "[I", true)
  | 5 => ("IceForCoast$Tow", "trial", "[I", true)
  | 6 => ("IceForCoast$Tow", "chosen", "[I", true)
  | 7 => ("IceForCoast$Tow", "berg", "LIceForCoast$Berg;", false)
  | 8 => ("IceForCoast$Tow", "tugs", "I", false)
  | 9 => ("IceForCoast$Tow", "skirt", "Z", false)
  | 10 => ("IceForCoast$Tow", "found", "Z", false)
  | 11 => ("IceForCoast$Tow", "water", "I", false)
  | 12 => ("IceForCoast$Tow", "days", "I", false)
  | 13 => ("IceForCoast$Tow", "gain", "I", false)
  | 14 => ("IceForCoast$Tow", "steps", "I", false)
  | 15 => ("IceForCoast$Tow", "drawing", "Z", false)
  | _ => ("IceForCoast$Tow", "seed", "J", false)
def tyX8 : Nat → FieldType := fun k => match k with
  | 0 => .object "IceForCoast$Sea"
  | 1 => .object "IceForCoast$Coins"
  | 2 => .array .int
  | 3 => .array .int
  | 4 => .array .int
  | 5 => .array .int
  | 6 => .array .int
  | 7 => .object "IceForCoast$Berg"
  | 8 => .int
  | 9 => .boolean
  | 10 => .boolean
  | 11 => .int
  | 12 => .int
  | 13 => .int
  | 14 => .int
  | 15 => .boolean
  | _ => .long
abbrev wsX80 : List Cond := u_ws RX8 TX8 17
theorem nmX8 : ∀ a, a < 17 → ∀ b, b < 17 → a ≠ b → (TX8 a).2.1 ≠ (TX8 b).2.1 := by decide +kernel
theorem tyX8_ok : ∀ k, k < 17 → parseFieldDescriptor (TX8 k).2.2.1 = some (tyX8 k) := by decide +kernel
abbrev cX8_init : ByteArray := prog_10_method_1_code
def yX8_init : MethodName := ⟨RX8, "<init>", "()V"⟩
abbrev cX8_seek : ByteArray := prog_10_method_2_code
def yX8_seek : MethodName := ⟨RX8, "seek", "(LIceForCoast$Berg;IIZ)V"⟩
abbrev cX8_towAgain : ByteArray := prog_10_method_3_code
def yX8_towAgain : MethodName := ⟨RX8, "towAgain", "(I)V"⟩
abbrev cX8_stepAt : ByteArray := prog_10_method_4_code
def yX8_stepAt : MethodName := ⟨RX8, "stepAt", "(I)I"⟩
abbrev cX8_follow : ByteArray := prog_10_method_5_code
def yX8_follow : MethodName := ⟨RX8, "follow", "(LIceForCoast$Tow;II)V"⟩
abbrev cX8_isHopeless : ByteArray := prog_10_method_6_code
def yX8_isHopeless : MethodName := ⟨RX8, "isHopeless", "(I)Z"⟩
abbrev cX8_choose : ByteArray := prog_10_method_7_code
def yX8_choose : MethodName := ⟨RX8, "choose", "(I)V"⟩
abbrev cX8_pass : ByteArray := prog_10_method_8_code
def yX8_pass : MethodName := ⟨RX8, "pass", "(III)V"⟩
abbrev cX8_daysOfStep : ByteArray := prog_10_method_9_code
def yX8_daysOfStep : MethodName := ⟨RX8, "daysOfStep", "(III)I"⟩
abbrev cX8_drawnWarmth : ByteArray := prog_10_method_10_code
def yX8_drawnWarmth : MethodName := ⟨RX8, "drawnWarmth", "(I)I"⟩
def RX9 : String := "IceForCoast"
def TX9 : u_T := fun k => match k with
  | 0 => ("IceForCoast", "thePage", "LIceForCoast$Page;", true)
  | 1 => ("IceForCoast", "theTow", "LIceForCoast$Tow;", true)
  | 2 => ("IceForCoast", "theSea", "LIceForCoast$Sea;", true)
  | 3 => ("IceForCoast", "coins", "LIceForCoast$Coins;", true)
  | 4 => ("IceForCoast", "bergs", "[LIceForCoast$Berg;", true)
  | 5 => ("IceForCoast", "lines", "LIceForCoast$Lines;", true)
  | 6 => ("IceForCoast", "kept", "LIceForCoast$Image;", true)
  | 7 => ("IceForCoast", "ledger", "LIceForCoast$Ledger;", true)
  | 8 => ("IceForCoast", "theOdds", "LIceForCoast$Odds;", true)
  | 9 => ("IceForCoast", "bergCount", "I", false)
  | 10 => ("IceForCoast", "seasRead", "I", false)
  | _ => ("IceForCoast", "cameDone", "I", false)
def tyX9 : Nat → FieldType := fun k => match k with
  | 0 => .object "IceForCoast$Page"
  | 1 => .object "IceForCoast$Tow"
  | 2 => .object "IceForCoast$Sea"
  | 3 => .object "IceForCoast$Coins"
  | 4 => .array (.object "IceForCoast$Berg")
  | 5 => .object "IceForCoast$Lines"
  | 6 => .object "IceForCoast$Image"
  | 7 => .object "IceForCoast$Ledger"
  | 8 => .object "IceForCoast$Odds"
  | 9 => .int
  | 10 => .int
  | _ => .int
abbrev wsX90 : List Cond := u_ws RX9 TX9 12
theorem nmX9 : ∀ a, a < 12 → ∀ b, b < 12 → a ≠ b → (TX9 a).2.1 ≠ (TX9 b).2.1 := by decide +kernel
theorem tyX9_ok : ∀ k, k < 12 → parseFieldDescriptor (TX9 k).2.2.1 = some (tyX9 k) := by decide +kernel
abbrev cX9_init : ByteArray := prog_1_method_1_code
def yX9_init : MethodName := ⟨RX9, "<init>", "()V"⟩
abbrev cX9_letters : ByteArray := prog_1_method_2_code
def yX9_letters : MethodName := ⟨RX9, "letters", "(J)I"⟩
abbrev cX9_fault : ByteArray := prog_1_method_4_code
def yX9_fault : MethodName := ⟨RX9, "fault", "()I"⟩
abbrev cX9_sea : ByteArray := prog_1_method_5_code
def yX9_sea : MethodName := ⟨RX9, "sea", "()I"⟩
abbrev cX9_square : ByteArray := prog_1_method_6_code
def yX9_square : MethodName := ⟨RX9, "square", "(II)I"⟩
abbrev cX9_berg : ByteArray := prog_1_method_7_code
def yX9_berg : MethodName := ⟨RX9, "berg", "(IIIII)I"⟩
abbrev cX9_as : ByteArray := prog_1_method_8_code
def yX9_as : MethodName := ⟨RX9, "as", "(II)I"⟩
abbrev cX9_about : ByteArray := prog_1_method_9_code
def yX9_about : MethodName := ⟨RX9, "about", "(II)I"⟩
abbrev cX9_change : ByteArray := prog_1_method_10_code
def yX9_change : MethodName := ⟨RX9, "change", "(III)I"⟩
abbrev cX9_coin : ByteArray := prog_1_method_11_code
def yX9_coin : MethodName := ⟨RX9, "coin", "(II)I"⟩
abbrev cX9_tow : ByteArray := prog_1_method_12_code
def yX9_tow : MethodName := ⟨RX9, "tow", "(IIZI)I"⟩
abbrev cX9_ways : ByteArray := prog_1_method_13_code
def yX9_ways : MethodName := ⟨RX9, "ways", "(I)I"⟩
abbrev cX9_best : ByteArray := prog_1_method_14_code
def yX9_best : MethodName := ⟨RX9, "best", "(II)I"⟩
abbrev cX9_season : ByteArray := prog_1_method_15_code
def yX9_season : MethodName := ⟨RX9, "season", "(II)I"⟩
abbrev cX9_more : ByteArray := prog_1_method_16_code
def yX9_more : MethodName := ⟨RX9, "more", "(I)I"⟩
abbrev cX9_drawn : ByteArray := prog_1_method_17_code
def yX9_drawn : MethodName := ⟨RX9, "drawn", "(IIZII)I"⟩
abbrev cX9_came : ByteArray := prog_1_method_18_code
def yX9_came : MethodName := ⟨RX9, "came", "(IIZII)I"⟩
abbrev cX9_isBerg : ByteArray := prog_1_method_26_code
def yX9_isBerg : MethodName := ⟨RX9, "isBerg", "(I)Z"⟩
abbrev cX9_hasWay : ByteArray := prog_1_method_27_code
def yX9_hasWay : MethodName := ⟨RX9, "hasWay", "(I)Z"⟩
abbrev cX9_isTugs : ByteArray := prog_1_method_28_code
def yX9_isTugs : MethodName := ⟨RX9, "isTugs", "(I)Z"⟩
abbrev cX9_isSize : ByteArray := prog_1_method_30_code
def yX9_isSize : MethodName := ⟨RX9, "isSize", "(I)Z"⟩
abbrev cX9_isFoot : ByteArray := prog_1_method_31_code
def yX9_isFoot : MethodName := ⟨RX9, "isFoot", "(I)Z"⟩
abbrev cX9_weigh : ByteArray := prog_1_method_32_code
def yX9_weigh : MethodName := ⟨RX9, "weigh", "(I)V"⟩
def RX10 : String := "IceForCoastModel"
def TX10 : u_T := fun k => match k with
  | _ => ("", "", "", false)
def tyX10 : Nat → FieldType := fun k => match k with
  | _ => .int
abbrev wsX100 : List Cond := u_ws RX10 TX10 0
theorem nmX10 : ∀ a, a < 0 → ∀ b, b < 0 → a ≠ b → (TX10 a).2.1 ≠ (TX10 b).2.1 := by decide +kernel
theorem tyX10_ok : ∀ k, k < 0 → parseFieldDescriptor (TX10 k).2.2.1 = some (tyX10 k) := by decide +kernel
def RJ9 : String := "java/lang/Math"
def TJ9 : u_T := fun k => match k with
  | _ => ("", "", "", false)
def tyJ9 : Nat → FieldType := fun k => match k with
  | _ => .int
abbrev wsJ90 : List Cond := u_ws RJ9 TJ9 0
theorem nmJ9 : ∀ a, a < 0 → ∀ b, b < 0 → a ≠ b → (TJ9 a).2.1 ≠ (TJ9 b).2.1 := by decide +kernel
theorem tyJ9_ok : ∀ k, k < 0 → parseFieldDescriptor (TJ9 k).2.2.1 = some (tyJ9 k) := by decide +kernel
abbrev cJ9_abs_0f7a4 : ByteArray := prog_13_method_59_code
def yJ9_abs_0f7a4 : MethodName := ⟨RJ9, "abs", "(I)I"⟩
abbrev cJ9_max_7cf53 : ByteArray := prog_13_method_65_code
def yJ9_max_7cf53 : MethodName := ⟨RJ9, "max", "(II)I"⟩
abbrev cJ9_min_7cf53 : ByteArray := prog_13_method_69_code
def yJ9_min_7cf53 : MethodName := ⟨RJ9, "min", "(II)I"⟩
def RJ10 : String := "java/lang/System"
def TJ10 : u_T := fun k => match k with
  | _ => ("", "", "", false)
def tyJ10 : Nat → FieldType := fun k => match k with
  | _ => .int
abbrev wsJ100 : List Cond := u_ws RJ10 TJ10 0
theorem nmJ10 : ∀ a, a < 0 → ∀ b, b < 0 → a ≠ b → (TJ10 a).2.1 ≠ (TJ10 b).2.1 := by decide +kernel
theorem tyJ10_ok : ∀ k, k < 0 → parseFieldDescriptor (TJ10 k).2.2.1 = some (tyJ10 k) := by decide +kernel
def RL : String := "IceForCoastLaw"
abbrev cL_cell : ByteArray := method_2_code
def yL_cell : MethodName := ⟨RL, "cell", "([II)I"⟩
abbrev cL_at : ByteArray := method_3_code
def yL_at : MethodName := ⟨RL, "at", "(II)I"⟩
abbrev cL_seaText : ByteArray := method_4_code
def yL_seaText : MethodName := ⟨RL, "seaText", "([II[I[I)I"⟩
abbrev cL_write : ByteArray := method_5_code
def yL_write : MethodName := ⟨RL, "write", "(LIceForCoast;[II)Z"⟩
abbrev cL_far : ByteArray := method_6_code
def yL_far : MethodName := ⟨RL, "far", "([II)I"⟩
abbrev cL_beside : ByteArray := method_7_code
def yL_beside : MethodName := ⟨RL, "beside", "([III)I"⟩
abbrev cL_bergs : ByteArray := method_8_code
def yL_bergs : MethodName := ⟨RL, "bergs", "(LIceForCoast;[III[I[I)Z"⟩
abbrev cL_day : ByteArray := method_9_code
def yL_day : MethodName := ⟨RL, "day", "([IIIZ[I)V"⟩
abbrev cL_daysOf : ByteArray := method_10_code
def yL_daysOf : MethodName := ⟨RL, "daysOf", "([IIIII)I"⟩
abbrev cL_way : ByteArray := method_11_code
def yL_way : MethodName := ⟨RL, "way", "([I[IIIZII[I)Z"⟩
abbrev cL_best : ByteArray := method_12_code
def yL_best : MethodName := ⟨RL, "best", "([I[IIIZ[I[I)V"⟩
abbrev cL_law : ByteArray := code
def yL_law : MethodName := ⟨RL, "law", "([I)Z"⟩
abbrev cL_tows : ByteArray := method_14_code
def yL_tows : MethodName := ⟨RL, "tows", "(LIceForCoast;[I[I[I[II)Z"⟩
abbrev cL_season : ByteArray := method_15_code
def yL_season : MethodName := ⟨RL, "season", "(LIceForCoast;I[IIZ)I"⟩
abbrev vwCl : List vw_C := [(RX0, TX0, 6), (RX1, TX1, 1), (RX2, TX2, 6), (RX3, TX3, 4), (RX4, TX4, 4), (RX5, TX5, 4), (RX6, TX6, 7), (RX7, TX7, 8), (RX8, TX8, 17), (RX9, TX9, 12)]
def AL : List Cond := lw_tbl.filter goodWord
def isNest : Cond → Bool
  | .fieldLinkNest .. => true
  | .methodLinkNest .. => true
  | _ => false
def NW : List Cond := lw_tbl.filter isNest
theorem AL_in {w : Cond} (h : w ∈ lw_tbl) (g : goodWord w = true) : w ∈ AL := List.mem_filter.mpr ⟨h, g⟩
theorem NW_in {w : Cond} (h : w ∈ lw_tbl) (g : isNest w = true) : w ∈ NW := List.mem_filter.mpr ⟨h, g⟩
theorem AL_good {w : Cond} (h : w ∈ AL) : w ∈ AL ∧ ((w.onTables && w.keeps) = true ∨ ∃ ty, w = .arrayClass ty) := ⟨h, good_of_word (List.mem_filter.mp h).2⟩
theorem AL_of (ws : List Cond) (ps : List Nat) (hp : ws = ps.filterMap (fun i => lw_tbl[i]?)) (h : ws.all goodWord = true) : ∀ w ∈ ws, w ∈ AL := by
  intro w hw
  have h1 := List.all_eq_true.mp h w hw
  rw [hp] at hw
  obtain ⟨i, -, hi⟩ := List.mem_filterMap.mp hw
  exact AL_in (List.mem_of_getElem? hi) h1
theorem NW_of (ws : List Cond) (ps : List Nat) (hp : ws = ps.filterMap (fun i => lw_tbl[i]?)) (h : ws.all isNest = true) : ∀ w ∈ ws, w ∈ NW := by
  intro w hw
  have h1 := List.all_eq_true.mp h w hw
  rw [hp] at hw
  obtain ⟨i, -, hi⟩ := List.mem_filterMap.mp hw
  exact NW_in (List.mem_of_getElem? hi) h1
