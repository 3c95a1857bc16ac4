-- ===== PART A: goes FIRST, ahead of the names: the tables' words, and 'selects' of the private methods out of them =====
/-- a private method of a class that the tables say can be made, by its rows of tables_1 -/
def lw_okq (q : MethodName × Nat) : Prop := (q.1.cls ≠ "java/lang/invoke/MethodHandle" ∧ q.1.cls ≠ "java/lang/invoke/VarHandle") ∧ Cond.instantiable q.1.cls q.2 ∈ tables_1 ∧ Cond.privateMethod q.1 ∈ tables_1 ∧ Cond.instanceMethod q.1 ∈ tables_1
theorem lw_p0 : lw_okq (⟨"java/lang/Throwable", "fillInStackTrace", "(I)Ljava/lang/Throwable;"⟩, 6) := ⟨⟨by decide +kernel, by decide +kernel⟩, List.mem_of_getElem? (i := 204) (by decide +kernel), List.mem_of_getElem? (i := 202) (by decide +kernel), List.mem_of_getElem? (i := 203) (by decide +kernel)⟩
theorem lw_p1 : lw_okq (⟨"Transseria", "ordinalAt", "(I)I"⟩, 7) := ⟨⟨by decide +kernel, by decide +kernel⟩, List.mem_of_getElem? (i := 20) (by decide +kernel), List.mem_of_getElem? (i := 241) (by decide +kernel), List.mem_of_getElem? (i := 242) (by decide +kernel)⟩
theorem lw_p2 : lw_okq (⟨"Transseria", "ordinalWithPower", "(II)I"⟩, 7) := ⟨⟨by decide +kernel, by decide +kernel⟩, List.mem_of_getElem? (i := 20) (by decide +kernel), List.mem_of_getElem? (i := 274) (by decide +kernel), List.mem_of_getElem? (i := 275) (by decide +kernel)⟩
theorem lw_p3 : lw_okq (⟨"Transseria", "numberAt", "(I)J"⟩, 7) := ⟨⟨by decide +kernel, by decide +kernel⟩, List.mem_of_getElem? (i := 20) (by decide +kernel), List.mem_of_getElem? (i := 287) (by decide +kernel), List.mem_of_getElem? (i := 288) (by decide +kernel)⟩
theorem lw_p4 : lw_okq (⟨"Transseria$Walk", "restart", "()V"⟩, 4) := ⟨⟨by decide +kernel, by decide +kernel⟩, List.mem_of_getElem? (i := 82) (by decide +kernel), List.mem_of_getElem? (i := 299) (by decide +kernel), List.mem_of_getElem? (i := 300) (by decide +kernel)⟩
theorem lw_p5 : lw_okq (⟨"Transseria$Walk", "goes", "(Z)Z"⟩, 4) := ⟨⟨by decide +kernel, by decide +kernel⟩, List.mem_of_getElem? (i := 82) (by decide +kernel), List.mem_of_getElem? (i := 308) (by decide +kernel), List.mem_of_getElem? (i := 309) (by decide +kernel)⟩
theorem lw_p6 : lw_okq (⟨"Transseria", "commonKind", "(II)I"⟩, 7) := ⟨⟨by decide +kernel, by decide +kernel⟩, List.mem_of_getElem? (i := 20) (by decide +kernel), List.mem_of_getElem? (i := 335) (by decide +kernel), List.mem_of_getElem? (i := 336) (by decide +kernel)⟩
theorem lw_p7 : lw_okq (⟨"Transseria$Ordinals", "powersAbove", "(III)I"⟩, 9) := ⟨⟨by decide +kernel, by decide +kernel⟩, List.mem_of_getElem? (i := 30) (by decide +kernel), List.mem_of_getElem? (i := 348) (by decide +kernel), List.mem_of_getElem? (i := 349) (by decide +kernel)⟩
theorem lw_p8 : lw_okq (⟨"Transseria$Ordinals", "order", "(III)I"⟩, 9) := ⟨⟨by decide +kernel, by decide +kernel⟩, List.mem_of_getElem? (i := 30) (by decide +kernel), List.mem_of_getElem? (i := 353) (by decide +kernel), List.mem_of_getElem? (i := 354) (by decide +kernel)⟩
theorem lw_p9 : lw_okq (⟨"Transseria$Ordinals", "draftPowers", "(III)V"⟩, 9) := ⟨⟨by decide +kernel, by decide +kernel⟩, List.mem_of_getElem? (i := 30) (by decide +kernel), List.mem_of_getElem? (i := 366) (by decide +kernel), List.mem_of_getElem? (i := 367) (by decide +kernel)⟩
theorem lw_p10 : lw_okq (⟨"Transseria$Ordinals", "made", "(LTransseria$Draft;)I"⟩, 9) := ⟨⟨by decide +kernel, by decide +kernel⟩, List.mem_of_getElem? (i := 30) (by decide +kernel), List.mem_of_getElem? (i := 380) (by decide +kernel), List.mem_of_getElem? (i := 381) (by decide +kernel)⟩
theorem lw_p11 : lw_okq (⟨"Transseria$Ordinals", "depthOf", "(LTransseria$Draft;)I"⟩, 9) := ⟨⟨by decide +kernel, by decide +kernel⟩, List.mem_of_getElem? (i := 30) (by decide +kernel), List.mem_of_getElem? (i := 388) (by decide +kernel), List.mem_of_getElem? (i := 389) (by decide +kernel)⟩
theorem lw_p12 : lw_okq (⟨"Transseria$Ordinals", "forget", "()V"⟩, 9) := ⟨⟨by decide +kernel, by decide +kernel⟩, List.mem_of_getElem? (i := 30) (by decide +kernel), List.mem_of_getElem? (i := 407) (by decide +kernel), List.mem_of_getElem? (i := 408) (by decide +kernel)⟩
theorem lw_p13 : lw_okq (⟨"Transseria$Ordinals", "write", "(LTransseria$Draft;I)V"⟩, 9) := ⟨⟨by decide +kernel, by decide +kernel⟩, List.mem_of_getElem? (i := 30) (by decide +kernel), List.mem_of_getElem? (i := 414) (by decide +kernel), List.mem_of_getElem? (i := 415) (by decide +kernel)⟩
theorem lw_p14 : lw_okq (⟨"Transseria", "keepOrdinal", "(II)V"⟩, 7) := ⟨⟨by decide +kernel, by decide +kernel⟩, List.mem_of_getElem? (i := 20) (by decide +kernel), List.mem_of_getElem? (i := 437) (by decide +kernel), List.mem_of_getElem? (i := 438) (by decide +kernel)⟩
theorem lw_p15 : lw_okq (⟨"Transseria", "keepNumber", "(IJ)V"⟩, 7) := ⟨⟨by decide +kernel, by decide +kernel⟩, List.mem_of_getElem? (i := 20) (by decide +kernel), List.mem_of_getElem? (i := 446) (by decide +kernel), List.mem_of_getElem? (i := 447) (by decide +kernel)⟩
def lw_privs_1 : List (MethodName × Nat) := [(⟨"java/lang/Throwable", "fillInStackTrace", "(I)Ljava/lang/Throwable;"⟩, 6), (⟨"Transseria", "ordinalAt", "(I)I"⟩, 7), (⟨"Transseria", "ordinalWithPower", "(II)I"⟩, 7), (⟨"Transseria", "numberAt", "(I)J"⟩, 7), (⟨"Transseria$Walk", "restart", "()V"⟩, 4), (⟨"Transseria$Walk", "goes", "(Z)Z"⟩, 4), (⟨"Transseria", "commonKind", "(II)I"⟩, 7), (⟨"Transseria$Ordinals", "powersAbove", "(III)I"⟩, 9), (⟨"Transseria$Ordinals", "order", "(III)I"⟩, 9), (⟨"Transseria$Ordinals", "draftPowers", "(III)V"⟩, 9), (⟨"Transseria$Ordinals", "made", "(LTransseria$Draft;)I"⟩, 9), (⟨"Transseria$Ordinals", "depthOf", "(LTransseria$Draft;)I"⟩, 9), (⟨"Transseria$Ordinals", "forget", "()V"⟩, 9), (⟨"Transseria$Ordinals", "write", "(LTransseria$Draft;I)V"⟩, 9), (⟨"Transseria", "keepOrdinal", "(II)V"⟩, 7), (⟨"Transseria", "keepNumber", "(IJ)V"⟩, 7)]
theorem lw_r1 : ∀ q ∈ lw_privs_1, lw_okq q := List.forall_mem_cons.mpr ⟨lw_p0, List.forall_mem_cons.mpr ⟨lw_p1, List.forall_mem_cons.mpr ⟨lw_p2, List.forall_mem_cons.mpr ⟨lw_p3, List.forall_mem_cons.mpr ⟨lw_p4, List.forall_mem_cons.mpr ⟨lw_p5, List.forall_mem_cons.mpr ⟨lw_p6, List.forall_mem_cons.mpr ⟨lw_p7, List.forall_mem_cons.mpr ⟨lw_p8, List.forall_mem_cons.mpr ⟨lw_p9, List.forall_mem_cons.mpr ⟨lw_p10, List.forall_mem_cons.mpr ⟨lw_p11, List.forall_mem_cons.mpr ⟨lw_p12, List.forall_mem_cons.mpr ⟨lw_p13, List.forall_mem_cons.mpr ⟨lw_p14, List.forall_mem_cons.mpr ⟨lw_p15, fun _ h => absurd h List.not_mem_nil⟩⟩⟩⟩⟩⟩⟩⟩⟩⟩⟩⟩⟩⟩⟩⟩
theorem lw_p16 : lw_okq (⟨"Transseria", "growthAt", "(I)LTransseria$Growth;"⟩, 7) := ⟨⟨by decide +kernel, by decide +kernel⟩, List.mem_of_getElem? (i := 20) (by decide +kernel), List.mem_of_getElem? (i := 457) (by decide +kernel), List.mem_of_getElem? (i := 458) (by decide +kernel)⟩
theorem lw_p17 : lw_okq (⟨"Transseria", "growthRow", "(I)LTransseria$Growth;"⟩, 7) := ⟨⟨by decide +kernel, by decide +kernel⟩, List.mem_of_getElem? (i := 20) (by decide +kernel), List.mem_of_getElem? (i := 461) (by decide +kernel), List.mem_of_getElem? (i := 462) (by decide +kernel)⟩
theorem lw_p18 : lw_okq (⟨"Transseria", "addGrowths", "(LTransseria$Growth;LTransseria$Growth;I)V"⟩, 7) := ⟨⟨by decide +kernel, by decide +kernel⟩, List.mem_of_getElem? (i := 20) (by decide +kernel), List.mem_of_getElem? (i := 466) (by decide +kernel), List.mem_of_getElem? (i := 467) (by decide +kernel)⟩
theorem lw_p19 : lw_okq (⟨"Transseria$Tally", "addRow", "()V"⟩, 3) := ⟨⟨by decide +kernel, by decide +kernel⟩, List.mem_of_getElem? (i := 101) (by decide +kernel), List.mem_of_getElem? (i := 502) (by decide +kernel), List.mem_of_getElem? (i := 503) (by decide +kernel)⟩
theorem lw_p20 : lw_okq (⟨"Transseria", "keepGrowth", "(I)V"⟩, 7) := ⟨⟨by decide +kernel, by decide +kernel⟩, List.mem_of_getElem? (i := 20) (by decide +kernel), List.mem_of_getElem? (i := 506) (by decide +kernel), List.mem_of_getElem? (i := 507) (by decide +kernel)⟩
theorem lw_p21 : lw_okq (⟨"Transseria", "multiplyGrowths", "(LTransseria$Growth;LTransseria$Growth;)V"⟩, 7) := ⟨⟨by decide +kernel, by decide +kernel⟩, List.mem_of_getElem? (i := 20) (by decide +kernel), List.mem_of_getElem? (i := 552) (by decide +kernel), List.mem_of_getElem? (i := 553) (by decide +kernel)⟩
theorem lw_p22 : lw_okq (⟨"Transseria$Ordinals", "finiteTail", "(I)I"⟩, 9) := ⟨⟨by decide +kernel, by decide +kernel⟩, List.mem_of_getElem? (i := 30) (by decide +kernel), List.mem_of_getElem? (i := 607) (by decide +kernel), List.mem_of_getElem? (i := 608) (by decide +kernel)⟩
theorem lw_p23 : lw_okq (⟨"Transseria$Ordinals", "lessened", "(II)I"⟩, 9) := ⟨⟨by decide +kernel, by decide +kernel⟩, List.mem_of_getElem? (i := 30) (by decide +kernel), List.mem_of_getElem? (i := 611) (by decide +kernel), List.mem_of_getElem? (i := 612) (by decide +kernel)⟩
theorem lw_p24 : lw_okq (⟨"Transseria$Ordinals", "draftLess", "(II)V"⟩, 9) := ⟨⟨by decide +kernel, by decide +kernel⟩, List.mem_of_getElem? (i := 30) (by decide +kernel), List.mem_of_getElem? (i := 615) (by decide +kernel), List.mem_of_getElem? (i := 616) (by decide +kernel)⟩
theorem lw_p25 : lw_okq (⟨"Transseria$Ordinals", "lower", "(III)I"⟩, 9) := ⟨⟨by decide +kernel, by decide +kernel⟩, List.mem_of_getElem? (i := 30) (by decide +kernel), List.mem_of_getElem? (i := 623) (by decide +kernel), List.mem_of_getElem? (i := 624) (by decide +kernel)⟩
theorem lw_p26 : lw_okq (⟨"Transseria", "greatestOf", "(I)J"⟩, 7) := ⟨⟨by decide +kernel, by decide +kernel⟩, List.mem_of_getElem? (i := 20) (by decide +kernel), List.mem_of_getElem? (i := 632) (by decide +kernel), List.mem_of_getElem? (i := 633) (by decide +kernel)⟩
theorem lw_p27 : lw_okq (⟨"Transseria", "leastOf", "(I)J"⟩, 7) := ⟨⟨by decide +kernel, by decide +kernel⟩, List.mem_of_getElem? (i := 20) (by decide +kernel), List.mem_of_getElem? (i := 640) (by decide +kernel), List.mem_of_getElem? (i := 641) (by decide +kernel)⟩
theorem lw_p28 : lw_okq (⟨"Transseria$Ordinals", "addPair", "(JII)V"⟩, 9) := ⟨⟨by decide +kernel, by decide +kernel⟩, List.mem_of_getElem? (i := 30) (by decide +kernel), List.mem_of_getElem? (i := 694) (by decide +kernel), List.mem_of_getElem? (i := 695) (by decide +kernel)⟩
def lw_privs_2 : List (MethodName × Nat) := [(⟨"Transseria", "growthAt", "(I)LTransseria$Growth;"⟩, 7), (⟨"Transseria", "growthRow", "(I)LTransseria$Growth;"⟩, 7), (⟨"Transseria", "addGrowths", "(LTransseria$Growth;LTransseria$Growth;I)V"⟩, 7), (⟨"Transseria$Tally", "addRow", "()V"⟩, 3), (⟨"Transseria", "keepGrowth", "(I)V"⟩, 7), (⟨"Transseria", "multiplyGrowths", "(LTransseria$Growth;LTransseria$Growth;)V"⟩, 7), (⟨"Transseria$Ordinals", "finiteTail", "(I)I"⟩, 9), (⟨"Transseria$Ordinals", "lessened", "(II)I"⟩, 9), (⟨"Transseria$Ordinals", "draftLess", "(II)V"⟩, 9), (⟨"Transseria$Ordinals", "lower", "(III)I"⟩, 9), (⟨"Transseria", "greatestOf", "(I)J"⟩, 7), (⟨"Transseria", "leastOf", "(I)J"⟩, 7), (⟨"Transseria$Ordinals", "addPair", "(JII)V"⟩, 9)]
theorem lw_r2 : ∀ q ∈ lw_privs_2, lw_okq q := List.forall_mem_cons.mpr ⟨lw_p16, List.forall_mem_cons.mpr ⟨lw_p17, List.forall_mem_cons.mpr ⟨lw_p18, List.forall_mem_cons.mpr ⟨lw_p19, List.forall_mem_cons.mpr ⟨lw_p20, List.forall_mem_cons.mpr ⟨lw_p21, List.forall_mem_cons.mpr ⟨lw_p22, List.forall_mem_cons.mpr ⟨lw_p23, List.forall_mem_cons.mpr ⟨lw_p24, List.forall_mem_cons.mpr ⟨lw_p25, List.forall_mem_cons.mpr ⟨lw_p26, List.forall_mem_cons.mpr ⟨lw_p27, List.forall_mem_cons.mpr ⟨lw_p28, fun _ h => absurd h List.not_mem_nil⟩⟩⟩⟩⟩⟩⟩⟩⟩⟩⟩⟩⟩
def lw_privs : List (MethodName × Nat) := lw_privs_1 ++ (lw_privs_2)
def lw_tbl : List Cond := k2_sels lw_privs ++ tables_1
theorem lw_privs_ok : ∀ q ∈ lw_privs, lw_okq q := by
  show ∀ q ∈ lw_privs_1 ++ (lw_privs_2), lw_okq q
  exact List.forall_mem_append.mpr ⟨lw_r1, lw_r2⟩
-- ===== end of PART A; then your names; then what follows =====
def RX0 : String := "Transseria$Draft"
def TX0 : u_T := fun k => match k with
  | 0 => ("Transseria$Draft", "times", "[J", true)
  | 1 => ("Transseria$Draft", "exponents", "[I", true)
  | _ => ("Transseria$Draft", "count", "I", false)
def tyX0 : Nat → FieldType := fun k => match k with
  | 0 => .array .long
  | 1 => .array .int
  | _ => .int
abbrev wsX00 : List Cond := u_ws RX0 TX0 3
theorem nmX0 : ∀ a, a < 3 → ∀ b, b < 3 → a ≠ b → (TX0 a).2.1 ≠ (TX0 b).2.1 := by decide +kernel
theorem tyX0_ok : ∀ k, k < 3 → parseFieldDescriptor (TX0 k).2.2.1 = some (tyX0 k) := by decide +kernel
abbrev cX0_init : ByteArray := prog_2_method_1_code
def yX0_init : MethodName := ⟨RX0, "<init>", "()V"⟩
abbrev cX0_count : ByteArray := prog_2_method_2_code
def yX0_count : MethodName := ⟨RX0, "count", "()I"⟩
abbrev cX0_timesAt : ByteArray := prog_2_method_3_code
def yX0_timesAt : MethodName := ⟨RX0, "timesAt", "(I)J"⟩
abbrev cX0_exponentAt : ByteArray := prog_2_method_4_code
def yX0_exponentAt : MethodName := ⟨RX0, "exponentAt", "(I)I"⟩
abbrev cX0_restart : ByteArray := prog_2_method_5_code
def yX0_restart : MethodName := ⟨RX0, "restart", "()V"⟩
abbrev cX0_add : ByteArray := prog_2_method_6_code
def yX0_add : MethodName := ⟨RX0, "add", "(JI)V"⟩
abbrev cX0_insert : ByteArray := prog_2_method_7_code
def yX0_insert : MethodName := ⟨RX0, "insert", "(IJI)V"⟩
abbrev cX0_raise : ByteArray := prog_2_method_8_code
def yX0_raise : MethodName := ⟨RX0, "raise", "(IJ)V"⟩
def RX1 : String := "Transseria$Growth"
def TX1 : u_T := fun k => match k with
  | 0 => ("Transseria$Growth", "times", "[J", true)
  | 1 => ("Transseria$Growth", "keys", "[J", true)
  | _ => ("Transseria$Growth", "count", "I", false)
def tyX1 : Nat → FieldType := fun k => match k with
  | 0 => .array .long
  | 1 => .array .long
  | _ => .int
abbrev wsX10 : List Cond := u_ws RX1 TX1 3
theorem nmX1 : ∀ a, a < 3 → ∀ b, b < 3 → a ≠ b → (TX1 a).2.1 ≠ (TX1 b).2.1 := by decide +kernel
theorem tyX1_ok : ∀ k, k < 3 → parseFieldDescriptor (TX1 k).2.2.1 = some (tyX1 k) := by decide +kernel
abbrev cX1_init : ByteArray := prog_3_method_1_code
def yX1_init : MethodName := ⟨RX1, "<init>", "(I)V"⟩
abbrev cX1_keyOf : ByteArray := prog_3_method_2_code
def yX1_keyOf : MethodName := ⟨RX1, "keyOf", "(IIII)J"⟩
abbrev cX1_exponentIn : ByteArray := prog_3_method_3_code
def yX1_exponentIn : MethodName := ⟨RX1, "exponentIn", "(JI)I"⟩
abbrev cX1_count : ByteArray := prog_3_method_4_code
def yX1_count : MethodName := ⟨RX1, "count", "()I"⟩
abbrev cX1_timesAt : ByteArray := prog_3_method_5_code
def yX1_timesAt : MethodName := ⟨RX1, "timesAt", "(I)J"⟩
abbrev cX1_keyAt : ByteArray := prog_3_method_6_code
def yX1_keyAt : MethodName := ⟨RX1, "keyAt", "(I)J"⟩
abbrev cX1_restart : ByteArray := prog_3_method_7_code
def yX1_restart : MethodName := ⟨RX1, "restart", "()V"⟩
abbrev cX1_add : ByteArray := prog_3_method_8_code
def yX1_add : MethodName := ⟨RX1, "add", "(JJ)V"⟩
abbrev cX1_copy : ByteArray := prog_3_method_9_code
def yX1_copy : MethodName := ⟨RX1, "copy", "(LTransseria$Growth;)V"⟩
abbrev cX1_fits : ByteArray := prog_3_method_10_code
def yX1_fits : MethodName := ⟨RX1, "fits", "()Z"⟩
abbrev cX1_exponentsFit : ByteArray := prog_3_method_11_code
def yX1_exponentsFit : MethodName := ⟨RX1, "exponentsFit", "(J)Z"⟩
abbrev cX1_comparedWith : ByteArray := prog_3_method_12_code
def yX1_comparedWith : MethodName := ⟨RX1, "comparedWith", "(LTransseria$Growth;)I"⟩
abbrev cX1_limit : ByteArray := prog_3_method_13_code
def yX1_limit : MethodName := ⟨RX1, "limit", "()I"⟩
def RX2 : String := "Transseria$Ordinals"
def TX2 : u_T := fun k => match k with
  | 0 => ("Transseria$Ordinals", "starts", "[I", false)
  | 1 => ("Transseria$Ordinals", "depths", "[I", false)
  | 2 => ("Transseria$Ordinals", "times", "[I", false)
  | 3 => ("Transseria$Ordinals", "exponents", "[I", false)
  | 4 => ("Transseria$Ordinals", "count", "I", false)
  | 5 => ("Transseria$Ordinals", "kept", "I", false)
  | 6 => ("Transseria$Ordinals", "draft", "LTransseria$Draft;", true)
  | 7 => ("Transseria$Ordinals", "pairs", "LTransseria$Draft;", true)
  | _ => ("Transseria$Ordinals", "sums", "[I", true)
def tyX2 : Nat → FieldType := fun k => match k with
  | 0 => .array .int
  | 1 => .array .int
  | 2 => .array .int
  | 3 => .array .int
  | 4 => .int
  | 5 => .int
  | 6 => .object "Transseria$Draft"
  | 7 => .object "Transseria$Draft"
  | _ => .array .int
abbrev wsX20 : List Cond := u_ws RX2 TX2 9
theorem nmX2 : ∀ a, a < 9 → ∀ b, b < 9 → a ≠ b → (TX2 a).2.1 ≠ (TX2 b).2.1 := by decide +kernel
theorem tyX2_ok : ∀ k, k < 9 → parseFieldDescriptor (TX2 k).2.2.1 = some (tyX2 k) := by decide +kernel
abbrev cX2_init : ByteArray := prog_4_method_1_code
def yX2_init : MethodName := ⟨RX2, "<init>", "()V"⟩
abbrev cX2_powersOf : ByteArray := prog_4_method_2_code
def yX2_powersOf : MethodName := ⟨RX2, "powersOf", "(I)I"⟩
abbrev cX2_timesOf : ByteArray := prog_4_method_3_code
def yX2_timesOf : MethodName := ⟨RX2, "timesOf", "(II)I"⟩
abbrev cX2_exponentOf : ByteArray := prog_4_method_4_code
def yX2_exponentOf : MethodName := ⟨RX2, "exponentOf", "(II)I"⟩
abbrev cX2_keep : ByteArray := prog_4_method_5_code
def yX2_keep : MethodName := ⟨RX2, "keep", "()V"⟩
abbrev cX2_forget : ByteArray := prog_4_method_6_code
def yX2_forget : MethodName := ⟨RX2, "forget", "()V"⟩
abbrev cX2_powerOf : ByteArray := prog_4_method_7_code
def yX2_powerOf : MethodName := ⟨RX2, "powerOf", "(II)I"⟩
abbrev cX2_added : ByteArray := prog_4_method_8_code
def yX2_added : MethodName := ⟨RX2, "added", "(II)I"⟩
abbrev cX2_multiplied : ByteArray := prog_4_method_9_code
def yX2_multiplied : MethodName := ⟨RX2, "multiplied", "(II)I"⟩
abbrev cX2_naturallyAdded : ByteArray := prog_4_method_10_code
def yX2_naturallyAdded : MethodName := ⟨RX2, "naturallyAdded", "(II)I"⟩
abbrev cX2_naturallyMultiplied : ByteArray := prog_4_method_11_code
def yX2_naturallyMultiplied : MethodName := ⟨RX2, "naturallyMultiplied", "(II)I"⟩
abbrev cX2_addPair : ByteArray := prog_4_method_12_code
def yX2_addPair : MethodName := ⟨RX2, "addPair", "(JII)V"⟩
abbrev cX2_compared : ByteArray := prog_4_method_13_code
def yX2_compared : MethodName := ⟨RX2, "compared", "(II)I"⟩
abbrev cX2_order : ByteArray := prog_4_method_14_code
def yX2_order : MethodName := ⟨RX2, "order", "(III)I"⟩
abbrev cX2_stepped : ByteArray := prog_4_method_15_code
def yX2_stepped : MethodName := ⟨RX2, "stepped", "(II)I"⟩
abbrev cX2_lower : ByteArray := prog_4_method_16_code
def yX2_lower : MethodName := ⟨RX2, "lower", "(III)I"⟩
abbrev cX2_stepsToZero : ByteArray := prog_4_method_17_code
def yX2_stepsToZero : MethodName := ⟨RX2, "stepsToZero", "(III)I"⟩
abbrev cX2_lessened : ByteArray := prog_4_method_18_code
def yX2_lessened : MethodName := ⟨RX2, "lessened", "(II)I"⟩
abbrev cX2_finiteTail : ByteArray := prog_4_method_19_code
def yX2_finiteTail : MethodName := ⟨RX2, "finiteTail", "(I)I"⟩
abbrev cX2_powersAbove : ByteArray := prog_4_method_20_code
def yX2_powersAbove : MethodName := ⟨RX2, "powersAbove", "(III)I"⟩
abbrev cX2_draftLess : ByteArray := prog_4_method_21_code
def yX2_draftLess : MethodName := ⟨RX2, "draftLess", "(II)V"⟩
abbrev cX2_draftPowers : ByteArray := prog_4_method_22_code
def yX2_draftPowers : MethodName := ⟨RX2, "draftPowers", "(III)V"⟩
abbrev cX2_made : ByteArray := prog_4_method_23_code
def yX2_made : MethodName := ⟨RX2, "made", "(LTransseria$Draft;)I"⟩
abbrev cX2_depthOf : ByteArray := prog_4_method_24_code
def yX2_depthOf : MethodName := ⟨RX2, "depthOf", "(LTransseria$Draft;)I"⟩
abbrev cX2_powersFit : ByteArray := prog_4_method_25_code
def yX2_powersFit : MethodName := ⟨RX2, "powersFit", "(LTransseria$Draft;)Z"⟩
abbrev cX2_write : ByteArray := prog_4_method_26_code
def yX2_write : MethodName := ⟨RX2, "write", "(LTransseria$Draft;I)V"⟩
def RX3 : String := "Transseria$Rows"
def TX3 : u_T := fun k => match k with
  | _ => ("", "", "", false)
def tyX3 : Nat → FieldType := fun k => match k with
  | _ => .int
abbrev wsX30 : List Cond := u_ws RX3 TX3 0
theorem nmX3 : ∀ a, a < 0 → ∀ b, b < 0 → a ≠ b → (TX3 a).2.1 ≠ (TX3 b).2.1 := by decide +kernel
theorem tyX3_ok : ∀ k, k < 0 → parseFieldDescriptor (TX3 k).2.2.1 = some (tyX3 k) := by decide +kernel
abbrev cX3_at : ByteArray := prog_5_method_2_code
def yX3_at : MethodName := ⟨RX3, "at", "([II)I"⟩
abbrev cX3_at_ : ByteArray := prog_5_method_3_code
def yX3_at_ : MethodName := ⟨RX3, "at", "([JI)J"⟩
abbrev cX3_put : ByteArray := prog_5_method_4_code
def yX3_put : MethodName := ⟨RX3, "put", "([III)V"⟩
abbrev cX3_put_ : ByteArray := prog_5_method_5_code
def yX3_put_ : MethodName := ⟨RX3, "put", "([JIJ)V"⟩
abbrev cX3_withRoom : ByteArray := prog_5_method_6_code
def yX3_withRoom : MethodName := ⟨RX3, "withRoom", "([II)[I"⟩
def RX4 : String := "Transseria$Tally"
def TX4 : u_T := fun k => match k with
  | 0 => ("Transseria$Tally", "now", "LTransseria$Growth;", false)
  | 1 => ("Transseria$Tally", "next", "LTransseria$Growth;", false)
  | _ => ("Transseria$Tally", "row", "LTransseria$Growth;", true)
def tyX4 : Nat → FieldType := fun k => match k with
  | 0 => .object "Transseria$Growth"
  | 1 => .object "Transseria$Growth"
  | _ => .object "Transseria$Growth"
abbrev wsX40 : List Cond := u_ws RX4 TX4 3
theorem nmX4 : ∀ a, a < 3 → ∀ b, b < 3 → a ≠ b → (TX4 a).2.1 ≠ (TX4 b).2.1 := by decide +kernel
theorem tyX4_ok : ∀ k, k < 3 → parseFieldDescriptor (TX4 k).2.2.1 = some (tyX4 k) := by decide +kernel
abbrev cX4_init : ByteArray := prog_6_method_1_code
def yX4_init : MethodName := ⟨RX4, "<init>", "()V"⟩
abbrev cX4_growth : ByteArray := prog_6_method_2_code
def yX4_growth : MethodName := ⟨RX4, "growth", "()LTransseria$Growth;"⟩
abbrev cX4_restart : ByteArray := prog_6_method_3_code
def yX4_restart : MethodName := ⟨RX4, "restart", "()V"⟩
abbrev cX4_addPart : ByteArray := prog_6_method_4_code
def yX4_addPart : MethodName := ⟨RX4, "addPart", "(JJ)V"⟩
abbrev cX4_addMultiple : ByteArray := prog_6_method_5_code
def yX4_addMultiple : MethodName := ⟨RX4, "addMultiple", "(LTransseria$Growth;JJ)V"⟩
abbrev cX4_addSlopes : ByteArray := prog_6_method_6_code
def yX4_addSlopes : MethodName := ⟨RX4, "addSlopes", "(LTransseria$Growth;I)V"⟩
abbrev cX4_addRow : ByteArray := prog_6_method_7_code
def yX4_addRow : MethodName := ⟨RX4, "addRow", "()V"⟩
def RX5 : String := "Transseria$Walk"
def TX5 : u_T := fun k => match k with
  | 0 => ("Transseria$Walk", "value", "J", false)
  | 1 => ("Transseria$Walk", "below", "J", false)
  | 2 => ("Transseria$Walk", "above", "J", false)
  | _ => ("Transseria$Walk", "length", "I", false)
def tyX5 : Nat → FieldType := fun k => match k with
  | 0 => .long
  | 1 => .long
  | 2 => .long
  | _ => .int
abbrev wsX50 : List Cond := u_ws RX5 TX5 4
theorem nmX5 : ∀ a, a < 4 → ∀ b, b < 4 → a ≠ b → (TX5 a).2.1 ≠ (TX5 b).2.1 := by decide +kernel
theorem tyX5_ok : ∀ k, k < 4 → parseFieldDescriptor (TX5 k).2.2.1 = some (tyX5 k) := by decide +kernel
abbrev cX5_init : ByteArray := prog_7_method_1_code
def yX5_init : MethodName := ⟨RX5, "<init>", "()V"⟩
abbrev cX5_value : ByteArray := prog_7_method_2_code
def yX5_value : MethodName := ⟨RX5, "value", "()J"⟩
abbrev cX5_length : ByteArray := prog_7_method_3_code
def yX5_length : MethodName := ⟨RX5, "length", "()I"⟩
abbrev cX5_restart : ByteArray := prog_7_method_4_code
def yX5_restart : MethodName := ⟨RX5, "restart", "()V"⟩
abbrev cX5_along : ByteArray := prog_7_method_5_code
def yX5_along : MethodName := ⟨RX5, "along", "(II)V"⟩
abbrev cX5_toward : ByteArray := prog_7_method_6_code
def yX5_toward : MethodName := ⟨RX5, "toward", "(JI)V"⟩
abbrev cX5_between : ByteArray := prog_7_method_7_code
def yX5_between : MethodName := ⟨RX5, "between", "(JJ)Z"⟩
abbrev cX5_goes : ByteArray := prog_7_method_8_code
def yX5_goes : MethodName := ⟨RX5, "goes", "(Z)Z"⟩
def RX6 : String := "Transseria"
def TX6 : u_T := fun k => match k with
  | 0 => ("Transseria", "kinds", "[I", true)
  | 1 => ("Transseria", "ordinals", "[I", true)
  | 2 => ("Transseria", "numbers", "[J", true)
  | 3 => ("Transseria", "growths", "[LTransseria$Growth;", true)
  | 4 => ("Transseria", "store", "LTransseria$Ordinals;", true)
  | 5 => ("Transseria", "walk", "LTransseria$Walk;", true)
  | _ => ("Transseria", "tally", "LTransseria$Tally;", true)
def tyX6 : Nat → FieldType := fun k => match k with
  | 0 => .array .int
  | 1 => .array .int
  | 2 => .array .long
  | 3 => .array (.object "Transseria$Growth")
  | 4 => .object "Transseria$Ordinals"
  | 5 => .object "Transseria$Walk"
  | _ => .object "Transseria$Tally"
abbrev wsX60 : List Cond := u_ws RX6 TX6 7
theorem nmX6 : ∀ a, a < 7 → ∀ b, b < 7 → a ≠ b → (TX6 a).2.1 ≠ (TX6 b).2.1 := by decide +kernel
theorem tyX6_ok : ∀ k, k < 7 → parseFieldDescriptor (TX6 k).2.2.1 = some (tyX6 k) := by decide +kernel
abbrev cX6_init : ByteArray := prog_1_method_1_code
def yX6_init : MethodName := ⟨RX6, "<init>", "()V"⟩
abbrev cX6_kind : ByteArray := prog_1_method_2_code
def yX6_kind : MethodName := ⟨RX6, "kind", "(I)I"⟩
abbrev cX6_finite : ByteArray := prog_1_method_4_code
def yX6_finite : MethodName := ⟨RX6, "finite", "(II)V"⟩
abbrev cX6_omega : ByteArray := prog_1_method_5_code
def yX6_omega : MethodName := ⟨RX6, "omega", "(II)V"⟩
abbrev cX6_number : ByteArray := prog_1_method_6_code
def yX6_number : MethodName := ⟨RX6, "number", "(III)V"⟩
abbrev cX6_signs : ByteArray := prog_1_method_7_code
def yX6_signs : MethodName := ⟨RX6, "signs", "(III)V"⟩
abbrev cX6_term : ByteArray := prog_1_method_8_code
def yX6_term : MethodName := ⟨RX6, "term", "(IIIIII)V"⟩
abbrev cX6_sum : ByteArray := prog_1_method_9_code
def yX6_sum : MethodName := ⟨RX6, "sum", "(III)I"⟩
abbrev cX6_product : ByteArray := prog_1_method_10_code
def yX6_product : MethodName := ⟨RX6, "product", "(III)I"⟩
abbrev cX6_difference : ByteArray := prog_1_method_11_code
def yX6_difference : MethodName := ⟨RX6, "difference", "(III)I"⟩
abbrev cX6_natural : ByteArray := prog_1_method_12_code
def yX6_natural : MethodName := ⟨RX6, "natural", "(IIIZ)V"⟩
abbrev cX6_derive : ByteArray := prog_1_method_13_code
def yX6_derive : MethodName := ⟨RX6, "derive", "(II)V"⟩
abbrev cX6_compare : ByteArray := prog_1_method_14_code
def yX6_compare : MethodName := ⟨RX6, "compare", "(II)I"⟩
abbrev cX6_step : ByteArray := prog_1_method_15_code
def yX6_step : MethodName := ⟨RX6, "step", "(III)V"⟩
abbrev cX6_descent : ByteArray := prog_1_method_16_code
def yX6_descent : MethodName := ⟨RX6, "descent", "(III)I"⟩
abbrev cX6_powers : ByteArray := prog_1_method_17_code
def yX6_powers : MethodName := ⟨RX6, "powers", "(I)I"⟩
abbrev cX6_times : ByteArray := prog_1_method_18_code
def yX6_times : MethodName := ⟨RX6, "times", "(II)J"⟩
abbrev cX6_exponent : ByteArray := prog_1_method_19_code
def yX6_exponent : MethodName := ⟨RX6, "exponent", "(III)V"⟩
abbrev cX6_cut : ByteArray := prog_1_method_20_code
def yX6_cut : MethodName := ⟨RX6, "cut", "(III)I"⟩
abbrev cX6_birthday : ByteArray := prog_1_method_21_code
def yX6_birthday : MethodName := ⟨RX6, "birthday", "(I)I"⟩
abbrev cX6_signOf : ByteArray := prog_1_method_22_code
def yX6_signOf : MethodName := ⟨RX6, "signOf", "(II)I"⟩
abbrev cX6_parts : ByteArray := prog_1_method_23_code
def yX6_parts : MethodName := ⟨RX6, "parts", "(I)J"⟩
abbrev cX6_tends : ByteArray := prog_1_method_24_code
def yX6_tends : MethodName := ⟨RX6, "tends", "(I)I"⟩
abbrev cX6_terms : ByteArray := prog_1_method_25_code
def yX6_terms : MethodName := ⟨RX6, "terms", "(I)I"⟩
abbrev cX6_part : ByteArray := prog_1_method_26_code
def yX6_part : MethodName := ⟨RX6, "part", "(III)J"⟩
abbrev cX6_needPlace : ByteArray := prog_1_method_27_code
def yX6_needPlace : MethodName := ⟨RX6, "needPlace", "(I)V"⟩
abbrev cX6_needThree : ByteArray := prog_1_method_28_code
def yX6_needThree : MethodName := ⟨RX6, "needThree", "(III)V"⟩
abbrev cX6_needRow : ByteArray := prog_1_method_29_code
def yX6_needRow : MethodName := ⟨RX6, "needRow", "(I)V"⟩
abbrev cX6_needRange : ByteArray := prog_1_method_30_code
def yX6_needRange : MethodName := ⟨RX6, "needRange", "(III)V"⟩
abbrev cX6_commonKind : ByteArray := prog_1_method_31_code
def yX6_commonKind : MethodName := ⟨RX6, "commonKind", "(II)I"⟩
abbrev cX6_ordinalAt : ByteArray := prog_1_method_32_code
def yX6_ordinalAt : MethodName := ⟨RX6, "ordinalAt", "(I)I"⟩
abbrev cX6_ordinalWithPower : ByteArray := prog_1_method_33_code
def yX6_ordinalWithPower : MethodName := ⟨RX6, "ordinalWithPower", "(II)I"⟩
abbrev cX6_numberAt : ByteArray := prog_1_method_34_code
def yX6_numberAt : MethodName := ⟨RX6, "numberAt", "(I)J"⟩
abbrev cX6_growthAt : ByteArray := prog_1_method_35_code
def yX6_growthAt : MethodName := ⟨RX6, "growthAt", "(I)LTransseria$Growth;"⟩
abbrev cX6_growthRow : ByteArray := prog_1_method_36_code
def yX6_growthRow : MethodName := ⟨RX6, "growthRow", "(I)LTransseria$Growth;"⟩
abbrev cX6_keepOrdinal : ByteArray := prog_1_method_37_code
def yX6_keepOrdinal : MethodName := ⟨RX6, "keepOrdinal", "(II)V"⟩
abbrev cX6_keepNumber : ByteArray := prog_1_method_38_code
def yX6_keepNumber : MethodName := ⟨RX6, "keepNumber", "(IJ)V"⟩
abbrev cX6_keepGrowth : ByteArray := prog_1_method_39_code
def yX6_keepGrowth : MethodName := ⟨RX6, "keepGrowth", "(I)V"⟩
abbrev cX6_numberFits : ByteArray := prog_1_method_40_code
def yX6_numberFits : MethodName := ⟨RX6, "numberFits", "(J)Z"⟩
abbrev cX6_multipliedNumbers : ByteArray := prog_1_method_41_code
def yX6_multipliedNumbers : MethodName := ⟨RX6, "multipliedNumbers", "(JJ)J"⟩
abbrev cX6_greatestOf : ByteArray := prog_1_method_42_code
def yX6_greatestOf : MethodName := ⟨RX6, "greatestOf", "(I)J"⟩
abbrev cX6_leastOf : ByteArray := prog_1_method_43_code
def yX6_leastOf : MethodName := ⟨RX6, "leastOf", "(I)J"⟩
abbrev cX6_addGrowths : ByteArray := prog_1_method_44_code
def yX6_addGrowths : MethodName := ⟨RX6, "addGrowths", "(LTransseria$Growth;LTransseria$Growth;I)V"⟩
abbrev cX6_multiplyGrowths : ByteArray := prog_1_method_45_code
def yX6_multiplyGrowths : MethodName := ⟨RX6, "multiplyGrowths", "(LTransseria$Growth;LTransseria$Growth;)V"⟩
def RX7 : String := "TransseriaModel"
def TX7 : u_T := fun k => match k with
  | _ => ("", "", "", false)
def tyX7 : Nat → FieldType := fun k => match k with
  | _ => .int
abbrev wsX70 : List Cond := u_ws RX7 TX7 0
theorem nmX7 : ∀ a, a < 0 → ∀ b, b < 0 → a ≠ b → (TX7 a).2.1 ≠ (TX7 b).2.1 := by decide +kernel
theorem tyX7_ok : ∀ k, k < 0 → parseFieldDescriptor (TX7 k).2.2.1 = some (tyX7 k) := by decide +kernel
def RJx145de : String := "java/io/Serializable"
def TJx145de : u_T := fun k => match k with
  | _ => ("", "", "", false)
def tyJx145de : Nat → FieldType := fun k => match k with
  | _ => .int
abbrev wsJx145de0 : List Cond := u_ws RJx145de TJx145de 0
theorem nmJx145de : ∀ a, a < 0 → ∀ b, b < 0 → a ≠ b → (TJx145de a).2.1 ≠ (TJx145de b).2.1 := by decide +kernel
theorem tyJx145de_ok : ∀ k, k < 0 → parseFieldDescriptor (TJx145de k).2.2.1 = some (tyJx145de k) := by decide +kernel
def RJx8e188 : String := "java/lang/Cloneable"
def TJx8e188 : u_T := fun k => match k with
  | _ => ("", "", "", false)
def tyJx8e188 : Nat → FieldType := fun k => match k with
  | _ => .int
abbrev wsJx8e1880 : List Cond := u_ws RJx8e188 TJx8e188 0
theorem nmJx8e188 : ∀ a, a < 0 → ∀ b, b < 0 → a ≠ b → (TJx8e188 a).2.1 ≠ (TJx8e188 b).2.1 := by decide +kernel
theorem tyJx8e188_ok : ∀ k, k < 0 → parseFieldDescriptor (TJx8e188 k).2.2.1 = some (tyJx8e188 k) := by decide +kernel
def RJ6 : String := "java/lang/Integer"
def TJ6 : u_T := fun k => match k with
  | _ => ("", "", "", false)
def tyJ6 : Nat → FieldType := fun k => match k with
  | _ => .int
abbrev wsJ60 : List Cond := u_ws RJ6 TJ6 0
theorem nmJ6 : ∀ a, a < 0 → ∀ b, b < 0 → a ≠ b → (TJ6 a).2.1 ≠ (TJ6 b).2.1 := by decide +kernel
theorem tyJ6_ok : ∀ k, k < 0 → parseFieldDescriptor (TJ6 k).2.2.1 = some (tyJ6 k) := by decide +kernel
abbrev cJ6_compare_7cf53 : ByteArray := prog_15_method_40_code
def yJ6_compare_7cf53 : MethodName := ⟨RJ6, "compare", "(II)I"⟩
def RJ13 : String := "java/lang/Long"
def TJ13 : u_T := fun k => match k with
  | _ => ("", "", "", false)
def tyJ13 : Nat → FieldType := fun k => match k with
  | _ => .int
abbrev wsJ130 : List Cond := u_ws RJ13 TJ13 0
theorem nmJ13 : ∀ a, a < 0 → ∀ b, b < 0 → a ≠ b → (TJ13 a).2.1 ≠ (TJ13 b).2.1 := by decide +kernel
theorem tyJ13_ok : ∀ k, k < 0 → parseFieldDescriptor (TJ13 k).2.2.1 = some (tyJ13 k) := by decide +kernel
abbrev cJ13_compare_74951 : ByteArray := prog_16_method_42_code
def yJ13_compare_74951 : MethodName := ⟨RJ13, "compare", "(JJ)I"⟩
def RJ9 : String := "java/lang/Math"
def TJ9 : u_T := fun k => match k with
  | _ => ("", "", "", false)
def tyJ9 : Nat → FieldType := fun k => match k with
  | _ => .int
abbrev wsJ90 : List Cond := u_ws RJ9 TJ9 0
theorem nmJ9 : ∀ a, a < 0 → ∀ b, b < 0 → a ≠ b → (TJ9 a).2.1 ≠ (TJ9 b).2.1 := by decide +kernel
theorem tyJ9_ok : ∀ k, k < 0 → parseFieldDescriptor (TJ9 k).2.2.1 = some (tyJ9 k) := by decide +kernel
abbrev cJ9_max_7cf53 : ByteArray := prog_17_method_65_code
def yJ9_max_7cf53 : MethodName := ⟨RJ9, "max", "(II)I"⟩
abbrev cJ9_max_f86c9 : ByteArray := prog_17_method_66_code
def yJ9_max_f86c9 : MethodName := ⟨RJ9, "max", "(JJ)J"⟩
abbrev cJ9_min_7cf53 : ByteArray := prog_17_method_69_code
def yJ9_min_7cf53 : MethodName := ⟨RJ9, "min", "(II)I"⟩
abbrev cJ9_min_f86c9 : ByteArray := prog_17_method_70_code
def yJ9_min_f86c9 : MethodName := ⟨RJ9, "min", "(JJ)J"⟩
def RJ0 : String := "java/lang/String"
def TJ0 : u_T := fun k => match k with
  | _ => ("", "", "", false)
def tyJ0 : Nat → FieldType := fun k => match k with
  | _ => .int
abbrev wsJ00 : List Cond := u_ws RJ0 TJ0 0
theorem nmJ0 : ∀ a, a < 0 → ∀ b, b < 0 → a ≠ b → (TJ0 a).2.1 ≠ (TJ0 b).2.1 := by decide +kernel
theorem tyJ0_ok : ∀ k, k < 0 → parseFieldDescriptor (TJ0 k).2.2.1 = some (tyJ0 k) := by decide +kernel
def RJ10 : String := "java/lang/System"
def TJ10 : u_T := fun k => match k with
  | _ => ("", "", "", false)
def tyJ10 : Nat → FieldType := fun k => match k with
  | _ => .int
abbrev wsJ100 : List Cond := u_ws RJ10 TJ10 0
theorem nmJ10 : ∀ a, a < 0 → ∀ b, b < 0 → a ≠ b → (TJ10 a).2.1 ≠ (TJ10 b).2.1 := by decide +kernel
theorem tyJ10_ok : ∀ k, k < 0 → parseFieldDescriptor (TJ10 k).2.2.1 = some (tyJ10 k) := by decide +kernel
def RJ7 : String := "java/util/Arrays"
def TJ7 : u_T := fun k => match k with
  | _ => ("", "", "", false)
def tyJ7 : Nat → FieldType := fun k => match k with
  | _ => .int
abbrev wsJ70 : List Cond := u_ws RJ7 TJ7 0
theorem nmJ7 : ∀ a, a < 0 → ∀ b, b < 0 → a ≠ b → (TJ7 a).2.1 ≠ (TJ7 b).2.1 := by decide +kernel
theorem tyJ7_ok : ∀ k, k < 0 → parseFieldDescriptor (TJ7 k).2.2.1 = some (tyJ7 k) := by decide +kernel
abbrev cJ7_copyOf_59c91 : ByteArray := prog_22_method_123_code
def yJ7_copyOf_59c91 : MethodName := ⟨RJ7, "copyOf", "([II)[I"⟩
def RL : String := "TransseriaLaw"
abbrev cL_makes : ByteArray := method_2_code
def yL_makes : MethodName := ⟨RL, "makes", "(LTransseria;IIII)V"⟩
abbrev cL_call : ByteArray := method_3_code
def yL_call : MethodName := ⟨RL, "call", "(LTransseria;IIII)I"⟩
abbrev cL_ask : ByteArray := method_4_code
def yL_ask : MethodName := ⟨RL, "ask", "(LTransseria;IIII)I"⟩
abbrev cL_term : ByteArray := method_5_code
def yL_term : MethodName := ⟨RL, "term", "(LTransseria;IIIIII)I"⟩
abbrev cL_draw : ByteArray := method_6_code
def yL_draw : MethodName := ⟨RL, "draw", "([II)I"⟩
abbrev cL_isFine : ByteArray := method_7_code
def yL_isFine : MethodName := ⟨RL, "isFine", "(LTransseria;I)Z"⟩
abbrev cL_law : ByteArray := code
def yL_law : MethodName := ⟨RL, "law", "([I)Z"⟩
abbrev vwCl : List vw_C := [(RX0, TX0, 3), (RX1, TX1, 3), (RX2, TX2, 9), (RX4, TX4, 3), (RX5, TX5, 4), (RX6, TX6, 7)]
