-- ===== PART A: goes FIRST, ahead of the names: the tables' words, and 'selects' of the private methods out of them =====
/-- a private method of a class that the tables say can be made, by its rows of tables_1 -/
def lw_okq (q : MethodName × Nat) : Prop := (q.1.cls ≠ "java/lang/invoke/MethodHandle" ∧ q.1.cls ≠ "java/lang/invoke/VarHandle") ∧ Cond.instantiable q.1.cls q.2 ∈ tables_1 ∧ Cond.privateMethod q.1 ∈ tables_1 ∧ Cond.instanceMethod q.1 ∈ tables_1
theorem lw_p0 : lw_okq (⟨"HallRegisters$Law", "areOverlapsAlike", "()Z"⟩, 9) := ⟨⟨by decide +kernel, by decide +kernel⟩, List.mem_of_getElem? (i := 105) (by decide +kernel), List.mem_of_getElem? (i := 376) (by decide +kernel), List.mem_of_getElem? (i := 377) (by decide +kernel)⟩
theorem lw_p1 : lw_okq (⟨"HallRegisters$Law", "isOverlapAlike", "(III)Z"⟩, 9) := ⟨⟨by decide +kernel, by decide +kernel⟩, List.mem_of_getElem? (i := 105) (by decide +kernel), List.mem_of_getElem? (i := 380) (by decide +kernel), List.mem_of_getElem? (i := 381) (by decide +kernel)⟩
theorem lw_p2 : lw_okq (⟨"HallRegisters$Collector", "putAhead", "(I)V"⟩, 7) := ⟨⟨by decide +kernel, by decide +kernel⟩, List.mem_of_getElem? (i := 75) (by decide +kernel), List.mem_of_getElem? (i := 405) (by decide +kernel), List.mem_of_getElem? (i := 406) (by decide +kernel)⟩
theorem lw_p3 : lw_okq (⟨"HallRegisters$Collector", "moveOn", "(I)V"⟩, 7) := ⟨⟨by decide +kernel, by decide +kernel⟩, List.mem_of_getElem? (i := 75) (by decide +kernel), List.mem_of_getElem? (i := 410) (by decide +kernel), List.mem_of_getElem? (i := 411) (by decide +kernel)⟩
theorem lw_p4 : lw_okq (⟨"HallRegisters$Collector", "exchange", "(LHallRegisters$Rules;II)V"⟩, 7) := ⟨⟨by decide +kernel, by decide +kernel⟩, List.mem_of_getElem? (i := 75) (by decide +kernel), List.mem_of_getElem? (i := 414) (by decide +kernel), List.mem_of_getElem? (i := 415) (by decide +kernel)⟩
theorem lw_p5 : lw_okq (⟨"HallRegisters$Collector", "countLetters", "()V"⟩, 7) := ⟨⟨by decide +kernel, by decide +kernel⟩, List.mem_of_getElem? (i := 75) (by decide +kernel), List.mem_of_getElem? (i := 418) (by decide +kernel), List.mem_of_getElem? (i := 419) (by decide +kernel)⟩
theorem lw_p6 : lw_okq (⟨"HallRegisters$Law", "findTerms", "()V"⟩, 9) := ⟨⟨by decide +kernel, by decide +kernel⟩, List.mem_of_getElem? (i := 105) (by decide +kernel), List.mem_of_getElem? (i := 424) (by decide +kernel), List.mem_of_getElem? (i := 425) (by decide +kernel)⟩
theorem lw_p7 : lw_okq (⟨"HallRegisters$Law", "goToNextPoint", "()Z"⟩, 9) := ⟨⟨by decide +kernel, by decide +kernel⟩, List.mem_of_getElem? (i := 105) (by decide +kernel), List.mem_of_getElem? (i := 429) (by decide +kernel), List.mem_of_getElem? (i := 430) (by decide +kernel)⟩
theorem lw_p8 : lw_okq (⟨"HallRegisters$Law", "findTermsAtPoint", "()V"⟩, 9) := ⟨⟨by decide +kernel, by decide +kernel⟩, List.mem_of_getElem? (i := 105) (by decide +kernel), List.mem_of_getElem? (i := 437) (by decide +kernel), List.mem_of_getElem? (i := 438) (by decide +kernel)⟩
theorem lw_p9 : lw_okq (⟨"HallRegisters", "hasPolynomial", "(I)Z"⟩, 17) := ⟨⟨by decide +kernel, by decide +kernel⟩, List.mem_of_getElem? (i := 23) (by decide +kernel), List.mem_of_getElem? (i := 522) (by decide +kernel), List.mem_of_getElem? (i := 523) (by decide +kernel)⟩
theorem lw_p10 : lw_okq (⟨"HallRegisters", "isGenerator", "(I)Z"⟩, 17) := ⟨⟨by decide +kernel, by decide +kernel⟩, List.mem_of_getElem? (i := 23) (by decide +kernel), List.mem_of_getElem? (i := 526) (by decide +kernel), List.mem_of_getElem? (i := 527) (by decide +kernel)⟩
theorem lw_p11 : lw_okq (⟨"HallRegisters", "beginAct", "()V"⟩, 17) := ⟨⟨by decide +kernel, by decide +kernel⟩, List.mem_of_getElem? (i := 23) (by decide +kernel), List.mem_of_getElem? (i := 537) (by decide +kernel), List.mem_of_getElem? (i := 538) (by decide +kernel)⟩
theorem lw_p12 : lw_okq (⟨"HallRegisters", "areUsable", "(II)Z"⟩, 17) := ⟨⟨by decide +kernel, by decide +kernel⟩, List.mem_of_getElem? (i := 23) (by decide +kernel), List.mem_of_getElem? (i := 557) (by decide +kernel), List.mem_of_getElem? (i := 558) (by decide +kernel)⟩
theorem lw_p13 : lw_okq (⟨"HallRegisters", "keepCounted", "(I)Z"⟩, 17) := ⟨⟨by decide +kernel, by decide +kernel⟩, List.mem_of_getElem? (i := 23) (by decide +kernel), List.mem_of_getElem? (i := 567) (by decide +kernel), List.mem_of_getElem? (i := 568) (by decide +kernel)⟩
theorem lw_p14 : lw_okq (⟨"HallRegisters", "keep", "(I)Z"⟩, 17) := ⟨⟨by decide +kernel, by decide +kernel⟩, List.mem_of_getElem? (i := 23) (by decide +kernel), List.mem_of_getElem? (i := 575) (by decide +kernel), List.mem_of_getElem? (i := 576) (by decide +kernel)⟩
theorem lw_p15 : lw_okq (⟨"HallRegisters", "beginGroupAct", "()V"⟩, 17) := ⟨⟨by decide +kernel, by decide +kernel⟩, List.mem_of_getElem? (i := 23) (by decide +kernel), List.mem_of_getElem? (i := 619) (by decide +kernel), List.mem_of_getElem? (i := 620) (by decide +kernel)⟩
def lw_privs_1 : List (MethodName × Nat) := [(⟨"HallRegisters$Law", "areOverlapsAlike", "()Z"⟩, 9), (⟨"HallRegisters$Law", "isOverlapAlike", "(III)Z"⟩, 9), (⟨"HallRegisters$Collector", "putAhead", "(I)V"⟩, 7), (⟨"HallRegisters$Collector", "moveOn", "(I)V"⟩, 7), (⟨"HallRegisters$Collector", "exchange", "(LHallRegisters$Rules;II)V"⟩, 7), (⟨"HallRegisters$Collector", "countLetters", "()V"⟩, 7), (⟨"HallRegisters$Law", "findTerms", "()V"⟩, 9), (⟨"HallRegisters$Law", "goToNextPoint", "()Z"⟩, 9), (⟨"HallRegisters$Law", "findTermsAtPoint", "()V"⟩, 9), (⟨"HallRegisters", "hasPolynomial", "(I)Z"⟩, 17), (⟨"HallRegisters", "isGenerator", "(I)Z"⟩, 17), (⟨"HallRegisters", "beginAct", "()V"⟩, 17), (⟨"HallRegisters", "areUsable", "(II)Z"⟩, 17), (⟨"HallRegisters", "keepCounted", "(I)Z"⟩, 17), (⟨"HallRegisters", "keep", "(I)Z"⟩, 17), (⟨"HallRegisters", "beginGroupAct", "()V"⟩, 17)]
theorem lw_r1 : ∀ q ∈ lw_privs_1, lw_okq q := List.forall_mem_cons.mpr ⟨lw_p0, List.forall_mem_cons.mpr ⟨lw_p1, List.forall_mem_cons.mpr ⟨lw_p2, List.forall_mem_cons.mpr ⟨lw_p3, List.forall_mem_cons.mpr ⟨lw_p4, List.forall_mem_cons.mpr ⟨lw_p5, List.forall_mem_cons.mpr ⟨lw_p6, List.forall_mem_cons.mpr ⟨lw_p7, List.forall_mem_cons.mpr ⟨lw_p8, List.forall_mem_cons.mpr ⟨lw_p9, List.forall_mem_cons.mpr ⟨lw_p10, List.forall_mem_cons.mpr ⟨lw_p11, List.forall_mem_cons.mpr ⟨lw_p12, List.forall_mem_cons.mpr ⟨lw_p13, List.forall_mem_cons.mpr ⟨lw_p14, List.forall_mem_cons.mpr ⟨lw_p15, fun _ h => absurd h List.not_mem_nil⟩⟩⟩⟩⟩⟩⟩⟩⟩⟩⟩⟩⟩⟩⟩⟩
theorem lw_p16 : lw_okq (⟨"HallRegisters", "registersNotOne", "()I"⟩, 17) := ⟨⟨by decide +kernel, by decide +kernel⟩, List.mem_of_getElem? (i := 23) (by decide +kernel), List.mem_of_getElem? (i := 643) (by decide +kernel), List.mem_of_getElem? (i := 644) (by decide +kernel)⟩
theorem lw_p17 : lw_okq (⟨"HallRegisters", "centralGenerators", "()I"⟩, 17) := ⟨⟨by decide +kernel, by decide +kernel⟩, List.mem_of_getElem? (i := 23) (by decide +kernel), List.mem_of_getElem? (i := 651) (by decide +kernel), List.mem_of_getElem? (i := 652) (by decide +kernel)⟩
theorem lw_p18 : lw_okq (⟨"HallRegisters", "feedNumber", "(I)V"⟩, 17) := ⟨⟨by decide +kernel, by decide +kernel⟩, List.mem_of_getElem? (i := 23) (by decide +kernel), List.mem_of_getElem? (i := 745) (by decide +kernel), List.mem_of_getElem? (i := 746) (by decide +kernel)⟩
def lw_privs_2 : List (MethodName × Nat) := [(⟨"HallRegisters", "registersNotOne", "()I"⟩, 17), (⟨"HallRegisters", "centralGenerators", "()I"⟩, 17), (⟨"HallRegisters", "feedNumber", "(I)V"⟩, 17)]
theorem lw_r2 : ∀ q ∈ lw_privs_2, lw_okq q := List.forall_mem_cons.mpr ⟨lw_p16, List.forall_mem_cons.mpr ⟨lw_p17, List.forall_mem_cons.mpr ⟨lw_p18, fun _ h => absurd h List.not_mem_nil⟩⟩⟩
def lw_privs : List (MethodName × Nat) := lw_privs_1 ++ (lw_privs_2)
def lw_tbl : List Cond := k2_sels lw_privs ++ tables_1
theorem lw_privs_ok : ∀ q ∈ lw_privs, lw_okq q := by
  show ∀ q ∈ lw_privs_1 ++ (lw_privs_2), lw_okq q
  exact List.forall_mem_append.mpr ⟨lw_r1, lw_r2⟩

theorem wide_first : True := by
  have := @Stand.multianewarray2F
  trivial
def RX0 : String := "HallRegisters$Arithmetic"
def TX0 : u_T := fun k => match k with
  | 0 => ("HallRegisters$Arithmetic", "law", "LHallRegisters$Law;", true)
  | 1 => ("HallRegisters$Arithmetic", "table", "[J", true)
  | 2 => ("HallRegisters$Arithmetic", "cubeTable", "[J", true)
  | 3 => ("HallRegisters$Arithmetic", "first", "[J", true)
  | 4 => ("HallRegisters$Arithmetic", "square", "[J", true)
  | 5 => ("HallRegisters$Arithmetic", "cube", "[J", true)
  | 6 => ("HallRegisters$Arithmetic", "left", "[J", true)
  | _ => ("HallRegisters$Arithmetic", "right", "[J", true)
def tyX0 : Nat → FieldType := fun k => match k with
  | 0 => .object "HallRegisters$Law"
  | 1 => .array .long
  | 2 => .array .long
  | 3 => .array .long
  | 4 => .array .long
  | 5 => .array .long
  | 6 => .array .long
  | _ => .array .long
abbrev wsX00 : List Cond := u_ws RX0 TX0 8
theorem nmX0 : ∀ a, a < 8 → ∀ b, b < 8 → a ≠ b → (TX0 a).2.1 ≠ (TX0 b).2.1 := by decide +kernel
theorem tyX0_ok : ∀ k, k < 8 → parseFieldDescriptor (TX0 k).2.2.1 = some (tyX0 k) := by decide +kernel
abbrev cX0_init : ByteArray := prog_2_method_1_code
def yX0_init : MethodName := ⟨RX0, "<init>", "(LHallRegisters$Law;)V"⟩
abbrev cX0_copy : ByteArray := prog_2_method_2_code
def yX0_copy : MethodName := ⟨RX0, "copy", "([J[J)V"⟩
abbrev cX0_areSame : ByteArray := prog_2_method_3_code
def yX0_areSame : MethodName := ⟨RX0, "areSame", "([J[J)Z"⟩
abbrev cX0_isOne : ByteArray := prog_2_method_4_code
def yX0_isOne : MethodName := ⟨RX0, "isOne", "([J)Z"⟩
abbrev cX0_isWithin : ByteArray := prog_2_method_5_code
def yX0_isWithin : MethodName := ⟨RX0, "isWithin", "([JJ)Z"⟩
abbrev cX0_product : ByteArray := prog_2_method_7_code
def yX0_product : MethodName := ⟨RX0, "product", "([J[J[J)V"⟩
abbrev cX0_inverse : ByteArray := prog_2_method_8_code
def yX0_inverse : MethodName := ⟨RX0, "inverse", "([J[J)V"⟩
def RX1 : String := "HallRegisters$Ball"
def TX1 : u_T := fun k => match k with
  | 0 => ("HallRegisters$Ball", "law", "LHallRegisters$Law;", true)
  | 1 => ("HallRegisters$Ball", "arithmetic", "LHallRegisters$Arithmetic;", true)
  | 2 => ("HallRegisters$Ball", "edition", "I", false)
  | 3 => ("HallRegisters$Ball", "sizes", "[I", true)
  | 4 => ("HallRegisters$Ball", "found", "[J", true)
  | 5 => ("HallRegisters$Ball", "slots", "[I", true)
  | 6 => ("HallRegisters$Ball", "count", "I", false)
  | 7 => ("HallRegisters$Ball", "from", "[J", true)
  | 8 => ("HallRegisters$Ball", "step", "[J", true)
  | _ => ("HallRegisters$Ball", "made", "[J", true)
def tyX1 : Nat → FieldType := fun k => match k with
  | 0 => .object "HallRegisters$Law"
  | 1 => .object "HallRegisters$Arithmetic"
  | 2 => .int
  | 3 => .array .int
  | 4 => .array .long
  | 5 => .array .int
  | 6 => .int
  | 7 => .array .long
  | 8 => .array .long
  | _ => .array .long
abbrev wsX10 : List Cond := u_ws RX1 TX1 10
theorem nmX1 : ∀ a, a < 10 → ∀ b, b < 10 → a ≠ b → (TX1 a).2.1 ≠ (TX1 b).2.1 := by decide +kernel
theorem tyX1_ok : ∀ k, k < 10 → parseFieldDescriptor (TX1 k).2.2.1 = some (tyX1 k) := by decide +kernel
abbrev cX1_init : ByteArray := prog_3_method_1_code
def yX1_init : MethodName := ⟨RX1, "<init>", "(LHallRegisters$Law;LHallRegisters$Arithmetic;)V"⟩
def RX2 : String := "HallRegisters$Collector"
def TX2 : u_T := fun k => match k with
  | 0 => ("HallRegisters$Collector", "word", "[I", true)
  | 1 => ("HallRegisters$Collector", "length", "I", false)
  | 2 => ("HallRegisters$Collector", "sorted", "[I", true)
  | 3 => ("HallRegisters$Collector", "sortedCount", "I", false)
  | 4 => ("HallRegisters$Collector", "waiting", "[I", true)
  | 5 => ("HallRegisters$Collector", "waitingCount", "I", false)
  | _ => ("HallRegisters$Collector", "counts", "[I", true)
def tyX2 : Nat → FieldType := fun k => match k with
  | 0 => .array .int
  | 1 => .int
  | 2 => .array .int
  | 3 => .int
  | 4 => .array .int
  | 5 => .int
  | _ => .array .int
abbrev wsX20 : List Cond := u_ws RX2 TX2 7
theorem nmX2 : ∀ a, a < 7 → ∀ b, b < 7 → a ≠ b → (TX2 a).2.1 ≠ (TX2 b).2.1 := by decide +kernel
theorem tyX2_ok : ∀ k, k < 7 → parseFieldDescriptor (TX2 k).2.2.1 = some (tyX2 k) := by decide +kernel
abbrev cX2_init : ByteArray := prog_4_method_1_code
def yX2_init : MethodName := ⟨RX2, "<init>", "()V"⟩
abbrev cX2_begin : ByteArray := prog_4_method_2_code
def yX2_begin : MethodName := ⟨RX2, "begin", "()V"⟩
abbrev cX2_add : ByteArray := prog_4_method_3_code
def yX2_add : MethodName := ⟨RX2, "add", "(I)V"⟩
abbrev cX2_addTails : ByteArray := prog_4_method_4_code
def yX2_addTails : MethodName := ⟨RX2, "addTails", "(LHallRegisters$Rules;II)V"⟩
abbrev cX2_run : ByteArray := prog_4_method_5_code
def yX2_run : MethodName := ⟨RX2, "run", "(LHallRegisters$Rules;I)I"⟩
abbrev cX2_putAhead : ByteArray := prog_4_method_6_code
def yX2_putAhead : MethodName := ⟨RX2, "putAhead", "(I)V"⟩
abbrev cX2_moveOn : ByteArray := prog_4_method_7_code
def yX2_moveOn : MethodName := ⟨RX2, "moveOn", "(I)V"⟩
abbrev cX2_exchange : ByteArray := prog_4_method_8_code
def yX2_exchange : MethodName := ⟨RX2, "exchange", "(LHallRegisters$Rules;II)V"⟩
abbrev cX2_countLetters : ByteArray := prog_4_method_9_code
def yX2_countLetters : MethodName := ⟨RX2, "countLetters", "()V"⟩
def RX3 : String := "HallRegisters$Lattice"
def TX3 : u_T := fun k => match k with
  | 0 => ("HallRegisters$Lattice", "columns", "I", false)
  | 1 => ("HallRegisters$Lattice", "rows", "[[J", true)
  | _ => ("HallRegisters$Lattice", "spare", "[J", true)
def tyX3 : Nat → FieldType := fun k => match k with
  | 0 => .int
  | 1 => .array (.array .long)
  | _ => .array .long
abbrev wsX30 : List Cond := u_ws RX3 TX3 3
theorem nmX3 : ∀ a, a < 3 → ∀ b, b < 3 → a ≠ b → (TX3 a).2.1 ≠ (TX3 b).2.1 := by decide +kernel
theorem tyX3_ok : ∀ k, k < 3 → parseFieldDescriptor (TX3 k).2.2.1 = some (tyX3 k) := by decide +kernel
abbrev cX3_init : ByteArray := prog_5_method_1_code
def yX3_init : MethodName := ⟨RX3, "<init>", "()V"⟩
def RX4 : String := "HallRegisters$Law"
def TX4 : u_T := fun k => match k with
  | 0 => ("HallRegisters$Law", "rules", "LHallRegisters$Rules;", true)
  | 1 => ("HallRegisters$Law", "collector", "LHallRegisters$Collector;", true)
  | 2 => ("HallRegisters$Law", "sums", "[LHallRegisters$Sum;", true)
  | 3 => ("HallRegisters$Law", "consistent", "Z", false)
  | 4 => ("HallRegisters$Law", "edition", "I", false)
  | 5 => ("HallRegisters$Law", "point", "[I", true)
  | 6 => ("HallRegisters$Law", "pointWeight", "I", false)
  | 7 => ("HallRegisters$Law", "table", "[J", true)
  | _ => ("HallRegisters$Law", "counts", "[I", true)
def tyX4 : Nat → FieldType := fun k => match k with
  | 0 => .object "HallRegisters$Rules"
  | 1 => .object "HallRegisters$Collector"
  | 2 => .array (.object "HallRegisters$Sum")
  | 3 => .boolean
  | 4 => .int
  | 5 => .array .int
  | 6 => .int
  | 7 => .array .long
  | _ => .array .int
abbrev wsX40 : List Cond := u_ws RX4 TX4 9
theorem nmX4 : ∀ a, a < 9 → ∀ b, b < 9 → a ≠ b → (TX4 a).2.1 ≠ (TX4 b).2.1 := by decide +kernel
theorem tyX4_ok : ∀ k, k < 9 → parseFieldDescriptor (TX4 k).2.2.1 = some (tyX4 k) := by decide +kernel
abbrev cX4_init : ByteArray := prog_6_method_1_code
def yX4_init : MethodName := ⟨RX4, "<init>", "(LHallRegisters$Collector;)V"⟩
abbrev cX4_follow : ByteArray := prog_6_method_2_code
def yX4_follow : MethodName := ⟨RX4, "follow", "(LHallRegisters$Rules;)V"⟩
abbrev cX4_termCount : ByteArray := prog_6_method_3_code
def yX4_termCount : MethodName := ⟨RX4, "termCount", "()I"⟩
abbrev cX4_put : ByteArray := prog_6_method_4_code
def yX4_put : MethodName := ⟨RX4, "put", "([JIJ)V"⟩
abbrev cX4_areOverlapsAlike : ByteArray := prog_6_method_5_code
def yX4_areOverlapsAlike : MethodName := ⟨RX4, "areOverlapsAlike", "()Z"⟩
abbrev cX4_isOverlapAlike : ByteArray := prog_6_method_6_code
def yX4_isOverlapAlike : MethodName := ⟨RX4, "isOverlapAlike", "(III)Z"⟩
abbrev cX4_findTerms : ByteArray := prog_6_method_7_code
def yX4_findTerms : MethodName := ⟨RX4, "findTerms", "()V"⟩
abbrev cX4_goToNextPoint : ByteArray := prog_6_method_8_code
def yX4_goToNextPoint : MethodName := ⟨RX4, "goToNextPoint", "()Z"⟩
abbrev cX4_findTermsAtPoint : ByteArray := prog_6_method_9_code
def yX4_findTermsAtPoint : MethodName := ⟨RX4, "findTermsAtPoint", "()V"⟩
def RX5 : String := "HallRegisters$Reader"
def TX5 : u_T := fun k => match k with
  | 0 => ("HallRegisters$Reader", "faultKind", "I", false)
  | 1 => ("HallRegisters$Reader", "faultPlace", "I", false)
  | 2 => ("HallRegisters$Reader", "words", "[[J", true)
  | 3 => ("HallRegisters$Reader", "factors", "[[J", true)
  | 4 => ("HallRegisters$Reader", "commutators", "[[J", true)
  | 5 => ("HallRegisters$Reader", "state", "LHallRegisters$State;", true)
  | 6 => ("HallRegisters$Reader", "arithmetic", "LHallRegisters$Arithmetic;", true)
  | 7 => ("HallRegisters$Reader", "bytes", "[I", true)
  | 8 => ("HallRegisters$Reader", "length", "I", false)
  | 9 => ("HallRegisters$Reader", "place", "I", false)
  | _ => ("HallRegisters$Reader", "behind", "I", false)
def tyX5 : Nat → FieldType := fun k => match k with
  | 0 => .int
  | 1 => .int
  | 2 => .array (.array .long)
  | 3 => .array (.array .long)
  | 4 => .array (.array .long)
  | 5 => .object "HallRegisters$State"
  | 6 => .object "HallRegisters$Arithmetic"
  | 7 => .array .int
  | 8 => .int
  | 9 => .int
  | _ => .int
abbrev wsX50 : List Cond := u_ws RX5 TX5 11
theorem nmX5 : ∀ a, a < 11 → ∀ b, b < 11 → a ≠ b → (TX5 a).2.1 ≠ (TX5 b).2.1 := by decide +kernel
theorem tyX5_ok : ∀ k, k < 11 → parseFieldDescriptor (TX5 k).2.2.1 = some (tyX5 k) := by decide +kernel
abbrev cX5_init : ByteArray := prog_7_method_1_code
def yX5_init : MethodName := ⟨RX5, "<init>", "(LHallRegisters$State;LHallRegisters$Arithmetic;)V"⟩
def RX6 : String := "HallRegisters$Rules"
def TX6 : u_T := fun k => match k with
  | 0 => ("HallRegisters$Rules", "count", "I", false)
  | 1 => ("HallRegisters$Rules", "weights", "[I", true)
  | _ => ("HallRegisters$Rules", "tails", "[I", true)
def tyX6 : Nat → FieldType := fun k => match k with
  | 0 => .int
  | 1 => .array .int
  | _ => .array .int
abbrev wsX60 : List Cond := u_ws RX6 TX6 3
theorem nmX6 : ∀ a, a < 3 → ∀ b, b < 3 → a ≠ b → (TX6 a).2.1 ≠ (TX6 b).2.1 := by decide +kernel
theorem tyX6_ok : ∀ k, k < 3 → parseFieldDescriptor (TX6 k).2.2.1 = some (tyX6 k) := by decide +kernel
abbrev cX6_init : ByteArray := prog_8_method_1_code
def yX6_init : MethodName := ⟨RX6, "<init>", "()V"⟩
abbrev cX6_areWeights : ByteArray := prog_8_method_2_code
def yX6_areWeights : MethodName := ⟨RX6, "areWeights", "(II)Z"⟩
abbrev cX6_reset : ByteArray := prog_8_method_3_code
def yX6_reset : MethodName := ⟨RX6, "reset", "(II)V"⟩
abbrev cX6_takeKind : ByteArray := prog_8_method_4_code
def yX6_takeKind : MethodName := ⟨RX6, "takeKind", "(I)V"⟩
abbrev cX6_takeAll : ByteArray := prog_8_method_5_code
def yX6_takeAll : MethodName := ⟨RX6, "takeAll", "(LHallRegisters$Rules;)V"⟩
abbrev cX6_isSame : ByteArray := prog_8_method_6_code
def yX6_isSame : MethodName := ⟨RX6, "isSame", "(LHallRegisters$Rules;)Z"⟩
abbrev cX6_isTail : ByteArray := prog_8_method_7_code
def yX6_isTail : MethodName := ⟨RX6, "isTail", "(III)Z"⟩
abbrev cX6_mayBe : ByteArray := prog_8_method_8_code
def yX6_mayBe : MethodName := ⟨RX6, "mayBe", "(IIII)Z"⟩
abbrev cX6_read : ByteArray := prog_8_method_9_code
def yX6_read : MethodName := ⟨RX6, "read", "(III)I"⟩
abbrev cX6_write : ByteArray := prog_8_method_10_code
def yX6_write : MethodName := ⟨RX6, "write", "(IIII)V"⟩
abbrev cX6_top : ByteArray := prog_8_method_12_code
def yX6_top : MethodName := ⟨RX6, "top", "()I"⟩
abbrev cX6_tailsAboveZero : ByteArray := prog_8_method_13_code
def yX6_tailsAboveZero : MethodName := ⟨RX6, "tailsAboveZero", "()I"⟩
abbrev cX6_isCentral : ByteArray := prog_8_method_14_code
def yX6_isCentral : MethodName := ⟨RX6, "isCentral", "(I)Z"⟩
def RX7 : String := "HallRegisters$Search"
def TX7 : u_T := fun k => match k with
  | 0 => ("HallRegisters$Search", "law", "LHallRegisters$Law;", true)
  | 1 => ("HallRegisters$Search", "turns", "LHallRegisters$Lattice;", true)
  | 2 => ("HallRegisters$Search", "shifts", "LHallRegisters$Lattice;", true)
  | 3 => ("HallRegisters$Search", "gaps", "[LHallRegisters$Sum;", true)
  | 4 => ("HallRegisters$Search", "table", "[J", true)
  | 5 => ("HallRegisters$Search", "row", "[J", true)
  | 6 => ("HallRegisters$Search", "rest", "[J", true)
  | 7 => ("HallRegisters$Search", "u", "[J", true)
  | 8 => ("HallRegisters$Search", "ones", "I", false)
  | 9 => ("HallRegisters$Search", "twos", "I", false)
  | _ => ("HallRegisters$Search", "threes", "I", false)
def tyX7 : Nat → FieldType := fun k => match k with
  | 0 => .object "HallRegisters$Law"
  | 1 => .object "HallRegisters$Lattice"
  | 2 => .object "HallRegisters$Lattice"
  | 3 => .array (.object "HallRegisters$Sum")
  | 4 => .array .long
  | 5 => .array .long
  | 6 => .array .long
  | 7 => .array .long
  | 8 => .int
  | 9 => .int
  | _ => .int
abbrev wsX70 : List Cond := u_ws RX7 TX7 11
theorem nmX7 : ∀ a, a < 11 → ∀ b, b < 11 → a ≠ b → (TX7 a).2.1 ≠ (TX7 b).2.1 := by decide +kernel
theorem tyX7_ok : ∀ k, k < 11 → parseFieldDescriptor (TX7 k).2.2.1 = some (tyX7 k) := by decide +kernel
abbrev cX7_init : ByteArray := prog_9_method_1_code
def yX7_init : MethodName := ⟨RX7, "<init>", "(LHallRegisters$Law;)V"⟩
def RX8 : String := "HallRegisters$State"
def TX8 : u_T := fun k => match k with
  | 0 => ("HallRegisters$State", "rules", "LHallRegisters$Rules;", true)
  | 1 => ("HallRegisters$State", "registers", "[[J", true)
  | _ => ("HallRegisters$State", "told", "[I", true)
def tyX8 : Nat → FieldType := fun k => match k with
  | 0 => .object "HallRegisters$Rules"
  | 1 => .array (.array .long)
  | _ => .array .int
abbrev wsX80 : List Cond := u_ws RX8 TX8 3
theorem nmX8 : ∀ a, a < 3 → ∀ b, b < 3 → a ≠ b → (TX8 a).2.1 ≠ (TX8 b).2.1 := by decide +kernel
theorem tyX8_ok : ∀ k, k < 3 → parseFieldDescriptor (TX8 k).2.2.1 = some (tyX8 k) := by decide +kernel
abbrev cX8_init : ByteArray := prog_10_method_1_code
def yX8_init : MethodName := ⟨RX8, "<init>", "()V"⟩
abbrev cX8_clearRegisters : ByteArray := prog_10_method_2_code
def yX8_clearRegisters : MethodName := ⟨RX8, "clearRegisters", "()V"⟩
abbrev cX8_takeActed : ByteArray := prog_10_method_3_code
def yX8_takeActed : MethodName := ⟨RX8, "takeActed", "(LHallRegisters$State;)V"⟩
def RX9 : String := "HallRegisters$Sum"
def TX9 : u_T := fun k => match k with
  | 0 => ("HallRegisters$Sum", "count", "I", false)
  | 1 => ("HallRegisters$Sum", "keys", "[I", true)
  | 2 => ("HallRegisters$Sum", "numbers", "[J", true)
  | _ => ("HallRegisters$Sum", "places", "[I", true)
def tyX9 : Nat → FieldType := fun k => match k with
  | 0 => .int
  | 1 => .array .int
  | 2 => .array .long
  | _ => .array .int
abbrev wsX90 : List Cond := u_ws RX9 TX9 4
theorem nmX9 : ∀ a, a < 4 → ∀ b, b < 4 → a ≠ b → (TX9 a).2.1 ≠ (TX9 b).2.1 := by decide +kernel
theorem tyX9_ok : ∀ k, k < 4 → parseFieldDescriptor (TX9 k).2.2.1 = some (tyX9 k) := by decide +kernel
abbrev cX9_init : ByteArray := prog_11_method_1_code
def yX9_init : MethodName := ⟨RX9, "<init>", "()V"⟩
abbrev cX9_append : ByteArray := prog_11_method_2_code
def yX9_append : MethodName := ⟨RX9, "append", "(IJ)V"⟩
abbrev cX9_value : ByteArray := prog_11_method_4_code
def yX9_value : MethodName := ⟨RX9, "value", "([J)J"⟩
abbrev cX9_placesOf : ByteArray := prog_11_method_6_code
def yX9_placesOf : MethodName := ⟨RX9, "placesOf", "(I)I"⟩
def RX10 : String := "HallRegisters"
def TX10 : u_T := fun k => match k with
  | 0 => ("HallRegisters", "now", "LHallRegisters$State;", true)
  | 1 => ("HallRegisters", "pictured", "LHallRegisters$State;", true)
  | 2 => ("HallRegisters", "imageTaken", "Z", false)
  | 3 => ("HallRegisters", "acts", "[LHallRegisters$State;", true)
  | 4 => ("HallRegisters", "actCount", "I", false)
  | 5 => ("HallRegisters", "nextAct", "I", false)
  | 6 => ("HallRegisters", "tape", "[I", true)
  | 7 => ("HallRegisters", "tapeLength", "I", false)
  | 8 => ("HallRegisters", "collector", "LHallRegisters$Collector;", true)
  | 9 => ("HallRegisters", "law", "LHallRegisters$Law;", true)
  | 10 => ("HallRegisters", "arithmetic", "LHallRegisters$Arithmetic;", true)
  | 11 => ("HallRegisters", "search", "LHallRegisters$Search;", true)
  | 12 => ("HallRegisters", "balls", "LHallRegisters$Ball;", true)
  | 13 => ("HallRegisters", "lattice", "LHallRegisters$Lattice;", true)
  | 14 => ("HallRegisters", "reader", "LHallRegisters$Reader;", true)
  | 15 => ("HallRegisters", "result", "[J", true)
  | _ => ("HallRegisters", "other", "[J", true)
def tyX10 : Nat → FieldType := fun k => match k with
  | 0 => .object "HallRegisters$State"
  | 1 => .object "HallRegisters$State"
  | 2 => .boolean
  | 3 => .array (.object "HallRegisters$State")
  | 4 => .int
  | 5 => .int
  | 6 => .array .int
  | 7 => .int
  | 8 => .object "HallRegisters$Collector"
  | 9 => .object "HallRegisters$Law"
  | 10 => .object "HallRegisters$Arithmetic"
  | 11 => .object "HallRegisters$Search"
  | 12 => .object "HallRegisters$Ball"
  | 13 => .object "HallRegisters$Lattice"
  | 14 => .object "HallRegisters$Reader"
  | 15 => .array .long
  | _ => .array .long
abbrev wsX100 : List Cond := u_ws RX10 TX10 17
theorem nmX10 : ∀ a, a < 17 → ∀ b, b < 17 → a ≠ b → (TX10 a).2.1 ≠ (TX10 b).2.1 := by decide +kernel
theorem tyX10_ok : ∀ k, k < 17 → parseFieldDescriptor (TX10 k).2.2.1 = some (tyX10 k) := by decide +kernel
abbrev cX10_init : ByteArray := prog_1_method_1_code
def yX10_init : MethodName := ⟨RX10, "<init>", "()V"⟩
abbrev cX10_group : ByteArray := prog_1_method_2_code
def yX10_group : MethodName := ⟨RX10, "group", "(II)Z"⟩
abbrev cX10_tail : ByteArray := prog_1_method_3_code
def yX10_tail : MethodName := ⟨RX10, "tail", "(IIII)Z"⟩
abbrev cX10_kind : ByteArray := prog_1_method_4_code
def yX10_kind : MethodName := ⟨RX10, "kind", "(I)Z"⟩
abbrev cX10_consistent : ByteArray := prog_1_method_5_code
def yX10_consistent : MethodName := ⟨RX10, "consistent", "()I"⟩
abbrev cX10_terms : ByteArray := prog_1_method_8_code
def yX10_terms : MethodName := ⟨RX10, "terms", "(I)I"⟩
abbrev cX10_set : ByteArray := prog_1_method_11_code
def yX10_set : MethodName := ⟨RX10, "set", "(III)Z"⟩
abbrev cX10_multiply : ByteArray := prog_1_method_12_code
def yX10_multiply : MethodName := ⟨RX10, "multiply", "(III)Z"⟩
abbrev cX10_invert : ByteArray := prog_1_method_13_code
def yX10_invert : MethodName := ⟨RX10, "invert", "(II)Z"⟩
abbrev cX10_feed : ByteArray := prog_1_method_19_code
def yX10_feed : MethodName := ⟨RX10, "feed", "(IIIII)I"⟩
abbrev cX10_end : ByteArray := prog_1_method_20_code
def yX10_end : MethodName := ⟨RX10, "end", "(I)Z"⟩
abbrev cX10_collect : ByteArray := prog_1_method_23_code
def yX10_collect : MethodName := ⟨RX10, "collect", "()I"⟩
abbrev cX10_collected : ByteArray := prog_1_method_24_code
def yX10_collected : MethodName := ⟨RX10, "collected", "(I)I"⟩
abbrev cX10_exponent : ByteArray := prog_1_method_25_code
def yX10_exponent : MethodName := ⟨RX10, "exponent", "(II)I"⟩
abbrev cX10_associates : ByteArray := prog_1_method_30_code
def yX10_associates : MethodName := ⟨RX10, "associates", "(III)I"⟩
abbrev cX10_look : ByteArray := prog_1_method_34_code
def yX10_look : MethodName := ⟨RX10, "look", "(I)I"⟩
abbrev cX10_bit : ByteArray := prog_1_method_35_code
def yX10_bit : MethodName := ⟨RX10, "bit", "(Z)I"⟩
abbrev cX10_degree : ByteArray := prog_1_method_36_code
def yX10_degree : MethodName := ⟨RX10, "degree", "(II)I"⟩
abbrev cX10_isRegister : ByteArray := prog_1_method_37_code
def yX10_isRegister : MethodName := ⟨RX10, "isRegister", "(I)Z"⟩
abbrev cX10_areUsable : ByteArray := prog_1_method_38_code
def yX10_areUsable : MethodName := ⟨RX10, "areUsable", "(II)Z"⟩
abbrev cX10_isGenerator : ByteArray := prog_1_method_39_code
def yX10_isGenerator : MethodName := ⟨RX10, "isGenerator", "(I)Z"⟩
abbrev cX10_hasPolynomial : ByteArray := prog_1_method_40_code
def yX10_hasPolynomial : MethodName := ⟨RX10, "hasPolynomial", "(I)Z"⟩
abbrev cX10_beginAct : ByteArray := prog_1_method_41_code
def yX10_beginAct : MethodName := ⟨RX10, "beginAct", "()V"⟩
abbrev cX10_beginGroupAct : ByteArray := prog_1_method_42_code
def yX10_beginGroupAct : MethodName := ⟨RX10, "beginGroupAct", "()V"⟩
abbrev cX10_keep : ByteArray := prog_1_method_43_code
def yX10_keep : MethodName := ⟨RX10, "keep", "(I)Z"⟩
abbrev cX10_keepCounted : ByteArray := prog_1_method_44_code
def yX10_keepCounted : MethodName := ⟨RX10, "keepCounted", "(I)Z"⟩
abbrev cX10_feedNumber : ByteArray := prog_1_method_45_code
def yX10_feedNumber : MethodName := ⟨RX10, "feedNumber", "(I)V"⟩
abbrev cX10_registersNotOne : ByteArray := prog_1_method_52_code
def yX10_registersNotOne : MethodName := ⟨RX10, "registersNotOne", "()I"⟩
abbrev cX10_centralGenerators : ByteArray := prog_1_method_53_code
def yX10_centralGenerators : MethodName := ⟨RX10, "centralGenerators", "()I"⟩
def RX11 : String := "HallRegistersModel"
def TX11 : u_T := fun k => match k with
  | _ => ("", "", "", false)
def tyX11 : Nat → FieldType := fun k => match k with
  | _ => .int
abbrev wsX110 : List Cond := u_ws RX11 TX11 0
theorem nmX11 : ∀ a, a < 0 → ∀ b, b < 0 → a ≠ b → (TX11 a).2.1 ≠ (TX11 b).2.1 := by decide +kernel
theorem tyX11_ok : ∀ k, k < 0 → parseFieldDescriptor (TX11 k).2.2.1 = some (tyX11 k) := by decide +kernel
def RJx145de : String := "java/io/Serializable"
def TJx145de : u_T := fun k => match k with
  | _ => ("", "", "", false)
def tyJx145de : Nat → FieldType := fun k => match k with
  | _ => .int
def RJ5 : String := "java/lang/AbstractStringBuilder"
def TJ5 : u_T := fun k => match k with
  | _ => ("", "", "", false)
def tyJ5 : Nat → FieldType := fun k => match k with
  | _ => .int
abbrev cJ5_init_d00df : ByteArray := prog_14_method_2_code
def yJ5_init_d00df : MethodName := ⟨RJ5, "<init>", "(I)V"⟩
abbrev cJ5_length_8abf5 : ByteArray := prog_14_method_6_code
def yJ5_length_8abf5 : MethodName := ⟨RJ5, "length", "()I"⟩
abbrev cJ5_ensureCapacityInternal_d00df : ByteArray := prog_14_method_9_code
def yJ5_ensureCapacityInternal_d00df : MethodName := ⟨RJ5, "ensureCapacityInternal", "(I)V"⟩
abbrev cJ5_newCapacity_0f7a4 : ByteArray := prog_14_method_10_code
def yJ5_newCapacity_0f7a4 : MethodName := ⟨RJ5, "newCapacity", "(I)I"⟩
abbrev cJ5_inflate_da8c8 : ByteArray := prog_14_method_11_code
def yJ5_inflate_da8c8 : MethodName := ⟨RJ5, "inflate", "()V"⟩
abbrev cJ5_append_3fe6f : ByteArray := prog_14_method_31_code
def yJ5_append_3fe6f : MethodName := ⟨RJ5, "append", "(C)Ljava/lang/AbstractStringBuilder;"⟩
abbrev cJ5_getValue_6d5f1 : ByteArray := prog_14_method_64_code
def yJ5_getValue_6d5f1 : MethodName := ⟨RJ5, "getValue", "()[B"⟩
abbrev cJ5_isLatin1_aae02 : ByteArray := prog_14_method_68_code
def yJ5_isLatin1_aae02 : MethodName := ⟨RJ5, "isLatin1", "()Z"⟩
def RJx2cfe8 : String := "java/lang/Appendable"
def TJx2cfe8 : u_T := fun k => match k with
  | _ => ("", "", "", false)
def tyJx2cfe8 : Nat → FieldType := fun k => match k with
  | _ => .int
def RJx9f9b0 : String := "java/lang/CharSequence"
def TJx9f9b0 : u_T := fun k => match k with
  | _ => ("", "", "", false)
def tyJx9f9b0 : Nat → FieldType := fun k => match k with
  | _ => .int
def RJx8e188 : String := "java/lang/Cloneable"
def TJx8e188 : u_T := fun k => match k with
  | _ => ("", "", "", false)
def tyJx8e188 : Nat → FieldType := fun k => match k with
  | _ => .int
def RJxb160c : String := "java/lang/Comparable"
def TJxb160c : u_T := fun k => match k with
  | _ => ("", "", "", false)
def tyJxb160c : Nat → FieldType := fun k => match k with
  | _ => .int
def RJ9 : String := "java/lang/Math"
def TJ9 : u_T := fun k => match k with
  | _ => ("", "", "", false)
def tyJ9 : Nat → FieldType := fun k => match k with
  | _ => .int
abbrev cJ9_max_7cf53 : ByteArray := prog_16_method_65_code
def yJ9_max_7cf53 : MethodName := ⟨RJ9, "max", "(II)I"⟩
abbrev cJ9_min_7cf53 : ByteArray := prog_16_method_69_code
def yJ9_min_7cf53 : MethodName := ⟨RJ9, "min", "(II)I"⟩
def RJ0 : String := "java/lang/String"
def TJ0 : u_T := fun k => match k with
  | 0 => ("java/lang/String", "value", "[B", true)
  | 1 => ("java/lang/String", "coder", "B", true)
  | 2 => ("java/lang/String", "hash", "I", false)
  | _ => ("java/lang/String", "hashIsZero", "Z", false)
def tyJ0 : Nat → FieldType := fun k => match k with
  | 0 => .array .byte
  | 1 => .byte
  | 2 => .int
  | _ => .boolean
abbrev cJ0_init_81219 : ByteArray := prog_17_method_53_code
def yJ0_init_81219 : MethodName := ⟨RJ0, "<init>", "(Ljava/lang/StringBuilder;)V"⟩
abbrev cJ0_length_8abf5 : ByteArray := prog_17_method_54_code
def yJ0_length_8abf5 : MethodName := ⟨RJ0, "length", "()I"⟩
abbrev cJ0_charAt_5068e : ByteArray := prog_17_method_56_code
def yJ0_charAt_5068e : MethodName := ⟨RJ0, "charAt", "(I)C"⟩
abbrev cJ0_init_db425 : ByteArray := prog_17_method_150_code
def yJ0_init_db425 : MethodName := ⟨RJ0, "<init>", "(Ljava/lang/AbstractStringBuilder;Ljava/lang/Void;)V"⟩
abbrev cJ0_coder_7d493 : ByteArray := prog_17_method_152_code
def yJ0_coder_7d493 : MethodName := ⟨RJ0, "coder", "()B"⟩
abbrev cJ0_isLatin1_aae02 : ByteArray := prog_17_method_154_code
def yJ0_isLatin1_aae02 : MethodName := ⟨RJ0, "isLatin1", "()Z"⟩
abbrev cJ0_checkIndex_df160 : ByteArray := prog_17_method_155_code
def yJ0_checkIndex_df160 : MethodName := ⟨RJ0, "checkIndex", "(II)V"⟩
abbrev cJ0_checkBoundsOffCount_cabcc : ByteArray := prog_17_method_157_code
def yJ0_checkBoundsOffCount_cabcc : MethodName := ⟨RJ0, "checkBoundsOffCount", "(III)I"⟩
def RJ4 : String := "java/lang/StringBuilder"
def TJ4 : u_T := fun k => match k with
  | 0 => ("java/lang/AbstractStringBuilder", "value", "[B", false)
  | 1 => ("java/lang/AbstractStringBuilder", "coder", "B", false)
  | 2 => ("java/lang/AbstractStringBuilder", "maybeLatin1", "Z", false)
  | _ => ("java/lang/AbstractStringBuilder", "count", "I", false)
def tyJ4 : Nat → FieldType := fun k => match k with
  | 0 => .array .byte
  | 1 => .byte
  | 2 => .boolean
  | _ => .int
abbrev cJ4_init_da8c8 : ByteArray := prog_18_method_1_code
def yJ4_init_da8c8 : MethodName := ⟨RJ4, "<init>", "()V"⟩
abbrev cJ4_append_cf468 : ByteArray := prog_18_method_14_code
def yJ4_append_cf468 : MethodName := ⟨RJ4, "append", "(C)Ljava/lang/StringBuilder;"⟩
abbrev cJ4_toString_0e30d : ByteArray := prog_18_method_42_code
def yJ4_toString_0e30d : MethodName := ⟨RJ4, "toString", "()Ljava/lang/String;"⟩
abbrev cJ4_length_8abf5 : ByteArray := prog_18_method_93_code
def yJ4_length_8abf5 : MethodName := ⟨RJ4, "length", "()I"⟩
def RJ1 : String := "java/lang/StringLatin1"
def TJ1 : u_T := fun k => match k with
  | _ => ("", "", "", false)
def tyJ1 : Nat → FieldType := fun k => match k with
  | _ => .int
abbrev cJ1_charAt_3b067 : ByteArray := prog_19_method_2_code
def yJ1_charAt_3b067 : MethodName := ⟨RJ1, "charAt", "([BI)C"⟩
abbrev cJ1_canEncode_fc78d : ByteArray := prog_19_method_3_code
def yJ1_canEncode_fc78d : MethodName := ⟨RJ1, "canEncode", "(C)Z"⟩
abbrev cJ1_inflate_0e8fd : ByteArray := prog_19_method_50_code
def yJ1_inflate_0e8fd : MethodName := ⟨RJ1, "inflate", "([BI[BII)V"⟩
def RJ2 : String := "java/lang/StringUTF16"
def TJ2 : u_T := fun k => match k with
  | _ => ("", "", "", false)
def tyJ2 : Nat → FieldType := fun k => match k with
  | _ => .int
abbrev cJ2_newBytesFor_77867 : ByteArray := prog_20_method_2_code
def yJ2_newBytesFor_77867 : MethodName := ⟨RJ2, "newBytesFor", "(I)[B"⟩
abbrev cJ2_newBytesLength_0f7a4 : ByteArray := prog_20_method_3_code
def yJ2_newBytesLength_0f7a4 : MethodName := ⟨RJ2, "newBytesLength", "(I)I"⟩
abbrev cJ2_putChar_b72d1 : ByteArray := prog_20_method_4_code
def yJ2_putChar_b72d1 : MethodName := ⟨RJ2, "putChar", "([BII)V"⟩
abbrev cJ2_getChar_3b067 : ByteArray := prog_20_method_5_code
def yJ2_getChar_3b067 : MethodName := ⟨RJ2, "getChar", "([BI)C"⟩
abbrev cJ2_length_9d52b : ByteArray := prog_20_method_6_code
def yJ2_length_9d52b : MethodName := ⟨RJ2, "length", "([B)I"⟩
abbrev cJ2_coderFromArrayLen_85cad : ByteArray := prog_20_method_15_code
def yJ2_coderFromArrayLen_85cad : MethodName := ⟨RJ2, "coderFromArrayLen", "([BI)B"⟩
abbrev cJ2_compress_39247 : ByteArray := prog_20_method_17_code
def yJ2_compress_39247 : MethodName := ⟨RJ2, "compress", "([BII)[B"⟩
abbrev cJ2_compress_5af95 : ByteArray := prog_20_method_22_code
def yJ2_compress_5af95 : MethodName := ⟨RJ2, "compress", "([BI[BII)I"⟩
abbrev cJ2_putCharSB_b72d1 : ByteArray := prog_20_method_71_code
def yJ2_putCharSB_b72d1 : MethodName := ⟨RJ2, "putCharSB", "([BII)V"⟩
abbrev cJ2_charAt_3b067 : ByteArray := prog_20_method_83_code
def yJ2_charAt_3b067 : MethodName := ⟨RJ2, "charAt", "([BI)C"⟩
abbrev cJ2_inflate_0e8fd : ByteArray := prog_20_method_86_code
def yJ2_inflate_0e8fd : MethodName := ⟨RJ2, "inflate", "([BI[BII)V"⟩
abbrev cJ2_checkIndex_2214a : ByteArray := prog_20_method_91_code
def yJ2_checkIndex_2214a : MethodName := ⟨RJ2, "checkIndex", "(I[B)V"⟩
abbrev cJ2_checkBoundsOffCount_d044e : ByteArray := prog_20_method_94_code
def yJ2_checkBoundsOffCount_d044e : MethodName := ⟨RJ2, "checkBoundsOffCount", "(II[B)V"⟩
def RJ10 : String := "java/lang/System"
def TJ10 : u_T := fun k => match k with
  | _ => ("", "", "", false)
def tyJ10 : Nat → FieldType := fun k => match k with
  | _ => .int
def RJxfd54e : String := "java/lang/constant/Constable"
def TJxfd54e : u_T := fun k => match k with
  | _ => ("", "", "", false)
def tyJxfd54e : Nat → FieldType := fun k => match k with
  | _ => .int
def RJx3cf43 : String := "java/lang/constant/ConstantDesc"
def TJx3cf43 : u_T := fun k => match k with
  | _ => ("", "", "", false)
def tyJx3cf43 : Nat → FieldType := fun k => match k with
  | _ => .int
def RJ7 : String := "java/util/Arrays"
def TJ7 : u_T := fun k => match k with
  | _ => ("", "", "", false)
def tyJ7 : Nat → FieldType := fun k => match k with
  | _ => .int
abbrev cJ7_fill_d0a16 : ByteArray := prog_22_method_101_code
def yJ7_fill_d0a16 : MethodName := ⟨RJ7, "fill", "([JJ)V"⟩
abbrev cJ7_fill_53178 : ByteArray := prog_22_method_103_code
def yJ7_fill_53178 : MethodName := ⟨RJ7, "fill", "([II)V"⟩
abbrev cJ7_copyOf_9075b : ByteArray := prog_22_method_121_code
def yJ7_copyOf_9075b : MethodName := ⟨RJ7, "copyOf", "([BI)[B"⟩
abbrev cJ7_checkLength_df160 : ByteArray := prog_22_method_131_code
def yJ7_checkLength_df160 : MethodName := ⟨RJ7, "checkLength", "(II)V"⟩
abbrev cJ7_copyOfRange_39247 : ByteArray := prog_22_method_132_code
def yJ7_copyOfRange_39247 : MethodName := ⟨RJ7, "copyOfRange", "([BII)[B"⟩
abbrev cJ7_copyOfRangeByte_39247 : ByteArray := prog_22_method_133_code
def yJ7_copyOfRangeByte_39247 : MethodName := ⟨RJ7, "copyOfRangeByte", "([BII)[B"⟩
def RJ8 : String := "jdk/internal/util/ArraysSupport"
def TJ8 : u_T := fun k => match k with
  | _ => ("", "", "", false)
def tyJ8 : Nat → FieldType := fun k => match k with
  | _ => .int
abbrev cJ8_newLength_cabcc : ByteArray := prog_23_method_27_code
def yJ8_newLength_cabcc : MethodName := ⟨RJ8, "newLength", "(III)I"⟩
abbrev cJ8_hugeLength_7cf53 : ByteArray := prog_23_method_28_code
def yJ8_hugeLength_7cf53 : MethodName := ⟨RJ8, "hugeLength", "(II)I"⟩
def RJ3 : String := "jdk/internal/util/Preconditions"
def TJ3 : u_T := fun k => match k with
  | _ => ("", "", "", false)
def tyJ3 : Nat → FieldType := fun k => match k with
  | _ => .int
abbrev cJ3_checkIndex_8e157 : ByteArray := prog_24_method_11_code
def yJ3_checkIndex_8e157 : MethodName := ⟨RJ3, "checkIndex", "(IILjava/util/function/BiFunction;)I"⟩
abbrev cJ3_checkFromIndexSize_8c36e : ByteArray := prog_24_method_13_code
def yJ3_checkFromIndexSize_8c36e : MethodName := ⟨RJ3, "checkFromIndexSize", "(IIILjava/util/function/BiFunction;)I"⟩
def RL : String := "HallRegistersLaw"
abbrev cL_cell : ByteArray := method_2_code
def yL_cell : MethodName := ⟨RL, "cell", "([II)I"⟩
abbrev cL_between : ByteArray := method_3_code
def yL_between : MethodName := ⟨RL, "between", "(III)I"⟩
abbrev cL_group : ByteArray := method_4_code
def yL_group : MethodName := ⟨RL, "group", "(LHallRegisters;[I)I"⟩
abbrev cL_sets : ByteArray := method_5_code
def yL_sets : MethodName := ⟨RL, "sets", "(LHallRegisters;[IIIII)V"⟩
abbrev cL_isOne : ByteArray := method_6_code
def yL_isOne : MethodName := ⟨RL, "isOne", "(LHallRegisters;II)Z"⟩
abbrev cL_areSame : ByteArray := method_7_code
def yL_areSame : MethodName := ⟨RL, "areSame", "(LHallRegisters;III)Z"⟩
abbrev cL_types : ByteArray := method_8_code
def yL_types : MethodName := ⟨RL, "types", "(LHallRegisters;Ljava/lang/String;)V"⟩
abbrev cL_makes : ByteArray := method_9_code
def yL_makes : MethodName := ⟨RL, "makes", "(LHallRegisters;III)I"⟩
abbrev cL_inverts : ByteArray := method_10_code
def yL_inverts : MethodName := ⟨RL, "inverts", "(LHallRegisters;II)I"⟩
abbrev cL_law : ByteArray := code
def yL_law : MethodName := ⟨RL, "law", "([I)Z"⟩
abbrev vwCl : List vw_C := [(RX0, TX0, 8), (RX1, TX1, 10), (RX2, TX2, 7), (RX3, TX3, 3), (RX4, TX4, 9), (RX5, TX5, 11), (RX6, TX6, 3), (RX7, TX7, 11), (RX8, TX8, 3), (RX9, TX9, 4), (RX10, TX10, 17), (RX10, TX10, 17), (RJ0, TJ0, 4), (RJ4, TJ4, 4)]
