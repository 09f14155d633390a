section
-- ===== PART A: goes FIRST, ahead of the names: the tables' words, and 'selects' of the private methods out of them =====
/-- a private method of a class that the tables say can be made, by its rows of tables_1 -/
def lw_okq (q : MethodName × Nat) : Prop := (q.1.cls ≠ "java/lang/invoke/MethodHandle" ∧ q.1.cls ≠ "java/lang/invoke/VarHandle") ∧ Cond.instantiable q.1.cls q.2 ∈ tables_1 ∧ Cond.privateMethod q.1 ∈ tables_1 ∧ Cond.instanceMethod q.1 ∈ tables_1
theorem lw_p0 : lw_okq (⟨"HistoryCourt", "tableOf", "(I)LHistoryCourt$Table;"⟩, 10) := ⟨⟨by decide +kernel, by decide +kernel⟩, List.mem_of_getElem? (i := 13) (by decide +kernel), List.mem_of_getElem? (i := 196) (by decide +kernel), List.mem_of_getElem? (i := 197) (by decide +kernel)⟩
theorem lw_p1 : lw_okq (⟨"HistoryCourt", "keep", "(LHistoryCourt$History;)I"⟩, 10) := ⟨⟨by decide +kernel, by decide +kernel⟩, List.mem_of_getElem? (i := 13) (by decide +kernel), List.mem_of_getElem? (i := 220) (by decide +kernel), List.mem_of_getElem? (i := 221) (by decide +kernel)⟩
theorem lw_p2 : lw_okq (⟨"HistoryCourt", "historyOf", "(I)LHistoryCourt$History;"⟩, 10) := ⟨⟨by decide +kernel, by decide +kernel⟩, List.mem_of_getElem? (i := 13) (by decide +kernel), List.mem_of_getElem? (i := 228) (by decide +kernel), List.mem_of_getElem? (i := 229) (by decide +kernel)⟩
theorem lw_p3 : lw_okq (⟨"HistoryCourt$History", "isQuiet", "(II)Z"⟩, 11) := ⟨⟨by decide +kernel, by decide +kernel⟩, List.mem_of_getElem? (i := 31) (by decide +kernel), List.mem_of_getElem? (i := 322) (by decide +kernel), List.mem_of_getElem? (i := 323) (by decide +kernel)⟩
theorem lw_p4 : lw_okq (⟨"HistoryCourt$Search", "open", "(LHistoryCourt$History;IIZ)V"⟩, 6) := ⟨⟨by decide +kernel, by decide +kernel⟩, List.mem_of_getElem? (i := 25) (by decide +kernel), List.mem_of_getElem? (i := 342) (by decide +kernel), List.mem_of_getElem? (i := 343) (by decide +kernel)⟩
theorem lw_p5 : lw_okq (⟨"HistoryCourt$Search", "waysFrom", "(IIJ)J"⟩, 6) := ⟨⟨by decide +kernel, by decide +kernel⟩, List.mem_of_getElem? (i := 25) (by decide +kernel), List.mem_of_getElem? (i := 354) (by decide +kernel), List.mem_of_getElem? (i := 355) (by decide +kernel)⟩
theorem lw_p6 : lw_okq (⟨"HistoryCourt$Search", "isWhole", "(I)Z"⟩, 6) := ⟨⟨by decide +kernel, by decide +kernel⟩, List.mem_of_getElem? (i := 25) (by decide +kernel), List.mem_of_getElem? (i := 371) (by decide +kernel), List.mem_of_getElem? (i := 372) (by decide +kernel)⟩
theorem lw_p7 : lw_okq (⟨"HistoryCourt$Search", "fits", "(IIJ)Z"⟩, 6) := ⟨⟨by decide +kernel, by decide +kernel⟩, List.mem_of_getElem? (i := 25) (by decide +kernel), List.mem_of_getElem? (i := 375) (by decide +kernel), List.mem_of_getElem? (i := 376) (by decide +kernel)⟩
theorem lw_p8 : lw_okq (⟨"HistoryCourt$Search", "firstThatLeadsOn", "(IIJ)I"⟩, 6) := ⟨⟨by decide +kernel, by decide +kernel⟩, List.mem_of_getElem? (i := 25) (by decide +kernel), List.mem_of_getElem? (i := 445) (by decide +kernel), List.mem_of_getElem? (i := 446) (by decide +kernel)⟩
theorem lw_p9 : lw_okq (⟨"HistoryCourt$Search", "collectFrom", "(IIJILHistoryCourt$Answers;)V"⟩, 6) := ⟨⟨by decide +kernel, by decide +kernel⟩, List.mem_of_getElem? (i := 25) (by decide +kernel), List.mem_of_getElem? (i := 480) (by decide +kernel), List.mem_of_getElem? (i := 481) (by decide +kernel)⟩
theorem lw_p10 : lw_okq (⟨"HistoryCourtModel", "isHistory", "(I)Z"⟩, 30) := ⟨⟨by decide +kernel, by decide +kernel⟩, List.mem_of_getElem? (i := 516) (by decide +kernel), List.mem_of_getElem? (i := 631) (by decide +kernel), List.mem_of_getElem? (i := 632) (by decide +kernel)⟩
theorem lw_p11 : lw_okq (⟨"HistoryCourtModel", "isOpen", "(II)Z"⟩, 30) := ⟨⟨by decide +kernel, by decide +kernel⟩, List.mem_of_getElem? (i := 516) (by decide +kernel), List.mem_of_getElem? (i := 642) (by decide +kernel), List.mem_of_getElem? (i := 643) (by decide +kernel)⟩
theorem lw_p12 : lw_okq (⟨"HistoryCourtModel", "isCall", "(II)Z"⟩, 30) := ⟨⟨by decide +kernel, by decide +kernel⟩, List.mem_of_getElem? (i := 516) (by decide +kernel), List.mem_of_getElem? (i := 650) (by decide +kernel), List.mem_of_getElem? (i := 651) (by decide +kernel)⟩
theorem lw_p13 : lw_okq (⟨"HistoryCourtModel", "all", "(I)I"⟩, 30) := ⟨⟨by decide +kernel, by decide +kernel⟩, List.mem_of_getElem? (i := 516) (by decide +kernel), List.mem_of_getElem? (i := 681) (by decide +kernel), List.mem_of_getElem? (i := 682) (by decide +kernel)⟩
theorem lw_p14 : lw_okq (⟨"HistoryCourtModel", "isAhead", "(IIIII)Z"⟩, 30) := ⟨⟨by decide +kernel, by decide +kernel⟩, List.mem_of_getElem? (i := 516) (by decide +kernel), List.mem_of_getElem? (i := 685) (by decide +kernel), List.mem_of_getElem? (i := 686) (by decide +kernel)⟩
theorem lw_p15 : lw_okq (⟨"HistoryCourtModel", "isQuiet", "(III)Z"⟩, 30) := ⟨⟨by decide +kernel, by decide +kernel⟩, List.mem_of_getElem? (i := 516) (by decide +kernel), List.mem_of_getElem? (i := 689) (by decide +kernel), List.mem_of_getElem? (i := 690) (by decide +kernel)⟩
def lw_privs_1 : List (MethodName × Nat) := [(⟨"HistoryCourt", "tableOf", "(I)LHistoryCourt$Table;"⟩, 10), (⟨"HistoryCourt", "keep", "(LHistoryCourt$History;)I"⟩, 10), (⟨"HistoryCourt", "historyOf", "(I)LHistoryCourt$History;"⟩, 10), (⟨"HistoryCourt$History", "isQuiet", "(II)Z"⟩, 11), (⟨"HistoryCourt$Search", "open", "(LHistoryCourt$History;IIZ)V"⟩, 6), (⟨"HistoryCourt$Search", "waysFrom", "(IIJ)J"⟩, 6), (⟨"HistoryCourt$Search", "isWhole", "(I)Z"⟩, 6), (⟨"HistoryCourt$Search", "fits", "(IIJ)Z"⟩, 6), (⟨"HistoryCourt$Search", "firstThatLeadsOn", "(IIJ)I"⟩, 6), (⟨"HistoryCourt$Search", "collectFrom", "(IIJILHistoryCourt$Answers;)V"⟩, 6), (⟨"HistoryCourtModel", "isHistory", "(I)Z"⟩, 30), (⟨"HistoryCourtModel", "isOpen", "(II)Z"⟩, 30), (⟨"HistoryCourtModel", "isCall", "(II)Z"⟩, 30), (⟨"HistoryCourtModel", "all", "(I)I"⟩, 30), (⟨"HistoryCourtModel", "isAhead", "(IIIII)Z"⟩, 30), (⟨"HistoryCourtModel", "isQuiet", "(III)Z"⟩, 30)]
theorem lw_r1 : ∀ q ∈ lw_privs_1, lw_okq q := List.forall_mem_cons.mpr ⟨lw_p0, List.forall_mem_cons.mpr ⟨lw_p1, List.forall_mem_cons.mpr ⟨lw_p2, List.forall_mem_cons.mpr ⟨lw_p3, List.forall_mem_cons.mpr ⟨lw_p4, List.forall_mem_cons.mpr ⟨lw_p5, List.forall_mem_cons.mpr ⟨lw_p6, List.forall_mem_cons.mpr ⟨lw_p7, List.forall_mem_cons.mpr ⟨lw_p8, List.forall_mem_cons.mpr ⟨lw_p9, List.forall_mem_cons.mpr ⟨lw_p10, List.forall_mem_cons.mpr ⟨lw_p11, List.forall_mem_cons.mpr ⟨lw_p12, List.forall_mem_cons.mpr ⟨lw_p13, List.forall_mem_cons.mpr ⟨lw_p14, List.forall_mem_cons.mpr ⟨lw_p15, fun _ h => absurd h List.not_mem_nil⟩⟩⟩⟩⟩⟩⟩⟩⟩⟩⟩⟩⟩⟩⟩⟩
theorem lw_p16 : lw_okq (⟨"HistoryCourtModel", "isTaken", "(III)Z"⟩, 30) := ⟨⟨by decide +kernel, by decide +kernel⟩, List.mem_of_getElem? (i := 516) (by decide +kernel), List.mem_of_getElem? (i := 697) (by decide +kernel), List.mem_of_getElem? (i := 698) (by decide +kernel)⟩
theorem lw_p17 : lw_okq (⟨"HistoryCourtModel", "prepare", "(III)V"⟩, 30) := ⟨⟨by decide +kernel, by decide +kernel⟩, List.mem_of_getElem? (i := 516) (by decide +kernel), List.mem_of_getElem? (i := 701) (by decide +kernel), List.mem_of_getElem? (i := 702) (by decide +kernel)⟩
theorem lw_p18 : lw_okq (⟨"HistoryCourtModel", "begins", "()V"⟩, 30) := ⟨⟨by decide +kernel, by decide +kernel⟩, List.mem_of_getElem? (i := 516) (by decide +kernel), List.mem_of_getElem? (i := 705) (by decide +kernel), List.mem_of_getElem? (i := 706) (by decide +kernel)⟩
theorem lw_p19 : lw_okq (⟨"HistoryCourtModel", "answeredOf", "(II)I"⟩, 30) := ⟨⟨by decide +kernel, by decide +kernel⟩, List.mem_of_getElem? (i := 516) (by decide +kernel), List.mem_of_getElem? (i := 709) (by decide +kernel), List.mem_of_getElem? (i := 710) (by decide +kernel)⟩
theorem lw_p20 : lw_okq (⟨"HistoryCourtModel", "goes", "(IIIII)Z"⟩, 30) := ⟨⟨by decide +kernel, by decide +kernel⟩, List.mem_of_getElem? (i := 516) (by decide +kernel), List.mem_of_getElem? (i := 713) (by decide +kernel), List.mem_of_getElem? (i := 714) (by decide +kernel)⟩
theorem lw_p21 : lw_okq (⟨"HistoryCourtModel", "fill", "([II)V"⟩, 30) := ⟨⟨by decide +kernel, by decide +kernel⟩, List.mem_of_getElem? (i := 516) (by decide +kernel), List.mem_of_getElem? (i := 717) (by decide +kernel), List.mem_of_getElem? (i := 718) (by decide +kernel)⟩
theorem lw_p22 : lw_okq (⟨"HistoryCourtModel", "comes", "(III)I"⟩, 30) := ⟨⟨by decide +kernel, by decide +kernel⟩, List.mem_of_getElem? (i := 516) (by decide +kernel), List.mem_of_getElem? (i := 721) (by decide +kernel), List.mem_of_getElem? (i := 722) (by decide +kernel)⟩
theorem lw_p23 : lw_okq (⟨"HistoryCourtModel", "cell", "(IIIII)I"⟩, 30) := ⟨⟨by decide +kernel, by decide +kernel⟩, List.mem_of_getElem? (i := 516) (by decide +kernel), List.mem_of_getElem? (i := 725) (by decide +kernel), List.mem_of_getElem? (i := 726) (by decide +kernel)⟩
theorem lw_p24 : lw_okq (⟨"HistoryCourtModel", "line", "(IZII)I"⟩, 30) := ⟨⟨by decide +kernel, by decide +kernel⟩, List.mem_of_getElem? (i := 516) (by decide +kernel), List.mem_of_getElem? (i := 729) (by decide +kernel), List.mem_of_getElem? (i := 730) (by decide +kernel)⟩
def lw_privs_2 : List (MethodName × Nat) := [(⟨"HistoryCourtModel", "isTaken", "(III)Z"⟩, 30), (⟨"HistoryCourtModel", "prepare", "(III)V"⟩, 30), (⟨"HistoryCourtModel", "begins", "()V"⟩, 30), (⟨"HistoryCourtModel", "answeredOf", "(II)I"⟩, 30), (⟨"HistoryCourtModel", "goes", "(IIIII)Z"⟩, 30), (⟨"HistoryCourtModel", "fill", "([II)V"⟩, 30), (⟨"HistoryCourtModel", "comes", "(III)I"⟩, 30), (⟨"HistoryCourtModel", "cell", "(IIIII)I"⟩, 30), (⟨"HistoryCourtModel", "line", "(IZII)I"⟩, 30)]
theorem lw_r2 : ∀ q ∈ lw_privs_2, lw_okq q := List.forall_mem_cons.mpr ⟨lw_p16, List.forall_mem_cons.mpr ⟨lw_p17, List.forall_mem_cons.mpr ⟨lw_p18, List.forall_mem_cons.mpr ⟨lw_p19, List.forall_mem_cons.mpr ⟨lw_p20, List.forall_mem_cons.mpr ⟨lw_p21, List.forall_mem_cons.mpr ⟨lw_p22, List.forall_mem_cons.mpr ⟨lw_p23, List.forall_mem_cons.mpr ⟨lw_p24, fun _ h => absurd h List.not_mem_nil⟩⟩⟩⟩⟩⟩⟩⟩⟩
def lw_privs : List (MethodName × Nat) := lw_privs_1 ++ (lw_privs_2)
def lw_tbl : List Cond := k2_sels lw_privs ++ tables_1
theorem lw_privs_ok : ∀ q ∈ lw_privs, lw_okq q := by
  show ∀ q ∈ lw_privs_1 ++ (lw_privs_2), lw_okq q
  exact List.forall_mem_append.mpr ⟨lw_r1, lw_r2⟩

def RX0 : String := "HistoryCourt$Answers"
def TX0 : u_T := fun k => match k with
  | 0 => ("HistoryCourt$Answers", "values", "[I", true)
  | _ => ("HistoryCourt$Answers", "count", "I", false)
def tyX0 : Nat → FieldType := fun k => match k with
  | 0 => .array .int
  | _ => .int
abbrev wsX00 : List Cond := u_ws RX0 TX0 2
theorem nmX0 : ∀ a, a < 2 → ∀ b, b < 2 → a ≠ b → (TX0 a).2.1 ≠ (TX0 b).2.1 := by decide +kernel
theorem tyX0_ok : ∀ k, k < 2 → parseFieldDescriptor (TX0 k).2.2.1 = some (tyX0 k) := by decide +kernel
abbrev cX0_init : ByteArray := prog_2_method_1_code
def yX0_init : MethodName := ⟨RX0, "<init>", "()V"⟩
abbrev cX0_add : ByteArray := prog_2_method_2_code
def yX0_add : MethodName := ⟨RX0, "add", "(I)V"⟩
def RX1 : String := "HistoryCourt$History"
def TX1 : u_T := fun k => match k with
  | 0 => ("HistoryCourt$History", "kind", "I", true)
  | 1 => ("HistoryCourt$History", "table", "LHistoryCourt$Table;", true)
  | 2 => ("HistoryCourt$History", "calls", "I", false)
  | 3 => ("HistoryCourt$History", "ticks", "I", false)
  | 4 => ("HistoryCourt$History", "caller", "[I", true)
  | 5 => ("HistoryCourt$History", "act", "[I", true)
  | 6 => ("HistoryCourt$History", "a", "[I", true)
  | 7 => ("HistoryCourt$History", "b", "[I", true)
  | 8 => ("HistoryCourt$History", "begun", "[I", true)
  | 9 => ("HistoryCourt$History", "ended", "[I", true)
  | _ => ("HistoryCourt$History", "value", "[I", true)
def tyX1 : Nat → FieldType := fun k => match k with
  | 0 => .int
  | 1 => .object "HistoryCourt$Table"
  | 2 => .int
  | 3 => .int
  | 4 => .array .int
  | 5 => .array .int
  | 6 => .array .int
  | 7 => .array .int
  | 8 => .array .int
  | 9 => .array .int
  | _ => .array .int
abbrev wsX10 : List Cond := u_ws RX1 TX1 11
theorem nmX1 : ∀ a, a < 11 → ∀ b, b < 11 → a ≠ b → (TX1 a).2.1 ≠ (TX1 b).2.1 := by decide +kernel
theorem tyX1_ok : ∀ k, k < 11 → parseFieldDescriptor (TX1 k).2.2.1 = some (tyX1 k) := by decide +kernel
abbrev cX1_init : ByteArray := prog_3_method_1_code
def yX1_init : MethodName := ⟨RX1, "<init>", "(ILHistoryCourt$Table;)V"⟩
abbrev cX1_twin : ByteArray := prog_3_method_2_code
def yX1_twin : MethodName := ⟨RX1, "twin", "()LHistoryCourt$History;"⟩
abbrev cX1_hasCall : ByteArray := prog_3_method_3_code
def yX1_hasCall : MethodName := ⟨RX1, "hasCall", "(I)Z"⟩
abbrev cX1_isOpen : ByteArray := prog_3_method_4_code
def yX1_isOpen : MethodName := ⟨RX1, "isOpen", "(I)Z"⟩
abbrev cX1_isWaiting : ByteArray := prog_3_method_5_code
def yX1_isWaiting : MethodName := ⟨RX1, "isWaiting", "(I)Z"⟩
abbrev cX1_start : ByteArray := prog_3_method_6_code
def yX1_start : MethodName := ⟨RX1, "start", "(IIII)I"⟩
abbrev cX1_end : ByteArray := prog_3_method_7_code
def yX1_end : MethodName := ⟨RX1, "end", "(II)I"⟩
abbrev cX1_allCalls : ByteArray := prog_3_method_8_code
def yX1_allCalls : MethodName := ⟨RX1, "allCalls", "()I"⟩
abbrev cX1_endedCalls : ByteArray := prog_3_method_9_code
def yX1_endedCalls : MethodName := ⟨RX1, "endedCalls", "()I"⟩
abbrev cX1_callsWith : ByteArray := prog_3_method_10_code
def yX1_callsWith : MethodName := ⟨RX1, "callsWith", "(I)I"⟩
abbrev cX1_quietTicks : ByteArray := prog_3_method_11_code
def yX1_quietTicks : MethodName := ⟨RX1, "quietTicks", "(I)I"⟩
abbrev cX1_isQuiet : ByteArray := prog_3_method_12_code
def yX1_isQuiet : MethodName := ⟨RX1, "isQuiet", "(II)Z"⟩
abbrev cX1_isAhead : ByteArray := prog_3_method_13_code
def yX1_isAhead : MethodName := ⟨RX1, "isAhead", "(IIII)Z"⟩
def RX2 : String := "HistoryCourt$Memo"
def TX2 : u_T := fun k => match k with
  | 0 => ("HistoryCourt$Memo", "keys", "[J", true)
  | 1 => ("HistoryCourt$Memo", "values", "[J", true)
  | 2 => ("HistoryCourt$Memo", "ages", "[I", true)
  | _ => ("HistoryCourt$Memo", "age", "I", false)
def tyX2 : Nat → FieldType := fun k => match k with
  | 0 => .array .long
  | 1 => .array .long
  | 2 => .array .int
  | _ => .int
abbrev wsX20 : List Cond := u_ws RX2 TX2 4
theorem nmX2 : ∀ a, a < 4 → ∀ b, b < 4 → a ≠ b → (TX2 a).2.1 ≠ (TX2 b).2.1 := by decide +kernel
theorem tyX2_ok : ∀ k, k < 4 → parseFieldDescriptor (TX2 k).2.2.1 = some (tyX2 k) := by decide +kernel
abbrev cX2_init : ByteArray := prog_4_method_1_code
def yX2_init : MethodName := ⟨RX2, "<init>", "()V"⟩
abbrev cX2_forget : ByteArray := prog_4_method_2_code
def yX2_forget : MethodName := ⟨RX2, "forget", "()V"⟩
abbrev cX2_placeOf : ByteArray := prog_4_method_3_code
def yX2_placeOf : MethodName := ⟨RX2, "placeOf", "(J)I"⟩
abbrev cX2_valueOf : ByteArray := prog_4_method_4_code
def yX2_valueOf : MethodName := ⟨RX2, "valueOf", "(J)J"⟩
abbrev cX2_put : ByteArray := prog_4_method_5_code
def yX2_put : MethodName := ⟨RX2, "put", "(JJ)V"⟩
def RX3 : String := "HistoryCourt$Model"
def TX3 : u_T := fun k => match k with
  | _ => ("", "", "", false)
def tyX3 : Nat → FieldType := fun k => match k with
  | _ => .int
abbrev wsX30 : List Cond := u_ws RX3 TX3 0
theorem nmX3 : ∀ a, a < 0 → ∀ b, b < 0 → a ≠ b → (TX3 a).2.1 ≠ (TX3 b).2.1 := by decide +kernel
theorem tyX3_ok : ∀ k, k < 0 → parseFieldDescriptor (TX3 k).2.2.1 = some (tyX3 k) := by decide +kernel
abbrev cX3_isKind : ByteArray := prog_5_method_2_code
def yX3_isKind : MethodName := ⟨RX3, "isKind", "(I)Z"⟩
abbrev cX3_allows : ByteArray := prog_5_method_3_code
def yX3_allows : MethodName := ⟨RX3, "allows", "(III)Z"⟩
abbrev cX3_reply : ByteArray := prog_5_method_4_code
def yX3_reply : MethodName := ⟨RX3, "reply", "(LHistoryCourt$History;IJ)I"⟩
abbrev cX3_after : ByteArray := prog_5_method_5_code
def yX3_after : MethodName := ⟨RX3, "after", "(LHistoryCourt$History;IJ)J"⟩
abbrev cX3_cellReply : ByteArray := prog_5_method_6_code
def yX3_cellReply : MethodName := ⟨RX3, "cellReply", "(III)I"⟩
abbrev cX3_cellAfter : ByteArray := prog_5_method_7_code
def yX3_cellAfter : MethodName := ⟨RX3, "cellAfter", "(LHistoryCourt$History;IJ)J"⟩
abbrev cX3_lengthOf : ByteArray := prog_5_method_8_code
def yX3_lengthOf : MethodName := ⟨RX3, "lengthOf", "(J)I"⟩
abbrev cX3_taken : ByteArray := prog_5_method_9_code
def yX3_taken : MethodName := ⟨RX3, "taken", "(LHistoryCourt$History;J)I"⟩
abbrev cX3_putBehind : ByteArray := prog_5_method_10_code
def yX3_putBehind : MethodName := ⟨RX3, "putBehind", "(IJ)J"⟩
abbrev cX3_setReply : ByteArray := prog_5_method_11_code
def yX3_setReply : MethodName := ⟨RX3, "setReply", "(IZ)I"⟩
abbrev cX3_setAfter : ByteArray := prog_5_method_12_code
def yX3_setAfter : MethodName := ⟨RX3, "setAfter", "(IJJ)J"⟩
abbrev cX3_valueAt : ByteArray := prog_5_method_13_code
def yX3_valueAt : MethodName := ⟨RX3, "valueAt", "(LHistoryCourt$History;JI)I"⟩
abbrev cX3_mapAfter : ByteArray := prog_5_method_14_code
def yX3_mapAfter : MethodName := ⟨RX3, "mapAfter", "(LHistoryCourt$History;IJ)J"⟩
def RX4 : String := "HistoryCourt$Search"
def TX4 : u_T := fun k => match k with
  | 0 => ("HistoryCourt$Search", "history", "LHistoryCourt$History;", false)
  | 1 => ("HistoryCourt$Search", "part", "I", false)
  | 2 => ("HistoryCourt$Search", "due", "I", false)
  | 3 => ("HistoryCourt$Search", "aheadOf", "[I", true)
  | 4 => ("HistoryCourt$Search", "oneIsEnough", "Z", false)
  | _ => ("HistoryCourt$Search", "memo", "LHistoryCourt$Memo;", true)
def tyX4 : Nat → FieldType := fun k => match k with
  | 0 => .object "HistoryCourt$History"
  | 1 => .int
  | 2 => .int
  | 3 => .array .int
  | 4 => .boolean
  | _ => .object "HistoryCourt$Memo"
abbrev wsX40 : List Cond := u_ws RX4 TX4 6
theorem nmX4 : ∀ a, a < 6 → ∀ b, b < 6 → a ≠ b → (TX4 a).2.1 ≠ (TX4 b).2.1 := by decide +kernel
theorem tyX4_ok : ∀ k, k < 6 → parseFieldDescriptor (TX4 k).2.2.1 = some (tyX4 k) := by decide +kernel
abbrev cX4_init : ByteArray := prog_6_method_1_code
def yX4_init : MethodName := ⟨RX4, "<init>", "()V"⟩
abbrev cX4_takes : ByteArray := prog_6_method_2_code
def yX4_takes : MethodName := ⟨RX4, "takes", "(LHistoryCourt$History;II)Z"⟩
abbrev cX4_count : ByteArray := prog_6_method_3_code
def yX4_count : MethodName := ⟨RX4, "count", "(LHistoryCourt$History;I)J"⟩
abbrev cX4_firstAt : ByteArray := prog_6_method_4_code
def yX4_firstAt : MethodName := ⟨RX4, "firstAt", "(LHistoryCourt$History;II)I"⟩
abbrev cX4_leastPart : ByteArray := prog_6_method_5_code
def yX4_leastPart : MethodName := ⟨RX4, "leastPart", "(LHistoryCourt$History;I)I"⟩
abbrev cX4_collect : ByteArray := prog_6_method_6_code
def yX4_collect : MethodName := ⟨RX4, "collect", "(LHistoryCourt$History;IILHistoryCourt$Answers;)V"⟩
abbrev cX4_firstFault : ByteArray := prog_6_method_7_code
def yX4_firstFault : MethodName := ⟨RX4, "firstFault", "(LHistoryCourt$History;I[II)I"⟩
abbrev cX4_open : ByteArray := prog_6_method_8_code
def yX4_open : MethodName := ⟨RX4, "open", "(LHistoryCourt$History;IIZ)V"⟩
abbrev cX4_isWhole : ByteArray := prog_6_method_9_code
def yX4_isWhole : MethodName := ⟨RX4, "isWhole", "(I)Z"⟩
abbrev cX4_fits : ByteArray := prog_6_method_10_code
def yX4_fits : MethodName := ⟨RX4, "fits", "(IIJ)Z"⟩
abbrev cX4_keyOf : ByteArray := prog_6_method_11_code
def yX4_keyOf : MethodName := ⟨RX4, "keyOf", "(IJ)J"⟩
abbrev cX4_waysFrom : ByteArray := prog_6_method_12_code
def yX4_waysFrom : MethodName := ⟨RX4, "waysFrom", "(IIJ)J"⟩
abbrev cX4_firstThatLeadsOn : ByteArray := prog_6_method_13_code
def yX4_firstThatLeadsOn : MethodName := ⟨RX4, "firstThatLeadsOn", "(IIJ)I"⟩
abbrev cX4_collectFrom : ByteArray := prog_6_method_14_code
def yX4_collectFrom : MethodName := ⟨RX4, "collectFrom", "(IIJILHistoryCourt$Answers;)V"⟩
def RX5 : String := "HistoryCourt$Table"
def TX5 : u_T := fun k => match k with
  | 0 => ("HistoryCourt$Table", "answers", "[I", true)
  | 1 => ("HistoryCourt$Table", "nexts", "[I", true)
  | _ => ("HistoryCourt$Table", "isUsed", "Z", false)
def tyX5 : Nat → FieldType := fun k => match k with
  | 0 => .array .int
  | 1 => .array .int
  | _ => .boolean
abbrev wsX50 : List Cond := u_ws RX5 TX5 3
theorem nmX5 : ∀ a, a < 3 → ∀ b, b < 3 → a ≠ b → (TX5 a).2.1 ≠ (TX5 b).2.1 := by decide +kernel
theorem tyX5_ok : ∀ k, k < 3 → parseFieldDescriptor (TX5 k).2.2.1 = some (tyX5 k) := by decide +kernel
abbrev cX5_init : ByteArray := prog_7_method_1_code
def yX5_init : MethodName := ⟨RX5, "<init>", "()V"⟩
abbrev cX5_has : ByteArray := prog_7_method_2_code
def yX5_has : MethodName := ⟨RX5, "has", "(JI)Z"⟩
abbrev cX5_placeOf : ByteArray := prog_7_method_3_code
def yX5_placeOf : MethodName := ⟨RX5, "placeOf", "(JI)I"⟩
abbrev cX5_tell : ByteArray := prog_7_method_4_code
def yX5_tell : MethodName := ⟨RX5, "tell", "(IIII)V"⟩
abbrev cX5_answerIn : ByteArray := prog_7_method_5_code
def yX5_answerIn : MethodName := ⟨RX5, "answerIn", "(JI)I"⟩
abbrev cX5_nextIn : ByteArray := prog_7_method_6_code
def yX5_nextIn : MethodName := ⟨RX5, "nextIn", "(JI)I"⟩
def RX6 : String := "HistoryCourt"
def TX6 : u_T := fun k => match k with
  | 0 => ("HistoryCourt", "tables", "[LHistoryCourt$Table;", true)
  | 1 => ("HistoryCourt", "tableCount", "I", false)
  | 2 => ("HistoryCourt", "histories", "[LHistoryCourt$History;", true)
  | 3 => ("HistoryCourt", "historyCount", "I", false)
  | 4 => ("HistoryCourt", "search", "LHistoryCourt$Search;", true)
  | 5 => ("HistoryCourt", "fillings", "LHistoryCourt$Answers;", true)
  | 6 => ("HistoryCourt", "leastPart", "I", false)
  | 7 => ("HistoryCourt", "said", "[I", true)
  | 8 => ("HistoryCourt", "saidCount", "I", false)
  | _ => ("HistoryCourt", "status", "I", false)
def tyX6 : Nat → FieldType := fun k => match k with
  | 0 => .array (.object "HistoryCourt$Table")
  | 1 => .int
  | 2 => .array (.object "HistoryCourt$History")
  | 3 => .int
  | 4 => .object "HistoryCourt$Search"
  | 5 => .object "HistoryCourt$Answers"
  | 6 => .int
  | 7 => .array .int
  | 8 => .int
  | _ => .int
abbrev wsX60 : List Cond := u_ws RX6 TX6 10
theorem nmX6 : ∀ a, a < 10 → ∀ b, b < 10 → a ≠ b → (TX6 a).2.1 ≠ (TX6 b).2.1 := by decide +kernel
theorem tyX6_ok : ∀ k, k < 10 → parseFieldDescriptor (TX6 k).2.2.1 = some (tyX6 k) := by decide +kernel
abbrev cX6_init : ByteArray := prog_1_method_1_code
def yX6_init : MethodName := ⟨RX6, "<init>", "()V"⟩
abbrev cX6_machine : ByteArray := prog_1_method_2_code
def yX6_machine : MethodName := ⟨RX6, "machine", "()I"⟩
abbrev cX6_row : ByteArray := prog_1_method_3_code
def yX6_row : MethodName := ⟨RX6, "row", "(IIIII)I"⟩
abbrev cX6_history : ByteArray := prog_1_method_4_code
def yX6_history : MethodName := ⟨RX6, "history", "(II)I"⟩
abbrev cX6_copy : ByteArray := prog_1_method_5_code
def yX6_copy : MethodName := ⟨RX6, "copy", "(I)I"⟩
abbrev cX6_begin : ByteArray := prog_1_method_6_code
def yX6_begin : MethodName := ⟨RX6, "begin", "(IIIII)I"⟩
abbrev cX6_answer : ByteArray := prog_1_method_7_code
def yX6_answer : MethodName := ⟨RX6, "answer", "(III)I"⟩
abbrev cX6_alter : ByteArray := prog_1_method_8_code
def yX6_alter : MethodName := ⟨RX6, "alter", "(III)I"⟩
abbrev cX6_status : ByteArray := prog_1_method_9_code
def yX6_status : MethodName := ⟨RX6, "status", "()I"⟩
abbrev cX6_answered : ByteArray := prog_1_method_10_code
def yX6_answered : MethodName := ⟨RX6, "answered", "(II)I"⟩
abbrev cX6_call : ByteArray := prog_1_method_11_code
def yX6_call : MethodName := ⟨RX6, "call", "(III)I"⟩
abbrev cX6_about : ByteArray := prog_1_method_12_code
def yX6_about : MethodName := ⟨RX6, "about", "(II)I"⟩
abbrev cX6_ahead : ByteArray := prog_1_method_13_code
def yX6_ahead : MethodName := ⟨RX6, "ahead", "(IIII)I"⟩
abbrev cX6_judge : ByteArray := prog_1_method_14_code
def yX6_judge : MethodName := ⟨RX6, "judge", "(II)I"⟩
abbrev cX6_first : ByteArray := prog_1_method_15_code
def yX6_first : MethodName := ⟨RX6, "first", "(III)I"⟩
abbrev cX6_orders : ByteArray := prog_1_method_16_code
def yX6_orders : MethodName := ⟨RX6, "orders", "(II)J"⟩
abbrev cX6_least : ByteArray := prog_1_method_17_code
def yX6_least : MethodName := ⟨RX6, "least", "(II)I"⟩
abbrev cX6_part : ByteArray := prog_1_method_18_code
def yX6_part : MethodName := ⟨RX6, "part", "(I)I"⟩
abbrev cX6_fills : ByteArray := prog_1_method_19_code
def yX6_fills : MethodName := ⟨RX6, "fills", "(III)I"⟩
abbrev cX6_fill : ByteArray := prog_1_method_20_code
def yX6_fill : MethodName := ⟨RX6, "fill", "(I)I"⟩
abbrev cX6_apart : ByteArray := prog_1_method_21_code
def yX6_apart : MethodName := ⟨RX6, "apart", "(III)I"⟩
abbrev cX6_rules : ByteArray := prog_1_method_22_code
def yX6_rules : MethodName := ⟨RX6, "rules", "(I)I"⟩
abbrev cX6_say : ByteArray := prog_1_method_23_code
def yX6_say : MethodName := ⟨RX6, "say", "(I)I"⟩
abbrev cX6_check : ByteArray := prog_1_method_24_code
def yX6_check : MethodName := ⟨RX6, "check", "(II)I"⟩
abbrev cX6_tableOf : ByteArray := prog_1_method_25_code
def yX6_tableOf : MethodName := ⟨RX6, "tableOf", "(I)LHistoryCourt$Table;"⟩
abbrev cX6_historyOf : ByteArray := prog_1_method_26_code
def yX6_historyOf : MethodName := ⟨RX6, "historyOf", "(I)LHistoryCourt$History;"⟩
abbrev cX6_keep : ByteArray := prog_1_method_27_code
def yX6_keep : MethodName := ⟨RX6, "keep", "(LHistoryCourt$History;)I"⟩
abbrev cX6_isRule : ByteArray := prog_1_method_28_code
def yX6_isRule : MethodName := ⟨RX6, "isRule", "(I)Z"⟩
abbrev cX6_holds : ByteArray := prog_1_method_29_code
def yX6_holds : MethodName := ⟨RX6, "holds", "(II)Z"⟩
def RX7 : String := "HistoryCourtModel"
def TX7 : u_T := fun k => match k with
  | 0 => ("HistoryCourtModel", "thrown", "I", false)
  | 1 => ("HistoryCourtModel", "answers", "[I", true)
  | 2 => ("HistoryCourtModel", "nexts", "[I", true)
  | 3 => ("HistoryCourtModel", "machines", "I", false)
  | 4 => ("HistoryCourtModel", "histories", "I", false)
  | 5 => ("HistoryCourtModel", "kind", "[I", true)
  | 6 => ("HistoryCourtModel", "machineOf", "[I", true)
  | 7 => ("HistoryCourtModel", "calls", "[I", true)
  | 8 => ("HistoryCourtModel", "ticks", "[I", true)
  | 9 => ("HistoryCourtModel", "caller", "[I", true)
  | 10 => ("HistoryCourtModel", "act", "[I", true)
  | 11 => ("HistoryCourtModel", "argA", "[I", true)
  | 12 => ("HistoryCourtModel", "argB", "[I", true)
  | 13 => ("HistoryCourtModel", "begun", "[I", true)
  | 14 => ("HistoryCourtModel", "ended", "[I", true)
  | 15 => ("HistoryCourtModel", "gave", "[I", true)
  | 16 => ("HistoryCourtModel", "status", "I", false)
  | 17 => ("HistoryCourtModel", "thing", "[I", true)
  | 18 => ("HistoryCourtModel", "order", "[I", true)
  | 19 => ("HistoryCourtModel", "told", "[I", true)
  | 20 => ("HistoryCourtModel", "behind", "[I", true)
  | 21 => ("HistoryCourtModel", "found", "I", false)
  | 22 => ("HistoryCourtModel", "many", "J", false)
  | 23 => ("HistoryCourtModel", "asks", "I", false)
  | 24 => ("HistoryCourtModel", "asked", "I", false)
  | 25 => ("HistoryCourtModel", "fills", "[I", true)
  | 26 => ("HistoryCourtModel", "filled", "I", false)
  | 27 => ("HistoryCourtModel", "partOf", "I", false)
  | 28 => ("HistoryCourtModel", "said", "[I", true)
  | _ => ("HistoryCourtModel", "saids", "I", false)
def tyX7 : Nat → FieldType := fun k => match k with
  | 0 => .int
  | 1 => .array .int
  | 2 => .array .int
  | 3 => .int
  | 4 => .int
  | 5 => .array .int
  | 6 => .array .int
  | 7 => .array .int
  | 8 => .array .int
  | 9 => .array .int
  | 10 => .array .int
  | 11 => .array .int
  | 12 => .array .int
  | 13 => .array .int
  | 14 => .array .int
  | 15 => .array .int
  | 16 => .int
  | 17 => .array .int
  | 18 => .array .int
  | 19 => .array .int
  | 20 => .array .int
  | 21 => .int
  | 22 => .long
  | 23 => .int
  | 24 => .int
  | 25 => .array .int
  | 26 => .int
  | 27 => .int
  | 28 => .array .int
  | _ => .int
abbrev wsX70 : List Cond := u_ws RX7 TX7 30
theorem nmX7 : ∀ a, a < 30 → ∀ b, b < 30 → a ≠ b → (TX7 a).2.1 ≠ (TX7 b).2.1 := by decide +kernel
theorem tyX7_ok : ∀ k, k < 30 → parseFieldDescriptor (TX7 k).2.2.1 = some (tyX7 k) := by decide +kernel
abbrev cX7_init : ByteArray := prog_9_method_1_code
def yX7_init : MethodName := ⟨RX7, "<init>", "()V"⟩
abbrev cX7_in : ByteArray := prog_9_method_3_code
def yX7_in : MethodName := ⟨RX7, "in", "(III)Z"⟩
abbrev cX7_machine : ByteArray := prog_9_method_4_code
def yX7_machine : MethodName := ⟨RX7, "machine", "()I"⟩
abbrev cX7_row : ByteArray := prog_9_method_5_code
def yX7_row : MethodName := ⟨RX7, "row", "(IIIII)I"⟩
abbrev cX7_isHistory : ByteArray := prog_9_method_6_code
def yX7_isHistory : MethodName := ⟨RX7, "isHistory", "(I)Z"⟩
abbrev cX7_isCall : ByteArray := prog_9_method_7_code
def yX7_isCall : MethodName := ⟨RX7, "isCall", "(II)Z"⟩
abbrev cX7_isOpen : ByteArray := prog_9_method_8_code
def yX7_isOpen : MethodName := ⟨RX7, "isOpen", "(II)Z"⟩
abbrev cX7_isRule : ByteArray := prog_9_method_9_code
def yX7_isRule : MethodName := ⟨RX7, "isRule", "(I)Z"⟩
abbrev cX7_history : ByteArray := prog_9_method_10_code
def yX7_history : MethodName := ⟨RX7, "history", "(II)I"⟩
abbrev cX7_copy : ByteArray := prog_9_method_11_code
def yX7_copy : MethodName := ⟨RX7, "copy", "(I)I"⟩
abbrev cX7_actsOf : ByteArray := prog_9_method_12_code
def yX7_actsOf : MethodName := ⟨RX7, "actsOf", "(I)I"⟩
abbrev cX7_begin : ByteArray := prog_9_method_13_code
def yX7_begin : MethodName := ⟨RX7, "begin", "(IIIII)I"⟩
abbrev cX7_answer : ByteArray := prog_9_method_14_code
def yX7_answer : MethodName := ⟨RX7, "answer", "(III)I"⟩
abbrev cX7_alter : ByteArray := prog_9_method_15_code
def yX7_alter : MethodName := ⟨RX7, "alter", "(III)I"⟩
abbrev cX7_status : ByteArray := prog_9_method_16_code
def yX7_status : MethodName := ⟨RX7, "status", "()I"⟩
abbrev cX7_answered : ByteArray := prog_9_method_17_code
def yX7_answered : MethodName := ⟨RX7, "answered", "(II)I"⟩
abbrev cX7_call : ByteArray := prog_9_method_18_code
def yX7_call : MethodName := ⟨RX7, "call", "(III)I"⟩
abbrev cX7_about : ByteArray := prog_9_method_19_code
def yX7_about : MethodName := ⟨RX7, "about", "(II)I"⟩
abbrev cX7_isQuiet : ByteArray := prog_9_method_20_code
def yX7_isQuiet : MethodName := ⟨RX7, "isQuiet", "(III)Z"⟩
abbrev cX7_isAhead : ByteArray := prog_9_method_21_code
def yX7_isAhead : MethodName := ⟨RX7, "isAhead", "(IIIII)Z"⟩
abbrev cX7_all : ByteArray := prog_9_method_22_code
def yX7_all : MethodName := ⟨RX7, "all", "(I)I"⟩
abbrev cX7_ahead : ByteArray := prog_9_method_23_code
def yX7_ahead : MethodName := ⟨RX7, "ahead", "(IIII)I"⟩
abbrev cX7_begins : ByteArray := prog_9_method_24_code
def yX7_begins : MethodName := ⟨RX7, "begins", "()V"⟩
abbrev cX7_comes : ByteArray := prog_9_method_25_code
def yX7_comes : MethodName := ⟨RX7, "comes", "(III)I"⟩
abbrev cX7_cell : ByteArray := prog_9_method_26_code
def yX7_cell : MethodName := ⟨RX7, "cell", "(IIIII)I"⟩
abbrev cX7_line : ByteArray := prog_9_method_27_code
def yX7_line : MethodName := ⟨RX7, "line", "(IZII)I"⟩
abbrev cX7_prepare : ByteArray := prog_9_method_28_code
def yX7_prepare : MethodName := ⟨RX7, "prepare", "(III)V"⟩
abbrev cX7_answeredOf : ByteArray := prog_9_method_29_code
def yX7_answeredOf : MethodName := ⟨RX7, "answeredOf", "(II)I"⟩
abbrev cX7_goes : ByteArray := prog_9_method_30_code
def yX7_goes : MethodName := ⟨RX7, "goes", "(IIIII)Z"⟩
abbrev cX7_fill : ByteArray := prog_9_method_31_code
def yX7_fill : MethodName := ⟨RX7, "fill", "([II)V"⟩
abbrev cX7_isTaken : ByteArray := prog_9_method_32_code
def yX7_isTaken : MethodName := ⟨RX7, "isTaken", "(III)Z"⟩
abbrev cX7_judge : ByteArray := prog_9_method_33_code
def yX7_judge : MethodName := ⟨RX7, "judge", "(II)I"⟩
abbrev cX7_first : ByteArray := prog_9_method_34_code
def yX7_first : MethodName := ⟨RX7, "first", "(III)I"⟩
abbrev cX7_orders : ByteArray := prog_9_method_35_code
def yX7_orders : MethodName := ⟨RX7, "orders", "(II)J"⟩
abbrev cX7_least : ByteArray := prog_9_method_36_code
def yX7_least : MethodName := ⟨RX7, "least", "(II)I"⟩
abbrev cX7_part : ByteArray := prog_9_method_37_code
def yX7_part : MethodName := ⟨RX7, "part", "(I)I"⟩
abbrev cX7_fills : ByteArray := prog_9_method_38_code
def yX7_fills : MethodName := ⟨RX7, "fills", "(III)I"⟩
abbrev cX7_fill_ : ByteArray := prog_9_method_39_code
def yX7_fill_ : MethodName := ⟨RX7, "fill", "(I)I"⟩
abbrev cX7_apart : ByteArray := prog_9_method_40_code
def yX7_apart : MethodName := ⟨RX7, "apart", "(III)I"⟩
abbrev cX7_rules : ByteArray := prog_9_method_41_code
def yX7_rules : MethodName := ⟨RX7, "rules", "(I)I"⟩
abbrev cX7_say : ByteArray := prog_9_method_42_code
def yX7_say : MethodName := ⟨RX7, "say", "(I)I"⟩
abbrev cX7_check : ByteArray := prog_9_method_43_code
def yX7_check : MethodName := ⟨RX7, "check", "(II)I"⟩
def RJ6 : String := "java/lang/Integer"
def TJ6 : u_T := fun k => match k with
  | _ => ("", "", "", false)
def tyJ6 : Nat → FieldType := fun k => match k with
  | _ => .int
abbrev wsJ60 : List Cond := u_ws RJ6 TJ6 0
theorem nmJ6 : ∀ a, a < 0 → ∀ b, b < 0 → a ≠ b → (TJ6 a).2.1 ≠ (TJ6 b).2.1 := by decide +kernel
theorem tyJ6_ok : ∀ k, k < 0 → parseFieldDescriptor (TJ6 k).2.2.1 = some (tyJ6 k) := by decide +kernel
abbrev cJ6_numberOfLeadingZeros_0f7a4 : ByteArray := prog_10_method_47_code
def yJ6_numberOfLeadingZeros_0f7a4 : MethodName := ⟨RJ6, "numberOfLeadingZeros", "(I)I"⟩
abbrev cJ6_bitCount_0f7a4 : ByteArray := prog_10_method_49_code
def yJ6_bitCount_0f7a4 : MethodName := ⟨RJ6, "bitCount", "(I)I"⟩
def RJ13 : String := "java/lang/Long"
def TJ13 : u_T := fun k => match k with
  | _ => ("", "", "", false)
def tyJ13 : Nat → FieldType := fun k => match k with
  | _ => .int
abbrev wsJ130 : List Cond := u_ws RJ13 TJ13 0
theorem nmJ13 : ∀ a, a < 0 → ∀ b, b < 0 → a ≠ b → (TJ13 a).2.1 ≠ (TJ13 b).2.1 := by decide +kernel
theorem tyJ13_ok : ∀ k, k < 0 → parseFieldDescriptor (TJ13 k).2.2.1 = some (tyJ13 k) := by decide +kernel
abbrev cJ13_numberOfLeadingZeros_95d88 : ByteArray := prog_11_method_48_code
def yJ13_numberOfLeadingZeros_95d88 : MethodName := ⟨RJ13, "numberOfLeadingZeros", "(J)I"⟩
def RJ10 : String := "java/lang/System"
def TJ10 : u_T := fun k => match k with
  | _ => ("", "", "", false)
def tyJ10 : Nat → FieldType := fun k => match k with
  | _ => .int
abbrev wsJ100 : List Cond := u_ws RJ10 TJ10 0
theorem nmJ10 : ∀ a, a < 0 → ∀ b, b < 0 → a ≠ b → (TJ10 a).2.1 ≠ (TJ10 b).2.1 := by decide +kernel
theorem tyJ10_ok : ∀ k, k < 0 → parseFieldDescriptor (TJ10 k).2.2.1 = some (tyJ10 k) := by decide +kernel
def RL : String := "HistoryCourtLaw"
abbrev cL_law : ByteArray := code
def yL_law : MethodName := ⟨RL, "law", "([I)Z"⟩
abbrev vwCl : List vw_C := [(RX0, TX0, 2), (RX1, TX1, 11), (RX2, TX2, 4), (RX4, TX4, 6), (RX5, TX5, 3), (RX6, TX6, 10), (RX7, TX7, 30)]
def lw_g : List Cond := lw_tbl.filter goodWord
theorem lw_gs : ∀ w ∈ lw_g, w ∈ lw_tbl := fun _ h => (List.mem_filter.mp h).1
theorem lw_gg : ∀ w ∈ lw_g, goodWord w = true := fun _ h => (List.mem_filter.mp h).2
theorem tw_m1 {i : Nat} {w : Cond} (h : tables_1_1[i]? = some w) (g : goodWord w = true) : w ∈ lw_g := List.mem_filter.mpr ⟨List.mem_append_right _ (List.mem_append_left _ (List.mem_of_getElem? h)), g⟩
theorem tw_m2 {i : Nat} {w : Cond} (h : tables_1_2[i]? = some w) (g : goodWord w = true) : w ∈ lw_g := List.mem_filter.mpr ⟨List.mem_append_right _ (List.mem_append_right _ (List.mem_append_left _ (List.mem_of_getElem? h))), g⟩
theorem tw_m3 {i : Nat} {w : Cond} (h : tables_1_3[i]? = some w) (g : goodWord w = true) : w ∈ lw_g := List.mem_filter.mpr ⟨List.mem_append_right _ (List.mem_append_right _ (List.mem_append_right _ (List.mem_append_left _ (List.mem_of_getElem? h)))), g⟩
theorem tw_m4 {i : Nat} {w : Cond} (h : tables_1_4[i]? = some w) (g : goodWord w = true) : w ∈ lw_g := List.mem_filter.mpr ⟨List.mem_append_right _ (List.mem_append_right _ (List.mem_append_right _ (List.mem_append_right _ (List.mem_of_getElem? h)))), g⟩
theorem tw_0 : (Jvm.Cond.initialized "HistoryCourtLaw") ∈ lw_g := tw_m1 (i := 0) rfl rfl
theorem tw_1 : (Jvm.Cond.initialized "HistoryCourt") ∈ lw_g := tw_m1 (i := 1) rfl rfl
theorem tw_2 : (Jvm.Cond.initialized "HistoryCourt$Search") ∈ lw_g := tw_m1 (i := 2) rfl rfl
theorem tw_3 : (Jvm.Cond.initialized "HistoryCourt$History") ∈ lw_g := tw_m1 (i := 3) rfl rfl
theorem tw_4 : (Jvm.Cond.initialized "HistoryCourt$Memo") ∈ lw_g := tw_m1 (i := 4) rfl rfl
theorem tw_5 : (Jvm.Cond.initialized "HistoryCourt$Answers") ∈ lw_g := tw_m1 (i := 5) rfl rfl
theorem tw_6 : (Jvm.Cond.initialized "HistoryCourtModel") ∈ lw_g := tw_m1 (i := 6) rfl rfl
theorem tw_7 : (Jvm.Cond.initialized "HistoryCourt$Table") ∈ lw_g := tw_m1 (i := 7) rfl rfl
theorem tw_8 : (Jvm.Cond.initialized "HistoryCourt$Model") ∈ lw_g := tw_m1 (i := 8) rfl rfl
theorem tw_9 : (Jvm.Cond.initialized "java/lang/System") ∈ lw_g := tw_m1 (i := 9) rfl rfl
theorem tw_10 : (Jvm.Cond.initialized "java/lang/Integer") ∈ lw_g := tw_m1 (i := 10) rfl rfl
theorem tw_11 : (Jvm.Cond.initialized "java/lang/Long") ∈ lw_g := tw_m1 (i := 11) rfl rfl
theorem tw_12 : (Jvm.Cond.classLink "HistoryCourtLaw" (7 : Nat) "HistoryCourt") ∈ lw_g := tw_m1 (i := 12) rfl rfl
theorem tw_13 : (Jvm.Cond.instantiable "HistoryCourt" (10 : Nat)) ∈ lw_g := tw_m1 (i := 13) rfl rfl
theorem tw_14 : (Jvm.Cond.methodLink "HistoryCourtLaw" (9 : Nat) ({ cls := "HistoryCourt", name := "<init>", desc := "()V" } : Jvm.MethodName)) ∈ lw_g := tw_m1 (i := 14) rfl rfl
theorem tw_15 : (Jvm.Cond.instanceMethod ({ cls := "HistoryCourt", name := "<init>", desc := "()V" } : Jvm.MethodName)) ∈ lw_g := tw_m1 (i := 15) rfl rfl
theorem tw_16 : (Jvm.Cond.code ({ cls := "HistoryCourt", name := "<init>", desc := "()V" } : Jvm.MethodName) prog_1_method_1_code (1 : Nat) (Option.none : Option Jvm.ClassFile.FieldType)) ∈ lw_g := tw_m1 (i := 16) rfl rfl
theorem tw_17 : (Jvm.Cond.methodLink "HistoryCourt" (1 : Nat) ({ cls := "java/lang/Object", name := "<init>", desc := "()V" } : Jvm.MethodName)) ∈ lw_g := tw_m1 (i := 17) rfl rfl
theorem tw_18 : (Jvm.Cond.instanceMethod ({ cls := "java/lang/Object", name := "<init>", desc := "()V" } : Jvm.MethodName)) ∈ lw_g := tw_m1 (i := 18) rfl rfl
theorem tw_19 : (Jvm.Cond.code ({ cls := "java/lang/Object", name := "<init>", desc := "()V" } : Jvm.MethodName) object_method_1_code (1 : Nat) (Option.none : Option Jvm.ClassFile.FieldType)) ∈ lw_g := tw_m1 (i := 19) rfl rfl
theorem tw_20 : (Jvm.Cond.classLink "HistoryCourt" (9 : Nat) "HistoryCourt$Table") ∈ lw_g := tw_m1 (i := 20) rfl rfl
theorem tw_22 : (Jvm.Cond.classLink "HistoryCourt" (15 : Nat) "HistoryCourt$History") ∈ lw_g := tw_m1 (i := 22) rfl rfl
theorem tw_24 : (Jvm.Cond.classLink "HistoryCourt" (21 : Nat) "HistoryCourt$Search") ∈ lw_g := tw_m1 (i := 24) rfl rfl
theorem tw_25 : (Jvm.Cond.instantiable "HistoryCourt$Search" (6 : Nat)) ∈ lw_g := tw_m1 (i := 25) rfl rfl
theorem tw_27 : (Jvm.Cond.instanceMethod ({ cls := "HistoryCourt$Search", name := "<init>", desc := "()V" } : Jvm.MethodName)) ∈ lw_g := tw_m1 (i := 27) rfl rfl
theorem tw_28 : (Jvm.Cond.code ({ cls := "HistoryCourt$Search", name := "<init>", desc := "()V" } : Jvm.MethodName) prog_6_method_1_code (1 : Nat) (Option.none : Option Jvm.ClassFile.FieldType)) ∈ lw_g := tw_m1 (i := 28) rfl rfl
theorem tw_29 : (Jvm.Cond.methodLink "HistoryCourt$Search" (3 : Nat) ({ cls := "java/lang/Object", name := "<init>", desc := "()V" } : Jvm.MethodName)) ∈ lw_g := tw_m1 (i := 29) rfl rfl
theorem tw_30 : (Jvm.Cond.classLink "HistoryCourt$Search" (9 : Nat) "HistoryCourt$History") ∈ lw_g := tw_m1 (i := 30) rfl rfl
theorem tw_31 : (Jvm.Cond.instantiable "HistoryCourt$History" (11 : Nat)) ∈ lw_g := tw_m1 (i := 31) rfl rfl
theorem tw_32 : (Jvm.Cond.methodLink "HistoryCourt$Search" (13 : Nat) ({ cls := "HistoryCourt$History", name := "<init>", desc := "(ILHistoryCourt$Table;)V" } : Jvm.MethodName)) ∈ lw_g := tw_m1 (i := 32) rfl rfl
theorem tw_33 : (Jvm.Cond.instanceMethod ({ cls := "HistoryCourt$History", name := "<init>", desc := "(ILHistoryCourt$Table;)V" } : Jvm.MethodName)) ∈ lw_g := tw_m1 (i := 33) rfl rfl
theorem tw_34 : (Jvm.Cond.code ({ cls := "HistoryCourt$History", name := "<init>", desc := "(ILHistoryCourt$Table;)V" } : Jvm.MethodName) prog_3_method_1_code (3 : Nat) (Option.none : Option Jvm.ClassFile.FieldType)) ∈ lw_g := tw_m1 (i := 34) rfl rfl
theorem tw_35 : (Jvm.Cond.methodLink "HistoryCourt$History" (3 : Nat) ({ cls := "java/lang/Object", name := "<init>", desc := "()V" } : Jvm.MethodName)) ∈ lw_g := tw_m1 (i := 35) rfl rfl
theorem tw_36 : (Jvm.Cond.fieldLink "HistoryCourt$History" (33 : Nat) "HistoryCourt$History" "kind" "I") ∈ lw_g := tw_m1 (i := 36) rfl rfl
theorem tw_37 : (Jvm.Cond.fieldLink "HistoryCourt$Model" (19 : Nat) "HistoryCourt$History" "kind" "I") ∈ lw_g := tw_m1 (i := 37) rfl rfl
theorem tw_38 : (Jvm.Cond.fieldLink "HistoryCourt" (84 : Nat) "HistoryCourt$History" "kind" "I") ∈ lw_g := tw_m1 (i := 38) rfl rfl
theorem tw_39 : (Jvm.Cond.fieldLink "HistoryCourt$History" (37 : Nat) "HistoryCourt$History" "table" "LHistoryCourt$Table;") ∈ lw_g := tw_m1 (i := 39) rfl rfl
theorem tw_40 : (Jvm.Cond.fieldLink "HistoryCourt$Model" (54 : Nat) "HistoryCourt$History" "table" "LHistoryCourt$Table;") ∈ lw_g := tw_m1 (i := 40) rfl rfl
theorem tw_41 : (Jvm.Cond.fieldLink "HistoryCourt$History" (44 : Nat) "HistoryCourt$History" "calls" "I") ∈ lw_g := tw_m1 (i := 41) rfl rfl
theorem tw_42 : (Jvm.Cond.fieldLink "HistoryCourt$Search" (61 : Nat) "HistoryCourt$History" "calls" "I") ∈ lw_g := tw_m1 (i := 42) rfl rfl
theorem tw_43 : (Jvm.Cond.fieldLink "HistoryCourt" (94 : Nat) "HistoryCourt$History" "calls" "I") ∈ lw_g := tw_m1 (i := 43) rfl rfl
theorem tw_44 : (Jvm.Cond.fieldLink "HistoryCourt$History" (47 : Nat) "HistoryCourt$History" "ticks" "I") ∈ lw_g := tw_m1 (i := 44) rfl rfl
theorem tw_45 : (Jvm.Cond.fieldLink "HistoryCourt" (142 : Nat) "HistoryCourt$History" "ticks" "I") ∈ lw_g := tw_m1 (i := 45) rfl rfl
theorem tw_46 : (Jvm.Cond.fieldLink "HistoryCourt$History" (9 : Nat) "HistoryCourt$History" "caller" "[I") ∈ lw_g := tw_m1 (i := 46) rfl rfl
theorem tw_47 : (Jvm.Cond.fieldLink "HistoryCourt" (120 : Nat) "HistoryCourt$History" "caller" "[I") ∈ lw_g := tw_m1 (i := 47) rfl rfl
theorem tw_48 : (Jvm.Cond.fieldLink "HistoryCourt$History" (15 : Nat) "HistoryCourt$History" "act" "[I") ∈ lw_g := tw_m1 (i := 48) rfl rfl
theorem tw_49 : (Jvm.Cond.fieldLink "HistoryCourt$Model" (25 : Nat) "HistoryCourt$History" "act" "[I") ∈ lw_g := tw_m1 (i := 49) rfl rfl
theorem tw_50 : (Jvm.Cond.fieldLink "HistoryCourt" (123 : Nat) "HistoryCourt$History" "act" "[I") ∈ lw_g := tw_m1 (i := 50) rfl rfl
theorem tw_51 : (Jvm.Cond.fieldLink "HistoryCourt$History" (18 : Nat) "HistoryCourt$History" "a" "[I") ∈ lw_g := tw_m1 (i := 51) rfl rfl
theorem tw_52 : (Jvm.Cond.fieldLink "HistoryCourt$Model" (28 : Nat) "HistoryCourt$History" "a" "[I") ∈ lw_g := tw_m1 (i := 52) rfl rfl
theorem tw_53 : (Jvm.Cond.fieldLink "HistoryCourt$History" (21 : Nat) "HistoryCourt$History" "b" "[I") ∈ lw_g := tw_m1 (i := 53) rfl rfl
theorem tw_54 : (Jvm.Cond.fieldLink "HistoryCourt$Model" (51 : Nat) "HistoryCourt$History" "b" "[I") ∈ lw_g := tw_m1 (i := 54) rfl rfl
theorem tw_55 : (Jvm.Cond.fieldLink "HistoryCourt$History" (24 : Nat) "HistoryCourt$History" "begun" "[I") ∈ lw_g := tw_m1 (i := 55) rfl rfl
theorem tw_56 : (Jvm.Cond.fieldLink "HistoryCourt" (126 : Nat) "HistoryCourt$History" "begun" "[I") ∈ lw_g := tw_m1 (i := 56) rfl rfl
theorem tw_57 : (Jvm.Cond.fieldLink "HistoryCourt$History" (27 : Nat) "HistoryCourt$History" "ended" "[I") ∈ lw_g := tw_m1 (i := 57) rfl rfl
theorem tw_58 : (Jvm.Cond.fieldLink "HistoryCourt" (129 : Nat) "HistoryCourt$History" "ended" "[I") ∈ lw_g := tw_m1 (i := 58) rfl rfl
theorem tw_59 : (Jvm.Cond.fieldLink "HistoryCourt$History" (30 : Nat) "HistoryCourt$History" "value" "[I") ∈ lw_g := tw_m1 (i := 59) rfl rfl
theorem tw_60 : (Jvm.Cond.fieldLink "HistoryCourt" (117 : Nat) "HistoryCourt$History" "value" "[I") ∈ lw_g := tw_m1 (i := 60) rfl rfl
theorem tw_61 : (Jvm.Cond.fieldLink "HistoryCourt$Search" (116 : Nat) "HistoryCourt$History" "value" "[I") ∈ lw_g := tw_m1 (i := 61) rfl rfl
theorem tw_84 : (Jvm.Cond.superclass "HistoryCourt$History" "java/lang/Object") ∈ lw_g := tw_m1 (i := 84) rfl rfl
theorem tw_85 : (Jvm.Cond.arrayClass Jvm.ClassFile.FieldType.int) ∈ lw_g := tw_m1 (i := 85) rfl rfl
theorem tw_86 : (Jvm.Cond.classLink "HistoryCourt$Search" (26 : Nat) "HistoryCourt$Memo") ∈ lw_g := tw_m1 (i := 86) rfl rfl
theorem tw_87 : (Jvm.Cond.instantiable "HistoryCourt$Memo" (4 : Nat)) ∈ lw_g := tw_m1 (i := 87) rfl rfl
theorem tw_89 : (Jvm.Cond.instanceMethod ({ cls := "HistoryCourt$Memo", name := "<init>", desc := "()V" } : Jvm.MethodName)) ∈ lw_g := tw_m1 (i := 89) rfl rfl
theorem tw_90 : (Jvm.Cond.code ({ cls := "HistoryCourt$Memo", name := "<init>", desc := "()V" } : Jvm.MethodName) prog_4_method_1_code (1 : Nat) (Option.none : Option Jvm.ClassFile.FieldType)) ∈ lw_g := tw_m1 (i := 90) rfl rfl
theorem tw_91 : (Jvm.Cond.methodLink "HistoryCourt$Memo" (3 : Nat) ({ cls := "java/lang/Object", name := "<init>", desc := "()V" } : Jvm.MethodName)) ∈ lw_g := tw_m1 (i := 91) rfl rfl
theorem tw_92 : (Jvm.Cond.fieldLink "HistoryCourt$Memo" (11 : Nat) "HistoryCourt$Memo" "keys" "[J") ∈ lw_g := tw_m1 (i := 92) rfl rfl
theorem tw_93 : (Jvm.Cond.fieldLink "HistoryCourt$Memo" (15 : Nat) "HistoryCourt$Memo" "values" "[J") ∈ lw_g := tw_m1 (i := 93) rfl rfl
theorem tw_94 : (Jvm.Cond.fieldLink "HistoryCourt$Memo" (18 : Nat) "HistoryCourt$Memo" "ages" "[I") ∈ lw_g := tw_m1 (i := 94) rfl rfl
theorem tw_95 : (Jvm.Cond.fieldLink "HistoryCourt$Memo" (22 : Nat) "HistoryCourt$Memo" "age" "I") ∈ lw_g := tw_m1 (i := 95) rfl rfl
theorem tw_104 : (Jvm.Cond.superclass "HistoryCourt$Memo" "java/lang/Object") ∈ lw_g := tw_m1 (i := 104) rfl rfl
theorem tw_105 : (Jvm.Cond.arrayClass Jvm.ClassFile.FieldType.long) ∈ lw_g := tw_m1 (i := 105) rfl rfl
theorem tw_106 : (Jvm.Cond.fieldLink "HistoryCourt$Search" (16 : Nat) "HistoryCourt$Search" "history" "LHistoryCourt$History;") ∈ lw_g := tw_m1 (i := 106) rfl rfl
theorem tw_107 : (Jvm.Cond.fieldLink "HistoryCourt$Search" (78 : Nat) "HistoryCourt$Search" "part" "I") ∈ lw_g := tw_m1 (i := 107) rfl rfl
theorem tw_108 : (Jvm.Cond.fieldLink "HistoryCourt$Search" (84 : Nat) "HistoryCourt$Search" "due" "I") ∈ lw_g := tw_m1 (i := 108) rfl rfl
theorem tw_109 : (Jvm.Cond.fieldLink "HistoryCourt$Search" (22 : Nat) "HistoryCourt$Search" "aheadOf" "[I") ∈ lw_g := tw_m1 (i := 109) rfl rfl
theorem tw_110 : (Jvm.Cond.fieldLink "HistoryCourt$Search" (87 : Nat) "HistoryCourt$Search" "oneIsEnough" "Z") ∈ lw_g := tw_m1 (i := 110) rfl rfl
theorem tw_111 : (Jvm.Cond.fieldLink "HistoryCourt$Search" (29 : Nat) "HistoryCourt$Search" "memo" "LHistoryCourt$Memo;") ∈ lw_g := tw_m1 (i := 111) rfl rfl
theorem tw_124 : (Jvm.Cond.superclass "HistoryCourt$Search" "java/lang/Object") ∈ lw_g := tw_m1 (i := 124) rfl rfl
theorem tw_125 : (Jvm.Cond.classLink "HistoryCourt" (28 : Nat) "HistoryCourt$Answers") ∈ lw_g := tw_m1 (i := 125) rfl rfl
theorem tw_126 : (Jvm.Cond.instantiable "HistoryCourt$Answers" (2 : Nat)) ∈ lw_g := tw_m1 (i := 126) rfl rfl
theorem tw_128 : (Jvm.Cond.instanceMethod ({ cls := "HistoryCourt$Answers", name := "<init>", desc := "()V" } : Jvm.MethodName)) ∈ lw_g := tw_m1 (i := 128) rfl rfl
theorem tw_129 : (Jvm.Cond.code ({ cls := "HistoryCourt$Answers", name := "<init>", desc := "()V" } : Jvm.MethodName) prog_2_method_1_code (1 : Nat) (Option.none : Option Jvm.ClassFile.FieldType)) ∈ lw_g := tw_m1 (i := 129) rfl rfl
theorem tw_130 : (Jvm.Cond.methodLink "HistoryCourt$Answers" (1 : Nat) ({ cls := "java/lang/Object", name := "<init>", desc := "()V" } : Jvm.MethodName)) ∈ lw_g := tw_m1 (i := 130) rfl rfl
theorem tw_131 : (Jvm.Cond.fieldLink "HistoryCourt$Answers" (9 : Nat) "HistoryCourt$Answers" "values" "[I") ∈ lw_g := tw_m1 (i := 131) rfl rfl
theorem tw_132 : (Jvm.Cond.fieldLink "HistoryCourt" (188 : Nat) "HistoryCourt$Answers" "values" "[I") ∈ lw_g := tw_m1 (i := 132) rfl rfl
theorem tw_133 : (Jvm.Cond.fieldLink "HistoryCourt$Answers" (13 : Nat) "HistoryCourt$Answers" "count" "I") ∈ lw_g := tw_m1 (i := 133) rfl rfl
theorem tw_134 : (Jvm.Cond.fieldLink "HistoryCourt$Search" (65 : Nat) "HistoryCourt$Answers" "count" "I") ∈ lw_g := tw_m1 (i := 134) rfl rfl
theorem tw_135 : (Jvm.Cond.fieldLink "HistoryCourt" (186 : Nat) "HistoryCourt$Answers" "count" "I") ∈ lw_g := tw_m1 (i := 135) rfl rfl
theorem tw_140 : (Jvm.Cond.superclass "HistoryCourt$Answers" "java/lang/Object") ∈ lw_g := tw_m1 (i := 140) rfl rfl
theorem tw_141 : (Jvm.Cond.fieldLink "HistoryCourt" (11 : Nat) "HistoryCourt" "tables" "[LHistoryCourt$Table;") ∈ lw_g := tw_m1 (i := 141) rfl rfl
theorem tw_142 : (Jvm.Cond.fieldLink "HistoryCourt" (39 : Nat) "HistoryCourt" "tableCount" "I") ∈ lw_g := tw_m1 (i := 142) rfl rfl
theorem tw_143 : (Jvm.Cond.fieldLink "HistoryCourt" (17 : Nat) "HistoryCourt" "histories" "[LHistoryCourt$History;") ∈ lw_g := tw_m1 (i := 143) rfl rfl
theorem tw_144 : (Jvm.Cond.fieldLink "HistoryCourt" (66 : Nat) "HistoryCourt" "historyCount" "I") ∈ lw_g := tw_m1 (i := 144) rfl rfl
theorem tw_145 : (Jvm.Cond.fieldLink "HistoryCourt" (24 : Nat) "HistoryCourt" "search" "LHistoryCourt$Search;") ∈ lw_g := tw_m1 (i := 145) rfl rfl
theorem tw_146 : (Jvm.Cond.fieldLink "HistoryCourt" (31 : Nat) "HistoryCourt" "fillings" "LHistoryCourt$Answers;") ∈ lw_g := tw_m1 (i := 146) rfl rfl
theorem tw_147 : (Jvm.Cond.fieldLink "HistoryCourt" (176 : Nat) "HistoryCourt" "leastPart" "I") ∈ lw_g := tw_m1 (i := 147) rfl rfl
theorem tw_148 : (Jvm.Cond.fieldLink "HistoryCourt" (35 : Nat) "HistoryCourt" "said" "[I") ∈ lw_g := tw_m1 (i := 148) rfl rfl
theorem tw_149 : (Jvm.Cond.fieldLink "HistoryCourt" (194 : Nat) "HistoryCourt" "saidCount" "I") ∈ lw_g := tw_m1 (i := 149) rfl rfl
theorem tw_150 : (Jvm.Cond.fieldLink "HistoryCourt" (114 : Nat) "HistoryCourt" "status" "I") ∈ lw_g := tw_m1 (i := 150) rfl rfl
theorem tw_171 : (Jvm.Cond.superclass "HistoryCourt" "java/lang/Object") ∈ lw_g := tw_m1 (i := 171) rfl rfl
theorem tw_172 : (Jvm.Cond.methodLink "HistoryCourtLaw" (13 : Nat) ({ cls := "HistoryCourt", name := "machine", desc := "()I" } : Jvm.MethodName)) ∈ lw_g := tw_m1 (i := 172) rfl rfl
theorem tw_173 : (Jvm.Cond.instanceMethod ({ cls := "HistoryCourt", name := "machine", desc := "()I" } : Jvm.MethodName)) ∈ lw_g := tw_m1 (i := 173) rfl rfl
theorem tw_174 : (Jvm.Cond.selects "HistoryCourt" ({ cls := "HistoryCourt", name := "machine", desc := "()I" } : Jvm.MethodName) ({ cls := "HistoryCourt", name := "machine", desc := "()I" } : Jvm.MethodName)) ∈ lw_g := tw_m1 (i := 174) rfl rfl
theorem tw_175 : (Jvm.Cond.code ({ cls := "HistoryCourt", name := "machine", desc := "()I" } : Jvm.MethodName) prog_1_method_2_code (1 : Nat) (Option.some Jvm.ClassFile.FieldType.int)) ∈ lw_g := tw_m1 (i := 175) rfl rfl
theorem tw_176 : (Jvm.Cond.instantiable "HistoryCourt$Table" (3 : Nat)) ∈ lw_g := tw_m1 (i := 176) rfl rfl
theorem tw_178 : (Jvm.Cond.instanceMethod ({ cls := "HistoryCourt$Table", name := "<init>", desc := "()V" } : Jvm.MethodName)) ∈ lw_g := tw_m1 (i := 178) rfl rfl
theorem tw_179 : (Jvm.Cond.code ({ cls := "HistoryCourt$Table", name := "<init>", desc := "()V" } : Jvm.MethodName) prog_7_method_1_code (1 : Nat) (Option.none : Option Jvm.ClassFile.FieldType)) ∈ lw_g := tw_m1 (i := 179) rfl rfl
theorem tw_180 : (Jvm.Cond.methodLink "HistoryCourt$Table" (1 : Nat) ({ cls := "java/lang/Object", name := "<init>", desc := "()V" } : Jvm.MethodName)) ∈ lw_g := tw_m1 (i := 180) rfl rfl
theorem tw_181 : (Jvm.Cond.fieldLink "HistoryCourt$Table" (9 : Nat) "HistoryCourt$Table" "answers" "[I") ∈ lw_g := tw_m1 (i := 181) rfl rfl
theorem tw_182 : (Jvm.Cond.fieldLink "HistoryCourt$Table" (13 : Nat) "HistoryCourt$Table" "nexts" "[I") ∈ lw_g := tw_m1 (i := 182) rfl rfl
theorem tw_183 : (Jvm.Cond.fieldLink "HistoryCourt" (52 : Nat) "HistoryCourt$Table" "isUsed" "Z") ∈ lw_g := tw_m1 (i := 183) rfl rfl
theorem tw_190 : (Jvm.Cond.superclass "HistoryCourt$Table" "java/lang/Object") ∈ lw_g := tw_m1 (i := 190) rfl rfl
theorem tw_191 : (Jvm.Cond.methodLink "HistoryCourtLaw" (18 : Nat) ({ cls := "HistoryCourt", name := "row", desc := "(IIIII)I" } : Jvm.MethodName)) ∈ lw_g := tw_m1 (i := 191) rfl rfl
theorem tw_192 : (Jvm.Cond.instanceMethod ({ cls := "HistoryCourt", name := "row", desc := "(IIIII)I" } : Jvm.MethodName)) ∈ lw_g := tw_m1 (i := 192) rfl rfl
theorem tw_193 : (Jvm.Cond.selects "HistoryCourt" ({ cls := "HistoryCourt", name := "row", desc := "(IIIII)I" } : Jvm.MethodName) ({ cls := "HistoryCourt", name := "row", desc := "(IIIII)I" } : Jvm.MethodName)) ∈ lw_g := tw_m1 (i := 193) rfl rfl
theorem tw_194 : (Jvm.Cond.code ({ cls := "HistoryCourt", name := "row", desc := "(IIIII)I" } : Jvm.MethodName) prog_1_method_3_code (7 : Nat) (Option.some Jvm.ClassFile.FieldType.int)) ∈ lw_g := tw_m1 (i := 194) rfl rfl
theorem tw_195 : (Jvm.Cond.methodLink "HistoryCourt" (44 : Nat) ({ cls := "HistoryCourt", name := "tableOf", desc := "(I)LHistoryCourt$Table;" } : Jvm.MethodName)) ∈ lw_g := tw_m1 (i := 195) rfl rfl
theorem tw_197 : (Jvm.Cond.instanceMethod ({ cls := "HistoryCourt", name := "tableOf", desc := "(I)LHistoryCourt$Table;" } : Jvm.MethodName)) ∈ lw_g := tw_m1 (i := 197) rfl rfl
theorem tw_198 : (Jvm.Cond.code ({ cls := "HistoryCourt", name := "tableOf", desc := "(I)LHistoryCourt$Table;" } : Jvm.MethodName) prog_1_method_25_code (2 : Nat) (Option.some (Jvm.ClassFile.FieldType.object "HistoryCourt$Table"))) ∈ lw_g := tw_m1 (i := 198) rfl rfl
theorem tw_199 : (Jvm.Cond.methodLink "HistoryCourt" (48 : Nat) ({ cls := "HistoryCourt$Table", name := "has", desc := "(JI)Z" } : Jvm.MethodName)) ∈ lw_g := tw_m1 (i := 199) rfl rfl
theorem tw_200 : (Jvm.Cond.static ({ cls := "HistoryCourt$Table", name := "has", desc := "(JI)Z" } : Jvm.MethodName)) ∈ lw_g := tw_m1 (i := 200) rfl rfl
theorem tw_201 : (Jvm.Cond.code ({ cls := "HistoryCourt$Table", name := "has", desc := "(JI)Z" } : Jvm.MethodName) prog_7_method_2_code (3 : Nat) (Option.some Jvm.ClassFile.FieldType.boolean)) ∈ lw_g := tw_m1 (i := 201) rfl rfl
theorem tw_202 : (Jvm.Cond.constantLong "HistoryCourt$Table" (16 : Nat) (8 : Int64)) ∈ lw_g := tw_m1 (i := 202) rfl rfl
theorem tw_203 : (Jvm.Cond.methodLink "HistoryCourt" (56 : Nat) ({ cls := "HistoryCourt$Table", name := "tell", desc := "(IIII)V" } : Jvm.MethodName)) ∈ lw_g := tw_m1 (i := 203) rfl rfl
theorem tw_204 : (Jvm.Cond.instanceMethod ({ cls := "HistoryCourt$Table", name := "tell", desc := "(IIII)V" } : Jvm.MethodName)) ∈ lw_g := tw_m1 (i := 204) rfl rfl
theorem tw_205 : (Jvm.Cond.selects "HistoryCourt$Table" ({ cls := "HistoryCourt$Table", name := "tell", desc := "(IIII)V" } : Jvm.MethodName) ({ cls := "HistoryCourt$Table", name := "tell", desc := "(IIII)V" } : Jvm.MethodName)) ∈ lw_g := tw_m1 (i := 205) rfl rfl
theorem tw_206 : (Jvm.Cond.code ({ cls := "HistoryCourt$Table", name := "tell", desc := "(IIII)V" } : Jvm.MethodName) prog_7_method_4_code (5 : Nat) (Option.none : Option Jvm.ClassFile.FieldType)) ∈ lw_g := tw_m1 (i := 206) rfl rfl
theorem tw_207 : (Jvm.Cond.methodLink "HistoryCourt$Table" (18 : Nat) ({ cls := "HistoryCourt$Table", name := "has", desc := "(JI)Z" } : Jvm.MethodName)) ∈ lw_g := tw_m1 (i := 207) rfl rfl
theorem tw_208 : (Jvm.Cond.methodLink "HistoryCourt$Table" (22 : Nat) ({ cls := "HistoryCourt$Table", name := "placeOf", desc := "(JI)I" } : Jvm.MethodName)) ∈ lw_g := tw_m1 (i := 208) rfl rfl
theorem tw_209 : (Jvm.Cond.static ({ cls := "HistoryCourt$Table", name := "placeOf", desc := "(JI)I" } : Jvm.MethodName)) ∈ lw_g := tw_m1 (i := 209) rfl rfl
theorem tw_210 : (Jvm.Cond.code ({ cls := "HistoryCourt$Table", name := "placeOf", desc := "(JI)I" } : Jvm.MethodName) prog_7_method_3_code (3 : Nat) (Option.some Jvm.ClassFile.FieldType.int)) ∈ lw_g := tw_m1 (i := 210) rfl rfl
theorem tw_211 : (Jvm.Cond.methodLink "HistoryCourtLaw" (23 : Nat) ({ cls := "HistoryCourt", name := "history", desc := "(II)I" } : Jvm.MethodName)) ∈ lw_g := tw_m1 (i := 211) rfl rfl
theorem tw_212 : (Jvm.Cond.instanceMethod ({ cls := "HistoryCourt", name := "history", desc := "(II)I" } : Jvm.MethodName)) ∈ lw_g := tw_m1 (i := 212) rfl rfl
theorem tw_213 : (Jvm.Cond.selects "HistoryCourt" ({ cls := "HistoryCourt", name := "history", desc := "(II)I" } : Jvm.MethodName) ({ cls := "HistoryCourt", name := "history", desc := "(II)I" } : Jvm.MethodName)) ∈ lw_g := tw_m1 (i := 213) rfl rfl
theorem tw_214 : (Jvm.Cond.code ({ cls := "HistoryCourt", name := "history", desc := "(II)I" } : Jvm.MethodName) prog_1_method_4_code (5 : Nat) (Option.some Jvm.ClassFile.FieldType.int)) ∈ lw_g := tw_m1 (i := 214) rfl rfl
theorem tw_215 : (Jvm.Cond.methodLink "HistoryCourt" (62 : Nat) ({ cls := "HistoryCourt$Model", name := "isKind", desc := "(I)Z" } : Jvm.MethodName)) ∈ lw_g := tw_m1 (i := 215) rfl rfl
theorem tw_216 : (Jvm.Cond.static ({ cls := "HistoryCourt$Model", name := "isKind", desc := "(I)Z" } : Jvm.MethodName)) ∈ lw_g := tw_m1 (i := 216) rfl rfl
theorem tw_217 : (Jvm.Cond.code ({ cls := "HistoryCourt$Model", name := "isKind", desc := "(I)Z" } : Jvm.MethodName) prog_5_method_2_code (1 : Nat) (Option.some Jvm.ClassFile.FieldType.boolean)) ∈ lw_g := tw_m1 (i := 217) rfl rfl
theorem tw_218 : (Jvm.Cond.methodLink "HistoryCourt" (69 : Nat) ({ cls := "HistoryCourt$History", name := "<init>", desc := "(ILHistoryCourt$Table;)V" } : Jvm.MethodName)) ∈ lw_g := tw_m1 (i := 218) rfl rfl
theorem tw_219 : (Jvm.Cond.methodLink "HistoryCourt" (72 : Nat) ({ cls := "HistoryCourt", name := "keep", desc := "(LHistoryCourt$History;)I" } : Jvm.MethodName)) ∈ lw_g := tw_m1 (i := 219) rfl rfl
theorem tw_221 : (Jvm.Cond.instanceMethod ({ cls := "HistoryCourt", name := "keep", desc := "(LHistoryCourt$History;)I" } : Jvm.MethodName)) ∈ lw_g := tw_m1 (i := 221) rfl rfl
theorem tw_222 : (Jvm.Cond.code ({ cls := "HistoryCourt", name := "keep", desc := "(LHistoryCourt$History;)I" } : Jvm.MethodName) prog_1_method_27_code (2 : Nat) (Option.some Jvm.ClassFile.FieldType.int)) ∈ lw_g := tw_m1 (i := 222) rfl rfl
theorem tw_223 : (Jvm.Cond.methodLink "HistoryCourtLaw" (28 : Nat) ({ cls := "HistoryCourt", name := "copy", desc := "(I)I" } : Jvm.MethodName)) ∈ lw_g := tw_m1 (i := 223) rfl rfl
theorem tw_224 : (Jvm.Cond.instanceMethod ({ cls := "HistoryCourt", name := "copy", desc := "(I)I" } : Jvm.MethodName)) ∈ lw_g := tw_m1 (i := 224) rfl rfl
theorem tw_225 : (Jvm.Cond.selects "HistoryCourt" ({ cls := "HistoryCourt", name := "copy", desc := "(I)I" } : Jvm.MethodName) ({ cls := "HistoryCourt", name := "copy", desc := "(I)I" } : Jvm.MethodName)) ∈ lw_g := tw_m1 (i := 225) rfl rfl
theorem tw_226 : (Jvm.Cond.code ({ cls := "HistoryCourt", name := "copy", desc := "(I)I" } : Jvm.MethodName) prog_1_method_5_code (3 : Nat) (Option.some Jvm.ClassFile.FieldType.int)) ∈ lw_g := tw_m1 (i := 226) rfl rfl
theorem tw_227 : (Jvm.Cond.methodLink "HistoryCourt" (76 : Nat) ({ cls := "HistoryCourt", name := "historyOf", desc := "(I)LHistoryCourt$History;" } : Jvm.MethodName)) ∈ lw_g := tw_m1 (i := 227) rfl rfl
theorem tw_229 : (Jvm.Cond.instanceMethod ({ cls := "HistoryCourt", name := "historyOf", desc := "(I)LHistoryCourt$History;" } : Jvm.MethodName)) ∈ lw_g := tw_m1 (i := 229) rfl rfl
theorem tw_230 : (Jvm.Cond.code ({ cls := "HistoryCourt", name := "historyOf", desc := "(I)LHistoryCourt$History;" } : Jvm.MethodName) prog_1_method_26_code (2 : Nat) (Option.some (Jvm.ClassFile.FieldType.object "HistoryCourt$History"))) ∈ lw_g := tw_m1 (i := 230) rfl rfl
theorem tw_231 : (Jvm.Cond.methodLink "HistoryCourt" (80 : Nat) ({ cls := "HistoryCourt$History", name := "twin", desc := "()LHistoryCourt$History;" } : Jvm.MethodName)) ∈ lw_g := tw_m1 (i := 231) rfl rfl
theorem tw_232 : (Jvm.Cond.instanceMethod ({ cls := "HistoryCourt$History", name := "twin", desc := "()LHistoryCourt$History;" } : Jvm.MethodName)) ∈ lw_g := tw_m1 (i := 232) rfl rfl
theorem tw_233 : (Jvm.Cond.selects "HistoryCourt$History" ({ cls := "HistoryCourt$History", name := "twin", desc := "()LHistoryCourt$History;" } : Jvm.MethodName) ({ cls := "HistoryCourt$History", name := "twin", desc := "()LHistoryCourt$History;" } : Jvm.MethodName)) ∈ lw_g := tw_m1 (i := 233) rfl rfl
theorem tw_234 : (Jvm.Cond.code ({ cls := "HistoryCourt$History", name := "twin", desc := "()LHistoryCourt$History;" } : Jvm.MethodName) prog_3_method_2_code (2 : Nat) (Option.some (Jvm.ClassFile.FieldType.object "HistoryCourt$History"))) ∈ lw_g := tw_m1 (i := 234) rfl rfl
theorem tw_235 : (Jvm.Cond.classLink "HistoryCourt$History" (10 : Nat) "HistoryCourt$History") ∈ lw_g := tw_m1 (i := 235) rfl rfl
theorem tw_236 : (Jvm.Cond.methodLink "HistoryCourt$History" (41 : Nat) ({ cls := "HistoryCourt$History", name := "<init>", desc := "(ILHistoryCourt$Table;)V" } : Jvm.MethodName)) ∈ lw_g := tw_m1 (i := 236) rfl rfl
theorem tw_237 : (Jvm.Cond.methodLink "HistoryCourt$History" (50 : Nat) ({ cls := "java/lang/System", name := "arraycopy", desc := "(Ljava/lang/Object;ILjava/lang/Object;II)V" } : Jvm.MethodName)) ∈ lw_g := tw_m1 (i := 237) rfl rfl
theorem tw_238 : (Jvm.Cond.static ({ cls := "java/lang/System", name := "arraycopy", desc := "(Ljava/lang/Object;ILjava/lang/Object;II)V" } : Jvm.MethodName)) ∈ lw_g := tw_m1 (i := 238) rfl rfl
theorem tw_239 : (Jvm.Cond.native ({ cls := "java/lang/System", name := "arraycopy", desc := "(Ljava/lang/Object;ILjava/lang/Object;II)V" } : Jvm.MethodName)) ∈ lw_g := tw_m1 (i := 239) rfl rfl
theorem tw_240 : (Jvm.Cond.methodLink "HistoryCourtLaw" (33 : Nat) ({ cls := "HistoryCourt", name := "begin", desc := "(IIIII)I" } : Jvm.MethodName)) ∈ lw_g := tw_m2 (i := 0) rfl rfl
theorem tw_241 : (Jvm.Cond.instanceMethod ({ cls := "HistoryCourt", name := "begin", desc := "(IIIII)I" } : Jvm.MethodName)) ∈ lw_g := tw_m2 (i := 1) rfl rfl
theorem tw_242 : (Jvm.Cond.selects "HistoryCourt" ({ cls := "HistoryCourt", name := "begin", desc := "(IIIII)I" } : Jvm.MethodName) ({ cls := "HistoryCourt", name := "begin", desc := "(IIIII)I" } : Jvm.MethodName)) ∈ lw_g := tw_m2 (i := 2) rfl rfl
theorem tw_243 : (Jvm.Cond.code ({ cls := "HistoryCourt", name := "begin", desc := "(IIIII)I" } : Jvm.MethodName) prog_1_method_6_code (7 : Nat) (Option.some Jvm.ClassFile.FieldType.int)) ∈ lw_g := tw_m2 (i := 3) rfl rfl
theorem tw_244 : (Jvm.Cond.methodLink "HistoryCourt" (87 : Nat) ({ cls := "HistoryCourt$Model", name := "allows", desc := "(III)Z" } : Jvm.MethodName)) ∈ lw_g := tw_m2 (i := 4) rfl rfl
theorem tw_245 : (Jvm.Cond.static ({ cls := "HistoryCourt$Model", name := "allows", desc := "(III)Z" } : Jvm.MethodName)) ∈ lw_g := tw_m2 (i := 5) rfl rfl
theorem tw_246 : (Jvm.Cond.code ({ cls := "HistoryCourt$Model", name := "allows", desc := "(III)Z" } : Jvm.MethodName) prog_5_method_3_code (3 : Nat) (Option.some Jvm.ClassFile.FieldType.boolean)) ∈ lw_g := tw_m2 (i := 6) rfl rfl
theorem tw_247 : (Jvm.Cond.methodLink "HistoryCourt$Model" (11 : Nat) ({ cls := "HistoryCourt$Model", name := "isKind", desc := "(I)Z" } : Jvm.MethodName)) ∈ lw_g := tw_m2 (i := 7) rfl rfl
theorem tw_248 : (Jvm.Cond.fieldLink "HistoryCourt$Model" (15 : Nat) "HistoryCourt$Model" "ACTS" "[I") ∈ lw_g := tw_m2 (i := 8) rfl rfl
theorem tw_250 : (Jvm.Cond.methodLink "HistoryCourt" (91 : Nat) ({ cls := "HistoryCourt$History", name := "isWaiting", desc := "(I)Z" } : Jvm.MethodName)) ∈ lw_g := tw_m2 (i := 10) rfl rfl
theorem tw_251 : (Jvm.Cond.instanceMethod ({ cls := "HistoryCourt$History", name := "isWaiting", desc := "(I)Z" } : Jvm.MethodName)) ∈ lw_g := tw_m2 (i := 11) rfl rfl
theorem tw_252 : (Jvm.Cond.selects "HistoryCourt$History" ({ cls := "HistoryCourt$History", name := "isWaiting", desc := "(I)Z" } : Jvm.MethodName) ({ cls := "HistoryCourt$History", name := "isWaiting", desc := "(I)Z" } : Jvm.MethodName)) ∈ lw_g := tw_m2 (i := 12) rfl rfl
theorem tw_253 : (Jvm.Cond.code ({ cls := "HistoryCourt$History", name := "isWaiting", desc := "(I)Z" } : Jvm.MethodName) prog_3_method_5_code (3 : Nat) (Option.some Jvm.ClassFile.FieldType.boolean)) ∈ lw_g := tw_m2 (i := 13) rfl rfl
theorem tw_254 : (Jvm.Cond.methodLink "HistoryCourt" (97 : Nat) ({ cls := "HistoryCourt$History", name := "start", desc := "(IIII)I" } : Jvm.MethodName)) ∈ lw_g := tw_m2 (i := 14) rfl rfl
theorem tw_255 : (Jvm.Cond.instanceMethod ({ cls := "HistoryCourt$History", name := "start", desc := "(IIII)I" } : Jvm.MethodName)) ∈ lw_g := tw_m2 (i := 15) rfl rfl
theorem tw_256 : (Jvm.Cond.selects "HistoryCourt$History" ({ cls := "HistoryCourt$History", name := "start", desc := "(IIII)I" } : Jvm.MethodName) ({ cls := "HistoryCourt$History", name := "start", desc := "(IIII)I" } : Jvm.MethodName)) ∈ lw_g := tw_m2 (i := 16) rfl rfl
theorem tw_257 : (Jvm.Cond.code ({ cls := "HistoryCourt$History", name := "start", desc := "(IIII)I" } : Jvm.MethodName) prog_3_method_6_code (5 : Nat) (Option.some Jvm.ClassFile.FieldType.int)) ∈ lw_g := tw_m2 (i := 17) rfl rfl
theorem tw_258 : (Jvm.Cond.methodLink "HistoryCourtLaw" (37 : Nat) ({ cls := "HistoryCourt", name := "answer", desc := "(III)I" } : Jvm.MethodName)) ∈ lw_g := tw_m2 (i := 18) rfl rfl
theorem tw_259 : (Jvm.Cond.instanceMethod ({ cls := "HistoryCourt", name := "answer", desc := "(III)I" } : Jvm.MethodName)) ∈ lw_g := tw_m2 (i := 19) rfl rfl
theorem tw_260 : (Jvm.Cond.selects "HistoryCourt" ({ cls := "HistoryCourt", name := "answer", desc := "(III)I" } : Jvm.MethodName) ({ cls := "HistoryCourt", name := "answer", desc := "(III)I" } : Jvm.MethodName)) ∈ lw_g := tw_m2 (i := 20) rfl rfl
theorem tw_261 : (Jvm.Cond.code ({ cls := "HistoryCourt", name := "answer", desc := "(III)I" } : Jvm.MethodName) prog_1_method_7_code (5 : Nat) (Option.some Jvm.ClassFile.FieldType.int)) ∈ lw_g := tw_m2 (i := 21) rfl rfl
theorem tw_262 : (Jvm.Cond.methodLink "HistoryCourt" (101 : Nat) ({ cls := "HistoryCourt$History", name := "hasCall", desc := "(I)Z" } : Jvm.MethodName)) ∈ lw_g := tw_m2 (i := 22) rfl rfl
theorem tw_263 : (Jvm.Cond.instanceMethod ({ cls := "HistoryCourt$History", name := "hasCall", desc := "(I)Z" } : Jvm.MethodName)) ∈ lw_g := tw_m2 (i := 23) rfl rfl
theorem tw_264 : (Jvm.Cond.selects "HistoryCourt$History" ({ cls := "HistoryCourt$History", name := "hasCall", desc := "(I)Z" } : Jvm.MethodName) ({ cls := "HistoryCourt$History", name := "hasCall", desc := "(I)Z" } : Jvm.MethodName)) ∈ lw_g := tw_m2 (i := 24) rfl rfl
theorem tw_265 : (Jvm.Cond.code ({ cls := "HistoryCourt$History", name := "hasCall", desc := "(I)Z" } : Jvm.MethodName) prog_3_method_3_code (2 : Nat) (Option.some Jvm.ClassFile.FieldType.boolean)) ∈ lw_g := tw_m2 (i := 25) rfl rfl
theorem tw_266 : (Jvm.Cond.methodLink "HistoryCourt" (104 : Nat) ({ cls := "HistoryCourt$History", name := "isOpen", desc := "(I)Z" } : Jvm.MethodName)) ∈ lw_g := tw_m2 (i := 26) rfl rfl
theorem tw_267 : (Jvm.Cond.instanceMethod ({ cls := "HistoryCourt$History", name := "isOpen", desc := "(I)Z" } : Jvm.MethodName)) ∈ lw_g := tw_m2 (i := 27) rfl rfl
theorem tw_268 : (Jvm.Cond.selects "HistoryCourt$History" ({ cls := "HistoryCourt$History", name := "isOpen", desc := "(I)Z" } : Jvm.MethodName) ({ cls := "HistoryCourt$History", name := "isOpen", desc := "(I)Z" } : Jvm.MethodName)) ∈ lw_g := tw_m2 (i := 28) rfl rfl
theorem tw_269 : (Jvm.Cond.code ({ cls := "HistoryCourt$History", name := "isOpen", desc := "(I)Z" } : Jvm.MethodName) prog_3_method_4_code (2 : Nat) (Option.some Jvm.ClassFile.FieldType.boolean)) ∈ lw_g := tw_m2 (i := 29) rfl rfl
theorem tw_270 : (Jvm.Cond.methodLink "HistoryCourt$History" (56 : Nat) ({ cls := "HistoryCourt$History", name := "hasCall", desc := "(I)Z" } : Jvm.MethodName)) ∈ lw_g := tw_m2 (i := 30) rfl rfl
theorem tw_271 : (Jvm.Cond.methodLink "HistoryCourt" (107 : Nat) ({ cls := "HistoryCourt$History", name := "end", desc := "(II)I" } : Jvm.MethodName)) ∈ lw_g := tw_m2 (i := 31) rfl rfl
theorem tw_272 : (Jvm.Cond.instanceMethod ({ cls := "HistoryCourt$History", name := "end", desc := "(II)I" } : Jvm.MethodName)) ∈ lw_g := tw_m2 (i := 32) rfl rfl
theorem tw_273 : (Jvm.Cond.selects "HistoryCourt$History" ({ cls := "HistoryCourt$History", name := "end", desc := "(II)I" } : Jvm.MethodName) ({ cls := "HistoryCourt$History", name := "end", desc := "(II)I" } : Jvm.MethodName)) ∈ lw_g := tw_m2 (i := 33) rfl rfl
theorem tw_274 : (Jvm.Cond.code ({ cls := "HistoryCourt$History", name := "end", desc := "(II)I" } : Jvm.MethodName) prog_3_method_7_code (3 : Nat) (Option.some Jvm.ClassFile.FieldType.int)) ∈ lw_g := tw_m2 (i := 34) rfl rfl
theorem tw_275 : (Jvm.Cond.methodLink "HistoryCourtLaw" (42 : Nat) ({ cls := "HistoryCourt", name := "alter", desc := "(III)I" } : Jvm.MethodName)) ∈ lw_g := tw_m2 (i := 35) rfl rfl
theorem tw_276 : (Jvm.Cond.instanceMethod ({ cls := "HistoryCourt", name := "alter", desc := "(III)I" } : Jvm.MethodName)) ∈ lw_g := tw_m2 (i := 36) rfl rfl
theorem tw_277 : (Jvm.Cond.selects "HistoryCourt" ({ cls := "HistoryCourt", name := "alter", desc := "(III)I" } : Jvm.MethodName) ({ cls := "HistoryCourt", name := "alter", desc := "(III)I" } : Jvm.MethodName)) ∈ lw_g := tw_m2 (i := 37) rfl rfl
theorem tw_278 : (Jvm.Cond.code ({ cls := "HistoryCourt", name := "alter", desc := "(III)I" } : Jvm.MethodName) prog_1_method_8_code (6 : Nat) (Option.some Jvm.ClassFile.FieldType.int)) ∈ lw_g := tw_m2 (i := 38) rfl rfl
theorem tw_279 : (Jvm.Cond.methodLink "HistoryCourt" (111 : Nat) ({ cls := "HistoryCourt", name := "answered", desc := "(II)I" } : Jvm.MethodName)) ∈ lw_g := tw_m2 (i := 39) rfl rfl
theorem tw_280 : (Jvm.Cond.instanceMethod ({ cls := "HistoryCourt", name := "answered", desc := "(II)I" } : Jvm.MethodName)) ∈ lw_g := tw_m2 (i := 40) rfl rfl
theorem tw_281 : (Jvm.Cond.selects "HistoryCourt" ({ cls := "HistoryCourt", name := "answered", desc := "(II)I" } : Jvm.MethodName) ({ cls := "HistoryCourt", name := "answered", desc := "(II)I" } : Jvm.MethodName)) ∈ lw_g := tw_m2 (i := 41) rfl rfl
theorem tw_282 : (Jvm.Cond.code ({ cls := "HistoryCourt", name := "answered", desc := "(II)I" } : Jvm.MethodName) prog_1_method_10_code (4 : Nat) (Option.some Jvm.ClassFile.FieldType.int)) ∈ lw_g := tw_m2 (i := 42) rfl rfl
theorem tw_283 : (Jvm.Cond.methodLink "HistoryCourtLaw" (46 : Nat) ({ cls := "HistoryCourt", name := "status", desc := "()I" } : Jvm.MethodName)) ∈ lw_g := tw_m2 (i := 43) rfl rfl
theorem tw_284 : (Jvm.Cond.instanceMethod ({ cls := "HistoryCourt", name := "status", desc := "()I" } : Jvm.MethodName)) ∈ lw_g := tw_m2 (i := 44) rfl rfl
theorem tw_285 : (Jvm.Cond.selects "HistoryCourt" ({ cls := "HistoryCourt", name := "status", desc := "()I" } : Jvm.MethodName) ({ cls := "HistoryCourt", name := "status", desc := "()I" } : Jvm.MethodName)) ∈ lw_g := tw_m2 (i := 45) rfl rfl
theorem tw_286 : (Jvm.Cond.code ({ cls := "HistoryCourt", name := "status", desc := "()I" } : Jvm.MethodName) prog_1_method_9_code (1 : Nat) (Option.some Jvm.ClassFile.FieldType.int)) ∈ lw_g := tw_m2 (i := 46) rfl rfl
theorem tw_287 : (Jvm.Cond.methodLink "HistoryCourtLaw" (50 : Nat) ({ cls := "HistoryCourt", name := "answered", desc := "(II)I" } : Jvm.MethodName)) ∈ lw_g := tw_m2 (i := 47) rfl rfl
theorem tw_288 : (Jvm.Cond.methodLink "HistoryCourtLaw" (54 : Nat) ({ cls := "HistoryCourt", name := "call", desc := "(III)I" } : Jvm.MethodName)) ∈ lw_g := tw_m2 (i := 48) rfl rfl
theorem tw_289 : (Jvm.Cond.instanceMethod ({ cls := "HistoryCourt", name := "call", desc := "(III)I" } : Jvm.MethodName)) ∈ lw_g := tw_m2 (i := 49) rfl rfl
theorem tw_290 : (Jvm.Cond.selects "HistoryCourt" ({ cls := "HistoryCourt", name := "call", desc := "(III)I" } : Jvm.MethodName) ({ cls := "HistoryCourt", name := "call", desc := "(III)I" } : Jvm.MethodName)) ∈ lw_g := tw_m2 (i := 50) rfl rfl
theorem tw_291 : (Jvm.Cond.code ({ cls := "HistoryCourt", name := "call", desc := "(III)I" } : Jvm.MethodName) prog_1_method_11_code (5 : Nat) (Option.some Jvm.ClassFile.FieldType.int)) ∈ lw_g := tw_m2 (i := 51) rfl rfl
theorem tw_292 : (Jvm.Cond.methodLink "HistoryCourtLaw" (58 : Nat) ({ cls := "HistoryCourt", name := "about", desc := "(II)I" } : Jvm.MethodName)) ∈ lw_g := tw_m2 (i := 52) rfl rfl
theorem tw_293 : (Jvm.Cond.instanceMethod ({ cls := "HistoryCourt", name := "about", desc := "(II)I" } : Jvm.MethodName)) ∈ lw_g := tw_m2 (i := 53) rfl rfl
theorem tw_294 : (Jvm.Cond.selects "HistoryCourt" ({ cls := "HistoryCourt", name := "about", desc := "(II)I" } : Jvm.MethodName) ({ cls := "HistoryCourt", name := "about", desc := "(II)I" } : Jvm.MethodName)) ∈ lw_g := tw_m2 (i := 54) rfl rfl
theorem tw_295 : (Jvm.Cond.code ({ cls := "HistoryCourt", name := "about", desc := "(II)I" } : Jvm.MethodName) prog_1_method_12_code (4 : Nat) (Option.some Jvm.ClassFile.FieldType.int)) ∈ lw_g := tw_m2 (i := 55) rfl rfl
theorem tw_296 : (Jvm.Cond.methodLink "HistoryCourt" (132 : Nat) ({ cls := "HistoryCourt$History", name := "endedCalls", desc := "()I" } : Jvm.MethodName)) ∈ lw_g := tw_m2 (i := 56) rfl rfl
theorem tw_297 : (Jvm.Cond.instanceMethod ({ cls := "HistoryCourt$History", name := "endedCalls", desc := "()I" } : Jvm.MethodName)) ∈ lw_g := tw_m2 (i := 57) rfl rfl
theorem tw_298 : (Jvm.Cond.selects "HistoryCourt$History" ({ cls := "HistoryCourt$History", name := "endedCalls", desc := "()I" } : Jvm.MethodName) ({ cls := "HistoryCourt$History", name := "endedCalls", desc := "()I" } : Jvm.MethodName)) ∈ lw_g := tw_m2 (i := 58) rfl rfl
theorem tw_299 : (Jvm.Cond.code ({ cls := "HistoryCourt$History", name := "endedCalls", desc := "()I" } : Jvm.MethodName) prog_3_method_9_code (3 : Nat) (Option.some Jvm.ClassFile.FieldType.int)) ∈ lw_g := tw_m2 (i := 59) rfl rfl
theorem tw_300 : (Jvm.Cond.methodLink "HistoryCourt" (136 : Nat) ({ cls := "java/lang/Integer", name := "bitCount", desc := "(I)I" } : Jvm.MethodName)) ∈ lw_g := tw_m2 (i := 60) rfl rfl
theorem tw_301 : (Jvm.Cond.static ({ cls := "java/lang/Integer", name := "bitCount", desc := "(I)I" } : Jvm.MethodName)) ∈ lw_g := tw_m2 (i := 61) rfl rfl
theorem tw_302 : (Jvm.Cond.code ({ cls := "java/lang/Integer", name := "bitCount", desc := "(I)I" } : Jvm.MethodName) prog_10_method_49_code (1 : Nat) (Option.some Jvm.ClassFile.FieldType.int)) ∈ lw_g := tw_m2 (i := 62) rfl rfl
theorem tw_303 : (Jvm.Cond.constant "java/lang/Integer" (265 : Nat) (1431655765 : Int32)) ∈ lw_g := tw_m2 (i := 63) rfl rfl
theorem tw_304 : (Jvm.Cond.constant "java/lang/Integer" (266 : Nat) (858993459 : Int32)) ∈ lw_g := tw_m2 (i := 64) rfl rfl
theorem tw_305 : (Jvm.Cond.constant "java/lang/Integer" (267 : Nat) (252645135 : Int32)) ∈ lw_g := tw_m2 (i := 65) rfl rfl
theorem tw_306 : (Jvm.Cond.methodLink "HistoryCourtLaw" (62 : Nat) ({ cls := "HistoryCourt", name := "ahead", desc := "(IIII)I" } : Jvm.MethodName)) ∈ lw_g := tw_m2 (i := 66) rfl rfl
theorem tw_307 : (Jvm.Cond.instanceMethod ({ cls := "HistoryCourt", name := "ahead", desc := "(IIII)I" } : Jvm.MethodName)) ∈ lw_g := tw_m2 (i := 67) rfl rfl
theorem tw_308 : (Jvm.Cond.selects "HistoryCourt" ({ cls := "HistoryCourt", name := "ahead", desc := "(IIII)I" } : Jvm.MethodName) ({ cls := "HistoryCourt", name := "ahead", desc := "(IIII)I" } : Jvm.MethodName)) ∈ lw_g := tw_m2 (i := 68) rfl rfl
theorem tw_309 : (Jvm.Cond.code ({ cls := "HistoryCourt", name := "ahead", desc := "(IIII)I" } : Jvm.MethodName) prog_1_method_13_code (6 : Nat) (Option.some Jvm.ClassFile.FieldType.int)) ∈ lw_g := tw_m2 (i := 69) rfl rfl
theorem tw_310 : (Jvm.Cond.methodLink "HistoryCourt" (145 : Nat) ({ cls := "HistoryCourt", name := "isRule", desc := "(I)Z" } : Jvm.MethodName)) ∈ lw_g := tw_m2 (i := 70) rfl rfl
theorem tw_311 : (Jvm.Cond.static ({ cls := "HistoryCourt", name := "isRule", desc := "(I)Z" } : Jvm.MethodName)) ∈ lw_g := tw_m2 (i := 71) rfl rfl
theorem tw_312 : (Jvm.Cond.code ({ cls := "HistoryCourt", name := "isRule", desc := "(I)Z" } : Jvm.MethodName) prog_1_method_28_code (1 : Nat) (Option.some Jvm.ClassFile.FieldType.boolean)) ∈ lw_g := tw_m2 (i := 72) rfl rfl
theorem tw_313 : (Jvm.Cond.methodLink "HistoryCourt" (148 : Nat) ({ cls := "HistoryCourt$History", name := "allCalls", desc := "()I" } : Jvm.MethodName)) ∈ lw_g := tw_m2 (i := 73) rfl rfl
theorem tw_314 : (Jvm.Cond.instanceMethod ({ cls := "HistoryCourt$History", name := "allCalls", desc := "()I" } : Jvm.MethodName)) ∈ lw_g := tw_m2 (i := 74) rfl rfl
theorem tw_315 : (Jvm.Cond.selects "HistoryCourt$History" ({ cls := "HistoryCourt$History", name := "allCalls", desc := "()I" } : Jvm.MethodName) ({ cls := "HistoryCourt$History", name := "allCalls", desc := "()I" } : Jvm.MethodName)) ∈ lw_g := tw_m2 (i := 75) rfl rfl
theorem tw_316 : (Jvm.Cond.code ({ cls := "HistoryCourt$History", name := "allCalls", desc := "()I" } : Jvm.MethodName) prog_3_method_8_code (1 : Nat) (Option.some Jvm.ClassFile.FieldType.int)) ∈ lw_g := tw_m2 (i := 76) rfl rfl
theorem tw_317 : (Jvm.Cond.methodLink "HistoryCourt" (151 : Nat) ({ cls := "HistoryCourt$History", name := "quietTicks", desc := "(I)I" } : Jvm.MethodName)) ∈ lw_g := tw_m2 (i := 77) rfl rfl
theorem tw_318 : (Jvm.Cond.instanceMethod ({ cls := "HistoryCourt$History", name := "quietTicks", desc := "(I)I" } : Jvm.MethodName)) ∈ lw_g := tw_m2 (i := 78) rfl rfl
theorem tw_319 : (Jvm.Cond.selects "HistoryCourt$History" ({ cls := "HistoryCourt$History", name := "quietTicks", desc := "(I)I" } : Jvm.MethodName) ({ cls := "HistoryCourt$History", name := "quietTicks", desc := "(I)I" } : Jvm.MethodName)) ∈ lw_g := tw_m2 (i := 79) rfl rfl
theorem tw_320 : (Jvm.Cond.code ({ cls := "HistoryCourt$History", name := "quietTicks", desc := "(I)I" } : Jvm.MethodName) prog_3_method_11_code (4 : Nat) (Option.some Jvm.ClassFile.FieldType.int)) ∈ lw_g := tw_m2 (i := 80) rfl rfl
theorem tw_321 : (Jvm.Cond.methodLink "HistoryCourt$History" (60 : Nat) ({ cls := "HistoryCourt$History", name := "isQuiet", desc := "(II)Z" } : Jvm.MethodName)) ∈ lw_g := tw_m2 (i := 81) rfl rfl
theorem tw_323 : (Jvm.Cond.instanceMethod ({ cls := "HistoryCourt$History", name := "isQuiet", desc := "(II)Z" } : Jvm.MethodName)) ∈ lw_g := tw_m2 (i := 83) rfl rfl
theorem tw_324 : (Jvm.Cond.code ({ cls := "HistoryCourt$History", name := "isQuiet", desc := "(II)Z" } : Jvm.MethodName) prog_3_method_12_code (5 : Nat) (Option.some Jvm.ClassFile.FieldType.boolean)) ∈ lw_g := tw_m2 (i := 84) rfl rfl
theorem tw_326 : (Jvm.Cond.static ({ cls := "HistoryCourt", name := "holds", desc := "(II)Z" } : Jvm.MethodName)) ∈ lw_g := tw_m2 (i := 86) rfl rfl
theorem tw_327 : (Jvm.Cond.code ({ cls := "HistoryCourt", name := "holds", desc := "(II)Z" } : Jvm.MethodName) prog_1_method_29_code (2 : Nat) (Option.some Jvm.ClassFile.FieldType.boolean)) ∈ lw_g := tw_m2 (i := 87) rfl rfl
theorem tw_328 : (Jvm.Cond.methodLink "HistoryCourt" (154 : Nat) ({ cls := "HistoryCourt$History", name := "isAhead", desc := "(IIII)Z" } : Jvm.MethodName)) ∈ lw_g := tw_m2 (i := 88) rfl rfl
theorem tw_329 : (Jvm.Cond.instanceMethod ({ cls := "HistoryCourt$History", name := "isAhead", desc := "(IIII)Z" } : Jvm.MethodName)) ∈ lw_g := tw_m2 (i := 89) rfl rfl
theorem tw_330 : (Jvm.Cond.selects "HistoryCourt$History" ({ cls := "HistoryCourt$History", name := "isAhead", desc := "(IIII)Z" } : Jvm.MethodName) ({ cls := "HistoryCourt$History", name := "isAhead", desc := "(IIII)Z" } : Jvm.MethodName)) ∈ lw_g := tw_m2 (i := 90) rfl rfl
theorem tw_331 : (Jvm.Cond.code ({ cls := "HistoryCourt$History", name := "isAhead", desc := "(IIII)Z" } : Jvm.MethodName) prog_3_method_13_code (6 : Nat) (Option.some Jvm.ClassFile.FieldType.boolean)) ∈ lw_g := tw_m2 (i := 91) rfl rfl
theorem tw_332 : (Jvm.Cond.methodLink "HistoryCourt$History" (67 : Nat) ({ cls := "HistoryCourt$History", name := "isOpen", desc := "(I)Z" } : Jvm.MethodName)) ∈ lw_g := tw_m2 (i := 92) rfl rfl
theorem tw_333 : (Jvm.Cond.methodLink "HistoryCourtLaw" (67 : Nat) ({ cls := "HistoryCourt", name := "judge", desc := "(II)I" } : Jvm.MethodName)) ∈ lw_g := tw_m2 (i := 93) rfl rfl
theorem tw_334 : (Jvm.Cond.instanceMethod ({ cls := "HistoryCourt", name := "judge", desc := "(II)I" } : Jvm.MethodName)) ∈ lw_g := tw_m2 (i := 94) rfl rfl
theorem tw_335 : (Jvm.Cond.selects "HistoryCourt" ({ cls := "HistoryCourt", name := "judge", desc := "(II)I" } : Jvm.MethodName) ({ cls := "HistoryCourt", name := "judge", desc := "(II)I" } : Jvm.MethodName)) ∈ lw_g := tw_m2 (i := 95) rfl rfl
theorem tw_336 : (Jvm.Cond.code ({ cls := "HistoryCourt", name := "judge", desc := "(II)I" } : Jvm.MethodName) prog_1_method_14_code (4 : Nat) (Option.some Jvm.ClassFile.FieldType.int)) ∈ lw_g := tw_m2 (i := 96) rfl rfl
theorem tw_337 : (Jvm.Cond.methodLink "HistoryCourt" (158 : Nat) ({ cls := "HistoryCourt$Search", name := "takes", desc := "(LHistoryCourt$History;II)Z" } : Jvm.MethodName)) ∈ lw_g := tw_m2 (i := 97) rfl rfl
theorem tw_338 : (Jvm.Cond.instanceMethod ({ cls := "HistoryCourt$Search", name := "takes", desc := "(LHistoryCourt$History;II)Z" } : Jvm.MethodName)) ∈ lw_g := tw_m2 (i := 98) rfl rfl
theorem tw_339 : (Jvm.Cond.selects "HistoryCourt$Search" ({ cls := "HistoryCourt$Search", name := "takes", desc := "(LHistoryCourt$History;II)Z" } : Jvm.MethodName) ({ cls := "HistoryCourt$Search", name := "takes", desc := "(LHistoryCourt$History;II)Z" } : Jvm.MethodName)) ∈ lw_g := tw_m2 (i := 99) rfl rfl
theorem tw_340 : (Jvm.Cond.code ({ cls := "HistoryCourt$Search", name := "takes", desc := "(LHistoryCourt$History;II)Z" } : Jvm.MethodName) prog_6_method_2_code (4 : Nat) (Option.some Jvm.ClassFile.FieldType.boolean)) ∈ lw_g := tw_m2 (i := 100) rfl rfl
theorem tw_341 : (Jvm.Cond.methodLink "HistoryCourt$Search" (33 : Nat) ({ cls := "HistoryCourt$Search", name := "open", desc := "(LHistoryCourt$History;IIZ)V" } : Jvm.MethodName)) ∈ lw_g := tw_m2 (i := 101) rfl rfl
theorem tw_343 : (Jvm.Cond.instanceMethod ({ cls := "HistoryCourt$Search", name := "open", desc := "(LHistoryCourt$History;IIZ)V" } : Jvm.MethodName)) ∈ lw_g := tw_m2 (i := 103) rfl rfl
theorem tw_344 : (Jvm.Cond.code ({ cls := "HistoryCourt$Search", name := "open", desc := "(LHistoryCourt$History;IIZ)V" } : Jvm.MethodName) prog_6_method_8_code (8 : Nat) (Option.none : Option Jvm.ClassFile.FieldType)) ∈ lw_g := tw_m2 (i := 104) rfl rfl
theorem tw_345 : (Jvm.Cond.methodLink "HistoryCourt$Search" (81 : Nat) ({ cls := "HistoryCourt$History", name := "endedCalls", desc := "()I" } : Jvm.MethodName)) ∈ lw_g := tw_m2 (i := 105) rfl rfl
theorem tw_346 : (Jvm.Cond.methodLink "HistoryCourt$Search" (91 : Nat) ({ cls := "HistoryCourt$Memo", name := "forget", desc := "()V" } : Jvm.MethodName)) ∈ lw_g := tw_m2 (i := 106) rfl rfl
theorem tw_347 : (Jvm.Cond.instanceMethod ({ cls := "HistoryCourt$Memo", name := "forget", desc := "()V" } : Jvm.MethodName)) ∈ lw_g := tw_m2 (i := 107) rfl rfl
theorem tw_348 : (Jvm.Cond.selects "HistoryCourt$Memo" ({ cls := "HistoryCourt$Memo", name := "forget", desc := "()V" } : Jvm.MethodName) ({ cls := "HistoryCourt$Memo", name := "forget", desc := "()V" } : Jvm.MethodName)) ∈ lw_g := tw_m2 (i := 108) rfl rfl
theorem tw_349 : (Jvm.Cond.code ({ cls := "HistoryCourt$Memo", name := "forget", desc := "()V" } : Jvm.MethodName) prog_4_method_2_code (1 : Nat) (Option.none : Option Jvm.ClassFile.FieldType)) ∈ lw_g := tw_m2 (i := 109) rfl rfl
theorem tw_350 : (Jvm.Cond.methodLink "HistoryCourt$Search" (94 : Nat) ({ cls := "HistoryCourt$History", name := "quietTicks", desc := "(I)I" } : Jvm.MethodName)) ∈ lw_g := tw_m2 (i := 110) rfl rfl
theorem tw_352 : (Jvm.Cond.methodLink "HistoryCourt$Search" (102 : Nat) ({ cls := "HistoryCourt$History", name := "isAhead", desc := "(IIII)Z" } : Jvm.MethodName)) ∈ lw_g := tw_m2 (i := 112) rfl rfl
theorem tw_353 : (Jvm.Cond.methodLink "HistoryCourt$Search" (37 : Nat) ({ cls := "HistoryCourt$Search", name := "waysFrom", desc := "(IIJ)J" } : Jvm.MethodName)) ∈ lw_g := tw_m2 (i := 113) rfl rfl
theorem tw_355 : (Jvm.Cond.instanceMethod ({ cls := "HistoryCourt$Search", name := "waysFrom", desc := "(IIJ)J" } : Jvm.MethodName)) ∈ lw_g := tw_m2 (i := 115) rfl rfl
theorem tw_356 : (Jvm.Cond.code ({ cls := "HistoryCourt$Search", name := "waysFrom", desc := "(IIJ)J" } : Jvm.MethodName) prog_6_method_12_code (12 : Nat) (Option.some Jvm.ClassFile.FieldType.long)) ∈ lw_g := tw_m2 (i := 116) rfl rfl
theorem tw_357 : (Jvm.Cond.methodLink "HistoryCourt$Search" (119 : Nat) ({ cls := "HistoryCourt$Search", name := "keyOf", desc := "(IJ)J" } : Jvm.MethodName)) ∈ lw_g := tw_m2 (i := 117) rfl rfl
theorem tw_358 : (Jvm.Cond.static ({ cls := "HistoryCourt$Search", name := "keyOf", desc := "(IJ)J" } : Jvm.MethodName)) ∈ lw_g := tw_m2 (i := 118) rfl rfl
theorem tw_359 : (Jvm.Cond.code ({ cls := "HistoryCourt$Search", name := "keyOf", desc := "(IJ)J" } : Jvm.MethodName) prog_6_method_11_code (3 : Nat) (Option.some Jvm.ClassFile.FieldType.long)) ∈ lw_g := tw_m2 (i := 119) rfl rfl
theorem tw_360 : (Jvm.Cond.methodLink "HistoryCourt$Search" (123 : Nat) ({ cls := "HistoryCourt$Memo", name := "valueOf", desc := "(J)J" } : Jvm.MethodName)) ∈ lw_g := tw_m2 (i := 120) rfl rfl
theorem tw_361 : (Jvm.Cond.instanceMethod ({ cls := "HistoryCourt$Memo", name := "valueOf", desc := "(J)J" } : Jvm.MethodName)) ∈ lw_g := tw_m2 (i := 121) rfl rfl
theorem tw_362 : (Jvm.Cond.selects "HistoryCourt$Memo" ({ cls := "HistoryCourt$Memo", name := "valueOf", desc := "(J)J" } : Jvm.MethodName) ({ cls := "HistoryCourt$Memo", name := "valueOf", desc := "(J)J" } : Jvm.MethodName)) ∈ lw_g := tw_m2 (i := 122) rfl rfl
theorem tw_363 : (Jvm.Cond.code ({ cls := "HistoryCourt$Memo", name := "valueOf", desc := "(J)J" } : Jvm.MethodName) prog_4_method_4_code (4 : Nat) (Option.some Jvm.ClassFile.FieldType.long)) ∈ lw_g := tw_m2 (i := 123) rfl rfl
theorem tw_364 : (Jvm.Cond.methodLink "HistoryCourt$Memo" (28 : Nat) ({ cls := "HistoryCourt$Memo", name := "placeOf", desc := "(J)I" } : Jvm.MethodName)) ∈ lw_g := tw_m2 (i := 124) rfl rfl
theorem tw_365 : (Jvm.Cond.static ({ cls := "HistoryCourt$Memo", name := "placeOf", desc := "(J)I" } : Jvm.MethodName)) ∈ lw_g := tw_m2 (i := 125) rfl rfl
theorem tw_366 : (Jvm.Cond.code ({ cls := "HistoryCourt$Memo", name := "placeOf", desc := "(J)I" } : Jvm.MethodName) prog_4_method_3_code (2 : Nat) (Option.some Jvm.ClassFile.FieldType.int)) ∈ lw_g := tw_m2 (i := 126) rfl rfl
theorem tw_367 : (Jvm.Cond.constantLong "HistoryCourt$Memo" (26 : Nat) (-7046029254386353131 : Int64)) ∈ lw_g := tw_m2 (i := 127) rfl rfl
theorem tw_368 : (Jvm.Cond.constantLong "HistoryCourt$Memo" (32 : Nat) (-1 : Int64)) ∈ lw_g := tw_m2 (i := 128) rfl rfl
theorem tw_369 : (Jvm.Cond.constantLong "HistoryCourt$Search" (127 : Nat) (-1 : Int64)) ∈ lw_g := tw_m2 (i := 129) rfl rfl
theorem tw_370 : (Jvm.Cond.methodLink "HistoryCourt$Search" (45 : Nat) ({ cls := "HistoryCourt$Search", name := "isWhole", desc := "(I)Z" } : Jvm.MethodName)) ∈ lw_g := tw_m2 (i := 130) rfl rfl
theorem tw_372 : (Jvm.Cond.instanceMethod ({ cls := "HistoryCourt$Search", name := "isWhole", desc := "(I)Z" } : Jvm.MethodName)) ∈ lw_g := tw_m2 (i := 132) rfl rfl
theorem tw_373 : (Jvm.Cond.code ({ cls := "HistoryCourt$Search", name := "isWhole", desc := "(I)Z" } : Jvm.MethodName) prog_6_method_9_code (2 : Nat) (Option.some Jvm.ClassFile.FieldType.boolean)) ∈ lw_g := tw_m2 (i := 133) rfl rfl
theorem tw_374 : (Jvm.Cond.methodLink "HistoryCourt$Search" (74 : Nat) ({ cls := "HistoryCourt$Search", name := "fits", desc := "(IIJ)Z" } : Jvm.MethodName)) ∈ lw_g := tw_m2 (i := 134) rfl rfl
theorem tw_376 : (Jvm.Cond.instanceMethod ({ cls := "HistoryCourt$Search", name := "fits", desc := "(IIJ)Z" } : Jvm.MethodName)) ∈ lw_g := tw_m2 (i := 136) rfl rfl
theorem tw_377 : (Jvm.Cond.code ({ cls := "HistoryCourt$Search", name := "fits", desc := "(IIJ)Z" } : Jvm.MethodName) prog_6_method_10_code (5 : Nat) (Option.some Jvm.ClassFile.FieldType.boolean)) ∈ lw_g := tw_m2 (i := 137) rfl rfl
theorem tw_378 : (Jvm.Cond.methodLink "HistoryCourt$Search" (106 : Nat) ({ cls := "HistoryCourt$History", name := "hasCall", desc := "(I)Z" } : Jvm.MethodName)) ∈ lw_g := tw_m2 (i := 138) rfl rfl
theorem tw_379 : (Jvm.Cond.methodLink "HistoryCourt$Search" (109 : Nat) ({ cls := "HistoryCourt$History", name := "isOpen", desc := "(I)Z" } : Jvm.MethodName)) ∈ lw_g := tw_m2 (i := 139) rfl rfl
theorem tw_380 : (Jvm.Cond.methodLink "HistoryCourt$Search" (112 : Nat) ({ cls := "HistoryCourt$Model", name := "reply", desc := "(LHistoryCourt$History;IJ)I" } : Jvm.MethodName)) ∈ lw_g := tw_m2 (i := 140) rfl rfl
theorem tw_381 : (Jvm.Cond.static ({ cls := "HistoryCourt$Model", name := "reply", desc := "(LHistoryCourt$History;IJ)I" } : Jvm.MethodName)) ∈ lw_g := tw_m2 (i := 141) rfl rfl
theorem tw_382 : (Jvm.Cond.code ({ cls := "HistoryCourt$Model", name := "reply", desc := "(LHistoryCourt$History;IJ)I" } : Jvm.MethodName) prog_5_method_4_code (4 : Nat) (Option.some Jvm.ClassFile.FieldType.int)) ∈ lw_g := tw_m2 (i := 142) rfl rfl
theorem tw_383 : (Jvm.Cond.methodLink "HistoryCourt$Model" (31 : Nat) ({ cls := "HistoryCourt$Model", name := "cellReply", desc := "(III)I" } : Jvm.MethodName)) ∈ lw_g := tw_m2 (i := 143) rfl rfl
theorem tw_384 : (Jvm.Cond.static ({ cls := "HistoryCourt$Model", name := "cellReply", desc := "(III)I" } : Jvm.MethodName)) ∈ lw_g := tw_m2 (i := 144) rfl rfl
theorem tw_385 : (Jvm.Cond.code ({ cls := "HistoryCourt$Model", name := "cellReply", desc := "(III)I" } : Jvm.MethodName) prog_5_method_6_code (3 : Nat) (Option.some Jvm.ClassFile.FieldType.int)) ∈ lw_g := tw_m2 (i := 145) rfl rfl
theorem tw_386 : (Jvm.Cond.methodLink "HistoryCourt$Model" (35 : Nat) ({ cls := "HistoryCourt$Model", name := "lengthOf", desc := "(J)I" } : Jvm.MethodName)) ∈ lw_g := tw_m2 (i := 146) rfl rfl
theorem tw_387 : (Jvm.Cond.static ({ cls := "HistoryCourt$Model", name := "lengthOf", desc := "(J)I" } : Jvm.MethodName)) ∈ lw_g := tw_m2 (i := 147) rfl rfl
theorem tw_388 : (Jvm.Cond.code ({ cls := "HistoryCourt$Model", name := "lengthOf", desc := "(J)I" } : Jvm.MethodName) prog_5_method_8_code (3 : Nat) (Option.some Jvm.ClassFile.FieldType.int)) ∈ lw_g := tw_m2 (i := 148) rfl rfl
theorem tw_389 : (Jvm.Cond.methodLink "HistoryCourt$Model" (82 : Nat) ({ cls := "java/lang/Long", name := "numberOfLeadingZeros", desc := "(J)I" } : Jvm.MethodName)) ∈ lw_g := tw_m2 (i := 149) rfl rfl
theorem tw_390 : (Jvm.Cond.static ({ cls := "java/lang/Long", name := "numberOfLeadingZeros", desc := "(J)I" } : Jvm.MethodName)) ∈ lw_g := tw_m2 (i := 150) rfl rfl
theorem tw_391 : (Jvm.Cond.code ({ cls := "java/lang/Long", name := "numberOfLeadingZeros", desc := "(J)I" } : Jvm.MethodName) prog_11_method_48_code (3 : Nat) (Option.some Jvm.ClassFile.FieldType.int)) ∈ lw_g := tw_m2 (i := 151) rfl rfl
theorem tw_392 : (Jvm.Cond.methodLink "java/lang/Long" (308 : Nat) ({ cls := "java/lang/Integer", name := "numberOfLeadingZeros", desc := "(I)I" } : Jvm.MethodName)) ∈ lw_g := tw_m2 (i := 152) rfl rfl
theorem tw_393 : (Jvm.Cond.static ({ cls := "java/lang/Integer", name := "numberOfLeadingZeros", desc := "(I)I" } : Jvm.MethodName)) ∈ lw_g := tw_m2 (i := 153) rfl rfl
theorem tw_394 : (Jvm.Cond.code ({ cls := "java/lang/Integer", name := "numberOfLeadingZeros", desc := "(I)I" } : Jvm.MethodName) prog_10_method_47_code (2 : Nat) (Option.some Jvm.ClassFile.FieldType.int)) ∈ lw_g := tw_m2 (i := 154) rfl rfl
theorem tw_395 : (Jvm.Cond.constant "java/lang/Integer" (264 : Nat) (65536 : Int32)) ∈ lw_g := tw_m2 (i := 155) rfl rfl
theorem tw_396 : (Jvm.Cond.methodLink "HistoryCourt$Model" (39 : Nat) ({ cls := "HistoryCourt$Model", name := "taken", desc := "(LHistoryCourt$History;J)I" } : Jvm.MethodName)) ∈ lw_g := tw_m2 (i := 156) rfl rfl
theorem tw_397 : (Jvm.Cond.static ({ cls := "HistoryCourt$Model", name := "taken", desc := "(LHistoryCourt$History;J)I" } : Jvm.MethodName)) ∈ lw_g := tw_m2 (i := 157) rfl rfl
theorem tw_398 : (Jvm.Cond.code ({ cls := "HistoryCourt$Model", name := "taken", desc := "(LHistoryCourt$History;J)I" } : Jvm.MethodName) prog_5_method_9_code (4 : Nat) (Option.some Jvm.ClassFile.FieldType.int)) ∈ lw_g := tw_m2 (i := 158) rfl rfl
theorem tw_399 : (Jvm.Cond.constantLong "HistoryCourt$Model" (87 : Nat) (15 : Int64)) ∈ lw_g := tw_m2 (i := 159) rfl rfl
theorem tw_400 : (Jvm.Cond.methodLink "HistoryCourt$Model" (89 : Nat) ({ cls := "HistoryCourt$History", name := "hasCall", desc := "(I)Z" } : Jvm.MethodName)) ∈ lw_g := tw_m2 (i := 160) rfl rfl
theorem tw_401 : (Jvm.Cond.methodLink "HistoryCourt$Model" (43 : Nat) ({ cls := "HistoryCourt$Model", name := "setReply", desc := "(IZ)I" } : Jvm.MethodName)) ∈ lw_g := tw_m2 (i := 161) rfl rfl
theorem tw_402 : (Jvm.Cond.static ({ cls := "HistoryCourt$Model", name := "setReply", desc := "(IZ)I" } : Jvm.MethodName)) ∈ lw_g := tw_m2 (i := 162) rfl rfl
theorem tw_403 : (Jvm.Cond.code ({ cls := "HistoryCourt$Model", name := "setReply", desc := "(IZ)I" } : Jvm.MethodName) prog_5_method_11_code (2 : Nat) (Option.some Jvm.ClassFile.FieldType.int)) ∈ lw_g := tw_m2 (i := 163) rfl rfl
theorem tw_404 : (Jvm.Cond.methodLink "HistoryCourt$Model" (47 : Nat) ({ cls := "HistoryCourt$Model", name := "valueAt", desc := "(LHistoryCourt$History;JI)I" } : Jvm.MethodName)) ∈ lw_g := tw_m2 (i := 164) rfl rfl
theorem tw_405 : (Jvm.Cond.static ({ cls := "HistoryCourt$Model", name := "valueAt", desc := "(LHistoryCourt$History;JI)I" } : Jvm.MethodName)) ∈ lw_g := tw_m2 (i := 165) rfl rfl
theorem tw_406 : (Jvm.Cond.code ({ cls := "HistoryCourt$Model", name := "valueAt", desc := "(LHistoryCourt$History;JI)I" } : Jvm.MethodName) prog_5_method_13_code (5 : Nat) (Option.some Jvm.ClassFile.FieldType.int)) ∈ lw_g := tw_m2 (i := 166) rfl rfl
theorem tw_407 : (Jvm.Cond.methodLink "HistoryCourt$Model" (58 : Nat) ({ cls := "HistoryCourt$Table", name := "answerIn", desc := "(JI)I" } : Jvm.MethodName)) ∈ lw_g := tw_m2 (i := 167) rfl rfl
theorem tw_408 : (Jvm.Cond.instanceMethod ({ cls := "HistoryCourt$Table", name := "answerIn", desc := "(JI)I" } : Jvm.MethodName)) ∈ lw_g := tw_m2 (i := 168) rfl rfl
theorem tw_409 : (Jvm.Cond.selects "HistoryCourt$Table" ({ cls := "HistoryCourt$Table", name := "answerIn", desc := "(JI)I" } : Jvm.MethodName) ({ cls := "HistoryCourt$Table", name := "answerIn", desc := "(JI)I" } : Jvm.MethodName)) ∈ lw_g := tw_m2 (i := 169) rfl rfl
theorem tw_410 : (Jvm.Cond.code ({ cls := "HistoryCourt$Table", name := "answerIn", desc := "(JI)I" } : Jvm.MethodName) prog_7_method_5_code (4 : Nat) (Option.some Jvm.ClassFile.FieldType.int)) ∈ lw_g := tw_m2 (i := 170) rfl rfl
theorem tw_411 : (Jvm.Cond.methodLink "HistoryCourt$Search" (53 : Nat) ({ cls := "HistoryCourt$Model", name := "after", desc := "(LHistoryCourt$History;IJ)J" } : Jvm.MethodName)) ∈ lw_g := tw_m2 (i := 171) rfl rfl
theorem tw_412 : (Jvm.Cond.static ({ cls := "HistoryCourt$Model", name := "after", desc := "(LHistoryCourt$History;IJ)J" } : Jvm.MethodName)) ∈ lw_g := tw_m2 (i := 172) rfl rfl
theorem tw_413 : (Jvm.Cond.code ({ cls := "HistoryCourt$Model", name := "after", desc := "(LHistoryCourt$History;IJ)J" } : Jvm.MethodName) prog_5_method_5_code (4 : Nat) (Option.some Jvm.ClassFile.FieldType.long)) ∈ lw_g := tw_m2 (i := 173) rfl rfl
theorem tw_414 : (Jvm.Cond.methodLink "HistoryCourt$Model" (64 : Nat) ({ cls := "HistoryCourt$Model", name := "cellAfter", desc := "(LHistoryCourt$History;IJ)J" } : Jvm.MethodName)) ∈ lw_g := tw_m2 (i := 174) rfl rfl
theorem tw_415 : (Jvm.Cond.static ({ cls := "HistoryCourt$Model", name := "cellAfter", desc := "(LHistoryCourt$History;IJ)J" } : Jvm.MethodName)) ∈ lw_g := tw_m2 (i := 175) rfl rfl
theorem tw_416 : (Jvm.Cond.code ({ cls := "HistoryCourt$Model", name := "cellAfter", desc := "(LHistoryCourt$History;IJ)J" } : Jvm.MethodName) prog_5_method_7_code (4 : Nat) (Option.some Jvm.ClassFile.FieldType.long)) ∈ lw_g := tw_m2 (i := 176) rfl rfl
theorem tw_417 : (Jvm.Cond.methodLink "HistoryCourt$Model" (68 : Nat) ({ cls := "HistoryCourt$Model", name := "putBehind", desc := "(IJ)J" } : Jvm.MethodName)) ∈ lw_g := tw_m2 (i := 177) rfl rfl
theorem tw_418 : (Jvm.Cond.static ({ cls := "HistoryCourt$Model", name := "putBehind", desc := "(IJ)J" } : Jvm.MethodName)) ∈ lw_g := tw_m2 (i := 178) rfl rfl
theorem tw_419 : (Jvm.Cond.code ({ cls := "HistoryCourt$Model", name := "putBehind", desc := "(IJ)J" } : Jvm.MethodName) prog_5_method_10_code (3 : Nat) (Option.some Jvm.ClassFile.FieldType.long)) ∈ lw_g := tw_m2 (i := 179) rfl rfl
theorem tw_420 : (Jvm.Cond.methodLink "HistoryCourt$Model" (72 : Nat) ({ cls := "HistoryCourt$Model", name := "setAfter", desc := "(IJJ)J" } : Jvm.MethodName)) ∈ lw_g := tw_m2 (i := 180) rfl rfl
theorem tw_421 : (Jvm.Cond.static ({ cls := "HistoryCourt$Model", name := "setAfter", desc := "(IJJ)J" } : Jvm.MethodName)) ∈ lw_g := tw_m2 (i := 181) rfl rfl
theorem tw_422 : (Jvm.Cond.code ({ cls := "HistoryCourt$Model", name := "setAfter", desc := "(IJJ)J" } : Jvm.MethodName) prog_5_method_12_code (5 : Nat) (Option.some Jvm.ClassFile.FieldType.long)) ∈ lw_g := tw_m2 (i := 182) rfl rfl
theorem tw_423 : (Jvm.Cond.constantLong "HistoryCourt$Model" (92 : Nat) (-1 : Int64)) ∈ lw_g := tw_m2 (i := 183) rfl rfl
theorem tw_424 : (Jvm.Cond.methodLink "HistoryCourt$Model" (76 : Nat) ({ cls := "HistoryCourt$Model", name := "mapAfter", desc := "(LHistoryCourt$History;IJ)J" } : Jvm.MethodName)) ∈ lw_g := tw_m2 (i := 184) rfl rfl
theorem tw_425 : (Jvm.Cond.static ({ cls := "HistoryCourt$Model", name := "mapAfter", desc := "(LHistoryCourt$History;IJ)J" } : Jvm.MethodName)) ∈ lw_g := tw_m2 (i := 185) rfl rfl
theorem tw_426 : (Jvm.Cond.code ({ cls := "HistoryCourt$Model", name := "mapAfter", desc := "(LHistoryCourt$History;IJ)J" } : Jvm.MethodName) prog_5_method_14_code (6 : Nat) (Option.some Jvm.ClassFile.FieldType.long)) ∈ lw_g := tw_m2 (i := 186) rfl rfl
theorem tw_427 : (Jvm.Cond.methodLink "HistoryCourt$Model" (79 : Nat) ({ cls := "HistoryCourt$Table", name := "nextIn", desc := "(JI)I" } : Jvm.MethodName)) ∈ lw_g := tw_m2 (i := 187) rfl rfl
theorem tw_428 : (Jvm.Cond.instanceMethod ({ cls := "HistoryCourt$Table", name := "nextIn", desc := "(JI)I" } : Jvm.MethodName)) ∈ lw_g := tw_m2 (i := 188) rfl rfl
theorem tw_429 : (Jvm.Cond.selects "HistoryCourt$Table" ({ cls := "HistoryCourt$Table", name := "nextIn", desc := "(JI)I" } : Jvm.MethodName) ({ cls := "HistoryCourt$Table", name := "nextIn", desc := "(JI)I" } : Jvm.MethodName)) ∈ lw_g := tw_m2 (i := 189) rfl rfl
theorem tw_430 : (Jvm.Cond.code ({ cls := "HistoryCourt$Table", name := "nextIn", desc := "(JI)I" } : Jvm.MethodName) prog_7_method_6_code (4 : Nat) (Option.some Jvm.ClassFile.FieldType.int)) ∈ lw_g := tw_m2 (i := 190) rfl rfl
theorem tw_431 : (Jvm.Cond.methodLink "HistoryCourt$Search" (129 : Nat) ({ cls := "HistoryCourt$Memo", name := "put", desc := "(JJ)V" } : Jvm.MethodName)) ∈ lw_g := tw_m2 (i := 191) rfl rfl
theorem tw_432 : (Jvm.Cond.instanceMethod ({ cls := "HistoryCourt$Memo", name := "put", desc := "(JJ)V" } : Jvm.MethodName)) ∈ lw_g := tw_m2 (i := 192) rfl rfl
theorem tw_433 : (Jvm.Cond.selects "HistoryCourt$Memo" ({ cls := "HistoryCourt$Memo", name := "put", desc := "(JJ)V" } : Jvm.MethodName) ({ cls := "HistoryCourt$Memo", name := "put", desc := "(JJ)V" } : Jvm.MethodName)) ∈ lw_g := tw_m2 (i := 193) rfl rfl
theorem tw_434 : (Jvm.Cond.code ({ cls := "HistoryCourt$Memo", name := "put", desc := "(JJ)V" } : Jvm.MethodName) prog_4_method_5_code (6 : Nat) (Option.none : Option Jvm.ClassFile.FieldType)) ∈ lw_g := tw_m2 (i := 194) rfl rfl
theorem tw_435 : (Jvm.Cond.methodLink "HistoryCourtLaw" (71 : Nat) ({ cls := "HistoryCourt", name := "first", desc := "(III)I" } : Jvm.MethodName)) ∈ lw_g := tw_m2 (i := 195) rfl rfl
theorem tw_436 : (Jvm.Cond.instanceMethod ({ cls := "HistoryCourt", name := "first", desc := "(III)I" } : Jvm.MethodName)) ∈ lw_g := tw_m2 (i := 196) rfl rfl
theorem tw_437 : (Jvm.Cond.selects "HistoryCourt" ({ cls := "HistoryCourt", name := "first", desc := "(III)I" } : Jvm.MethodName) ({ cls := "HistoryCourt", name := "first", desc := "(III)I" } : Jvm.MethodName)) ∈ lw_g := tw_m2 (i := 197) rfl rfl
theorem tw_438 : (Jvm.Cond.code ({ cls := "HistoryCourt", name := "first", desc := "(III)I" } : Jvm.MethodName) prog_1_method_15_code (5 : Nat) (Option.some Jvm.ClassFile.FieldType.int)) ∈ lw_g := tw_m2 (i := 198) rfl rfl
theorem tw_439 : (Jvm.Cond.methodLink "HistoryCourt" (162 : Nat) ({ cls := "HistoryCourt$Search", name := "firstAt", desc := "(LHistoryCourt$History;II)I" } : Jvm.MethodName)) ∈ lw_g := tw_m2 (i := 199) rfl rfl
theorem tw_440 : (Jvm.Cond.instanceMethod ({ cls := "HistoryCourt$Search", name := "firstAt", desc := "(LHistoryCourt$History;II)I" } : Jvm.MethodName)) ∈ lw_g := tw_m2 (i := 200) rfl rfl
theorem tw_441 : (Jvm.Cond.selects "HistoryCourt$Search" ({ cls := "HistoryCourt$Search", name := "firstAt", desc := "(LHistoryCourt$History;II)I" } : Jvm.MethodName) ({ cls := "HistoryCourt$Search", name := "firstAt", desc := "(LHistoryCourt$History;II)I" } : Jvm.MethodName)) ∈ lw_g := tw_m2 (i := 201) rfl rfl
theorem tw_442 : (Jvm.Cond.code ({ cls := "HistoryCourt$Search", name := "firstAt", desc := "(LHistoryCourt$History;II)I" } : Jvm.MethodName) prog_6_method_4_code (9 : Nat) (Option.some Jvm.ClassFile.FieldType.int)) ∈ lw_g := tw_m2 (i := 202) rfl rfl
theorem tw_443 : (Jvm.Cond.methodLink "HistoryCourt$Search" (41 : Nat) ({ cls := "HistoryCourt$History", name := "allCalls", desc := "()I" } : Jvm.MethodName)) ∈ lw_g := tw_m2 (i := 203) rfl rfl
theorem tw_444 : (Jvm.Cond.methodLink "HistoryCourt$Search" (49 : Nat) ({ cls := "HistoryCourt$Search", name := "firstThatLeadsOn", desc := "(IIJ)I" } : Jvm.MethodName)) ∈ lw_g := tw_m2 (i := 204) rfl rfl
theorem tw_446 : (Jvm.Cond.instanceMethod ({ cls := "HistoryCourt$Search", name := "firstThatLeadsOn", desc := "(IIJ)I" } : Jvm.MethodName)) ∈ lw_g := tw_m2 (i := 206) rfl rfl
theorem tw_447 : (Jvm.Cond.code ({ cls := "HistoryCourt$Search", name := "firstThatLeadsOn", desc := "(IIJ)I" } : Jvm.MethodName) prog_6_method_13_code (6 : Nat) (Option.some Jvm.ClassFile.FieldType.int)) ∈ lw_g := tw_m2 (i := 207) rfl rfl
theorem tw_448 : (Jvm.Cond.methodLink "HistoryCourtLaw" (75 : Nat) ({ cls := "HistoryCourt", name := "orders", desc := "(II)J" } : Jvm.MethodName)) ∈ lw_g := tw_m2 (i := 208) rfl rfl
theorem tw_449 : (Jvm.Cond.instanceMethod ({ cls := "HistoryCourt", name := "orders", desc := "(II)J" } : Jvm.MethodName)) ∈ lw_g := tw_m2 (i := 209) rfl rfl
theorem tw_450 : (Jvm.Cond.selects "HistoryCourt" ({ cls := "HistoryCourt", name := "orders", desc := "(II)J" } : Jvm.MethodName) ({ cls := "HistoryCourt", name := "orders", desc := "(II)J" } : Jvm.MethodName)) ∈ lw_g := tw_m2 (i := 210) rfl rfl
theorem tw_451 : (Jvm.Cond.code ({ cls := "HistoryCourt", name := "orders", desc := "(II)J" } : Jvm.MethodName) prog_1_method_16_code (4 : Nat) (Option.some Jvm.ClassFile.FieldType.long)) ∈ lw_g := tw_m2 (i := 211) rfl rfl
theorem tw_452 : (Jvm.Cond.constantLong "HistoryCourt" (166 : Nat) (-1 : Int64)) ∈ lw_g := tw_m2 (i := 212) rfl rfl
theorem tw_453 : (Jvm.Cond.methodLink "HistoryCourt" (168 : Nat) ({ cls := "HistoryCourt$Search", name := "count", desc := "(LHistoryCourt$History;I)J" } : Jvm.MethodName)) ∈ lw_g := tw_m2 (i := 213) rfl rfl
theorem tw_454 : (Jvm.Cond.instanceMethod ({ cls := "HistoryCourt$Search", name := "count", desc := "(LHistoryCourt$History;I)J" } : Jvm.MethodName)) ∈ lw_g := tw_m2 (i := 214) rfl rfl
theorem tw_455 : (Jvm.Cond.selects "HistoryCourt$Search" ({ cls := "HistoryCourt$Search", name := "count", desc := "(LHistoryCourt$History;I)J" } : Jvm.MethodName) ({ cls := "HistoryCourt$Search", name := "count", desc := "(LHistoryCourt$History;I)J" } : Jvm.MethodName)) ∈ lw_g := tw_m2 (i := 215) rfl rfl
theorem tw_456 : (Jvm.Cond.code ({ cls := "HistoryCourt$Search", name := "count", desc := "(LHistoryCourt$History;I)J" } : Jvm.MethodName) prog_6_method_3_code (3 : Nat) (Option.some Jvm.ClassFile.FieldType.long)) ∈ lw_g := tw_m2 (i := 216) rfl rfl
theorem tw_457 : (Jvm.Cond.methodLink "HistoryCourtLaw" (80 : Nat) ({ cls := "HistoryCourt", name := "least", desc := "(II)I" } : Jvm.MethodName)) ∈ lw_g := tw_m2 (i := 217) rfl rfl
theorem tw_458 : (Jvm.Cond.instanceMethod ({ cls := "HistoryCourt", name := "least", desc := "(II)I" } : Jvm.MethodName)) ∈ lw_g := tw_m2 (i := 218) rfl rfl
theorem tw_459 : (Jvm.Cond.selects "HistoryCourt" ({ cls := "HistoryCourt", name := "least", desc := "(II)I" } : Jvm.MethodName) ({ cls := "HistoryCourt", name := "least", desc := "(II)I" } : Jvm.MethodName)) ∈ lw_g := tw_m2 (i := 219) rfl rfl
theorem tw_460 : (Jvm.Cond.code ({ cls := "HistoryCourt", name := "least", desc := "(II)I" } : Jvm.MethodName) prog_1_method_17_code (4 : Nat) (Option.some Jvm.ClassFile.FieldType.int)) ∈ lw_g := tw_m2 (i := 220) rfl rfl
theorem tw_461 : (Jvm.Cond.methodLink "HistoryCourt" (172 : Nat) ({ cls := "HistoryCourt$Search", name := "leastPart", desc := "(LHistoryCourt$History;I)I" } : Jvm.MethodName)) ∈ lw_g := tw_m2 (i := 221) rfl rfl
theorem tw_462 : (Jvm.Cond.instanceMethod ({ cls := "HistoryCourt$Search", name := "leastPart", desc := "(LHistoryCourt$History;I)I" } : Jvm.MethodName)) ∈ lw_g := tw_m2 (i := 222) rfl rfl
theorem tw_463 : (Jvm.Cond.selects "HistoryCourt$Search" ({ cls := "HistoryCourt$Search", name := "leastPart", desc := "(LHistoryCourt$History;I)I" } : Jvm.MethodName) ({ cls := "HistoryCourt$Search", name := "leastPart", desc := "(LHistoryCourt$History;I)I" } : Jvm.MethodName)) ∈ lw_g := tw_m2 (i := 223) rfl rfl
theorem tw_464 : (Jvm.Cond.code ({ cls := "HistoryCourt$Search", name := "leastPart", desc := "(LHistoryCourt$History;I)I" } : Jvm.MethodName) prog_6_method_5_code (8 : Nat) (Option.some Jvm.ClassFile.FieldType.int)) ∈ lw_g := tw_m2 (i := 224) rfl rfl
theorem tw_465 : (Jvm.Cond.methodLink "HistoryCourt$Search" (57 : Nat) ({ cls := "HistoryCourt$Search", name := "takes", desc := "(LHistoryCourt$History;II)Z" } : Jvm.MethodName)) ∈ lw_g := tw_m2 (i := 225) rfl rfl
theorem tw_466 : (Jvm.Cond.methodLink "HistoryCourtLaw" (84 : Nat) ({ cls := "HistoryCourt", name := "part", desc := "(I)I" } : Jvm.MethodName)) ∈ lw_g := tw_m2 (i := 226) rfl rfl
theorem tw_467 : (Jvm.Cond.instanceMethod ({ cls := "HistoryCourt", name := "part", desc := "(I)I" } : Jvm.MethodName)) ∈ lw_g := tw_m2 (i := 227) rfl rfl
theorem tw_468 : (Jvm.Cond.selects "HistoryCourt" ({ cls := "HistoryCourt", name := "part", desc := "(I)I" } : Jvm.MethodName) ({ cls := "HistoryCourt", name := "part", desc := "(I)I" } : Jvm.MethodName)) ∈ lw_g := tw_m2 (i := 228) rfl rfl
theorem tw_469 : (Jvm.Cond.code ({ cls := "HistoryCourt", name := "part", desc := "(I)I" } : Jvm.MethodName) prog_1_method_18_code (4 : Nat) (Option.some Jvm.ClassFile.FieldType.int)) ∈ lw_g := tw_m2 (i := 229) rfl rfl
theorem tw_470 : (Jvm.Cond.methodLink "HistoryCourt" (178 : Nat) ({ cls := "HistoryCourt", name := "holds", desc := "(II)Z" } : Jvm.MethodName)) ∈ lw_g := tw_m2 (i := 230) rfl rfl
theorem tw_471 : (Jvm.Cond.methodLink "HistoryCourtLaw" (88 : Nat) ({ cls := "HistoryCourt", name := "fills", desc := "(III)I" } : Jvm.MethodName)) ∈ lw_g := tw_m2 (i := 231) rfl rfl
theorem tw_472 : (Jvm.Cond.instanceMethod ({ cls := "HistoryCourt", name := "fills", desc := "(III)I" } : Jvm.MethodName)) ∈ lw_g := tw_m2 (i := 232) rfl rfl
theorem tw_473 : (Jvm.Cond.selects "HistoryCourt" ({ cls := "HistoryCourt", name := "fills", desc := "(III)I" } : Jvm.MethodName) ({ cls := "HistoryCourt", name := "fills", desc := "(III)I" } : Jvm.MethodName)) ∈ lw_g := tw_m2 (i := 233) rfl rfl
theorem tw_474 : (Jvm.Cond.code ({ cls := "HistoryCourt", name := "fills", desc := "(III)I" } : Jvm.MethodName) prog_1_method_19_code (5 : Nat) (Option.some Jvm.ClassFile.FieldType.int)) ∈ lw_g := tw_m2 (i := 234) rfl rfl
theorem tw_475 : (Jvm.Cond.methodLink "HistoryCourt" (182 : Nat) ({ cls := "HistoryCourt$Search", name := "collect", desc := "(LHistoryCourt$History;IILHistoryCourt$Answers;)V" } : Jvm.MethodName)) ∈ lw_g := tw_m2 (i := 235) rfl rfl
theorem tw_476 : (Jvm.Cond.instanceMethod ({ cls := "HistoryCourt$Search", name := "collect", desc := "(LHistoryCourt$History;IILHistoryCourt$Answers;)V" } : Jvm.MethodName)) ∈ lw_g := tw_m2 (i := 236) rfl rfl
theorem tw_477 : (Jvm.Cond.selects "HistoryCourt$Search" ({ cls := "HistoryCourt$Search", name := "collect", desc := "(LHistoryCourt$History;IILHistoryCourt$Answers;)V" } : Jvm.MethodName) ({ cls := "HistoryCourt$Search", name := "collect", desc := "(LHistoryCourt$History;IILHistoryCourt$Answers;)V" } : Jvm.MethodName)) ∈ lw_g := tw_m2 (i := 237) rfl rfl
theorem tw_478 : (Jvm.Cond.code ({ cls := "HistoryCourt$Search", name := "collect", desc := "(LHistoryCourt$History;IILHistoryCourt$Answers;)V" } : Jvm.MethodName) prog_6_method_6_code (5 : Nat) (Option.none : Option Jvm.ClassFile.FieldType)) ∈ lw_g := tw_m2 (i := 238) rfl rfl
theorem tw_479 : (Jvm.Cond.methodLink "HistoryCourt$Search" (70 : Nat) ({ cls := "HistoryCourt$Search", name := "collectFrom", desc := "(IIJILHistoryCourt$Answers;)V" } : Jvm.MethodName)) ∈ lw_g := tw_m2 (i := 239) rfl rfl
theorem tw_481 : (Jvm.Cond.instanceMethod ({ cls := "HistoryCourt$Search", name := "collectFrom", desc := "(IIJILHistoryCourt$Answers;)V" } : Jvm.MethodName)) ∈ lw_g := tw_m3 (i := 1) rfl rfl
theorem tw_482 : (Jvm.Cond.code ({ cls := "HistoryCourt$Search", name := "collectFrom", desc := "(IIJILHistoryCourt$Answers;)V" } : Jvm.MethodName) prog_6_method_14_code (13 : Nat) (Option.none : Option Jvm.ClassFile.FieldType)) ∈ lw_g := tw_m3 (i := 2) rfl rfl
theorem tw_483 : (Jvm.Cond.methodLink "HistoryCourt$Search" (133 : Nat) ({ cls := "HistoryCourt$Answers", name := "add", desc := "(I)V" } : Jvm.MethodName)) ∈ lw_g := tw_m3 (i := 3) rfl rfl
theorem tw_484 : (Jvm.Cond.instanceMethod ({ cls := "HistoryCourt$Answers", name := "add", desc := "(I)V" } : Jvm.MethodName)) ∈ lw_g := tw_m3 (i := 4) rfl rfl
theorem tw_485 : (Jvm.Cond.selects "HistoryCourt$Answers" ({ cls := "HistoryCourt$Answers", name := "add", desc := "(I)V" } : Jvm.MethodName) ({ cls := "HistoryCourt$Answers", name := "add", desc := "(I)V" } : Jvm.MethodName)) ∈ lw_g := tw_m3 (i := 5) rfl rfl
theorem tw_486 : (Jvm.Cond.code ({ cls := "HistoryCourt$Answers", name := "add", desc := "(I)V" } : Jvm.MethodName) prog_2_method_2_code (4 : Nat) (Option.none : Option Jvm.ClassFile.FieldType)) ∈ lw_g := tw_m3 (i := 6) rfl rfl
theorem tw_487 : (Jvm.Cond.methodLink "HistoryCourtLaw" (92 : Nat) ({ cls := "HistoryCourt", name := "fill", desc := "(I)I" } : Jvm.MethodName)) ∈ lw_g := tw_m3 (i := 7) rfl rfl
theorem tw_488 : (Jvm.Cond.instanceMethod ({ cls := "HistoryCourt", name := "fill", desc := "(I)I" } : Jvm.MethodName)) ∈ lw_g := tw_m3 (i := 8) rfl rfl
theorem tw_489 : (Jvm.Cond.selects "HistoryCourt" ({ cls := "HistoryCourt", name := "fill", desc := "(I)I" } : Jvm.MethodName) ({ cls := "HistoryCourt", name := "fill", desc := "(I)I" } : Jvm.MethodName)) ∈ lw_g := tw_m3 (i := 9) rfl rfl
theorem tw_490 : (Jvm.Cond.code ({ cls := "HistoryCourt", name := "fill", desc := "(I)I" } : Jvm.MethodName) prog_1_method_20_code (2 : Nat) (Option.some Jvm.ClassFile.FieldType.int)) ∈ lw_g := tw_m3 (i := 10) rfl rfl
theorem tw_491 : (Jvm.Cond.methodLink "HistoryCourtLaw" (96 : Nat) ({ cls := "HistoryCourt", name := "apart", desc := "(III)I" } : Jvm.MethodName)) ∈ lw_g := tw_m3 (i := 11) rfl rfl
theorem tw_492 : (Jvm.Cond.instanceMethod ({ cls := "HistoryCourt", name := "apart", desc := "(III)I" } : Jvm.MethodName)) ∈ lw_g := tw_m3 (i := 12) rfl rfl
theorem tw_493 : (Jvm.Cond.selects "HistoryCourt" ({ cls := "HistoryCourt", name := "apart", desc := "(III)I" } : Jvm.MethodName) ({ cls := "HistoryCourt", name := "apart", desc := "(III)I" } : Jvm.MethodName)) ∈ lw_g := tw_m3 (i := 13) rfl rfl
theorem tw_494 : (Jvm.Cond.code ({ cls := "HistoryCourt", name := "apart", desc := "(III)I" } : Jvm.MethodName) prog_1_method_21_code (6 : Nat) (Option.some Jvm.ClassFile.FieldType.int)) ∈ lw_g := tw_m3 (i := 14) rfl rfl
theorem tw_495 : (Jvm.Cond.methodLink "HistoryCourt" (191 : Nat) ({ cls := "HistoryCourt$History", name := "callsWith", desc := "(I)I" } : Jvm.MethodName)) ∈ lw_g := tw_m3 (i := 15) rfl rfl
theorem tw_496 : (Jvm.Cond.instanceMethod ({ cls := "HistoryCourt$History", name := "callsWith", desc := "(I)I" } : Jvm.MethodName)) ∈ lw_g := tw_m3 (i := 16) rfl rfl
theorem tw_497 : (Jvm.Cond.selects "HistoryCourt$History" ({ cls := "HistoryCourt$History", name := "callsWith", desc := "(I)I" } : Jvm.MethodName) ({ cls := "HistoryCourt$History", name := "callsWith", desc := "(I)I" } : Jvm.MethodName)) ∈ lw_g := tw_m3 (i := 17) rfl rfl
theorem tw_498 : (Jvm.Cond.code ({ cls := "HistoryCourt$History", name := "callsWith", desc := "(I)I" } : Jvm.MethodName) prog_3_method_10_code (4 : Nat) (Option.some Jvm.ClassFile.FieldType.int)) ∈ lw_g := tw_m3 (i := 18) rfl rfl
theorem tw_499 : (Jvm.Cond.methodLink "HistoryCourtLaw" (100 : Nat) ({ cls := "HistoryCourt", name := "rules", desc := "(I)I" } : Jvm.MethodName)) ∈ lw_g := tw_m3 (i := 19) rfl rfl
theorem tw_500 : (Jvm.Cond.instanceMethod ({ cls := "HistoryCourt", name := "rules", desc := "(I)I" } : Jvm.MethodName)) ∈ lw_g := tw_m3 (i := 20) rfl rfl
theorem tw_501 : (Jvm.Cond.selects "HistoryCourt" ({ cls := "HistoryCourt", name := "rules", desc := "(I)I" } : Jvm.MethodName) ({ cls := "HistoryCourt", name := "rules", desc := "(I)I" } : Jvm.MethodName)) ∈ lw_g := tw_m3 (i := 21) rfl rfl
theorem tw_502 : (Jvm.Cond.code ({ cls := "HistoryCourt", name := "rules", desc := "(I)I" } : Jvm.MethodName) prog_1_method_22_code (5 : Nat) (Option.some Jvm.ClassFile.FieldType.int)) ∈ lw_g := tw_m3 (i := 22) rfl rfl
theorem tw_503 : (Jvm.Cond.methodLink "HistoryCourtLaw" (104 : Nat) ({ cls := "HistoryCourt", name := "say", desc := "(I)I" } : Jvm.MethodName)) ∈ lw_g := tw_m3 (i := 23) rfl rfl
theorem tw_504 : (Jvm.Cond.instanceMethod ({ cls := "HistoryCourt", name := "say", desc := "(I)I" } : Jvm.MethodName)) ∈ lw_g := tw_m3 (i := 24) rfl rfl
theorem tw_505 : (Jvm.Cond.selects "HistoryCourt" ({ cls := "HistoryCourt", name := "say", desc := "(I)I" } : Jvm.MethodName) ({ cls := "HistoryCourt", name := "say", desc := "(I)I" } : Jvm.MethodName)) ∈ lw_g := tw_m3 (i := 25) rfl rfl
theorem tw_506 : (Jvm.Cond.code ({ cls := "HistoryCourt", name := "say", desc := "(I)I" } : Jvm.MethodName) prog_1_method_23_code (2 : Nat) (Option.some Jvm.ClassFile.FieldType.int)) ∈ lw_g := tw_m3 (i := 26) rfl rfl
theorem tw_507 : (Jvm.Cond.methodLink "HistoryCourtLaw" (108 : Nat) ({ cls := "HistoryCourt", name := "check", desc := "(II)I" } : Jvm.MethodName)) ∈ lw_g := tw_m3 (i := 27) rfl rfl
theorem tw_508 : (Jvm.Cond.instanceMethod ({ cls := "HistoryCourt", name := "check", desc := "(II)I" } : Jvm.MethodName)) ∈ lw_g := tw_m3 (i := 28) rfl rfl
theorem tw_509 : (Jvm.Cond.selects "HistoryCourt" ({ cls := "HistoryCourt", name := "check", desc := "(II)I" } : Jvm.MethodName) ({ cls := "HistoryCourt", name := "check", desc := "(II)I" } : Jvm.MethodName)) ∈ lw_g := tw_m3 (i := 29) rfl rfl
theorem tw_510 : (Jvm.Cond.code ({ cls := "HistoryCourt", name := "check", desc := "(II)I" } : Jvm.MethodName) prog_1_method_24_code (5 : Nat) (Option.some Jvm.ClassFile.FieldType.int)) ∈ lw_g := tw_m3 (i := 30) rfl rfl
theorem tw_511 : (Jvm.Cond.methodLink "HistoryCourt" (197 : Nat) ({ cls := "HistoryCourt$Search", name := "firstFault", desc := "(LHistoryCourt$History;I[II)I" } : Jvm.MethodName)) ∈ lw_g := tw_m3 (i := 31) rfl rfl
theorem tw_512 : (Jvm.Cond.instanceMethod ({ cls := "HistoryCourt$Search", name := "firstFault", desc := "(LHistoryCourt$History;I[II)I" } : Jvm.MethodName)) ∈ lw_g := tw_m3 (i := 32) rfl rfl
theorem tw_513 : (Jvm.Cond.selects "HistoryCourt$Search" ({ cls := "HistoryCourt$Search", name := "firstFault", desc := "(LHistoryCourt$History;I[II)I" } : Jvm.MethodName) ({ cls := "HistoryCourt$Search", name := "firstFault", desc := "(LHistoryCourt$History;I[II)I" } : Jvm.MethodName)) ∈ lw_g := tw_m3 (i := 33) rfl rfl
theorem tw_514 : (Jvm.Cond.code ({ cls := "HistoryCourt$Search", name := "firstFault", desc := "(LHistoryCourt$History;I[II)I" } : Jvm.MethodName) prog_6_method_7_code (10 : Nat) (Option.some Jvm.ClassFile.FieldType.int)) ∈ lw_g := tw_m3 (i := 34) rfl rfl
theorem tw_515 : (Jvm.Cond.classLink "HistoryCourtLaw" (10 : Nat) "HistoryCourtModel") ∈ lw_g := tw_m3 (i := 35) rfl rfl
theorem tw_516 : (Jvm.Cond.instantiable "HistoryCourtModel" (30 : Nat)) ∈ lw_g := tw_m3 (i := 36) rfl rfl
theorem tw_517 : (Jvm.Cond.methodLink "HistoryCourtLaw" (12 : Nat) ({ cls := "HistoryCourtModel", name := "<init>", desc := "()V" } : Jvm.MethodName)) ∈ lw_g := tw_m3 (i := 37) rfl rfl
theorem tw_518 : (Jvm.Cond.instanceMethod ({ cls := "HistoryCourtModel", name := "<init>", desc := "()V" } : Jvm.MethodName)) ∈ lw_g := tw_m3 (i := 38) rfl rfl
theorem tw_519 : (Jvm.Cond.code ({ cls := "HistoryCourtModel", name := "<init>", desc := "()V" } : Jvm.MethodName) prog_9_method_1_code (1 : Nat) (Option.none : Option Jvm.ClassFile.FieldType)) ∈ lw_g := tw_m3 (i := 39) rfl rfl
theorem tw_520 : (Jvm.Cond.methodLink "HistoryCourtModel" (1 : Nat) ({ cls := "java/lang/Object", name := "<init>", desc := "()V" } : Jvm.MethodName)) ∈ lw_g := tw_m3 (i := 40) rfl rfl
theorem tw_521 : (Jvm.Cond.fieldLink "HistoryCourtModel" (7 : Nat) "HistoryCourtModel" "answers" "[I") ∈ lw_g := tw_m3 (i := 41) rfl rfl
theorem tw_522 : (Jvm.Cond.fieldLink "HistoryCourtModel" (13 : Nat) "HistoryCourtModel" "nexts" "[I") ∈ lw_g := tw_m3 (i := 42) rfl rfl
theorem tw_523 : (Jvm.Cond.fieldLink "HistoryCourtModel" (71 : Nat) "HistoryCourtModel" "machines" "I") ∈ lw_g := tw_m3 (i := 43) rfl rfl
theorem tw_524 : (Jvm.Cond.fieldLink "HistoryCourtModel" (78 : Nat) "HistoryCourtModel" "histories" "I") ∈ lw_g := tw_m3 (i := 44) rfl rfl
theorem tw_525 : (Jvm.Cond.fieldLink "HistoryCourtModel" (16 : Nat) "HistoryCourtModel" "kind" "[I") ∈ lw_g := tw_m3 (i := 45) rfl rfl
theorem tw_526 : (Jvm.Cond.fieldLink "HistoryCourtModel" (19 : Nat) "HistoryCourtModel" "machineOf" "[I") ∈ lw_g := tw_m3 (i := 46) rfl rfl
theorem tw_527 : (Jvm.Cond.fieldLink "HistoryCourtModel" (22 : Nat) "HistoryCourtModel" "calls" "[I") ∈ lw_g := tw_m3 (i := 47) rfl rfl
theorem tw_528 : (Jvm.Cond.fieldLink "HistoryCourtModel" (25 : Nat) "HistoryCourtModel" "ticks" "[I") ∈ lw_g := tw_m3 (i := 48) rfl rfl
theorem tw_529 : (Jvm.Cond.fieldLink "HistoryCourtModel" (28 : Nat) "HistoryCourtModel" "caller" "[I") ∈ lw_g := tw_m3 (i := 49) rfl rfl
theorem tw_530 : (Jvm.Cond.fieldLink "HistoryCourtModel" (31 : Nat) "HistoryCourtModel" "act" "[I") ∈ lw_g := tw_m3 (i := 50) rfl rfl
theorem tw_531 : (Jvm.Cond.fieldLink "HistoryCourtModel" (34 : Nat) "HistoryCourtModel" "argA" "[I") ∈ lw_g := tw_m3 (i := 51) rfl rfl
theorem tw_532 : (Jvm.Cond.fieldLink "HistoryCourtModel" (37 : Nat) "HistoryCourtModel" "argB" "[I") ∈ lw_g := tw_m3 (i := 52) rfl rfl
theorem tw_533 : (Jvm.Cond.fieldLink "HistoryCourtModel" (40 : Nat) "HistoryCourtModel" "begun" "[I") ∈ lw_g := tw_m3 (i := 53) rfl rfl
theorem tw_534 : (Jvm.Cond.fieldLink "HistoryCourtModel" (43 : Nat) "HistoryCourtModel" "ended" "[I") ∈ lw_g := tw_m3 (i := 54) rfl rfl
theorem tw_535 : (Jvm.Cond.fieldLink "HistoryCourtModel" (46 : Nat) "HistoryCourtModel" "gave" "[I") ∈ lw_g := tw_m3 (i := 55) rfl rfl
theorem tw_536 : (Jvm.Cond.fieldLink "HistoryCourtModel" (96 : Nat) "HistoryCourtModel" "status" "I") ∈ lw_g := tw_m3 (i := 56) rfl rfl
theorem tw_537 : (Jvm.Cond.fieldLink "HistoryCourtModel" (49 : Nat) "HistoryCourtModel" "thing" "[I") ∈ lw_g := tw_m3 (i := 57) rfl rfl
theorem tw_538 : (Jvm.Cond.fieldLink "HistoryCourtModel" (52 : Nat) "HistoryCourtModel" "order" "[I") ∈ lw_g := tw_m3 (i := 58) rfl rfl
theorem tw_539 : (Jvm.Cond.fieldLink "HistoryCourtModel" (55 : Nat) "HistoryCourtModel" "told" "[I") ∈ lw_g := tw_m3 (i := 59) rfl rfl
theorem tw_540 : (Jvm.Cond.fieldLink "HistoryCourtModel" (58 : Nat) "HistoryCourtModel" "behind" "[I") ∈ lw_g := tw_m3 (i := 60) rfl rfl
theorem tw_541 : (Jvm.Cond.fieldLink "HistoryCourtModel" (130 : Nat) "HistoryCourtModel" "found" "I") ∈ lw_g := tw_m3 (i := 61) rfl rfl
theorem tw_542 : (Jvm.Cond.fieldLink "HistoryCourtModel" (123 : Nat) "HistoryCourtModel" "many" "J") ∈ lw_g := tw_m3 (i := 62) rfl rfl
theorem tw_543 : (Jvm.Cond.fieldLink "HistoryCourtModel" (127 : Nat) "HistoryCourtModel" "asks" "I") ∈ lw_g := tw_m3 (i := 63) rfl rfl
theorem tw_544 : (Jvm.Cond.fieldLink "HistoryCourtModel" (133 : Nat) "HistoryCourtModel" "asked" "I") ∈ lw_g := tw_m3 (i := 64) rfl rfl
theorem tw_545 : (Jvm.Cond.fieldLink "HistoryCourtModel" (61 : Nat) "HistoryCourtModel" "fills" "[I") ∈ lw_g := tw_m3 (i := 65) rfl rfl
theorem tw_546 : (Jvm.Cond.fieldLink "HistoryCourtModel" (147 : Nat) "HistoryCourtModel" "filled" "I") ∈ lw_g := tw_m3 (i := 66) rfl rfl
theorem tw_547 : (Jvm.Cond.fieldLink "HistoryCourtModel" (163 : Nat) "HistoryCourtModel" "partOf" "I") ∈ lw_g := tw_m3 (i := 67) rfl rfl
theorem tw_548 : (Jvm.Cond.fieldLink "HistoryCourtModel" (64 : Nat) "HistoryCourtModel" "said" "[I") ∈ lw_g := tw_m3 (i := 68) rfl rfl
theorem tw_549 : (Jvm.Cond.fieldLink "HistoryCourtModel" (166 : Nat) "HistoryCourtModel" "saids" "I") ∈ lw_g := tw_m3 (i := 69) rfl rfl
theorem tw_610 : (Jvm.Cond.superclass "HistoryCourtModel" "java/lang/Object") ∈ lw_g := tw_m3 (i := 130) rfl rfl
theorem tw_611 : (Jvm.Cond.methodLink "HistoryCourtLaw" (17 : Nat) ({ cls := "HistoryCourtModel", name := "machine", desc := "()I" } : Jvm.MethodName)) ∈ lw_g := tw_m3 (i := 131) rfl rfl
theorem tw_612 : (Jvm.Cond.instanceMethod ({ cls := "HistoryCourtModel", name := "machine", desc := "()I" } : Jvm.MethodName)) ∈ lw_g := tw_m3 (i := 132) rfl rfl
theorem tw_613 : (Jvm.Cond.selects "HistoryCourtModel" ({ cls := "HistoryCourtModel", name := "machine", desc := "()I" } : Jvm.MethodName) ({ cls := "HistoryCourtModel", name := "machine", desc := "()I" } : Jvm.MethodName)) ∈ lw_g := tw_m3 (i := 133) rfl rfl
theorem tw_614 : (Jvm.Cond.code ({ cls := "HistoryCourtModel", name := "machine", desc := "()I" } : Jvm.MethodName) prog_9_method_4_code (1 : Nat) (Option.some Jvm.ClassFile.FieldType.int)) ∈ lw_g := tw_m3 (i := 134) rfl rfl
theorem tw_615 : (Jvm.Cond.methodLink "HistoryCourtLaw" (22 : Nat) ({ cls := "HistoryCourtModel", name := "row", desc := "(IIIII)I" } : Jvm.MethodName)) ∈ lw_g := tw_m3 (i := 135) rfl rfl
theorem tw_616 : (Jvm.Cond.instanceMethod ({ cls := "HistoryCourtModel", name := "row", desc := "(IIIII)I" } : Jvm.MethodName)) ∈ lw_g := tw_m3 (i := 136) rfl rfl
theorem tw_617 : (Jvm.Cond.selects "HistoryCourtModel" ({ cls := "HistoryCourtModel", name := "row", desc := "(IIIII)I" } : Jvm.MethodName) ({ cls := "HistoryCourtModel", name := "row", desc := "(IIIII)I" } : Jvm.MethodName)) ∈ lw_g := tw_m3 (i := 137) rfl rfl
theorem tw_618 : (Jvm.Cond.code ({ cls := "HistoryCourtModel", name := "row", desc := "(IIIII)I" } : Jvm.MethodName) prog_9_method_5_code (7 : Nat) (Option.some Jvm.ClassFile.FieldType.int)) ∈ lw_g := tw_m3 (i := 138) rfl rfl
theorem tw_619 : (Jvm.Cond.methodLink "HistoryCourtModel" (74 : Nat) ({ cls := "HistoryCourtModel", name := "in", desc := "(III)Z" } : Jvm.MethodName)) ∈ lw_g := tw_m3 (i := 139) rfl rfl
theorem tw_620 : (Jvm.Cond.static ({ cls := "HistoryCourtModel", name := "in", desc := "(III)Z" } : Jvm.MethodName)) ∈ lw_g := tw_m3 (i := 140) rfl rfl
theorem tw_621 : (Jvm.Cond.code ({ cls := "HistoryCourtModel", name := "in", desc := "(III)Z" } : Jvm.MethodName) prog_9_method_3_code (3 : Nat) (Option.some Jvm.ClassFile.FieldType.boolean)) ∈ lw_g := tw_m3 (i := 141) rfl rfl
theorem tw_622 : (Jvm.Cond.methodLink "HistoryCourtLaw" (27 : Nat) ({ cls := "HistoryCourtModel", name := "history", desc := "(II)I" } : Jvm.MethodName)) ∈ lw_g := tw_m3 (i := 142) rfl rfl
theorem tw_623 : (Jvm.Cond.instanceMethod ({ cls := "HistoryCourtModel", name := "history", desc := "(II)I" } : Jvm.MethodName)) ∈ lw_g := tw_m3 (i := 143) rfl rfl
theorem tw_624 : (Jvm.Cond.selects "HistoryCourtModel" ({ cls := "HistoryCourtModel", name := "history", desc := "(II)I" } : Jvm.MethodName) ({ cls := "HistoryCourtModel", name := "history", desc := "(II)I" } : Jvm.MethodName)) ∈ lw_g := tw_m3 (i := 144) rfl rfl
theorem tw_625 : (Jvm.Cond.code ({ cls := "HistoryCourtModel", name := "history", desc := "(II)I" } : Jvm.MethodName) prog_9_method_10_code (3 : Nat) (Option.some Jvm.ClassFile.FieldType.int)) ∈ lw_g := tw_m3 (i := 145) rfl rfl
theorem tw_626 : (Jvm.Cond.methodLink "HistoryCourtLaw" (32 : Nat) ({ cls := "HistoryCourtModel", name := "copy", desc := "(I)I" } : Jvm.MethodName)) ∈ lw_g := tw_m3 (i := 146) rfl rfl
theorem tw_627 : (Jvm.Cond.instanceMethod ({ cls := "HistoryCourtModel", name := "copy", desc := "(I)I" } : Jvm.MethodName)) ∈ lw_g := tw_m3 (i := 147) rfl rfl
theorem tw_628 : (Jvm.Cond.selects "HistoryCourtModel" ({ cls := "HistoryCourtModel", name := "copy", desc := "(I)I" } : Jvm.MethodName) ({ cls := "HistoryCourtModel", name := "copy", desc := "(I)I" } : Jvm.MethodName)) ∈ lw_g := tw_m3 (i := 148) rfl rfl
theorem tw_629 : (Jvm.Cond.code ({ cls := "HistoryCourtModel", name := "copy", desc := "(I)I" } : Jvm.MethodName) prog_9_method_11_code (4 : Nat) (Option.some Jvm.ClassFile.FieldType.int)) ∈ lw_g := tw_m3 (i := 149) rfl rfl
theorem tw_630 : (Jvm.Cond.methodLink "HistoryCourtModel" (81 : Nat) ({ cls := "HistoryCourtModel", name := "isHistory", desc := "(I)Z" } : Jvm.MethodName)) ∈ lw_g := tw_m3 (i := 150) rfl rfl
theorem tw_632 : (Jvm.Cond.instanceMethod ({ cls := "HistoryCourtModel", name := "isHistory", desc := "(I)Z" } : Jvm.MethodName)) ∈ lw_g := tw_m3 (i := 152) rfl rfl
theorem tw_633 : (Jvm.Cond.code ({ cls := "HistoryCourtModel", name := "isHistory", desc := "(I)Z" } : Jvm.MethodName) prog_9_method_6_code (2 : Nat) (Option.some Jvm.ClassFile.FieldType.boolean)) ∈ lw_g := tw_m3 (i := 153) rfl rfl
theorem tw_634 : (Jvm.Cond.methodLink "HistoryCourtLaw" (36 : Nat) ({ cls := "HistoryCourtModel", name := "begin", desc := "(IIIII)I" } : Jvm.MethodName)) ∈ lw_g := tw_m3 (i := 154) rfl rfl
theorem tw_635 : (Jvm.Cond.instanceMethod ({ cls := "HistoryCourtModel", name := "begin", desc := "(IIIII)I" } : Jvm.MethodName)) ∈ lw_g := tw_m3 (i := 155) rfl rfl
theorem tw_636 : (Jvm.Cond.selects "HistoryCourtModel" ({ cls := "HistoryCourtModel", name := "begin", desc := "(IIIII)I" } : Jvm.MethodName) ({ cls := "HistoryCourtModel", name := "begin", desc := "(IIIII)I" } : Jvm.MethodName)) ∈ lw_g := tw_m3 (i := 156) rfl rfl
theorem tw_637 : (Jvm.Cond.code ({ cls := "HistoryCourtModel", name := "begin", desc := "(IIIII)I" } : Jvm.MethodName) prog_9_method_13_code (8 : Nat) (Option.some Jvm.ClassFile.FieldType.int)) ∈ lw_g := tw_m3 (i := 157) rfl rfl
theorem tw_638 : (Jvm.Cond.methodLink "HistoryCourtModel" (85 : Nat) ({ cls := "HistoryCourtModel", name := "actsOf", desc := "(I)I" } : Jvm.MethodName)) ∈ lw_g := tw_m3 (i := 158) rfl rfl
theorem tw_639 : (Jvm.Cond.static ({ cls := "HistoryCourtModel", name := "actsOf", desc := "(I)I" } : Jvm.MethodName)) ∈ lw_g := tw_m3 (i := 159) rfl rfl
theorem tw_640 : (Jvm.Cond.code ({ cls := "HistoryCourtModel", name := "actsOf", desc := "(I)I" } : Jvm.MethodName) prog_9_method_12_code (1 : Nat) (Option.some Jvm.ClassFile.FieldType.int)) ∈ lw_g := tw_m3 (i := 160) rfl rfl
theorem tw_641 : (Jvm.Cond.methodLink "HistoryCourtModel" (89 : Nat) ({ cls := "HistoryCourtModel", name := "isOpen", desc := "(II)Z" } : Jvm.MethodName)) ∈ lw_g := tw_m3 (i := 161) rfl rfl
theorem tw_643 : (Jvm.Cond.instanceMethod ({ cls := "HistoryCourtModel", name := "isOpen", desc := "(II)Z" } : Jvm.MethodName)) ∈ lw_g := tw_m3 (i := 163) rfl rfl
theorem tw_644 : (Jvm.Cond.code ({ cls := "HistoryCourtModel", name := "isOpen", desc := "(II)Z" } : Jvm.MethodName) prog_9_method_8_code (3 : Nat) (Option.some Jvm.ClassFile.FieldType.boolean)) ∈ lw_g := tw_m3 (i := 164) rfl rfl
theorem tw_645 : (Jvm.Cond.methodLink "HistoryCourtLaw" (41 : Nat) ({ cls := "HistoryCourtModel", name := "answer", desc := "(III)I" } : Jvm.MethodName)) ∈ lw_g := tw_m3 (i := 165) rfl rfl
theorem tw_646 : (Jvm.Cond.instanceMethod ({ cls := "HistoryCourtModel", name := "answer", desc := "(III)I" } : Jvm.MethodName)) ∈ lw_g := tw_m3 (i := 166) rfl rfl
theorem tw_647 : (Jvm.Cond.selects "HistoryCourtModel" ({ cls := "HistoryCourtModel", name := "answer", desc := "(III)I" } : Jvm.MethodName) ({ cls := "HistoryCourtModel", name := "answer", desc := "(III)I" } : Jvm.MethodName)) ∈ lw_g := tw_m3 (i := 167) rfl rfl
theorem tw_648 : (Jvm.Cond.code ({ cls := "HistoryCourtModel", name := "answer", desc := "(III)I" } : Jvm.MethodName) prog_9_method_14_code (4 : Nat) (Option.some Jvm.ClassFile.FieldType.int)) ∈ lw_g := tw_m3 (i := 168) rfl rfl
theorem tw_649 : (Jvm.Cond.methodLink "HistoryCourtModel" (93 : Nat) ({ cls := "HistoryCourtModel", name := "isCall", desc := "(II)Z" } : Jvm.MethodName)) ∈ lw_g := tw_m3 (i := 169) rfl rfl
theorem tw_651 : (Jvm.Cond.instanceMethod ({ cls := "HistoryCourtModel", name := "isCall", desc := "(II)Z" } : Jvm.MethodName)) ∈ lw_g := tw_m3 (i := 171) rfl rfl
theorem tw_652 : (Jvm.Cond.code ({ cls := "HistoryCourtModel", name := "isCall", desc := "(II)Z" } : Jvm.MethodName) prog_9_method_7_code (3 : Nat) (Option.some Jvm.ClassFile.FieldType.boolean)) ∈ lw_g := tw_m3 (i := 172) rfl rfl
theorem tw_653 : (Jvm.Cond.methodLink "HistoryCourtLaw" (45 : Nat) ({ cls := "HistoryCourtModel", name := "alter", desc := "(III)I" } : Jvm.MethodName)) ∈ lw_g := tw_m3 (i := 173) rfl rfl
theorem tw_654 : (Jvm.Cond.instanceMethod ({ cls := "HistoryCourtModel", name := "alter", desc := "(III)I" } : Jvm.MethodName)) ∈ lw_g := tw_m3 (i := 174) rfl rfl
theorem tw_655 : (Jvm.Cond.selects "HistoryCourtModel" ({ cls := "HistoryCourtModel", name := "alter", desc := "(III)I" } : Jvm.MethodName) ({ cls := "HistoryCourtModel", name := "alter", desc := "(III)I" } : Jvm.MethodName)) ∈ lw_g := tw_m3 (i := 175) rfl rfl
theorem tw_656 : (Jvm.Cond.code ({ cls := "HistoryCourtModel", name := "alter", desc := "(III)I" } : Jvm.MethodName) prog_9_method_15_code (5 : Nat) (Option.some Jvm.ClassFile.FieldType.int)) ∈ lw_g := tw_m3 (i := 176) rfl rfl
theorem tw_657 : (Jvm.Cond.methodLink "HistoryCourtLaw" (49 : Nat) ({ cls := "HistoryCourtModel", name := "status", desc := "()I" } : Jvm.MethodName)) ∈ lw_g := tw_m3 (i := 177) rfl rfl
theorem tw_658 : (Jvm.Cond.instanceMethod ({ cls := "HistoryCourtModel", name := "status", desc := "()I" } : Jvm.MethodName)) ∈ lw_g := tw_m3 (i := 178) rfl rfl
theorem tw_659 : (Jvm.Cond.selects "HistoryCourtModel" ({ cls := "HistoryCourtModel", name := "status", desc := "()I" } : Jvm.MethodName) ({ cls := "HistoryCourtModel", name := "status", desc := "()I" } : Jvm.MethodName)) ∈ lw_g := tw_m3 (i := 179) rfl rfl
theorem tw_660 : (Jvm.Cond.code ({ cls := "HistoryCourtModel", name := "status", desc := "()I" } : Jvm.MethodName) prog_9_method_16_code (1 : Nat) (Option.some Jvm.ClassFile.FieldType.int)) ∈ lw_g := tw_m3 (i := 180) rfl rfl
theorem tw_661 : (Jvm.Cond.methodLink "HistoryCourtLaw" (53 : Nat) ({ cls := "HistoryCourtModel", name := "answered", desc := "(II)I" } : Jvm.MethodName)) ∈ lw_g := tw_m3 (i := 181) rfl rfl
theorem tw_662 : (Jvm.Cond.instanceMethod ({ cls := "HistoryCourtModel", name := "answered", desc := "(II)I" } : Jvm.MethodName)) ∈ lw_g := tw_m3 (i := 182) rfl rfl
theorem tw_663 : (Jvm.Cond.selects "HistoryCourtModel" ({ cls := "HistoryCourtModel", name := "answered", desc := "(II)I" } : Jvm.MethodName) ({ cls := "HistoryCourtModel", name := "answered", desc := "(II)I" } : Jvm.MethodName)) ∈ lw_g := tw_m3 (i := 183) rfl rfl
theorem tw_664 : (Jvm.Cond.code ({ cls := "HistoryCourtModel", name := "answered", desc := "(II)I" } : Jvm.MethodName) prog_9_method_17_code (3 : Nat) (Option.some Jvm.ClassFile.FieldType.int)) ∈ lw_g := tw_m3 (i := 184) rfl rfl
theorem tw_665 : (Jvm.Cond.methodLink "HistoryCourtLaw" (57 : Nat) ({ cls := "HistoryCourtModel", name := "call", desc := "(III)I" } : Jvm.MethodName)) ∈ lw_g := tw_m3 (i := 185) rfl rfl
theorem tw_666 : (Jvm.Cond.instanceMethod ({ cls := "HistoryCourtModel", name := "call", desc := "(III)I" } : Jvm.MethodName)) ∈ lw_g := tw_m3 (i := 186) rfl rfl
theorem tw_667 : (Jvm.Cond.selects "HistoryCourtModel" ({ cls := "HistoryCourtModel", name := "call", desc := "(III)I" } : Jvm.MethodName) ({ cls := "HistoryCourtModel", name := "call", desc := "(III)I" } : Jvm.MethodName)) ∈ lw_g := tw_m3 (i := 187) rfl rfl
theorem tw_668 : (Jvm.Cond.code ({ cls := "HistoryCourtModel", name := "call", desc := "(III)I" } : Jvm.MethodName) prog_9_method_18_code (4 : Nat) (Option.some Jvm.ClassFile.FieldType.int)) ∈ lw_g := tw_m3 (i := 188) rfl rfl
theorem tw_669 : (Jvm.Cond.methodLink "HistoryCourtLaw" (61 : Nat) ({ cls := "HistoryCourtModel", name := "about", desc := "(II)I" } : Jvm.MethodName)) ∈ lw_g := tw_m3 (i := 189) rfl rfl
theorem tw_670 : (Jvm.Cond.instanceMethod ({ cls := "HistoryCourtModel", name := "about", desc := "(II)I" } : Jvm.MethodName)) ∈ lw_g := tw_m3 (i := 190) rfl rfl
theorem tw_671 : (Jvm.Cond.selects "HistoryCourtModel" ({ cls := "HistoryCourtModel", name := "about", desc := "(II)I" } : Jvm.MethodName) ({ cls := "HistoryCourtModel", name := "about", desc := "(II)I" } : Jvm.MethodName)) ∈ lw_g := tw_m3 (i := 191) rfl rfl
theorem tw_672 : (Jvm.Cond.code ({ cls := "HistoryCourtModel", name := "about", desc := "(II)I" } : Jvm.MethodName) prog_9_method_19_code (5 : Nat) (Option.some Jvm.ClassFile.FieldType.int)) ∈ lw_g := tw_m3 (i := 192) rfl rfl
theorem tw_673 : (Jvm.Cond.methodLink "HistoryCourtLaw" (66 : Nat) ({ cls := "HistoryCourtModel", name := "ahead", desc := "(IIII)I" } : Jvm.MethodName)) ∈ lw_g := tw_m3 (i := 193) rfl rfl
theorem tw_674 : (Jvm.Cond.instanceMethod ({ cls := "HistoryCourtModel", name := "ahead", desc := "(IIII)I" } : Jvm.MethodName)) ∈ lw_g := tw_m3 (i := 194) rfl rfl
theorem tw_675 : (Jvm.Cond.selects "HistoryCourtModel" ({ cls := "HistoryCourtModel", name := "ahead", desc := "(IIII)I" } : Jvm.MethodName) ({ cls := "HistoryCourtModel", name := "ahead", desc := "(IIII)I" } : Jvm.MethodName)) ∈ lw_g := tw_m3 (i := 195) rfl rfl
theorem tw_676 : (Jvm.Cond.code ({ cls := "HistoryCourtModel", name := "ahead", desc := "(IIII)I" } : Jvm.MethodName) prog_9_method_23_code (5 : Nat) (Option.some Jvm.ClassFile.FieldType.int)) ∈ lw_g := tw_m3 (i := 196) rfl rfl
theorem tw_677 : (Jvm.Cond.methodLink "HistoryCourtModel" (102 : Nat) ({ cls := "HistoryCourtModel", name := "isRule", desc := "(I)Z" } : Jvm.MethodName)) ∈ lw_g := tw_m3 (i := 197) rfl rfl
theorem tw_678 : (Jvm.Cond.static ({ cls := "HistoryCourtModel", name := "isRule", desc := "(I)Z" } : Jvm.MethodName)) ∈ lw_g := tw_m3 (i := 198) rfl rfl
theorem tw_679 : (Jvm.Cond.code ({ cls := "HistoryCourtModel", name := "isRule", desc := "(I)Z" } : Jvm.MethodName) prog_9_method_9_code (1 : Nat) (Option.some Jvm.ClassFile.FieldType.boolean)) ∈ lw_g := tw_m3 (i := 199) rfl rfl
theorem tw_680 : (Jvm.Cond.methodLink "HistoryCourtModel" (105 : Nat) ({ cls := "HistoryCourtModel", name := "all", desc := "(I)I" } : Jvm.MethodName)) ∈ lw_g := tw_m3 (i := 200) rfl rfl
theorem tw_682 : (Jvm.Cond.instanceMethod ({ cls := "HistoryCourtModel", name := "all", desc := "(I)I" } : Jvm.MethodName)) ∈ lw_g := tw_m3 (i := 202) rfl rfl
theorem tw_683 : (Jvm.Cond.code ({ cls := "HistoryCourtModel", name := "all", desc := "(I)I" } : Jvm.MethodName) prog_9_method_22_code (2 : Nat) (Option.some Jvm.ClassFile.FieldType.int)) ∈ lw_g := tw_m3 (i := 203) rfl rfl
theorem tw_684 : (Jvm.Cond.methodLink "HistoryCourtModel" (108 : Nat) ({ cls := "HistoryCourtModel", name := "isAhead", desc := "(IIIII)Z" } : Jvm.MethodName)) ∈ lw_g := tw_m3 (i := 204) rfl rfl
theorem tw_686 : (Jvm.Cond.instanceMethod ({ cls := "HistoryCourtModel", name := "isAhead", desc := "(IIIII)Z" } : Jvm.MethodName)) ∈ lw_g := tw_m3 (i := 206) rfl rfl
theorem tw_687 : (Jvm.Cond.code ({ cls := "HistoryCourtModel", name := "isAhead", desc := "(IIIII)Z" } : Jvm.MethodName) prog_9_method_21_code (9 : Nat) (Option.some Jvm.ClassFile.FieldType.boolean)) ∈ lw_g := tw_m3 (i := 207) rfl rfl
theorem tw_688 : (Jvm.Cond.methodLink "HistoryCourtModel" (99 : Nat) ({ cls := "HistoryCourtModel", name := "isQuiet", desc := "(III)Z" } : Jvm.MethodName)) ∈ lw_g := tw_m3 (i := 208) rfl rfl
theorem tw_690 : (Jvm.Cond.instanceMethod ({ cls := "HistoryCourtModel", name := "isQuiet", desc := "(III)Z" } : Jvm.MethodName)) ∈ lw_g := tw_m3 (i := 210) rfl rfl
theorem tw_691 : (Jvm.Cond.code ({ cls := "HistoryCourtModel", name := "isQuiet", desc := "(III)Z" } : Jvm.MethodName) prog_9_method_20_code (6 : Nat) (Option.some Jvm.ClassFile.FieldType.boolean)) ∈ lw_g := tw_m3 (i := 211) rfl rfl
theorem tw_692 : (Jvm.Cond.methodLink "HistoryCourtLaw" (70 : Nat) ({ cls := "HistoryCourtModel", name := "judge", desc := "(II)I" } : Jvm.MethodName)) ∈ lw_g := tw_m3 (i := 212) rfl rfl
theorem tw_693 : (Jvm.Cond.instanceMethod ({ cls := "HistoryCourtModel", name := "judge", desc := "(II)I" } : Jvm.MethodName)) ∈ lw_g := tw_m3 (i := 213) rfl rfl
theorem tw_694 : (Jvm.Cond.selects "HistoryCourtModel" ({ cls := "HistoryCourtModel", name := "judge", desc := "(II)I" } : Jvm.MethodName) ({ cls := "HistoryCourtModel", name := "judge", desc := "(II)I" } : Jvm.MethodName)) ∈ lw_g := tw_m3 (i := 214) rfl rfl
theorem tw_695 : (Jvm.Cond.code ({ cls := "HistoryCourtModel", name := "judge", desc := "(II)I" } : Jvm.MethodName) prog_9_method_33_code (3 : Nat) (Option.some Jvm.ClassFile.FieldType.int)) ∈ lw_g := tw_m3 (i := 215) rfl rfl
theorem tw_696 : (Jvm.Cond.methodLink "HistoryCourtModel" (158 : Nat) ({ cls := "HistoryCourtModel", name := "isTaken", desc := "(III)Z" } : Jvm.MethodName)) ∈ lw_g := tw_m3 (i := 216) rfl rfl
theorem tw_698 : (Jvm.Cond.instanceMethod ({ cls := "HistoryCourtModel", name := "isTaken", desc := "(III)Z" } : Jvm.MethodName)) ∈ lw_g := tw_m3 (i := 218) rfl rfl
theorem tw_699 : (Jvm.Cond.code ({ cls := "HistoryCourtModel", name := "isTaken", desc := "(III)Z" } : Jvm.MethodName) prog_9_method_32_code (4 : Nat) (Option.some Jvm.ClassFile.FieldType.boolean)) ∈ lw_g := tw_m3 (i := 219) rfl rfl
theorem tw_700 : (Jvm.Cond.methodLink "HistoryCourtModel" (150 : Nat) ({ cls := "HistoryCourtModel", name := "prepare", desc := "(III)V" } : Jvm.MethodName)) ∈ lw_g := tw_m3 (i := 220) rfl rfl
theorem tw_702 : (Jvm.Cond.instanceMethod ({ cls := "HistoryCourtModel", name := "prepare", desc := "(III)V" } : Jvm.MethodName)) ∈ lw_g := tw_m3 (i := 222) rfl rfl
theorem tw_703 : (Jvm.Cond.code ({ cls := "HistoryCourtModel", name := "prepare", desc := "(III)V" } : Jvm.MethodName) prog_9_method_28_code (6 : Nat) (Option.none : Option Jvm.ClassFile.FieldType)) ∈ lw_g := tw_m3 (i := 223) rfl rfl
theorem tw_704 : (Jvm.Cond.methodLink "HistoryCourtModel" (120 : Nat) ({ cls := "HistoryCourtModel", name := "begins", desc := "()V" } : Jvm.MethodName)) ∈ lw_g := tw_m3 (i := 224) rfl rfl
theorem tw_706 : (Jvm.Cond.instanceMethod ({ cls := "HistoryCourtModel", name := "begins", desc := "()V" } : Jvm.MethodName)) ∈ lw_g := tw_m3 (i := 226) rfl rfl
theorem tw_707 : (Jvm.Cond.code ({ cls := "HistoryCourtModel", name := "begins", desc := "()V" } : Jvm.MethodName) prog_9_method_24_code (2 : Nat) (Option.none : Option Jvm.ClassFile.FieldType)) ∈ lw_g := tw_m3 (i := 227) rfl rfl
theorem tw_708 : (Jvm.Cond.methodLink "HistoryCourtModel" (154 : Nat) ({ cls := "HistoryCourtModel", name := "answeredOf", desc := "(II)I" } : Jvm.MethodName)) ∈ lw_g := tw_m3 (i := 228) rfl rfl
theorem tw_710 : (Jvm.Cond.instanceMethod ({ cls := "HistoryCourtModel", name := "answeredOf", desc := "(II)I" } : Jvm.MethodName)) ∈ lw_g := tw_m3 (i := 230) rfl rfl
theorem tw_711 : (Jvm.Cond.code ({ cls := "HistoryCourtModel", name := "answeredOf", desc := "(II)I" } : Jvm.MethodName) prog_9_method_29_code (5 : Nat) (Option.some Jvm.ClassFile.FieldType.int)) ∈ lw_g := tw_m3 (i := 231) rfl rfl
theorem tw_712 : (Jvm.Cond.methodLink "HistoryCourtModel" (144 : Nat) ({ cls := "HistoryCourtModel", name := "goes", desc := "(IIIII)Z" } : Jvm.MethodName)) ∈ lw_g := tw_m3 (i := 232) rfl rfl
theorem tw_714 : (Jvm.Cond.instanceMethod ({ cls := "HistoryCourtModel", name := "goes", desc := "(IIIII)Z" } : Jvm.MethodName)) ∈ lw_g := tw_m3 (i := 234) rfl rfl
theorem tw_715 : (Jvm.Cond.code ({ cls := "HistoryCourtModel", name := "goes", desc := "(IIIII)Z" } : Jvm.MethodName) prog_9_method_30_code (8 : Nat) (Option.some Jvm.ClassFile.FieldType.boolean)) ∈ lw_g := tw_m3 (i := 235) rfl rfl
theorem tw_716 : (Jvm.Cond.methodLink "HistoryCourtModel" (136 : Nat) ({ cls := "HistoryCourtModel", name := "fill", desc := "([II)V" } : Jvm.MethodName)) ∈ lw_g := tw_m3 (i := 236) rfl rfl
theorem tw_718 : (Jvm.Cond.instanceMethod ({ cls := "HistoryCourtModel", name := "fill", desc := "([II)V" } : Jvm.MethodName)) ∈ lw_g := tw_m3 (i := 238) rfl rfl
theorem tw_719 : (Jvm.Cond.code ({ cls := "HistoryCourtModel", name := "fill", desc := "([II)V" } : Jvm.MethodName) prog_9_method_31_code (7 : Nat) (Option.none : Option Jvm.ClassFile.FieldType)) ∈ lw_g := tw_m3 (i := 239) rfl rfl
theorem tw_720 : (Jvm.Cond.methodLink "HistoryCourtModel" (140 : Nat) ({ cls := "HistoryCourtModel", name := "comes", desc := "(III)I" } : Jvm.MethodName)) ∈ lw_g := tw_m4 (i := 0) rfl rfl
theorem tw_722 : (Jvm.Cond.instanceMethod ({ cls := "HistoryCourtModel", name := "comes", desc := "(III)I" } : Jvm.MethodName)) ∈ lw_g := tw_m4 (i := 2) rfl rfl
theorem tw_723 : (Jvm.Cond.code ({ cls := "HistoryCourtModel", name := "comes", desc := "(III)I" } : Jvm.MethodName) prog_9_method_25_code (11 : Nat) (Option.some Jvm.ClassFile.FieldType.int)) ∈ lw_g := tw_m4 (i := 3) rfl rfl
theorem tw_724 : (Jvm.Cond.methodLink "HistoryCourtModel" (112 : Nat) ({ cls := "HistoryCourtModel", name := "cell", desc := "(IIIII)I" } : Jvm.MethodName)) ∈ lw_g := tw_m4 (i := 4) rfl rfl
theorem tw_726 : (Jvm.Cond.instanceMethod ({ cls := "HistoryCourtModel", name := "cell", desc := "(IIIII)I" } : Jvm.MethodName)) ∈ lw_g := tw_m4 (i := 6) rfl rfl
theorem tw_727 : (Jvm.Cond.code ({ cls := "HistoryCourtModel", name := "cell", desc := "(IIIII)I" } : Jvm.MethodName) prog_9_method_26_code (6 : Nat) (Option.some Jvm.ClassFile.FieldType.int)) ∈ lw_g := tw_m4 (i := 7) rfl rfl
theorem tw_728 : (Jvm.Cond.methodLink "HistoryCourtModel" (116 : Nat) ({ cls := "HistoryCourtModel", name := "line", desc := "(IZII)I" } : Jvm.MethodName)) ∈ lw_g := tw_m4 (i := 8) rfl rfl
theorem tw_730 : (Jvm.Cond.instanceMethod ({ cls := "HistoryCourtModel", name := "line", desc := "(IZII)I" } : Jvm.MethodName)) ∈ lw_g := tw_m4 (i := 10) rfl rfl
theorem tw_731 : (Jvm.Cond.code ({ cls := "HistoryCourtModel", name := "line", desc := "(IZII)I" } : Jvm.MethodName) prog_9_method_27_code (8 : Nat) (Option.some Jvm.ClassFile.FieldType.int)) ∈ lw_g := tw_m4 (i := 11) rfl rfl
theorem tw_732 : (Jvm.Cond.methodLink "HistoryCourtLaw" (74 : Nat) ({ cls := "HistoryCourtModel", name := "first", desc := "(III)I" } : Jvm.MethodName)) ∈ lw_g := tw_m4 (i := 12) rfl rfl
theorem tw_733 : (Jvm.Cond.instanceMethod ({ cls := "HistoryCourtModel", name := "first", desc := "(III)I" } : Jvm.MethodName)) ∈ lw_g := tw_m4 (i := 13) rfl rfl
theorem tw_734 : (Jvm.Cond.selects "HistoryCourtModel" ({ cls := "HistoryCourtModel", name := "first", desc := "(III)I" } : Jvm.MethodName) ({ cls := "HistoryCourtModel", name := "first", desc := "(III)I" } : Jvm.MethodName)) ∈ lw_g := tw_m4 (i := 14) rfl rfl
theorem tw_735 : (Jvm.Cond.code ({ cls := "HistoryCourtModel", name := "first", desc := "(III)I" } : Jvm.MethodName) prog_9_method_34_code (4 : Nat) (Option.some Jvm.ClassFile.FieldType.int)) ∈ lw_g := tw_m4 (i := 15) rfl rfl
theorem tw_736 : (Jvm.Cond.methodLink "HistoryCourtLaw" (79 : Nat) ({ cls := "HistoryCourtModel", name := "orders", desc := "(II)J" } : Jvm.MethodName)) ∈ lw_g := tw_m4 (i := 16) rfl rfl
theorem tw_737 : (Jvm.Cond.instanceMethod ({ cls := "HistoryCourtModel", name := "orders", desc := "(II)J" } : Jvm.MethodName)) ∈ lw_g := tw_m4 (i := 17) rfl rfl
theorem tw_738 : (Jvm.Cond.selects "HistoryCourtModel" ({ cls := "HistoryCourtModel", name := "orders", desc := "(II)J" } : Jvm.MethodName) ({ cls := "HistoryCourtModel", name := "orders", desc := "(II)J" } : Jvm.MethodName)) ∈ lw_g := tw_m4 (i := 18) rfl rfl
theorem tw_739 : (Jvm.Cond.code ({ cls := "HistoryCourtModel", name := "orders", desc := "(II)J" } : Jvm.MethodName) prog_9_method_35_code (4 : Nat) (Option.some Jvm.ClassFile.FieldType.long)) ∈ lw_g := tw_m4 (i := 19) rfl rfl
theorem tw_740 : (Jvm.Cond.constantLong "HistoryCourtModel" (161 : Nat) (-1 : Int64)) ∈ lw_g := tw_m4 (i := 20) rfl rfl
theorem tw_741 : (Jvm.Cond.methodLink "HistoryCourtLaw" (83 : Nat) ({ cls := "HistoryCourtModel", name := "least", desc := "(II)I" } : Jvm.MethodName)) ∈ lw_g := tw_m4 (i := 21) rfl rfl
theorem tw_742 : (Jvm.Cond.instanceMethod ({ cls := "HistoryCourtModel", name := "least", desc := "(II)I" } : Jvm.MethodName)) ∈ lw_g := tw_m4 (i := 22) rfl rfl
theorem tw_743 : (Jvm.Cond.selects "HistoryCourtModel" ({ cls := "HistoryCourtModel", name := "least", desc := "(II)I" } : Jvm.MethodName) ({ cls := "HistoryCourtModel", name := "least", desc := "(II)I" } : Jvm.MethodName)) ∈ lw_g := tw_m4 (i := 23) rfl rfl
theorem tw_744 : (Jvm.Cond.code ({ cls := "HistoryCourtModel", name := "least", desc := "(II)I" } : Jvm.MethodName) prog_9_method_36_code (7 : Nat) (Option.some Jvm.ClassFile.FieldType.int)) ∈ lw_g := tw_m4 (i := 24) rfl rfl
theorem tw_745 : (Jvm.Cond.methodLink "HistoryCourtLaw" (87 : Nat) ({ cls := "HistoryCourtModel", name := "part", desc := "(I)I" } : Jvm.MethodName)) ∈ lw_g := tw_m4 (i := 25) rfl rfl
theorem tw_746 : (Jvm.Cond.instanceMethod ({ cls := "HistoryCourtModel", name := "part", desc := "(I)I" } : Jvm.MethodName)) ∈ lw_g := tw_m4 (i := 26) rfl rfl
theorem tw_747 : (Jvm.Cond.selects "HistoryCourtModel" ({ cls := "HistoryCourtModel", name := "part", desc := "(I)I" } : Jvm.MethodName) ({ cls := "HistoryCourtModel", name := "part", desc := "(I)I" } : Jvm.MethodName)) ∈ lw_g := tw_m4 (i := 27) rfl rfl
theorem tw_748 : (Jvm.Cond.code ({ cls := "HistoryCourtModel", name := "part", desc := "(I)I" } : Jvm.MethodName) prog_9_method_37_code (4 : Nat) (Option.some Jvm.ClassFile.FieldType.int)) ∈ lw_g := tw_m4 (i := 28) rfl rfl
theorem tw_749 : (Jvm.Cond.methodLink "HistoryCourtLaw" (91 : Nat) ({ cls := "HistoryCourtModel", name := "fills", desc := "(III)I" } : Jvm.MethodName)) ∈ lw_g := tw_m4 (i := 29) rfl rfl
theorem tw_750 : (Jvm.Cond.instanceMethod ({ cls := "HistoryCourtModel", name := "fills", desc := "(III)I" } : Jvm.MethodName)) ∈ lw_g := tw_m4 (i := 30) rfl rfl
theorem tw_751 : (Jvm.Cond.selects "HistoryCourtModel" ({ cls := "HistoryCourtModel", name := "fills", desc := "(III)I" } : Jvm.MethodName) ({ cls := "HistoryCourtModel", name := "fills", desc := "(III)I" } : Jvm.MethodName)) ∈ lw_g := tw_m4 (i := 31) rfl rfl
theorem tw_752 : (Jvm.Cond.code ({ cls := "HistoryCourtModel", name := "fills", desc := "(III)I" } : Jvm.MethodName) prog_9_method_38_code (5 : Nat) (Option.some Jvm.ClassFile.FieldType.int)) ∈ lw_g := tw_m4 (i := 32) rfl rfl
theorem tw_753 : (Jvm.Cond.methodLink "HistoryCourtLaw" (95 : Nat) ({ cls := "HistoryCourtModel", name := "fill", desc := "(I)I" } : Jvm.MethodName)) ∈ lw_g := tw_m4 (i := 33) rfl rfl
theorem tw_754 : (Jvm.Cond.instanceMethod ({ cls := "HistoryCourtModel", name := "fill", desc := "(I)I" } : Jvm.MethodName)) ∈ lw_g := tw_m4 (i := 34) rfl rfl
theorem tw_755 : (Jvm.Cond.selects "HistoryCourtModel" ({ cls := "HistoryCourtModel", name := "fill", desc := "(I)I" } : Jvm.MethodName) ({ cls := "HistoryCourtModel", name := "fill", desc := "(I)I" } : Jvm.MethodName)) ∈ lw_g := tw_m4 (i := 35) rfl rfl
theorem tw_756 : (Jvm.Cond.code ({ cls := "HistoryCourtModel", name := "fill", desc := "(I)I" } : Jvm.MethodName) prog_9_method_39_code (2 : Nat) (Option.some Jvm.ClassFile.FieldType.int)) ∈ lw_g := tw_m4 (i := 36) rfl rfl
theorem tw_757 : (Jvm.Cond.methodLink "HistoryCourtLaw" (99 : Nat) ({ cls := "HistoryCourtModel", name := "apart", desc := "(III)I" } : Jvm.MethodName)) ∈ lw_g := tw_m4 (i := 37) rfl rfl
theorem tw_758 : (Jvm.Cond.instanceMethod ({ cls := "HistoryCourtModel", name := "apart", desc := "(III)I" } : Jvm.MethodName)) ∈ lw_g := tw_m4 (i := 38) rfl rfl
theorem tw_759 : (Jvm.Cond.selects "HistoryCourtModel" ({ cls := "HistoryCourtModel", name := "apart", desc := "(III)I" } : Jvm.MethodName) ({ cls := "HistoryCourtModel", name := "apart", desc := "(III)I" } : Jvm.MethodName)) ∈ lw_g := tw_m4 (i := 39) rfl rfl
theorem tw_760 : (Jvm.Cond.code ({ cls := "HistoryCourtModel", name := "apart", desc := "(III)I" } : Jvm.MethodName) prog_9_method_40_code (6 : Nat) (Option.some Jvm.ClassFile.FieldType.int)) ∈ lw_g := tw_m4 (i := 40) rfl rfl
theorem tw_761 : (Jvm.Cond.methodLink "HistoryCourtLaw" (103 : Nat) ({ cls := "HistoryCourtModel", name := "rules", desc := "(I)I" } : Jvm.MethodName)) ∈ lw_g := tw_m4 (i := 41) rfl rfl
theorem tw_762 : (Jvm.Cond.instanceMethod ({ cls := "HistoryCourtModel", name := "rules", desc := "(I)I" } : Jvm.MethodName)) ∈ lw_g := tw_m4 (i := 42) rfl rfl
theorem tw_763 : (Jvm.Cond.selects "HistoryCourtModel" ({ cls := "HistoryCourtModel", name := "rules", desc := "(I)I" } : Jvm.MethodName) ({ cls := "HistoryCourtModel", name := "rules", desc := "(I)I" } : Jvm.MethodName)) ∈ lw_g := tw_m4 (i := 43) rfl rfl
theorem tw_764 : (Jvm.Cond.code ({ cls := "HistoryCourtModel", name := "rules", desc := "(I)I" } : Jvm.MethodName) prog_9_method_41_code (4 : Nat) (Option.some Jvm.ClassFile.FieldType.int)) ∈ lw_g := tw_m4 (i := 44) rfl rfl
theorem tw_765 : (Jvm.Cond.methodLink "HistoryCourtLaw" (107 : Nat) ({ cls := "HistoryCourtModel", name := "say", desc := "(I)I" } : Jvm.MethodName)) ∈ lw_g := tw_m4 (i := 45) rfl rfl
theorem tw_766 : (Jvm.Cond.instanceMethod ({ cls := "HistoryCourtModel", name := "say", desc := "(I)I" } : Jvm.MethodName)) ∈ lw_g := tw_m4 (i := 46) rfl rfl
theorem tw_767 : (Jvm.Cond.selects "HistoryCourtModel" ({ cls := "HistoryCourtModel", name := "say", desc := "(I)I" } : Jvm.MethodName) ({ cls := "HistoryCourtModel", name := "say", desc := "(I)I" } : Jvm.MethodName)) ∈ lw_g := tw_m4 (i := 47) rfl rfl
theorem tw_768 : (Jvm.Cond.code ({ cls := "HistoryCourtModel", name := "say", desc := "(I)I" } : Jvm.MethodName) prog_9_method_42_code (2 : Nat) (Option.some Jvm.ClassFile.FieldType.int)) ∈ lw_g := tw_m4 (i := 48) rfl rfl
theorem tw_769 : (Jvm.Cond.methodLink "HistoryCourtLaw" (111 : Nat) ({ cls := "HistoryCourtModel", name := "check", desc := "(II)I" } : Jvm.MethodName)) ∈ lw_g := tw_m4 (i := 49) rfl rfl
theorem tw_770 : (Jvm.Cond.instanceMethod ({ cls := "HistoryCourtModel", name := "check", desc := "(II)I" } : Jvm.MethodName)) ∈ lw_g := tw_m4 (i := 50) rfl rfl
theorem tw_771 : (Jvm.Cond.selects "HistoryCourtModel" ({ cls := "HistoryCourtModel", name := "check", desc := "(II)I" } : Jvm.MethodName) ({ cls := "HistoryCourtModel", name := "check", desc := "(II)I" } : Jvm.MethodName)) ∈ lw_g := tw_m4 (i := 51) rfl rfl
theorem tw_772 : (Jvm.Cond.code ({ cls := "HistoryCourtModel", name := "check", desc := "(II)I" } : Jvm.MethodName) prog_9_method_43_code (8 : Nat) (Option.some Jvm.ClassFile.FieldType.int)) ∈ lw_g := tw_m4 (i := 52) rfl rfl
theorem tp_0 : Cond.selects "HistoryCourt" ⟨"HistoryCourt", "tableOf", "(I)LHistoryCourt$Table;"⟩ ⟨"HistoryCourt", "tableOf", "(I)LHistoryCourt$Table;"⟩ ∈ lw_g := List.mem_filter.mpr ⟨List.mem_append_left _ (List.mem_of_getElem? (i := 0) rfl), rfl⟩
theorem tp_1 : Cond.selects "HistoryCourt" ⟨"HistoryCourt", "keep", "(LHistoryCourt$History;)I"⟩ ⟨"HistoryCourt", "keep", "(LHistoryCourt$History;)I"⟩ ∈ lw_g := List.mem_filter.mpr ⟨List.mem_append_left _ (List.mem_of_getElem? (i := 1) rfl), rfl⟩
theorem tp_2 : Cond.selects "HistoryCourt" ⟨"HistoryCourt", "historyOf", "(I)LHistoryCourt$History;"⟩ ⟨"HistoryCourt", "historyOf", "(I)LHistoryCourt$History;"⟩ ∈ lw_g := List.mem_filter.mpr ⟨List.mem_append_left _ (List.mem_of_getElem? (i := 2) rfl), rfl⟩
theorem tp_3 : Cond.selects "HistoryCourt$History" ⟨"HistoryCourt$History", "isQuiet", "(II)Z"⟩ ⟨"HistoryCourt$History", "isQuiet", "(II)Z"⟩ ∈ lw_g := List.mem_filter.mpr ⟨List.mem_append_left _ (List.mem_of_getElem? (i := 3) rfl), rfl⟩
theorem tp_4 : Cond.selects "HistoryCourt$Search" ⟨"HistoryCourt$Search", "open", "(LHistoryCourt$History;IIZ)V"⟩ ⟨"HistoryCourt$Search", "open", "(LHistoryCourt$History;IIZ)V"⟩ ∈ lw_g := List.mem_filter.mpr ⟨List.mem_append_left _ (List.mem_of_getElem? (i := 4) rfl), rfl⟩
theorem tp_5 : Cond.selects "HistoryCourt$Search" ⟨"HistoryCourt$Search", "waysFrom", "(IIJ)J"⟩ ⟨"HistoryCourt$Search", "waysFrom", "(IIJ)J"⟩ ∈ lw_g := List.mem_filter.mpr ⟨List.mem_append_left _ (List.mem_of_getElem? (i := 5) rfl), rfl⟩
theorem tp_6 : Cond.selects "HistoryCourt$Search" ⟨"HistoryCourt$Search", "isWhole", "(I)Z"⟩ ⟨"HistoryCourt$Search", "isWhole", "(I)Z"⟩ ∈ lw_g := List.mem_filter.mpr ⟨List.mem_append_left _ (List.mem_of_getElem? (i := 6) rfl), rfl⟩
theorem tp_7 : Cond.selects "HistoryCourt$Search" ⟨"HistoryCourt$Search", "fits", "(IIJ)Z"⟩ ⟨"HistoryCourt$Search", "fits", "(IIJ)Z"⟩ ∈ lw_g := List.mem_filter.mpr ⟨List.mem_append_left _ (List.mem_of_getElem? (i := 7) rfl), rfl⟩
theorem tp_8 : Cond.selects "HistoryCourt$Search" ⟨"HistoryCourt$Search", "firstThatLeadsOn", "(IIJ)I"⟩ ⟨"HistoryCourt$Search", "firstThatLeadsOn", "(IIJ)I"⟩ ∈ lw_g := List.mem_filter.mpr ⟨List.mem_append_left _ (List.mem_of_getElem? (i := 8) rfl), rfl⟩
theorem tp_9 : Cond.selects "HistoryCourt$Search" ⟨"HistoryCourt$Search", "collectFrom", "(IIJILHistoryCourt$Answers;)V"⟩ ⟨"HistoryCourt$Search", "collectFrom", "(IIJILHistoryCourt$Answers;)V"⟩ ∈ lw_g := List.mem_filter.mpr ⟨List.mem_append_left _ (List.mem_of_getElem? (i := 9) rfl), rfl⟩
theorem tp_10 : Cond.selects "HistoryCourtModel" ⟨"HistoryCourtModel", "isHistory", "(I)Z"⟩ ⟨"HistoryCourtModel", "isHistory", "(I)Z"⟩ ∈ lw_g := List.mem_filter.mpr ⟨List.mem_append_left _ (List.mem_of_getElem? (i := 10) rfl), rfl⟩
theorem tp_11 : Cond.selects "HistoryCourtModel" ⟨"HistoryCourtModel", "isOpen", "(II)Z"⟩ ⟨"HistoryCourtModel", "isOpen", "(II)Z"⟩ ∈ lw_g := List.mem_filter.mpr ⟨List.mem_append_left _ (List.mem_of_getElem? (i := 11) rfl), rfl⟩
theorem tp_12 : Cond.selects "HistoryCourtModel" ⟨"HistoryCourtModel", "isCall", "(II)Z"⟩ ⟨"HistoryCourtModel", "isCall", "(II)Z"⟩ ∈ lw_g := List.mem_filter.mpr ⟨List.mem_append_left _ (List.mem_of_getElem? (i := 12) rfl), rfl⟩
theorem tp_13 : Cond.selects "HistoryCourtModel" ⟨"HistoryCourtModel", "all", "(I)I"⟩ ⟨"HistoryCourtModel", "all", "(I)I"⟩ ∈ lw_g := List.mem_filter.mpr ⟨List.mem_append_left _ (List.mem_of_getElem? (i := 13) rfl), rfl⟩
theorem tp_14 : Cond.selects "HistoryCourtModel" ⟨"HistoryCourtModel", "isAhead", "(IIIII)Z"⟩ ⟨"HistoryCourtModel", "isAhead", "(IIIII)Z"⟩ ∈ lw_g := List.mem_filter.mpr ⟨List.mem_append_left _ (List.mem_of_getElem? (i := 14) rfl), rfl⟩
theorem tp_15 : Cond.selects "HistoryCourtModel" ⟨"HistoryCourtModel", "isQuiet", "(III)Z"⟩ ⟨"HistoryCourtModel", "isQuiet", "(III)Z"⟩ ∈ lw_g := List.mem_filter.mpr ⟨List.mem_append_left _ (List.mem_of_getElem? (i := 15) rfl), rfl⟩
theorem tp_16 : Cond.selects "HistoryCourtModel" ⟨"HistoryCourtModel", "isTaken", "(III)Z"⟩ ⟨"HistoryCourtModel", "isTaken", "(III)Z"⟩ ∈ lw_g := List.mem_filter.mpr ⟨List.mem_append_left _ (List.mem_of_getElem? (i := 16) rfl), rfl⟩
theorem tp_17 : Cond.selects "HistoryCourtModel" ⟨"HistoryCourtModel", "prepare", "(III)V"⟩ ⟨"HistoryCourtModel", "prepare", "(III)V"⟩ ∈ lw_g := List.mem_filter.mpr ⟨List.mem_append_left _ (List.mem_of_getElem? (i := 17) rfl), rfl⟩
theorem tp_18 : Cond.selects "HistoryCourtModel" ⟨"HistoryCourtModel", "begins", "()V"⟩ ⟨"HistoryCourtModel", "begins", "()V"⟩ ∈ lw_g := List.mem_filter.mpr ⟨List.mem_append_left _ (List.mem_of_getElem? (i := 18) rfl), rfl⟩
theorem tp_19 : Cond.selects "HistoryCourtModel" ⟨"HistoryCourtModel", "answeredOf", "(II)I"⟩ ⟨"HistoryCourtModel", "answeredOf", "(II)I"⟩ ∈ lw_g := List.mem_filter.mpr ⟨List.mem_append_left _ (List.mem_of_getElem? (i := 19) rfl), rfl⟩
theorem tp_20 : Cond.selects "HistoryCourtModel" ⟨"HistoryCourtModel", "goes", "(IIIII)Z"⟩ ⟨"HistoryCourtModel", "goes", "(IIIII)Z"⟩ ∈ lw_g := List.mem_filter.mpr ⟨List.mem_append_left _ (List.mem_of_getElem? (i := 20) rfl), rfl⟩
theorem tp_21 : Cond.selects "HistoryCourtModel" ⟨"HistoryCourtModel", "fill", "([II)V"⟩ ⟨"HistoryCourtModel", "fill", "([II)V"⟩ ∈ lw_g := List.mem_filter.mpr ⟨List.mem_append_left _ (List.mem_of_getElem? (i := 21) rfl), rfl⟩
theorem tp_22 : Cond.selects "HistoryCourtModel" ⟨"HistoryCourtModel", "comes", "(III)I"⟩ ⟨"HistoryCourtModel", "comes", "(III)I"⟩ ∈ lw_g := List.mem_filter.mpr ⟨List.mem_append_left _ (List.mem_of_getElem? (i := 22) rfl), rfl⟩
theorem tp_23 : Cond.selects "HistoryCourtModel" ⟨"HistoryCourtModel", "cell", "(IIIII)I"⟩ ⟨"HistoryCourtModel", "cell", "(IIIII)I"⟩ ∈ lw_g := List.mem_filter.mpr ⟨List.mem_append_left _ (List.mem_of_getElem? (i := 23) rfl), rfl⟩
theorem tp_24 : Cond.selects "HistoryCourtModel" ⟨"HistoryCourtModel", "line", "(IZII)I"⟩ ⟨"HistoryCourtModel", "line", "(IZII)I"⟩ ∈ lw_g := List.mem_filter.mpr ⟨List.mem_append_left _ (List.mem_of_getElem? (i := 24) rfl), rfl⟩
theorem inX0 : ∀ w ∈ wsX00, w ∈ lw_g := by decide +kernel
theorem inX1 : ∀ w ∈ wsX10, w ∈ lw_g := by decide +kernel
theorem inX2 : ∀ w ∈ wsX20, w ∈ lw_g := by decide +kernel
theorem inX4 : ∀ w ∈ wsX40, w ∈ lw_g := by decide +kernel
theorem inX5 : ∀ w ∈ wsX50, w ∈ lw_g := by decide +kernel
theorem inX6 : ∀ w ∈ wsX60, w ∈ lw_g := by decide +kernel
theorem inX7 : ∀ w ∈ wsX70, w ∈ lw_g := by decide +kernel
end
section
def Nws (U : State) : Prop := va_Nw (Jvm.Cond.methodLinkNest "HistoryCourt" (23 : Nat) ({ cls := "HistoryCourt$Search", name := "<init>", desc := "()V" } : Jvm.MethodName) "HistoryCourt") U ∧ va_Nw (Jvm.Cond.methodLinkNest "HistoryCourt$Search" (28 : Nat) ({ cls := "HistoryCourt$Memo", name := "<init>", desc := "()V" } : Jvm.MethodName) "HistoryCourt") U ∧ va_Nw (Jvm.Cond.methodLinkNest "HistoryCourt" (30 : Nat) ({ cls := "HistoryCourt$Answers", name := "<init>", desc := "()V" } : Jvm.MethodName) "HistoryCourt") U ∧ va_Nw (Jvm.Cond.methodLinkNest "HistoryCourt" (43 : Nat) ({ cls := "HistoryCourt$Table", name := "<init>", desc := "()V" } : Jvm.MethodName) "HistoryCourt") U ∧ va_Nw (Jvm.Cond.methodLinkNest "HistoryCourt$History" (64 : Nat) ({ cls := "HistoryCourt", name := "holds", desc := "(II)Z" } : Jvm.MethodName) "HistoryCourt") U ∧ va_Nw (Jvm.Cond.methodLinkNest "HistoryCourt$Search" (98 : Nat) ({ cls := "HistoryCourt", name := "holds", desc := "(II)Z" } : Jvm.MethodName) "HistoryCourt") U
theorem Nws.warm {s U : State} (hW : s.WarmedH U.vm) (h : Nws s) : Nws U := ⟨va_Nw.warmM hW h.1, va_Nw.warmM hW h.2.1, va_Nw.warmM hW h.2.2.1, va_Nw.warmM hW h.2.2.2.1, va_Nw.warmM hW h.2.2.2.2.1, va_Nw.warmM hW h.2.2.2.2.2⟩
theorem Nws.same {u U : State} (e : u.vm = U.vm) (h : Nws u) : Nws U := ⟨va_Nw.same rfl e h.1, va_Nw.same rfl e h.2.1, va_Nw.same rfl e h.2.2.1, va_Nw.same rfl e h.2.2.2.1, va_Nw.same rfl e h.2.2.2.2.1, va_Nw.same rfl e h.2.2.2.2.2⟩
section KIT
variable {p : Program} {l : Launch} {e : Env} {R : Room} {s : State} {m : MethodId} {args : Array Value} {below : List Frame} {meth : Method} {c : Code} {H : Heap} {locs : List Loc} {cells slots : Nat} {Q : State → Prop}
variable {cc : ByteArray} {nL : Nat} {own : String} {ret : Option FieldType} {D : va_G} {tc : Nat → ClassId} {A : Nat → Prop} {ws : va_W} {pc : Nat} {ls : Array Slot} {rest : List Value} {a : Nat}
abbrev tys (tc : Nat → ClassId) : List (ClassId × FieldType) := [(tc 0, .int), (tc 1, .long), (tc 2, .object "HistoryCourt$History"), (tc 3, .object "HistoryCourt$Table")]
/-- what stands for a whole method -/
def Cx (p : Program) (s : State) (m : MethodId) (args : Array Value) (meth : Method) (c : Code) (cc : ByteArray) (nL : Nat) (own : String) (ret : Option FieldType) : Prop :=
  p.tables.exec = Jvm.exec ∧ c.code = cc ∧ meth.sig.returnType = ret ∧ c.maxLocals = nL ∧ s.vm.findClass own = some m.cls ∧ (∀ w ∈ lw_g, w.before args s = true) ∧ meth.locks = false ∧ Nws s
/-- the world now -/
def Wd (D : va_G) (tc : Nat → ClassId) (A : Nat → Prop) (s : State) (H : Heap) (locs : List Loc) (ws : va_W) : Prop :=
  va_K D vwCl (tys tc) s ∧ va_P D vwCl ws H ∧ va_D A ws ∧ va_S A s.heap H locs ∧ ∀ q : Nat, s.heap.size ≤ q → A q
def PreM (D : va_G) (tc : Nat → ClassId) (ws : va_W) (sz : Nat) (U : State) : Prop := U.heap.size = sz ∧ va_P D vwCl ws U.heap ∧ va_K D vwCl (tys tc) U ∧ va_D (fun _ => True) ws ∧ Nws U
def EndM (D : va_G) (w0 ws : va_W) (sz : Nat) (t : State) : Prop := va_P D vwCl ws t.heap ∧ va_D (va_A w0 sz) ws
def NR (rt : Option FieldType) (v : Option Value) : Prop := ∀ (ty : FieldType) (r : Int32), rt = some ty → v = some (.int r) → narrow ty (.int r) = .int r
def QcM (D : va_G) (ws : va_W) (sz : Nat) (rt : Option FieldType) (RT : Option Value → va_W → Prop) : Array Value → State → Outcome → State → Prop := fun _ st oc t => (∃ (v : Option Value) (w : va_W), oc = .returned v ∧ RT v w ∧ EndM D ws w sz t ∧ NR rt v) ∧ va_F (va_A ws sz) st t
abbrev rmz (fr mc ms lo : Nat) : Room := { frames := fr, cells := mc, slots := ms, locals := lo }
/-- a method's contract: from the world ws with the arguments av it returns with RT of its answer and the world then -/
def MetG (l : Launch) (D : va_G) (tc : Nat → ClassId) (y : MethodName) (cc : ByteArray) (maxL : Nat) (ret : Option FieldType) (fr mc ms lo : Nat) (av : List Value) (ws : va_W) (RT : Option Value → va_W → Prop) : Prop :=
  ∀ sz : Nat, Met l y (Cond.code y cc maxL ret :: lw_g) (rmz fr mc ms lo) (va_Pc av (PreM D tc ws sz)) (QcM D ws sz ret RT) mc ms (va_A ws sz)
/-- the contract of a method that makes nothing and whose answer and end are told -/
abbrev MetD (l : Launch) (D : va_G) (tc : Nat → ClassId) (y : MethodName) (cc : ByteArray) (maxL : Nat) (ret : Option FieldType) (fr lo : Nat) (av : List Value) (ws : va_W) (v1 : Option Value) (w1 : va_W) : Prop :=
  MetG l D tc y cc maxL ret fr 0 0 lo av ws (fun v w => v = v1 ∧ w = w1)
theorem PreM.blind (D : va_G) (tc : Nat → ClassId) (ws : va_W) (sz : Nat) (av : List Value) : FrameBlind (va_Pc av (PreM D tc ws sz)) := fun a U g mk q => by
  obtain ⟨q0, q1, q2, q3, q4, q5⟩ := q
  exact ⟨q0, q1, q2, va_K.moved (u := U) (U := U.calling g mk a) (Vm.Alike.refl U.vm) q3, q4, Nws.same rfl q5⟩
theorem x_ent {y : MethodName} {maxL fr mc ms lo : Nat} {av : List Value} {RT : Option Value → va_W → Prop} (hy : plainName y.cls = true) (ho : y.cls = own) (hlen : (lg_sl av).length ≤ maxL)
    (body : ∀ (p : Program) (e : Env) (s : State) (m : MethodId) (args : Array Value) (below : List Frame) (meth : Method) (c : Code) (A : Nat → Prop) (sz : Nat) (ls : Array Slot), A = va_A ws sz → sz = s.heap.size → (own = y.cls → (y.name = "<init>" → meth.name = "<init>")) → 
      Cx p s m args meth c cc maxL own ret → Wd D tc A s s.heap [] ws → lv_has ls maxL (lv_args 0 av) →
      W p l e (rmz fr mc ms lo) s m args below meth c s.heap [] 0 0 (MQ below (QcM D ws sz ret RT) args s mc ms A) (F0 m 0 ls [])) :
    MetG l D tc y cc maxL ret fr mc ms lo av ws RT := by
  intro sz
  refine Met.ofW (cc := cc) (maxL := maxL) (ret := ret) hy rfl ?_
  intro p e s m args below meth c s₁ B hml hv
  obtain ⟨rfl, hsz, hP, hK, hD0, hN⟩ := hv
  have hts := atoms_spec (ws := Cond.code y cc maxL ret :: lw_g) B.pre
  have hown : s.vm.findClass y.cls = some m.cls := findClass_of_methodNamed B.named
  have hl := lv_entry av (n := maxL) hlen
  rw [lg_entry_eq]
  subst ho
  exact body p e s m av.toArray below meth c (va_A ws sz) sz _ rfl hsz.symm (fun _ h => by rw [← h]; exact (name_of_methodNamed B.named B.method).1) ⟨B.exec, B.bytes, B.returns, hml, hown, fun w hw => hts w (List.mem_cons_of_mem _ hw), B.notSynchronized, hN⟩
    ⟨hK, hP, hD0.self, va_S.rf, fun q h => Or.inr (by rw [← hsz]; exact h)⟩ hl
theorem x_ireti {RT : Option Value → va_W → Prop} {w : va_W} {sz mc ms : Nat} {ty : FieldType} {v : Int32} (hcl : cells ≤ mc) (hsl : slots ≤ ms) (C : Cx p s m args meth c cc nL own (some ty)) (hA : A = va_A ws sz) (hn : narrow ty (.int v) = .int v) (hRT : RT (some (.int v)) w) (V : Wd D tc A s H locs w) (hdg : decode cc pc = .ok (.ireturn, 1)) :
    W p l e R s m args below meth c H locs cells slots (MQ below (QcM D ws sz (some ty) RT) args s mc ms A) (F0 m pc ls [.int v]) := by
  obtain ⟨hx, hb, hr, hml, hown, hts, hlocks, hN⟩ := C
  obtain ⟨hK, hP, hD, hS, hA2⟩ := V
  refine W.widen hcl hsl ?_
  exact W.zret hx hb hr hn (fun t ht hW => ⟨⟨some (.int v), w, rfl, hRT, ⟨by rw [ht]; exact hP, by rw [← hA]; exact hD⟩, fun ty2 r2 h1 h2 => by cases h1; cases h2; exact hn⟩, by rw [← hA]; exact hS.F ht⟩) hS.2.2 hdg
theorem x_lreti {RT : Option Value → va_W → Prop} {w : va_W} {sz mc ms : Nat} {v : Int64} (hcl : cells ≤ mc) (hsl : slots ≤ ms) (C : Cx p s m args meth c cc nL own (some .long)) (hA : A = va_A ws sz) (hRT : RT (some (.long v)) w) (V : Wd D tc A s H locs w) (hdg : decode cc pc = .ok (.lreturn, 1)) :
    W p l e R s m args below meth c H locs cells slots (MQ below (QcM D ws sz (some .long) RT) args s mc ms A) (F0 m pc ls [.long v]) := by
  obtain ⟨hx, hb, hr, hml, hown, hts, hlocks, hN⟩ := C
  obtain ⟨hK, hP, hD, hS, hA2⟩ := V
  refine W.widen hcl hsl ?_
  exact W.lret hx hb hr (fun t ht hW => ⟨⟨some (.long v), w, rfl, hRT, ⟨by rw [ht]; exact hP, by rw [← hA]; exact hD⟩, fun ty2 r2 h1 h2 => by cases h2⟩, by rw [← hA]; exact hS.F ht⟩) hS.2.2 hdg
theorem x_vreti {RT : Option Value → va_W → Prop} {w : va_W} {sz mc ms : Nat} (hcl : cells ≤ mc) (hsl : slots ≤ ms) (C : Cx p s m args meth c cc nL own none) (hA : A = va_A ws sz) (hRT : RT none w) (V : Wd D tc A s H locs w) (hdg : decode cc pc = .ok (.return_, 1)) :
    W p l e R s m args below meth c H locs cells slots (MQ below (QcM D ws sz none RT) args s mc ms A) (F0 m pc ls []) := by
  obtain ⟨hx, hb, hr, hml, hown, hts, hlocks, hN⟩ := C
  obtain ⟨hK, hP, hD, hS, hA2⟩ := V
  refine W.widen hcl hsl ?_
  exact W.vret hx hb hr (fun t ht hW => ⟨⟨none, w, rfl, hRT, ⟨by rw [ht]; exact hP, by rw [← hA]; exact hD⟩, fun ty2 r2 h1 h2 => by cases h2⟩, by rw [← hA]; exact hS.F ht⟩) hS.2.2 hdg
/-- the three ends of a method with a told end -/
def RetI (p : Program) (l : Launch) (e : Env) (R : Room) (s : State) (m : MethodId) (args : Array Value) (below : List Frame) (meth : Method) (c : Code) (Q : State → Prop) (cc : ByteArray) (D : va_G) (tc : Nat → ClassId) (A : Nat → Prop) (ty : FieldType) {S : Type} (res : Option S) (val : S → Int32) (wf : S → va_W) : Prop :=
  ∀ {H : Heap} {locs : List Loc} {pc : Nat} {ls : Array Slot} (x : S), some x = res → narrow ty (.int (val x)) = .int (val x) → Wd D tc A s H locs (wf x) → decode cc pc = .ok (.ireturn, 1) → W p l e R s m args below meth c H locs 0 0 Q (F0 m pc ls [.int (val x)])
def RetL (p : Program) (l : Launch) (e : Env) (R : Room) (s : State) (m : MethodId) (args : Array Value) (below : List Frame) (meth : Method) (c : Code) (Q : State → Prop) (cc : ByteArray) (D : va_G) (tc : Nat → ClassId) (A : Nat → Prop) {S : Type} (res : Option S) (val : S → Int64) (wf : S → va_W) : Prop :=
  ∀ {H : Heap} {locs : List Loc} {pc : Nat} {ls : Array Slot} (x : S), some x = res → Wd D tc A s H locs (wf x) → decode cc pc = .ok (.lreturn, 1) → W p l e R s m args below meth c H locs 0 0 Q (F0 m pc ls [.long (val x)])
def RetV (p : Program) (l : Launch) (e : Env) (R : Room) (s : State) (m : MethodId) (args : Array Value) (below : List Frame) (meth : Method) (c : Code) (Q : State → Prop) (cc : ByteArray) (D : va_G) (tc : Nat → ClassId) (A : Nat → Prop) {S : Type} (res : Option S) (wf : S → va_W) : Prop :=
  ∀ {H : Heap} {locs : List Loc} {pc : Nat} {ls : Array Slot} (x : S), some x = res → Wd D tc A s H locs (wf x) → decode cc pc = .ok (.return_, 1) → W p l e R s m args below meth c H locs 0 0 Q (F0 m pc ls [])
theorem x_entI {y : MethodName} {maxL fr lo : Nat} {av : List Value} {ty : FieldType} {S : Type} {x0 : S} (val : S → Int32) (wf : S → va_W) (hy : plainName y.cls = true) (ho : y.cls = own) (hlen : (lg_sl av).length ≤ maxL)
    (body : ∀ (p : Program) (e : Env) (s : State) (m : MethodId) (args : Array Value) (below : List Frame) (meth : Method) (c : Code) (A : Nat → Prop) (Q : State → Prop) (ls : Array Slot),
      Cx p s m args meth c cc maxL own (some ty) → Wd D tc A s s.heap [] ws → lv_has ls maxL (lv_args 0 av) → RetI p l e (rmz fr 0 0 lo) s m args below meth c Q cc D tc A ty (some x0) val wf →
      W p l e (rmz fr 0 0 lo) s m args below meth c s.heap [] 0 0 Q (F0 m 0 ls [])) :
    MetD l D tc y cc maxL (some ty) fr lo av ws (some (.int (val x0))) (wf x0) :=
  x_ent hy ho hlen (fun p e s m args below meth c A sz ls hA _ _ C V hl => body p e s m args below meth c A _ ls C V hl (fun x hx hn V hdg => by
    cases hx
    exact x_ireti (Nat.le_refl 0) (Nat.le_refl 0) C hA hn ⟨rfl, rfl⟩ V hdg))
theorem x_entL {y : MethodName} {maxL fr lo : Nat} {av : List Value} {S : Type} {x0 : S} (val : S → Int64) (wf : S → va_W) (hy : plainName y.cls = true) (ho : y.cls = own) (hlen : (lg_sl av).length ≤ maxL)
    (body : ∀ (p : Program) (e : Env) (s : State) (m : MethodId) (args : Array Value) (below : List Frame) (meth : Method) (c : Code) (A : Nat → Prop) (Q : State → Prop) (ls : Array Slot),
      Cx p s m args meth c cc maxL own (some .long) → Wd D tc A s s.heap [] ws → lv_has ls maxL (lv_args 0 av) → RetL p l e (rmz fr 0 0 lo) s m args below meth c Q cc D tc A (some x0) val wf →
      W p l e (rmz fr 0 0 lo) s m args below meth c s.heap [] 0 0 Q (F0 m 0 ls [])) :
    MetD l D tc y cc maxL (some .long) fr lo av ws (some (.long (val x0))) (wf x0) :=
  x_ent hy ho hlen (fun p e s m args below meth c A sz ls hA _ _ C V hl => body p e s m args below meth c A _ ls C V hl (fun x hx V hdg => by
    cases hx
    exact x_lreti (Nat.le_refl 0) (Nat.le_refl 0) C hA ⟨rfl, rfl⟩ V hdg))
theorem x_entV {y : MethodName} {maxL fr lo : Nat} {av : List Value} {S : Type} {x0 : S} (wf : S → va_W) (hy : plainName y.cls = true) (ho : y.cls = own) (hlen : (lg_sl av).length ≤ maxL)
    (body : ∀ (p : Program) (e : Env) (s : State) (m : MethodId) (args : Array Value) (below : List Frame) (meth : Method) (c : Code) (A : Nat → Prop) (Q : State → Prop) (ls : Array Slot),
      Cx p s m args meth c cc maxL own none → Wd D tc A s s.heap [] ws → lv_has ls maxL (lv_args 0 av) → RetV p l e (rmz fr 0 0 lo) s m args below meth c Q cc D tc A (some x0) wf →
      W p l e (rmz fr 0 0 lo) s m args below meth c s.heap [] 0 0 Q (F0 m 0 ls [])) :
    MetD l D tc y cc maxL none fr lo av ws none (wf x0) :=
  x_ent hy ho hlen (fun p e s m args below meth c A sz ls hA _ _ C V hl => body p e s m args below meth c A _ ls C V hl (fun x hx V hdg => by
    cases hx
    exact x_vreti (Nat.le_refl 0) (Nat.le_refl 0) C hA ⟨rfl, rfl⟩ V hdg))
theorem x_get (hx : p.tables.exec = Jvm.exec) (hb : c.code = cc) (hts : ∀ w ∈ lw_g, w.before args s = true) (hown : s.vm.findClass own = some m.cls) (V : Wd D tc A s H locs ws) {C ref : String} {T : u_T} {N ci index : Nat} (hin : ∀ w ∈ u_ws C T N, w ∈ lw_g) (q0 : Nat) {fs : List Value} (he : ws[q0]? = some (a, .inr (ci, fs))) (hc : vwCl[ci]? = some (C, T, N)) (k : Nat) (hk : k < N) (hlink : Cond.fieldLink own index ref (T k).2.1 (T k).2.2.1 ∈ lw_g) (hsame : (T k).1 = ref) {v : Value} (hv : fs[k]? = some v) (hdg : decode cc pc = .ok (.getfield index, 3))
    (kk : W p l e R s m args below meth c H locs cells slots Q (F0 m (pc + 3) ls (v :: rest))) : W p l e R s m args below meth c H locs cells slots Q (F0 m pc ls (.ref a :: rest)) :=
  va_get hx hb hts hin hown V.1 V.2.1 q0 he hc k hk (hts _ hlink) (fun x h => by rw [← hsame]; exact h) hv hdg kk
theorem x_put (hx : p.tables.exec = Jvm.exec) (hb : c.code = cc) (hts : ∀ w ∈ lw_g, w.before args s = true) (hown : s.vm.findClass own = some m.cls) (V : Wd D tc A s H locs ws) {C ref : String} {T : u_T} {N ci index : Nat} (hin : ∀ w ∈ u_ws C T N, w ∈ lw_g) {ty0 : Nat → FieldType} (hty : ∀ k, k < N → parseFieldDescriptor (T k).2.2.1 = some (ty0 k)) (hnm : ∀ a, a < N → ∀ b, b < N → a ≠ b → (T a).2.1 ≠ (T b).2.1) (q0 : Nat) {fs : List Value} (he : ws[q0]? = some (a, .inr (ci, fs))) (hc : vwCl[ci]? = some (C, T, N)) (k : Nat) (hk : k < N) (hlink : Cond.fieldLink own index ref (T k).2.1 (T k).2.2.1 ∈ lw_g) (hsame : (T k).1 = ref) (hfin : (T k).2.2.2 = false) {v : Value} (hn : narrow (ty0 k) v = v) (hfit : fits (ty0 k) v = true) (hl : k < fs.length) (hdg : decode cc pc = .ok (.putfield index, 3))
    (kk : ∀ (H1 : Heap) (locs1 : List Loc), Wd D tc A s H1 locs1 (ws.set q0 (a, .inr (ci, fs.set k v))) → W p l e R s m args below meth c H1 locs1 cells slots Q (F0 m (pc + 3) ls rest)) : W p l e R s m args below meth c H locs cells slots Q (F0 m pc ls (v :: .ref a :: rest)) :=
  va_put hx hb hts hin ty0 hty hnm hown V.1 V.2.1 V.2.2.1 V.2.2.2.1 q0 he hc k hk (hts _ hlink) (fun x h => by rw [← hsame]; exact h) hfin (hty k hk) hn hfit hl hdg (fun H1 l1 a1 a2 a3 => kk H1 l1 ⟨V.1, a1, a2, a3, V.2.2.2.2⟩)
theorem x_iald (hx : p.tables.exec = Jvm.exec) (hb : c.code = cc) (V : Wd D tc A s H locs ws) (q0 : Nat) {n : Nat} {f : Nat → Int32} (ha : ws[q0]? = some (a, .inl (tc 0, n, .inl f))) {i : Int32} (hin : vp_in i n) (hdg : decode cc pc = .ok (.iaload, 1))
    (kk : W p l e R s m args below meth c H locs cells slots Q (F0 m (pc + 1) ls (.int (f i.toNatClampNeg) :: rest))) : W p l e R s m args below meth c H locs cells slots Q (F0 m pc ls (.int i :: .ref a :: rest)) :=
  va_iald hx hb V.1 V.2.1 q0 0 ha rfl hin hdg kk
theorem x_lald (hx : p.tables.exec = Jvm.exec) (hb : c.code = cc) (V : Wd D tc A s H locs ws) (q0 : Nat) {n : Nat} {f : Nat → Int64} (ha : ws[q0]? = some (a, .inl (tc 1, n, .inr (.inl f)))) {i : Int32} (hin : vp_in i n) (hdg : decode cc pc = .ok (.laload, 1))
    (kk : W p l e R s m args below meth c H locs cells slots Q (F0 m (pc + 1) ls (.long (f i.toNatClampNeg) :: rest))) : W p l e R s m args below meth c H locs cells slots Q (F0 m pc ls (.int i :: .ref a :: rest)) :=
  va_lald hx hb V.1 V.2.1 q0 1 ha rfl hin hdg kk
theorem x_iast (hx : p.tables.exec = Jvm.exec) (hb : c.code = cc) (V : Wd D tc A s H locs ws) (q0 : Nat) {n : Nat} {f : Nat → Int32} (ha : ws[q0]? = some (a, .inl (tc 0, n, .inl f))) {i x : Int32} (hin : vp_in i n) (hdg : decode cc pc = .ok (.iastore, 1))
    (kk : ∀ (H1 : Heap) (locs1 : List Loc), Wd D tc A s H1 locs1 (ws.set q0 (a, .inl (tc 0, n, .inl (upd f i.toNatClampNeg x)))) → W p l e R s m args below meth c H1 locs1 cells slots Q (F0 m (pc + 1) ls rest)) : W p l e R s m args below meth c H locs cells slots Q (F0 m pc ls (.int x :: .int i :: .ref a :: rest)) :=
  va_iast hx hb V.1 V.2.1 V.2.2.1 V.2.2.2.1 q0 0 ha rfl hin hdg (fun H1 l1 a1 a2 a3 => kk H1 l1 ⟨V.1, a1, a2, a3, V.2.2.2.2⟩)
theorem x_last (hx : p.tables.exec = Jvm.exec) (hb : c.code = cc) (V : Wd D tc A s H locs ws) (q0 : Nat) {n : Nat} {f : Nat → Int64} (ha : ws[q0]? = some (a, .inl (tc 1, n, .inr (.inl f)))) {i : Int32} {x : Int64} (hin : vp_in i n) (hdg : decode cc pc = .ok (.lastore, 1))
    (kk : ∀ (H1 : Heap) (locs1 : List Loc), Wd D tc A s H1 locs1 (ws.set q0 (a, .inl (tc 1, n, .inr (.inl (vp_updL f i.toNatClampNeg x))))) → W p l e R s m args below meth c H1 locs1 cells slots Q (F0 m (pc + 1) ls rest)) : W p l e R s m args below meth c H locs cells slots Q (F0 m pc ls (.long x :: .int i :: .ref a :: rest)) :=
  va_last hx hb V.1 V.2.1 V.2.2.1 V.2.2.2.1 q0 1 ha rfl hin hdg (fun H1 l1 a1 a2 a3 => kk H1 l1 ⟨V.1, a1, a2, a3, V.2.2.2.2⟩)
theorem x_alen (hx : p.tables.exec = Jvm.exec) (hb : c.code = cc) (V : Wd D tc A s H locs ws) (q0 : Nat) {n : Nat} {f : Nat → Int32} (ha : ws[q0]? = some (a, .inl (tc 0, n, .inl f))) {v : Int32} (hv : Int32.ofNat n = v) (hdg : decode cc pc = .ok (.arraylength, 1))
    (kk : W p l e R s m args below meth c H locs cells slots Q (F0 m (pc + 1) ls (.int v :: rest))) : W p l e R s m args below meth c H locs cells slots Q (F0 m pc ls (.ref a :: rest)) :=
  va_alen hx hb V.1 V.2.1 q0 0 ha rfl hv hdg kk
/-- what a contract's words are among the caller's -/
theorem x_good {w : Cond} (hw : w ∈ lw_g) : GoodIn lw_g (w :: lw_g) := fun x h => by
  rcases List.mem_cons.mp h with rfl | h
  · exact ⟨hw, good_of_word (lw_gg _ hw)⟩
  · exact ⟨h, good_of_word (lw_gg _ h)⟩
/-- a call runs: the callee's world is the places isC of the caller's; behind it the rest stands unchanged beside the callee's new world -/
theorem x_back {mc ms sz : Nat} {rt : Option FieldType} {wc : va_W} {RT : Option Value → va_W → Prop} {st0 : List Value} {av : Array Value} (V : Wd D tc A s H locs ws) (isC : List Nat) (hC : isC.map (fun i => ws[i]?) = wc.map some) (hsz : sz = H.size)
    (hr : va_Run p l e R s m args below meth c H locs cells slots mc ms (F0 m pc ls st0) rest (QcM D wc sz rt RT av) (va_A wc sz))
    (kk : ∀ (v : Option Value) (w1 : va_W) (H1 : Heap) (locs1 : List Loc), RT v w1 → NR rt v → (∀ (wr : va_W) (isR : List Nat), isR.map (fun i => ws[i]?) = wr.map some → va_nd isR = true → (∀ i ∈ isR, i ∉ isC) → Wd D tc A s H1 locs1 (wr ++ w1)) → W p l e R s m args below meth c H1 locs1 (cells + mc) (slots + ms) Q (F0 m (pc + 3) ls (v.toList ++ rest))) :
    W p l e R s m args below meth c H locs cells slots Q (F0 m pc ls st0) := by
  intro T hT X
  subst hsz
  obtain ⟨hK, hP, hD, hS, hA⟩ := V
  have hFc := va_free (wc := wc) hD hS hA isC hC
  obtain ⟨v, st₀, t, T', L, h0, X', hL, e1, e2, ⟨⟨v2, w1, hv, hRT, ⟨hP1, hD1⟩, hNR⟩, hz, hk⟩, st⟩ := hr T hT X
  cases hv
  rw [h0] at hz hk
  have hS1 : va_S A s.heap T'.heap (locs ++ L) := ⟨Nat.le_trans hS.1 (by rw [e1]; exact hz), fun q h1 h2 => by rw [e1, hk q (Nat.lt_of_lt_of_le h1 hS.1) (fun z => h2 (hFc q z))]; exact hS.2.1 q h1 h2, fun q hq => by
      rcases List.mem_append.mp hq with h | h
      · exact hS.2.2 q h
      · exact hFc _ (hL q h)⟩
  obtain ⟨t2, a1, b1⟩ := kk v w1 T'.heap (locs ++ L) hRT hNR (fun wr isR hR hn hdis => by
    obtain ⟨j1, j2⟩ := va_join (wr := wr) (w1 := w1) (H1 := T'.heap) hP hD isC isR hC hR hn hdis (fun q h1 h2 => by rw [e1]; exact hk q h1 h2) hFc (by rw [e1]; exact hP1) hD1
    exact ⟨hK, j1, j2, hS1, hA⟩) T' rfl X'
  exact ⟨t2, st t2 a1, b1⟩
/-- a call's worlds -/
theorem x_pre {wc : va_W} {av : List Value} (V : Wd D tc A s H locs ws) (hN : Nws s) (isC : List Nat) (hC : isC.map (fun i => ws[i]?) = wc.map some) (hn : va_nd isC = true) : ∀ U : State, U.heap = H → s.WarmedH U.vm → va_Pc av (PreM D tc wc H.size) av.toArray U := by
  intro U hU hW
  have hf : isC.filterMap (fun i => ws[i]?) = wc := by
    have h1 : isC.filterMap (fun i => ws[i]?) = (isC.map (fun i => ws[i]?)).filterMap id := by rw [List.filterMap_map]; rfl
    rw [h1, hC, List.filterMap_map]
    exact List.filterMap_some
  exact ⟨rfl, by rw [hU], by rw [hU]; exact V.2.1.sub isC hf, va_K.moved hW.alike V.1, (V.2.2.1.sub isC hn hC).weaken (fun _ _ _ _ => trivial), Nws.warm hW hN⟩
theorem x_runV {y : MethodName} {bytes : ByteArray} {maxL fr mc ms lo n index : Nat} {rt : Option FieldType} {wc : va_W} {RT : Option Value → va_W → Prop} {C : String} {b : Nat} {As st0 : List Value} (X : Cx p s m args meth c cc nL own ret) (V : Wd D tc A s H locs ws) (isC : List Nat) (hC : isC.map (fun i => ws[i]?) = wc.map some) (hn : va_nd isC = true)
    (hM : MetG l D tc y bytes maxL rt fr mc ms lo (.ref b :: As) wc RT) (h1 : Cond.methodLink own index y ∈ lw_g) (h2 : Cond.instanceMethod y ∈ lw_g) (h3 : Cond.selects C y y ∈ lw_g) (h4 : Cond.initialized C ∈ lw_g) (h5 : Cond.code y bytes maxL rt ∈ lw_g)
    (hd : y.cls = C ∧ y.cls ≠ "java/lang/invoke/MethodHandle" ∧ y.cls ≠ "java/lang/invoke/VarHandle" ∧ (parseMethodDescriptor y.desc).map (fun d => d.parameters.length) = some n) (hR : fr + 1 ≤ R.frames ∧ 8 + (maxL + 11) + lo ≤ R.locals) (hf : cells + mc ≤ R.cells ∧ slots + ms ≤ R.slots)
    (q0 ci : Nat) {fs : List Value} {T : u_T} {N : Nat} (he : ws[q0]? = some (b, .inr (ci, fs))) (hc : vwCl[ci]? = some (C, T, N)) (hlen : As.length = n) (hls : ls.size = nL) (hst : st0 = As.reverse ++ .ref b :: rest) (hroom : (rest.map fun v => v.category).sum ≤ 8) (hdg : decode cc pc = .ok (.invokevirtual index, 3)) :
    va_Run p l e R s m args below meth c H locs cells slots mc ms (F0 m pc ls st0) rest (QcM D wc H.size rt RT (Value.ref b :: As).toArray) (va_A wc H.size) := by
  obtain ⟨hx, hb, hr, hml, hown, hts, hlocks, hN⟩ := X
  have cw : CallW R s args own C index y bytes maxL rt (Cond.code y bytes maxL rt :: lw_g) (rmz fr mc ms lo) mc ms n := by
    refine cwV n hts ?_ rfl rfl rfl hd hR
    intro w hw
    have hg := x_good h5
    simp only [wsV, List.cons_append, List.nil_append, List.mem_cons] at hw
    rcases hw with rfl | rfl | rfl | rfl | hw
    · exact ⟨h1, good_of_word (lw_gg _ h1)⟩
    · exact ⟨h2, good_of_word (lw_gg _ h2)⟩
    · exact ⟨h3, good_of_word (lw_gg _ h3)⟩
    · exact ⟨h4, good_of_word (lw_gg _ h4)⟩
    · exact hg w (List.mem_cons.mpr hw)
  subst hst
  exact va_runV (As := As) (rest := rest) ⟨hx, hb, hml, hown, hts⟩ (hM H.size) cw ⟨PreM.blind _ _ _ _ _, va_recv V.1 V.2.1 hc he, x_pre V hN isC hC hn⟩ rfl hlen hls rfl (lv_room hroom) hdg hf
theorem x_runS {y : MethodName} {bytes : ByteArray} {maxL fr mc ms lo n index : Nat} {rt : Option FieldType} {wc : va_W} {RT : Option Value → va_W → Prop} {As st0 : List Value} (X : Cx p s m args meth c cc nL own ret) (V : Wd D tc A s H locs ws) (isC : List Nat) (hC : isC.map (fun i => ws[i]?) = wc.map some) (hn : va_nd isC = true)
    (hM : MetG l D tc y bytes maxL rt fr mc ms lo As wc RT) (h1 : Cond.methodLink own index y ∈ lw_g) (h2 : Cond.static y ∈ lw_g) (h4 : Cond.initialized y.cls ∈ lw_g) (h5 : Cond.code y bytes maxL rt ∈ lw_g)
    (hd : y.cls ≠ "java/lang/invoke/MethodHandle" ∧ y.cls ≠ "java/lang/invoke/VarHandle" ∧ (parseMethodDescriptor y.desc).map (fun d => d.parameters.length) = some n) (hR : fr + 1 ≤ R.frames ∧ 8 + (maxL + 11) + lo ≤ R.locals) (hf : cells + mc ≤ R.cells ∧ slots + ms ≤ R.slots)
    (hlen : As.length = n) (hls : ls.size = nL) (hst : st0 = As.reverse ++ rest) (hroom : (rest.map fun v => v.category).sum ≤ 8) (hdg : decode cc pc = .ok (.invokestatic index, 3)) :
    va_Run p l e R s m args below meth c H locs cells slots mc ms (F0 m pc ls st0) rest (QcM D wc H.size rt RT As.toArray) (va_A wc H.size) := by
  obtain ⟨hx, hb, hr, hml, hown, hts, hlocks, hN⟩ := X
  subst hst
  exact va_runS (As := As) (rest := rest) ⟨hx, hb, hml, hown, hts⟩ (hM H.size) ⟨callB_of n hts (x_good h5) rfl rfl rfl (hts _ h4) (hts _ h1) hd hR, hts _ h2⟩ ⟨PreM.blind _ _ _ _ _, x_pre V hN isC hC hn⟩ rfl hlen hls rfl (lv_room hroom) hdg hf
theorem x_runSN {y : MethodName} {bytes : ByteArray} {maxL fr mc ms lo n index : Nat} {rt : Option FieldType} {wc : va_W} {RT : Option Value → va_W → Prop} {As st0 : List Value} {host : String} (X : Cx p s m args meth c cc nL own ret) (V : Wd D tc A s H locs ws) (isC : List Nat) (hC : isC.map (fun i => ws[i]?) = wc.map some) (hn : va_nd isC = true)
    (hM : MetG l D tc y bytes maxL rt fr mc ms lo As wc RT) (h1 : va_Nw (Cond.methodLinkNest own index y host) s) (h2 : Cond.static y ∈ lw_g) (h4 : Cond.initialized y.cls ∈ lw_g) (h5 : Cond.code y bytes maxL rt ∈ lw_g)
    (hd : y.cls ≠ "java/lang/invoke/MethodHandle" ∧ y.cls ≠ "java/lang/invoke/VarHandle" ∧ (parseMethodDescriptor y.desc).map (fun d => d.parameters.length) = some n) (hR : fr + 1 ≤ R.frames ∧ 8 + (maxL + 11) + lo ≤ R.locals) (hf : cells + mc ≤ R.cells ∧ slots + ms ≤ R.slots)
    (hlen : As.length = n) (hls : ls.size = nL) (hst : st0 = As.reverse ++ rest) (hroom : (rest.map fun v => v.category).sum ≤ 8) (hdg : decode cc pc = .ok (.invokestatic index, 3)) :
    va_Run p l e R s m args below meth c H locs cells slots mc ms (F0 m pc ls st0) rest (QcM D wc H.size rt RT As.toArray) (va_A wc H.size) := by
  obtain ⟨hx, hb, hr, hml, hown, hts, hlocks, hN⟩ := X
  subst hst
  exact va_runSN (As := As) (rest := rest) ⟨hx, hb, hml, hown, hts⟩ (hM H.size) ⟨va_cnB n hts (x_good h5) rfl rfl rfl h1 (hts _ h4) hd hR, hts _ h2, trivial⟩ ⟨PreM.blind _ _ _ _ _, x_pre V hN isC hC hn⟩ rfl hlen hls rfl (lv_room hroom) hdg hf
/-- behind a call with a told end over the whole world -/
theorem x_all {mc ms : Nat} {rt : Option FieldType} {wc : va_W} {v1 : Option Value} {w1 : va_W} {st0 : List Value} {av : Array Value} (V : Wd D tc A s H locs ws) (isC : List Nat) (hC : isC.map (fun i => ws[i]?) = wc.map some)
    (hr : va_Run p l e R s m args below meth c H locs cells slots mc ms (F0 m pc ls st0) rest (QcM D wc H.size rt (fun v w => v = v1 ∧ w = w1) av) (va_A wc H.size))
    (kk : ∀ (H1 : Heap) (locs1 : List Loc), Wd D tc A s H1 locs1 w1 → NR rt v1 → W p l e R s m args below meth c H1 locs1 (cells + mc) (slots + ms) Q (F0 m (pc + 3) ls (v1.toList ++ rest))) :
    W p l e R s m args below meth c H locs cells slots Q (F0 m pc ls st0) :=
  x_back V isC hC rfl hr (fun v w H1 l1 hRT hNR hw => by
    obtain ⟨rfl, rfl⟩ := hRT
    exact kk H1 l1 (hw [] [] rfl rfl (fun _ h => absurd h List.not_mem_nil)) hNR)
theorem x_allI {ty : FieldType} {wc : va_W} {r1 : Int32} {w1 : va_W} {st0 : List Value} {av : Array Value} (V : Wd D tc A s H locs ws) (isC : List Nat) (hC : isC.map (fun i => ws[i]?) = wc.map some)
    (hr : va_Run p l e R s m args below meth c H locs cells slots 0 0 (F0 m pc ls st0) rest (QcM D wc H.size (some ty) (fun v w => v = some (.int r1) ∧ w = w1) av) (va_A wc H.size))
    (kk : ∀ (H1 : Heap) (locs1 : List Loc), Wd D tc A s H1 locs1 w1 → narrow ty (.int r1) = .int r1 → W p l e R s m args below meth c H1 locs1 cells slots Q (F0 m (pc + 3) ls (.int r1 :: rest))) :
    W p l e R s m args below meth c H locs cells slots Q (F0 m pc ls st0) := x_all V isC hC hr (fun H1 l1 h hn => kk H1 l1 h (hn ty r1 rfl rfl))
theorem x_allL {rt : Option FieldType} {wc : va_W} {r1 : Int64} {w1 : va_W} {st0 : List Value} {av : Array Value} (V : Wd D tc A s H locs ws) (isC : List Nat) (hC : isC.map (fun i => ws[i]?) = wc.map some)
    (hr : va_Run p l e R s m args below meth c H locs cells slots 0 0 (F0 m pc ls st0) rest (QcM D wc H.size rt (fun v w => v = some (.long r1) ∧ w = w1) av) (va_A wc H.size))
    (kk : ∀ (H1 : Heap) (locs1 : List Loc), Wd D tc A s H1 locs1 w1 → W p l e R s m args below meth c H1 locs1 cells slots Q (F0 m (pc + 3) ls (.long r1 :: rest))) :
    W p l e R s m args below meth c H locs cells slots Q (F0 m pc ls st0) := x_all V isC hC hr (fun H1 l1 h _ => kk H1 l1 h)
theorem x_allV {rt : Option FieldType} {wc : va_W} {w1 : va_W} {st0 : List Value} {av : Array Value} (V : Wd D tc A s H locs ws) (isC : List Nat) (hC : isC.map (fun i => ws[i]?) = wc.map some)
    (hr : va_Run p l e R s m args below meth c H locs cells slots 0 0 (F0 m pc ls st0) rest (QcM D wc H.size rt (fun v w => v = none ∧ w = w1) av) (va_A wc H.size))
    (kk : ∀ (H1 : Heap) (locs1 : List Loc), Wd D tc A s H1 locs1 w1 → W p l e R s m args below meth c H1 locs1 cells slots Q (F0 m (pc + 3) ls rest)) :
    W p l e R s m args below meth c H locs cells slots Q (F0 m pc ls st0) := x_all V isC hC hr (fun H1 l1 h _ => kk H1 l1 h)
theorem x_topi {x y : Int32} (h : y = x) (k : W p l e R s m args below meth c H locs cells slots Q (F0 m pc ls (.int y :: rest))) : W p l e R s m args below meth c H locs cells slots Q (F0 m pc ls (.int x :: rest)) := h ▸ k
theorem x_topl {x y : Int64} (h : y = x) (k : W p l e R s m args below meth c H locs cells slots Q (F0 m pc ls (.long y :: rest))) : W p l e R s m args below meth c H locs cells slots Q (F0 m pc ls (.long x :: rest)) := h ▸ k
end KIT
/-! ===== numbers and steps of the pictures of the methods ===== -/
abbrev St : Type := (Nat → Int32) × (Nat → Nat → Int32) × (Nat → Nat → Int64)
def sI (u : St) (k : Nat) (x : Int32) : St := (upd u.1 k x, u.2.1, u.2.2)
def sA (u : St) (k : Nat) (i : Nat) (x : Int32) : St := (u.1, fun j => if j = k then upd (u.2.1 k) i x else u.2.1 j, u.2.2)
def sL (u : St) (k : Nat) (i : Nat) (x : Int64) : St := (u.1, u.2.1, fun j => if j = k then vp_updL (u.2.2 k) i x else u.2.2 j)
/-- an index is in its row, or nothing -/
def gd {α : Type} (i : Int32) (n : Nat) (k : Option α) : Option α := if i < 0 ∨ n ≤ i.toNatClampNeg then none else k
/-- a named number -/
def nm {α β : Type} (x : α) (k : α → Option β) : Option β := k x
theorem gd_some {α : Type} {i : Int32} {n : Nat} {k : Option α} {r : α} (h : gd i n k = some r) : vp_in i n ∧ k = some r := by
  unfold gd at h
  by_cases c : i < 0 ∨ n ≤ i.toNatClampNeg
  · rw [if_pos c] at h; cases h
  · rw [if_neg c] at h; exact ⟨c, h⟩
theorem nm_some {α β : Type} {x : α} {k : α → Option β} {r : β} (h : nm x k = some r) : ∃ y, y = x ∧ k y = some r := ⟨x, rfl, h⟩
theorem bd_some {α β : Type} {x : Option α} {k : α → Option β} {r : β} (h : x.bind k = some r) : ∃ y, x = some y ∧ k y = some r := by
  cases x with
  | none => cases h
  | some y => exact ⟨y, rfl, h⟩
theorem ip {α : Type} {c : Prop} (d : Decidable c) {a b r : α} (hc : c) (h : @ite α c d a b = r) : a = r := by rw [if_pos hc] at h; exact h
theorem iq {α : Type} {c : Prop} (d : Decidable c) {a b r : α} (hc : ¬ c) (h : @ite α c d a b = r) : b = r := by rw [if_neg hc] at h; exact h
theorem iqn {α : Type} {c : Prop} (d : Decidable (¬ c)) {a b r : α} (hc : c) (h : @ite α (¬ c) d a b = r) : b = r := by rw [if_neg (fun z => z hc)] at h; exact h
theorem rg_map (ws : va_W) : (List.range ws.length).map (fun i => ws[i]?) = ws.map some := by
  apply List.ext_getElem?
  intro i
  by_cases h : i < ws.length
  · simp [h]
  · simp [h]
theorem rg_nd_aux : ∀ (l : List Nat), l.Nodup → va_nd l = true
  | [], _ => rfl
  | a :: l, h => by
    have h := List.nodup_cons.mp h
    simp [va_nd, h.1, rg_nd_aux l h.2]
theorem rg_nd (n : Nat) : va_nd (List.range n) = true := rg_nd_aux _ List.nodup_range
/-- a truth value, or nothing -/
def zg {α : Type} (x : Int32) (k : Option α) : Option α := if x = 0 ∨ x = 1 then k else none
theorem zg_some {α : Type} {x : Int32} {k : Option α} {r : α} (h : zg x k = some r) : narrow .boolean (.int x) = .int x ∧ k = some r := by
  unfold zg at h
  by_cases c : x = 0 ∨ x = 1
  · rw [if_pos c] at h
    refine ⟨?_, h⟩
    rcases c with rfl | rfl <;> rfl
  · rw [if_neg c] at h; cases h
theorem sw_ne {x : Int32} {k : Nat} (hk : k < 2 ^ 31) (h : ¬ x = Int32.ofNat k) : ¬ x.toInt = (k : Int) := fun e => h (by
  apply Int32.toInt_inj.mp
  rw [e]
  exact (nI_toInt hk).symm)
theorem sw_out3 {x : Int32} (h0 : ¬ x = 0) (h1 : ¬ x = 1) (h2 : ¬ x = 2) (h3 : ¬ x = 3) : x.toInt < 0 ∨ 3 < x.toInt := by
  have a0 := sw_ne (k := 0) (by decide) h0
  have a1 := sw_ne (k := 1) (by decide) h1
  have a2 := sw_ne (k := 2) (by decide) h2
  have a3 := sw_ne (k := 3) (by decide) h3
  omega
theorem sw_out5 {x : Int32} (h0 : ¬ x = 0) (h1 : ¬ x = 1) (h2 : ¬ x = 2) (h3 : ¬ x = 3) (h4 : ¬ x = 4) (h5 : ¬ x = 5) : x.toInt < 0 ∨ 5 < x.toInt := by
  have a0 := sw_out3 h0 h1 h2 h3
  have a4 := sw_ne (k := 4) (by decide) h4
  have a5 := sw_ne (k := 5) (by decide) h5
  omega
theorem sw_out6 {x : Int32} (h0 : ¬ x = 0) (h1 : ¬ x = 1) (h2 : ¬ x = 2) (h3 : ¬ x = 3) (h4 : ¬ x = 4) (h5 : ¬ x = 5) (h6 : ¬ x = 6) : x.toInt < 0 ∨ 6 < x.toInt := by
  have a0 := sw_out5 h0 h1 h2 h3 h4 h5
  have a6 := sw_ne (k := 6) (by decide) h6
  omega
end
section
theorem dX7_init_0 : decode cX7_init 0 = .ok (.aload_n 0, 1) := by decide +kernel
theorem dX7_init_1 : decode cX7_init 1 = .ok (.invokespecial 1, 3) := by decide +kernel
theorem dX7_init_4 : decode cX7_init 4 = .ok (.aload_n 0, 1) := by decide +kernel
theorem dX7_init_5 : decode cX7_init 5 = .ok (.sipush 128, 3) := by decide +kernel
theorem dX7_init_8 : decode cX7_init 8 = .ok (.newarray .int, 2) := by decide +kernel
theorem dX7_init_10 : decode cX7_init 10 = .ok (.putfield 7, 3) := by decide +kernel
theorem dX7_init_13 : decode cX7_init 13 = .ok (.aload_n 0, 1) := by decide +kernel
theorem dX7_init_14 : decode cX7_init 14 = .ok (.sipush 128, 3) := by decide +kernel
theorem dX7_init_17 : decode cX7_init 17 = .ok (.newarray .int, 2) := by decide +kernel
theorem dX7_init_19 : decode cX7_init 19 = .ok (.putfield 13, 3) := by decide +kernel
theorem dX7_init_22 : decode cX7_init 22 = .ok (.aload_n 0, 1) := by decide +kernel
theorem dX7_init_23 : decode cX7_init 23 = .ok (.bipush 12, 2) := by decide +kernel
theorem dX7_init_25 : decode cX7_init 25 = .ok (.newarray .int, 2) := by decide +kernel
theorem dX7_init_27 : decode cX7_init 27 = .ok (.putfield 16, 3) := by decide +kernel
theorem dX7_init_30 : decode cX7_init 30 = .ok (.aload_n 0, 1) := by decide +kernel
theorem dX7_init_31 : decode cX7_init 31 = .ok (.bipush 12, 2) := by decide +kernel
theorem dX7_init_33 : decode cX7_init 33 = .ok (.newarray .int, 2) := by decide +kernel
theorem dX7_init_35 : decode cX7_init 35 = .ok (.putfield 19, 3) := by decide +kernel
theorem dX7_init_38 : decode cX7_init 38 = .ok (.aload_n 0, 1) := by decide +kernel
theorem dX7_init_39 : decode cX7_init 39 = .ok (.bipush 12, 2) := by decide +kernel
theorem dX7_init_41 : decode cX7_init 41 = .ok (.newarray .int, 2) := by decide +kernel
theorem dX7_init_43 : decode cX7_init 43 = .ok (.putfield 22, 3) := by decide +kernel
theorem dX7_init_46 : decode cX7_init 46 = .ok (.aload_n 0, 1) := by decide +kernel
theorem dX7_init_47 : decode cX7_init 47 = .ok (.bipush 12, 2) := by decide +kernel
theorem dX7_init_49 : decode cX7_init 49 = .ok (.newarray .int, 2) := by decide +kernel
theorem dX7_init_51 : decode cX7_init 51 = .ok (.putfield 25, 3) := by decide +kernel
theorem dX7_init_54 : decode cX7_init 54 = .ok (.aload_n 0, 1) := by decide +kernel
theorem dX7_init_55 : decode cX7_init 55 = .ok (.bipush 120, 2) := by decide +kernel
theorem dX7_init_57 : decode cX7_init 57 = .ok (.newarray .int, 2) := by decide +kernel
theorem dX7_init_59 : decode cX7_init 59 = .ok (.putfield 28, 3) := by decide +kernel
theorem dX7_init_62 : decode cX7_init 62 = .ok (.aload_n 0, 1) := by decide +kernel
theorem dX7_init_63 : decode cX7_init 63 = .ok (.bipush 120, 2) := by decide +kernel
theorem dX7_init_65 : decode cX7_init 65 = .ok (.newarray .int, 2) := by decide +kernel
theorem dX7_init_67 : decode cX7_init 67 = .ok (.putfield 31, 3) := by decide +kernel
theorem dX7_init_70 : decode cX7_init 70 = .ok (.aload_n 0, 1) := by decide +kernel
theorem dX7_init_71 : decode cX7_init 71 = .ok (.bipush 120, 2) := by decide +kernel
theorem dX7_init_73 : decode cX7_init 73 = .ok (.newarray .int, 2) := by decide +kernel
theorem dX7_init_75 : decode cX7_init 75 = .ok (.putfield 34, 3) := by decide +kernel
theorem dX7_init_78 : decode cX7_init 78 = .ok (.aload_n 0, 1) := by decide +kernel
theorem dX7_init_79 : decode cX7_init 79 = .ok (.bipush 120, 2) := by decide +kernel
theorem dX7_init_81 : decode cX7_init 81 = .ok (.newarray .int, 2) := by decide +kernel
theorem dX7_init_83 : decode cX7_init 83 = .ok (.putfield 37, 3) := by decide +kernel
theorem dX7_init_86 : decode cX7_init 86 = .ok (.aload_n 0, 1) := by decide +kernel
theorem dX7_init_87 : decode cX7_init 87 = .ok (.bipush 120, 2) := by decide +kernel
theorem dX7_init_89 : decode cX7_init 89 = .ok (.newarray .int, 2) := by decide +kernel
theorem dX7_init_91 : decode cX7_init 91 = .ok (.putfield 40, 3) := by decide +kernel
theorem dX7_init_94 : decode cX7_init 94 = .ok (.aload_n 0, 1) := by decide +kernel
theorem dX7_init_95 : decode cX7_init 95 = .ok (.bipush 120, 2) := by decide +kernel
theorem dX7_init_97 : decode cX7_init 97 = .ok (.newarray .int, 2) := by decide +kernel
theorem dX7_init_99 : decode cX7_init 99 = .ok (.putfield 43, 3) := by decide +kernel
theorem dX7_init_102 : decode cX7_init 102 = .ok (.aload_n 0, 1) := by decide +kernel
theorem dX7_init_103 : decode cX7_init 103 = .ok (.bipush 120, 2) := by decide +kernel
theorem dX7_init_105 : decode cX7_init 105 = .ok (.newarray .int, 2) := by decide +kernel
theorem dX7_init_107 : decode cX7_init 107 = .ok (.putfield 46, 3) := by decide +kernel
theorem dX7_init_110 : decode cX7_init 110 = .ok (.aload_n 0, 1) := by decide +kernel
theorem dX7_init_111 : decode cX7_init 111 = .ok (.sipush 132, 3) := by decide +kernel
theorem dX7_init_114 : decode cX7_init 114 = .ok (.newarray .int, 2) := by decide +kernel
theorem dX7_init_116 : decode cX7_init 116 = .ok (.putfield 49, 3) := by decide +kernel
theorem dX7_init_119 : decode cX7_init 119 = .ok (.aload_n 0, 1) := by decide +kernel
theorem dX7_init_120 : decode cX7_init 120 = .ok (.bipush 11, 2) := by decide +kernel
theorem dX7_init_122 : decode cX7_init 122 = .ok (.newarray .int, 2) := by decide +kernel
theorem dX7_init_124 : decode cX7_init 124 = .ok (.putfield 52, 3) := by decide +kernel
theorem dX7_init_127 : decode cX7_init 127 = .ok (.aload_n 0, 1) := by decide +kernel
theorem dX7_init_128 : decode cX7_init 128 = .ok (.bipush 11, 2) := by decide +kernel
theorem dX7_init_130 : decode cX7_init 130 = .ok (.newarray .int, 2) := by decide +kernel
theorem dX7_init_132 : decode cX7_init 132 = .ok (.putfield 55, 3) := by decide +kernel
theorem dX7_init_135 : decode cX7_init 135 = .ok (.aload_n 0, 1) := by decide +kernel
theorem dX7_init_136 : decode cX7_init 136 = .ok (.bipush 10, 2) := by decide +kernel
theorem dX7_init_138 : decode cX7_init 138 = .ok (.newarray .int, 2) := by decide +kernel
theorem dX7_init_140 : decode cX7_init 140 = .ok (.putfield 58, 3) := by decide +kernel
theorem dX7_init_143 : decode cX7_init 143 = .ok (.aload_n 0, 1) := by decide +kernel
theorem dX7_init_144 : decode cX7_init 144 = .ok (.sipush 8000, 3) := by decide +kernel
theorem dX7_init_147 : decode cX7_init 147 = .ok (.newarray .int, 2) := by decide +kernel
theorem dX7_init_149 : decode cX7_init 149 = .ok (.putfield 61, 3) := by decide +kernel
theorem dX7_init_152 : decode cX7_init 152 = .ok (.aload_n 0, 1) := by decide +kernel
theorem dX7_init_153 : decode cX7_init 153 = .ok (.bipush 10, 2) := by decide +kernel
theorem dX7_init_155 : decode cX7_init 155 = .ok (.newarray .int, 2) := by decide +kernel
theorem dX7_init_157 : decode cX7_init 157 = .ok (.putfield 64, 3) := by decide +kernel
theorem dX7_init_160 : decode cX7_init 160 = .ok (.return_, 1) := by decide +kernel
theorem dX7_in_0 : decode cX7_in 0 = .ok (.iload_n 0, 1) := by decide +kernel
theorem dX7_in_1 : decode cX7_in 1 = .ok (.iload_n 1, 1) := by decide +kernel
theorem dX7_in_2 : decode cX7_in 2 = .ok (.if_icmp .lt 12, 3) := by decide +kernel
theorem dX7_in_5 : decode cX7_in 5 = .ok (.iload_n 0, 1) := by decide +kernel
theorem dX7_in_6 : decode cX7_in 6 = .ok (.iload_n 2, 1) := by decide +kernel
theorem dX7_in_7 : decode cX7_in 7 = .ok (.if_icmp .gt 7, 3) := by decide +kernel
theorem dX7_in_10 : decode cX7_in 10 = .ok (.iconst 1, 1) := by decide +kernel
theorem dX7_in_11 : decode cX7_in 11 = .ok (.goto 4, 3) := by decide +kernel
theorem dX7_in_14 : decode cX7_in 14 = .ok (.iconst 0, 1) := by decide +kernel
theorem dX7_in_15 : decode cX7_in 15 = .ok (.ireturn, 1) := by decide +kernel
theorem dX7_machine_0 : decode cX7_machine 0 = .ok (.aload_n 0, 1) := by decide +kernel
theorem dX7_machine_1 : decode cX7_machine 1 = .ok (.getfield 71, 3) := by decide +kernel
theorem dX7_machine_4 : decode cX7_machine 4 = .ok (.iconst 4, 1) := by decide +kernel
theorem dX7_machine_5 : decode cX7_machine 5 = .ok (.if_icmp .ne 6, 3) := by decide +kernel
theorem dX7_machine_8 : decode cX7_machine 8 = .ok (.bipush (-4), 2) := by decide +kernel
theorem dX7_machine_10 : decode cX7_machine 10 = .ok (.ireturn, 1) := by decide +kernel
theorem dX7_machine_11 : decode cX7_machine 11 = .ok (.aload_n 0, 1) := by decide +kernel
theorem dX7_machine_12 : decode cX7_machine 12 = .ok (.dup, 1) := by decide +kernel
theorem dX7_machine_13 : decode cX7_machine 13 = .ok (.getfield 71, 3) := by decide +kernel
theorem dX7_machine_16 : decode cX7_machine 16 = .ok (.iconst 1, 1) := by decide +kernel
theorem dX7_machine_17 : decode cX7_machine 17 = .ok (.iadd, 1) := by decide +kernel
theorem dX7_machine_18 : decode cX7_machine 18 = .ok (.putfield 71, 3) := by decide +kernel
theorem dX7_machine_21 : decode cX7_machine 21 = .ok (.aload_n 0, 1) := by decide +kernel
theorem dX7_machine_22 : decode cX7_machine 22 = .ok (.getfield 71, 3) := by decide +kernel
theorem dX7_machine_25 : decode cX7_machine 25 = .ok (.iconst 1, 1) := by decide +kernel
theorem dX7_machine_26 : decode cX7_machine 26 = .ok (.isub, 1) := by decide +kernel
theorem dX7_machine_27 : decode cX7_machine 27 = .ok (.ireturn, 1) := by decide +kernel
theorem dX7_row_0 : decode cX7_row 0 = .ok (.iload_n 1, 1) := by decide +kernel
theorem dX7_row_1 : decode cX7_row 1 = .ok (.iconst 0, 1) := by decide +kernel
theorem dX7_row_2 : decode cX7_row 2 = .ok (.aload_n 0, 1) := by decide +kernel
theorem dX7_row_3 : decode cX7_row 3 = .ok (.getfield 71, 3) := by decide +kernel
theorem dX7_row_6 : decode cX7_row 6 = .ok (.iconst 1, 1) := by decide +kernel
theorem dX7_row_7 : decode cX7_row 7 = .ok (.isub, 1) := by decide +kernel
theorem dX7_row_8 : decode cX7_row 8 = .ok (.invokestatic 74, 3) := by decide +kernel
theorem dX7_row_11 : decode cX7_row 11 = .ok (.ifCond .ne 5, 3) := by decide +kernel
theorem dX7_row_14 : decode cX7_row 14 = .ok (.iconst (-1), 1) := by decide +kernel
theorem dX7_row_15 : decode cX7_row 15 = .ok (.ireturn, 1) := by decide +kernel
theorem dX7_row_16 : decode cX7_row 16 = .ok (.iload_n 2, 1) := by decide +kernel
theorem dX7_row_17 : decode cX7_row 17 = .ok (.iconst 0, 1) := by decide +kernel
theorem dX7_row_18 : decode cX7_row 18 = .ok (.bipush 7, 2) := by decide +kernel
theorem dX7_row_20 : decode cX7_row 20 = .ok (.invokestatic 74, 3) := by decide +kernel
theorem dX7_row_23 : decode cX7_row 23 = .ok (.ifCond .eq 23, 3) := by decide +kernel
theorem dX7_row_26 : decode cX7_row 26 = .ok (.iload_n 3, 1) := by decide +kernel
theorem dX7_row_27 : decode cX7_row 27 = .ok (.iconst 0, 1) := by decide +kernel
theorem dX7_row_28 : decode cX7_row 28 = .ok (.iconst 3, 1) := by decide +kernel
theorem dX7_row_29 : decode cX7_row 29 = .ok (.invokestatic 74, 3) := by decide +kernel
theorem dX7_row_32 : decode cX7_row 32 = .ok (.ifCond .eq 14, 3) := by decide +kernel
theorem dX7_row_35 : decode cX7_row 35 = .ok (.iload 5, 2) := by decide +kernel
theorem dX7_row_37 : decode cX7_row 37 = .ok (.iconst 0, 1) := by decide +kernel
theorem dX7_row_38 : decode cX7_row 38 = .ok (.bipush 7, 2) := by decide +kernel
theorem dX7_row_40 : decode cX7_row 40 = .ok (.invokestatic 74, 3) := by decide +kernel
theorem dX7_row_43 : decode cX7_row 43 = .ok (.ifCond .ne 6, 3) := by decide +kernel
theorem dX7_row_46 : decode cX7_row 46 = .ok (.bipush (-2), 2) := by decide +kernel
theorem dX7_row_48 : decode cX7_row 48 = .ok (.ireturn, 1) := by decide +kernel
theorem dX7_row_49 : decode cX7_row 49 = .ok (.iconst 0, 1) := by decide +kernel
theorem dX7_row_50 : decode cX7_row 50 = .ok (.istore 6, 2) := by decide +kernel
theorem dX7_row_52 : decode cX7_row 52 = .ok (.iload 6, 2) := by decide +kernel
theorem dX7_row_54 : decode cX7_row 54 = .ok (.aload_n 0, 1) := by decide +kernel
theorem dX7_row_55 : decode cX7_row 55 = .ok (.getfield 78, 3) := by decide +kernel
theorem dX7_row_58 : decode cX7_row 58 = .ok (.if_icmp .ge 35, 3) := by decide +kernel
theorem dX7_row_61 : decode cX7_row 61 = .ok (.aload_n 0, 1) := by decide +kernel
theorem dX7_row_62 : decode cX7_row 62 = .ok (.getfield 16, 3) := by decide +kernel
theorem dX7_row_65 : decode cX7_row 65 = .ok (.iload 6, 2) := by decide +kernel
theorem dX7_row_67 : decode cX7_row 67 = .ok (.iaload, 1) := by decide +kernel
theorem dX7_row_68 : decode cX7_row 68 = .ok (.bipush 6, 2) := by decide +kernel
theorem dX7_row_70 : decode cX7_row 70 = .ok (.if_icmp .ne 17, 3) := by decide +kernel
theorem dX7_row_73 : decode cX7_row 73 = .ok (.aload_n 0, 1) := by decide +kernel
theorem dX7_row_74 : decode cX7_row 74 = .ok (.getfield 19, 3) := by decide +kernel
theorem dX7_row_77 : decode cX7_row 77 = .ok (.iload 6, 2) := by decide +kernel
theorem dX7_row_79 : decode cX7_row 79 = .ok (.iaload, 1) := by decide +kernel
theorem dX7_row_80 : decode cX7_row 80 = .ok (.iload_n 1, 1) := by decide +kernel
theorem dX7_row_81 : decode cX7_row 81 = .ok (.if_icmp .ne 6, 3) := by decide +kernel
theorem dX7_row_84 : decode cX7_row 84 = .ok (.bipush (-3), 2) := by decide +kernel
theorem dX7_row_86 : decode cX7_row 86 = .ok (.ireturn, 1) := by decide +kernel
theorem dX7_row_87 : decode cX7_row 87 = .ok (.iinc 6 1, 3) := by decide +kernel
theorem dX7_row_90 : decode cX7_row 90 = .ok (.goto (-38), 3) := by decide +kernel
theorem dX7_row_93 : decode cX7_row 93 = .ok (.aload_n 0, 1) := by decide +kernel
theorem dX7_row_94 : decode cX7_row 94 = .ok (.getfield 7, 3) := by decide +kernel
theorem dX7_row_97 : decode cX7_row 97 = .ok (.bipush 32, 2) := by decide +kernel
theorem dX7_row_99 : decode cX7_row 99 = .ok (.iload_n 1, 1) := by decide +kernel
theorem dX7_row_100 : decode cX7_row 100 = .ok (.imul, 1) := by decide +kernel
theorem dX7_row_101 : decode cX7_row 101 = .ok (.iconst 4, 1) := by decide +kernel
theorem dX7_row_102 : decode cX7_row 102 = .ok (.iload_n 2, 1) := by decide +kernel
theorem dX7_row_103 : decode cX7_row 103 = .ok (.imul, 1) := by decide +kernel
theorem dX7_row_104 : decode cX7_row 104 = .ok (.iadd, 1) := by decide +kernel
theorem dX7_row_105 : decode cX7_row 105 = .ok (.iload_n 3, 1) := by decide +kernel
theorem dX7_row_106 : decode cX7_row 106 = .ok (.iadd, 1) := by decide +kernel
theorem dX7_row_107 : decode cX7_row 107 = .ok (.iload 4, 2) := by decide +kernel
theorem dX7_row_109 : decode cX7_row 109 = .ok (.iastore, 1) := by decide +kernel
theorem dX7_row_110 : decode cX7_row 110 = .ok (.aload_n 0, 1) := by decide +kernel
theorem dX7_row_111 : decode cX7_row 111 = .ok (.getfield 13, 3) := by decide +kernel
theorem dX7_row_114 : decode cX7_row 114 = .ok (.bipush 32, 2) := by decide +kernel
theorem dX7_row_116 : decode cX7_row 116 = .ok (.iload_n 1, 1) := by decide +kernel
theorem dX7_row_117 : decode cX7_row 117 = .ok (.imul, 1) := by decide +kernel
theorem dX7_row_118 : decode cX7_row 118 = .ok (.iconst 4, 1) := by decide +kernel
theorem dX7_row_119 : decode cX7_row 119 = .ok (.iload_n 2, 1) := by decide +kernel
theorem dX7_row_120 : decode cX7_row 120 = .ok (.imul, 1) := by decide +kernel
theorem dX7_row_121 : decode cX7_row 121 = .ok (.iadd, 1) := by decide +kernel
theorem dX7_row_122 : decode cX7_row 122 = .ok (.iload_n 3, 1) := by decide +kernel
theorem dX7_row_123 : decode cX7_row 123 = .ok (.iadd, 1) := by decide +kernel
theorem dX7_row_124 : decode cX7_row 124 = .ok (.iload 5, 2) := by decide +kernel
theorem dX7_row_126 : decode cX7_row 126 = .ok (.iastore, 1) := by decide +kernel
theorem dX7_row_127 : decode cX7_row 127 = .ok (.iconst 0, 1) := by decide +kernel
theorem dX7_row_128 : decode cX7_row 128 = .ok (.ireturn, 1) := by decide +kernel
theorem dX7_isHistory_0 : decode cX7_isHistory 0 = .ok (.iload_n 1, 1) := by decide +kernel
theorem dX7_isHistory_1 : decode cX7_isHistory 1 = .ok (.iconst 0, 1) := by decide +kernel
theorem dX7_isHistory_2 : decode cX7_isHistory 2 = .ok (.aload_n 0, 1) := by decide +kernel
theorem dX7_isHistory_3 : decode cX7_isHistory 3 = .ok (.getfield 78, 3) := by decide +kernel
theorem dX7_isHistory_6 : decode cX7_isHistory 6 = .ok (.iconst 1, 1) := by decide +kernel
theorem dX7_isHistory_7 : decode cX7_isHistory 7 = .ok (.isub, 1) := by decide +kernel
theorem dX7_isHistory_8 : decode cX7_isHistory 8 = .ok (.invokestatic 74, 3) := by decide +kernel
theorem dX7_isHistory_11 : decode cX7_isHistory 11 = .ok (.ireturn, 1) := by decide +kernel
theorem dX7_isCall_0 : decode cX7_isCall 0 = .ok (.aload_n 0, 1) := by decide +kernel
theorem dX7_isCall_1 : decode cX7_isCall 1 = .ok (.iload_n 1, 1) := by decide +kernel
theorem dX7_isCall_2 : decode cX7_isCall 2 = .ok (.invokevirtual 81, 3) := by decide +kernel
theorem dX7_isCall_5 : decode cX7_isCall 5 = .ok (.ifCond .eq 23, 3) := by decide +kernel
theorem dX7_isCall_8 : decode cX7_isCall 8 = .ok (.iload_n 2, 1) := by decide +kernel
theorem dX7_isCall_9 : decode cX7_isCall 9 = .ok (.iconst 0, 1) := by decide +kernel
theorem dX7_isCall_10 : decode cX7_isCall 10 = .ok (.aload_n 0, 1) := by decide +kernel
theorem dX7_isCall_11 : decode cX7_isCall 11 = .ok (.getfield 22, 3) := by decide +kernel
theorem dX7_isCall_14 : decode cX7_isCall 14 = .ok (.iload_n 1, 1) := by decide +kernel
theorem dX7_isCall_15 : decode cX7_isCall 15 = .ok (.iaload, 1) := by decide +kernel
theorem dX7_isCall_16 : decode cX7_isCall 16 = .ok (.iconst 1, 1) := by decide +kernel
theorem dX7_isCall_17 : decode cX7_isCall 17 = .ok (.isub, 1) := by decide +kernel
theorem dX7_isCall_18 : decode cX7_isCall 18 = .ok (.invokestatic 74, 3) := by decide +kernel
theorem dX7_isCall_21 : decode cX7_isCall 21 = .ok (.ifCond .eq 7, 3) := by decide +kernel
theorem dX7_isCall_24 : decode cX7_isCall 24 = .ok (.iconst 1, 1) := by decide +kernel
theorem dX7_isCall_25 : decode cX7_isCall 25 = .ok (.goto 4, 3) := by decide +kernel
theorem dX7_isCall_28 : decode cX7_isCall 28 = .ok (.iconst 0, 1) := by decide +kernel
theorem dX7_isCall_29 : decode cX7_isCall 29 = .ok (.ireturn, 1) := by decide +kernel
theorem dX7_isOpen_0 : decode cX7_isOpen 0 = .ok (.aload_n 0, 1) := by decide +kernel
theorem dX7_isOpen_1 : decode cX7_isOpen 1 = .ok (.getfield 43, 3) := by decide +kernel
theorem dX7_isOpen_4 : decode cX7_isOpen 4 = .ok (.bipush 10, 2) := by decide +kernel
theorem dX7_isOpen_6 : decode cX7_isOpen 6 = .ok (.iload_n 1, 1) := by decide +kernel
theorem dX7_isOpen_7 : decode cX7_isOpen 7 = .ok (.imul, 1) := by decide +kernel
theorem dX7_isOpen_8 : decode cX7_isOpen 8 = .ok (.iload_n 2, 1) := by decide +kernel
theorem dX7_isOpen_9 : decode cX7_isOpen 9 = .ok (.iadd, 1) := by decide +kernel
theorem dX7_isOpen_10 : decode cX7_isOpen 10 = .ok (.iaload, 1) := by decide +kernel
theorem dX7_isOpen_11 : decode cX7_isOpen 11 = .ok (.ifCond .ne 7, 3) := by decide +kernel
theorem dX7_isOpen_14 : decode cX7_isOpen 14 = .ok (.iconst 1, 1) := by decide +kernel
theorem dX7_isOpen_15 : decode cX7_isOpen 15 = .ok (.goto 4, 3) := by decide +kernel
theorem dX7_isOpen_18 : decode cX7_isOpen 18 = .ok (.iconst 0, 1) := by decide +kernel
theorem dX7_isOpen_19 : decode cX7_isOpen 19 = .ok (.ireturn, 1) := by decide +kernel
theorem dX7_isRule_0 : decode cX7_isRule 0 = .ok (.iload_n 0, 1) := by decide +kernel
theorem dX7_isRule_1 : decode cX7_isRule 1 = .ok (.iconst 0, 1) := by decide +kernel
theorem dX7_isRule_2 : decode cX7_isRule 2 = .ok (.iconst 2, 1) := by decide +kernel
theorem dX7_isRule_3 : decode cX7_isRule 3 = .ok (.invokestatic 74, 3) := by decide +kernel
theorem dX7_isRule_6 : decode cX7_isRule 6 = .ok (.ireturn, 1) := by decide +kernel
theorem dX7_history_0 : decode cX7_history 0 = .ok (.iload_n 1, 1) := by decide +kernel
theorem dX7_history_1 : decode cX7_history 1 = .ok (.iconst 0, 1) := by decide +kernel
theorem dX7_history_2 : decode cX7_history 2 = .ok (.bipush 6, 2) := by decide +kernel
theorem dX7_history_4 : decode cX7_history 4 = .ok (.invokestatic 74, 3) := by decide +kernel
theorem dX7_history_7 : decode cX7_history 7 = .ok (.ifCond .eq 23, 3) := by decide +kernel
theorem dX7_history_10 : decode cX7_history 10 = .ok (.iload_n 1, 1) := by decide +kernel
theorem dX7_history_11 : decode cX7_history 11 = .ok (.bipush 6, 2) := by decide +kernel
theorem dX7_history_13 : decode cX7_history 13 = .ok (.if_icmp .ne 19, 3) := by decide +kernel
theorem dX7_history_16 : decode cX7_history 16 = .ok (.iload_n 2, 1) := by decide +kernel
theorem dX7_history_17 : decode cX7_history 17 = .ok (.iconst 0, 1) := by decide +kernel
theorem dX7_history_18 : decode cX7_history 18 = .ok (.aload_n 0, 1) := by decide +kernel
theorem dX7_history_19 : decode cX7_history 19 = .ok (.getfield 71, 3) := by decide +kernel
theorem dX7_history_22 : decode cX7_history 22 = .ok (.iconst 1, 1) := by decide +kernel
theorem dX7_history_23 : decode cX7_history 23 = .ok (.isub, 1) := by decide +kernel
theorem dX7_history_24 : decode cX7_history 24 = .ok (.invokestatic 74, 3) := by decide +kernel
theorem dX7_history_27 : decode cX7_history 27 = .ok (.ifCond .ne 5, 3) := by decide +kernel
theorem dX7_history_30 : decode cX7_history 30 = .ok (.iconst (-1), 1) := by decide +kernel
theorem dX7_history_31 : decode cX7_history 31 = .ok (.ireturn, 1) := by decide +kernel
theorem dX7_history_32 : decode cX7_history 32 = .ok (.iload_n 1, 1) := by decide +kernel
theorem dX7_history_33 : decode cX7_history 33 = .ok (.bipush 6, 2) := by decide +kernel
theorem dX7_history_35 : decode cX7_history 35 = .ok (.if_icmp .eq 10, 3) := by decide +kernel
theorem dX7_history_38 : decode cX7_history 38 = .ok (.iload_n 2, 1) := by decide +kernel
theorem dX7_history_39 : decode cX7_history 39 = .ok (.ifCond .eq 6, 3) := by decide +kernel
theorem dX7_history_42 : decode cX7_history 42 = .ok (.bipush (-2), 2) := by decide +kernel
theorem dX7_history_44 : decode cX7_history 44 = .ok (.ireturn, 1) := by decide +kernel
theorem dX7_history_45 : decode cX7_history 45 = .ok (.aload_n 0, 1) := by decide +kernel
theorem dX7_history_46 : decode cX7_history 46 = .ok (.getfield 78, 3) := by decide +kernel
theorem dX7_history_49 : decode cX7_history 49 = .ok (.bipush 12, 2) := by decide +kernel
theorem dX7_history_51 : decode cX7_history 51 = .ok (.if_icmp .ne 6, 3) := by decide +kernel
theorem dX7_history_54 : decode cX7_history 54 = .ok (.bipush (-4), 2) := by decide +kernel
theorem dX7_history_56 : decode cX7_history 56 = .ok (.ireturn, 1) := by decide +kernel
theorem dX7_history_57 : decode cX7_history 57 = .ok (.aload_n 0, 1) := by decide +kernel
theorem dX7_history_58 : decode cX7_history 58 = .ok (.getfield 16, 3) := by decide +kernel
theorem dX7_history_61 : decode cX7_history 61 = .ok (.aload_n 0, 1) := by decide +kernel
theorem dX7_history_62 : decode cX7_history 62 = .ok (.getfield 78, 3) := by decide +kernel
theorem dX7_history_65 : decode cX7_history 65 = .ok (.iload_n 1, 1) := by decide +kernel
theorem dX7_history_66 : decode cX7_history 66 = .ok (.iastore, 1) := by decide +kernel
theorem dX7_history_67 : decode cX7_history 67 = .ok (.aload_n 0, 1) := by decide +kernel
theorem dX7_history_68 : decode cX7_history 68 = .ok (.getfield 19, 3) := by decide +kernel
theorem dX7_history_71 : decode cX7_history 71 = .ok (.aload_n 0, 1) := by decide +kernel
theorem dX7_history_72 : decode cX7_history 72 = .ok (.getfield 78, 3) := by decide +kernel
theorem dX7_history_75 : decode cX7_history 75 = .ok (.iload_n 2, 1) := by decide +kernel
theorem dX7_history_76 : decode cX7_history 76 = .ok (.iastore, 1) := by decide +kernel
theorem dX7_history_77 : decode cX7_history 77 = .ok (.aload_n 0, 1) := by decide +kernel
theorem dX7_history_78 : decode cX7_history 78 = .ok (.getfield 22, 3) := by decide +kernel
theorem dX7_history_81 : decode cX7_history 81 = .ok (.aload_n 0, 1) := by decide +kernel
theorem dX7_history_82 : decode cX7_history 82 = .ok (.getfield 78, 3) := by decide +kernel
theorem dX7_history_85 : decode cX7_history 85 = .ok (.iconst 0, 1) := by decide +kernel
theorem dX7_history_86 : decode cX7_history 86 = .ok (.iastore, 1) := by decide +kernel
theorem dX7_history_87 : decode cX7_history 87 = .ok (.aload_n 0, 1) := by decide +kernel
theorem dX7_history_88 : decode cX7_history 88 = .ok (.getfield 25, 3) := by decide +kernel
theorem dX7_history_91 : decode cX7_history 91 = .ok (.aload_n 0, 1) := by decide +kernel
theorem dX7_history_92 : decode cX7_history 92 = .ok (.getfield 78, 3) := by decide +kernel
theorem dX7_history_95 : decode cX7_history 95 = .ok (.iconst 0, 1) := by decide +kernel
theorem dX7_history_96 : decode cX7_history 96 = .ok (.iastore, 1) := by decide +kernel
theorem dX7_history_97 : decode cX7_history 97 = .ok (.aload_n 0, 1) := by decide +kernel
theorem dX7_history_98 : decode cX7_history 98 = .ok (.dup, 1) := by decide +kernel
theorem dX7_history_99 : decode cX7_history 99 = .ok (.getfield 78, 3) := by decide +kernel
theorem dX7_history_102 : decode cX7_history 102 = .ok (.iconst 1, 1) := by decide +kernel
theorem dX7_history_103 : decode cX7_history 103 = .ok (.iadd, 1) := by decide +kernel
theorem dX7_history_104 : decode cX7_history 104 = .ok (.putfield 78, 3) := by decide +kernel
theorem dX7_history_107 : decode cX7_history 107 = .ok (.aload_n 0, 1) := by decide +kernel
theorem dX7_history_108 : decode cX7_history 108 = .ok (.getfield 78, 3) := by decide +kernel
theorem dX7_history_111 : decode cX7_history 111 = .ok (.iconst 1, 1) := by decide +kernel
theorem dX7_history_112 : decode cX7_history 112 = .ok (.isub, 1) := by decide +kernel
theorem dX7_history_113 : decode cX7_history 113 = .ok (.ireturn, 1) := by decide +kernel
theorem dX7_copy_0 : decode cX7_copy 0 = .ok (.aload_n 0, 1) := by decide +kernel
theorem dX7_copy_1 : decode cX7_copy 1 = .ok (.iload_n 1, 1) := by decide +kernel
theorem dX7_copy_2 : decode cX7_copy 2 = .ok (.invokevirtual 81, 3) := by decide +kernel
theorem dX7_copy_5 : decode cX7_copy 5 = .ok (.ifCond .ne 5, 3) := by decide +kernel
theorem dX7_copy_8 : decode cX7_copy 8 = .ok (.iconst (-1), 1) := by decide +kernel
theorem dX7_copy_9 : decode cX7_copy 9 = .ok (.ireturn, 1) := by decide +kernel
theorem dX7_copy_10 : decode cX7_copy 10 = .ok (.aload_n 0, 1) := by decide +kernel
theorem dX7_copy_11 : decode cX7_copy 11 = .ok (.getfield 78, 3) := by decide +kernel
theorem dX7_copy_14 : decode cX7_copy 14 = .ok (.bipush 12, 2) := by decide +kernel
theorem dX7_copy_16 : decode cX7_copy 16 = .ok (.if_icmp .ne 6, 3) := by decide +kernel
theorem dX7_copy_19 : decode cX7_copy 19 = .ok (.bipush (-4), 2) := by decide +kernel
theorem dX7_copy_21 : decode cX7_copy 21 = .ok (.ireturn, 1) := by decide +kernel
theorem dX7_copy_22 : decode cX7_copy 22 = .ok (.aload_n 0, 1) := by decide +kernel
theorem dX7_copy_23 : decode cX7_copy 23 = .ok (.getfield 78, 3) := by decide +kernel
theorem dX7_copy_26 : decode cX7_copy 26 = .ok (.istore_n 2, 1) := by decide +kernel
theorem dX7_copy_27 : decode cX7_copy 27 = .ok (.aload_n 0, 1) := by decide +kernel
theorem dX7_copy_28 : decode cX7_copy 28 = .ok (.getfield 16, 3) := by decide +kernel
theorem dX7_copy_31 : decode cX7_copy 31 = .ok (.iload_n 2, 1) := by decide +kernel
theorem dX7_copy_32 : decode cX7_copy 32 = .ok (.aload_n 0, 1) := by decide +kernel
theorem dX7_copy_33 : decode cX7_copy 33 = .ok (.getfield 16, 3) := by decide +kernel
theorem dX7_copy_36 : decode cX7_copy 36 = .ok (.iload_n 1, 1) := by decide +kernel
theorem dX7_copy_37 : decode cX7_copy 37 = .ok (.iaload, 1) := by decide +kernel
theorem dX7_copy_38 : decode cX7_copy 38 = .ok (.iastore, 1) := by decide +kernel
theorem dX7_copy_39 : decode cX7_copy 39 = .ok (.aload_n 0, 1) := by decide +kernel
theorem dX7_copy_40 : decode cX7_copy 40 = .ok (.getfield 19, 3) := by decide +kernel
theorem dX7_copy_43 : decode cX7_copy 43 = .ok (.iload_n 2, 1) := by decide +kernel
theorem dX7_copy_44 : decode cX7_copy 44 = .ok (.aload_n 0, 1) := by decide +kernel
theorem dX7_copy_45 : decode cX7_copy 45 = .ok (.getfield 19, 3) := by decide +kernel
theorem dX7_copy_48 : decode cX7_copy 48 = .ok (.iload_n 1, 1) := by decide +kernel
theorem dX7_copy_49 : decode cX7_copy 49 = .ok (.iaload, 1) := by decide +kernel
theorem dX7_copy_50 : decode cX7_copy 50 = .ok (.iastore, 1) := by decide +kernel
theorem dX7_copy_51 : decode cX7_copy 51 = .ok (.aload_n 0, 1) := by decide +kernel
theorem dX7_copy_52 : decode cX7_copy 52 = .ok (.getfield 22, 3) := by decide +kernel
theorem dX7_copy_55 : decode cX7_copy 55 = .ok (.iload_n 2, 1) := by decide +kernel
theorem dX7_copy_56 : decode cX7_copy 56 = .ok (.aload_n 0, 1) := by decide +kernel
theorem dX7_copy_57 : decode cX7_copy 57 = .ok (.getfield 22, 3) := by decide +kernel
theorem dX7_copy_60 : decode cX7_copy 60 = .ok (.iload_n 1, 1) := by decide +kernel
theorem dX7_copy_61 : decode cX7_copy 61 = .ok (.iaload, 1) := by decide +kernel
theorem dX7_copy_62 : decode cX7_copy 62 = .ok (.iastore, 1) := by decide +kernel
theorem dX7_copy_63 : decode cX7_copy 63 = .ok (.aload_n 0, 1) := by decide +kernel
theorem dX7_copy_64 : decode cX7_copy 64 = .ok (.getfield 25, 3) := by decide +kernel
theorem dX7_copy_67 : decode cX7_copy 67 = .ok (.iload_n 2, 1) := by decide +kernel
theorem dX7_copy_68 : decode cX7_copy 68 = .ok (.aload_n 0, 1) := by decide +kernel
theorem dX7_copy_69 : decode cX7_copy 69 = .ok (.getfield 25, 3) := by decide +kernel
theorem dX7_copy_72 : decode cX7_copy 72 = .ok (.iload_n 1, 1) := by decide +kernel
theorem dX7_copy_73 : decode cX7_copy 73 = .ok (.iaload, 1) := by decide +kernel
theorem dX7_copy_74 : decode cX7_copy 74 = .ok (.iastore, 1) := by decide +kernel
theorem dX7_copy_75 : decode cX7_copy 75 = .ok (.iconst 0, 1) := by decide +kernel
theorem dX7_copy_76 : decode cX7_copy 76 = .ok (.istore_n 3, 1) := by decide +kernel
theorem dX7_copy_77 : decode cX7_copy 77 = .ok (.iload_n 3, 1) := by decide +kernel
theorem dX7_copy_78 : decode cX7_copy 78 = .ok (.bipush 10, 2) := by decide +kernel
theorem dX7_copy_80 : decode cX7_copy 80 = .ok (.if_icmp .ge 163, 3) := by decide +kernel
theorem dX7_copy_83 : decode cX7_copy 83 = .ok (.aload_n 0, 1) := by decide +kernel
theorem dX7_copy_84 : decode cX7_copy 84 = .ok (.getfield 28, 3) := by decide +kernel
theorem dX7_copy_87 : decode cX7_copy 87 = .ok (.bipush 10, 2) := by decide +kernel
theorem dX7_copy_89 : decode cX7_copy 89 = .ok (.iload_n 2, 1) := by decide +kernel
theorem dX7_copy_90 : decode cX7_copy 90 = .ok (.imul, 1) := by decide +kernel
theorem dX7_copy_91 : decode cX7_copy 91 = .ok (.iload_n 3, 1) := by decide +kernel
theorem dX7_copy_92 : decode cX7_copy 92 = .ok (.iadd, 1) := by decide +kernel
theorem dX7_copy_93 : decode cX7_copy 93 = .ok (.aload_n 0, 1) := by decide +kernel
theorem dX7_copy_94 : decode cX7_copy 94 = .ok (.getfield 28, 3) := by decide +kernel
theorem dX7_copy_97 : decode cX7_copy 97 = .ok (.bipush 10, 2) := by decide +kernel
theorem dX7_copy_99 : decode cX7_copy 99 = .ok (.iload_n 1, 1) := by decide +kernel
theorem dX7_copy_100 : decode cX7_copy 100 = .ok (.imul, 1) := by decide +kernel
theorem dX7_copy_101 : decode cX7_copy 101 = .ok (.iload_n 3, 1) := by decide +kernel
theorem dX7_copy_102 : decode cX7_copy 102 = .ok (.iadd, 1) := by decide +kernel
theorem dX7_copy_103 : decode cX7_copy 103 = .ok (.iaload, 1) := by decide +kernel
theorem dX7_copy_104 : decode cX7_copy 104 = .ok (.iastore, 1) := by decide +kernel
theorem dX7_copy_105 : decode cX7_copy 105 = .ok (.aload_n 0, 1) := by decide +kernel
theorem dX7_copy_106 : decode cX7_copy 106 = .ok (.getfield 31, 3) := by decide +kernel
theorem dX7_copy_109 : decode cX7_copy 109 = .ok (.bipush 10, 2) := by decide +kernel
theorem dX7_copy_111 : decode cX7_copy 111 = .ok (.iload_n 2, 1) := by decide +kernel
theorem dX7_copy_112 : decode cX7_copy 112 = .ok (.imul, 1) := by decide +kernel
theorem dX7_copy_113 : decode cX7_copy 113 = .ok (.iload_n 3, 1) := by decide +kernel
theorem dX7_copy_114 : decode cX7_copy 114 = .ok (.iadd, 1) := by decide +kernel
theorem dX7_copy_115 : decode cX7_copy 115 = .ok (.aload_n 0, 1) := by decide +kernel
theorem dX7_copy_116 : decode cX7_copy 116 = .ok (.getfield 31, 3) := by decide +kernel
theorem dX7_copy_119 : decode cX7_copy 119 = .ok (.bipush 10, 2) := by decide +kernel
theorem dX7_copy_121 : decode cX7_copy 121 = .ok (.iload_n 1, 1) := by decide +kernel
theorem dX7_copy_122 : decode cX7_copy 122 = .ok (.imul, 1) := by decide +kernel
theorem dX7_copy_123 : decode cX7_copy 123 = .ok (.iload_n 3, 1) := by decide +kernel
theorem dX7_copy_124 : decode cX7_copy 124 = .ok (.iadd, 1) := by decide +kernel
theorem dX7_copy_125 : decode cX7_copy 125 = .ok (.iaload, 1) := by decide +kernel
theorem dX7_copy_126 : decode cX7_copy 126 = .ok (.iastore, 1) := by decide +kernel
theorem dX7_copy_127 : decode cX7_copy 127 = .ok (.aload_n 0, 1) := by decide +kernel
theorem dX7_copy_128 : decode cX7_copy 128 = .ok (.getfield 34, 3) := by decide +kernel
theorem dX7_copy_131 : decode cX7_copy 131 = .ok (.bipush 10, 2) := by decide +kernel
theorem dX7_copy_133 : decode cX7_copy 133 = .ok (.iload_n 2, 1) := by decide +kernel
theorem dX7_copy_134 : decode cX7_copy 134 = .ok (.imul, 1) := by decide +kernel
theorem dX7_copy_135 : decode cX7_copy 135 = .ok (.iload_n 3, 1) := by decide +kernel
theorem dX7_copy_136 : decode cX7_copy 136 = .ok (.iadd, 1) := by decide +kernel
theorem dX7_copy_137 : decode cX7_copy 137 = .ok (.aload_n 0, 1) := by decide +kernel
theorem dX7_copy_138 : decode cX7_copy 138 = .ok (.getfield 34, 3) := by decide +kernel
theorem dX7_copy_141 : decode cX7_copy 141 = .ok (.bipush 10, 2) := by decide +kernel
theorem dX7_copy_143 : decode cX7_copy 143 = .ok (.iload_n 1, 1) := by decide +kernel
theorem dX7_copy_144 : decode cX7_copy 144 = .ok (.imul, 1) := by decide +kernel
theorem dX7_copy_145 : decode cX7_copy 145 = .ok (.iload_n 3, 1) := by decide +kernel
theorem dX7_copy_146 : decode cX7_copy 146 = .ok (.iadd, 1) := by decide +kernel
theorem dX7_copy_147 : decode cX7_copy 147 = .ok (.iaload, 1) := by decide +kernel
theorem dX7_copy_148 : decode cX7_copy 148 = .ok (.iastore, 1) := by decide +kernel
theorem dX7_copy_149 : decode cX7_copy 149 = .ok (.aload_n 0, 1) := by decide +kernel
theorem dX7_copy_150 : decode cX7_copy 150 = .ok (.getfield 37, 3) := by decide +kernel
theorem dX7_copy_153 : decode cX7_copy 153 = .ok (.bipush 10, 2) := by decide +kernel
theorem dX7_copy_155 : decode cX7_copy 155 = .ok (.iload_n 2, 1) := by decide +kernel
theorem dX7_copy_156 : decode cX7_copy 156 = .ok (.imul, 1) := by decide +kernel
theorem dX7_copy_157 : decode cX7_copy 157 = .ok (.iload_n 3, 1) := by decide +kernel
theorem dX7_copy_158 : decode cX7_copy 158 = .ok (.iadd, 1) := by decide +kernel
theorem dX7_copy_159 : decode cX7_copy 159 = .ok (.aload_n 0, 1) := by decide +kernel
theorem dX7_copy_160 : decode cX7_copy 160 = .ok (.getfield 37, 3) := by decide +kernel
theorem dX7_copy_163 : decode cX7_copy 163 = .ok (.bipush 10, 2) := by decide +kernel
theorem dX7_copy_165 : decode cX7_copy 165 = .ok (.iload_n 1, 1) := by decide +kernel
theorem dX7_copy_166 : decode cX7_copy 166 = .ok (.imul, 1) := by decide +kernel
theorem dX7_copy_167 : decode cX7_copy 167 = .ok (.iload_n 3, 1) := by decide +kernel
theorem dX7_copy_168 : decode cX7_copy 168 = .ok (.iadd, 1) := by decide +kernel
theorem dX7_copy_169 : decode cX7_copy 169 = .ok (.iaload, 1) := by decide +kernel
theorem dX7_copy_170 : decode cX7_copy 170 = .ok (.iastore, 1) := by decide +kernel
theorem dX7_copy_171 : decode cX7_copy 171 = .ok (.aload_n 0, 1) := by decide +kernel
theorem dX7_copy_172 : decode cX7_copy 172 = .ok (.getfield 40, 3) := by decide +kernel
theorem dX7_copy_175 : decode cX7_copy 175 = .ok (.bipush 10, 2) := by decide +kernel
theorem dX7_copy_177 : decode cX7_copy 177 = .ok (.iload_n 2, 1) := by decide +kernel
theorem dX7_copy_178 : decode cX7_copy 178 = .ok (.imul, 1) := by decide +kernel
theorem dX7_copy_179 : decode cX7_copy 179 = .ok (.iload_n 3, 1) := by decide +kernel
theorem dX7_copy_180 : decode cX7_copy 180 = .ok (.iadd, 1) := by decide +kernel
theorem dX7_copy_181 : decode cX7_copy 181 = .ok (.aload_n 0, 1) := by decide +kernel
theorem dX7_copy_182 : decode cX7_copy 182 = .ok (.getfield 40, 3) := by decide +kernel
theorem dX7_copy_185 : decode cX7_copy 185 = .ok (.bipush 10, 2) := by decide +kernel
theorem dX7_copy_187 : decode cX7_copy 187 = .ok (.iload_n 1, 1) := by decide +kernel
theorem dX7_copy_188 : decode cX7_copy 188 = .ok (.imul, 1) := by decide +kernel
theorem dX7_copy_189 : decode cX7_copy 189 = .ok (.iload_n 3, 1) := by decide +kernel
theorem dX7_copy_190 : decode cX7_copy 190 = .ok (.iadd, 1) := by decide +kernel
theorem dX7_copy_191 : decode cX7_copy 191 = .ok (.iaload, 1) := by decide +kernel
theorem dX7_copy_192 : decode cX7_copy 192 = .ok (.iastore, 1) := by decide +kernel
theorem dX7_copy_193 : decode cX7_copy 193 = .ok (.aload_n 0, 1) := by decide +kernel
theorem dX7_copy_194 : decode cX7_copy 194 = .ok (.getfield 43, 3) := by decide +kernel
theorem dX7_copy_197 : decode cX7_copy 197 = .ok (.bipush 10, 2) := by decide +kernel
theorem dX7_copy_199 : decode cX7_copy 199 = .ok (.iload_n 2, 1) := by decide +kernel
theorem dX7_copy_200 : decode cX7_copy 200 = .ok (.imul, 1) := by decide +kernel
theorem dX7_copy_201 : decode cX7_copy 201 = .ok (.iload_n 3, 1) := by decide +kernel
theorem dX7_copy_202 : decode cX7_copy 202 = .ok (.iadd, 1) := by decide +kernel
theorem dX7_copy_203 : decode cX7_copy 203 = .ok (.aload_n 0, 1) := by decide +kernel
theorem dX7_copy_204 : decode cX7_copy 204 = .ok (.getfield 43, 3) := by decide +kernel
theorem dX7_copy_207 : decode cX7_copy 207 = .ok (.bipush 10, 2) := by decide +kernel
theorem dX7_copy_209 : decode cX7_copy 209 = .ok (.iload_n 1, 1) := by decide +kernel
theorem dX7_copy_210 : decode cX7_copy 210 = .ok (.imul, 1) := by decide +kernel
theorem dX7_copy_211 : decode cX7_copy 211 = .ok (.iload_n 3, 1) := by decide +kernel
theorem dX7_copy_212 : decode cX7_copy 212 = .ok (.iadd, 1) := by decide +kernel
theorem dX7_copy_213 : decode cX7_copy 213 = .ok (.iaload, 1) := by decide +kernel
theorem dX7_copy_214 : decode cX7_copy 214 = .ok (.iastore, 1) := by decide +kernel
theorem dX7_copy_215 : decode cX7_copy 215 = .ok (.aload_n 0, 1) := by decide +kernel
theorem dX7_copy_216 : decode cX7_copy 216 = .ok (.getfield 46, 3) := by decide +kernel
theorem dX7_copy_219 : decode cX7_copy 219 = .ok (.bipush 10, 2) := by decide +kernel
theorem dX7_copy_221 : decode cX7_copy 221 = .ok (.iload_n 2, 1) := by decide +kernel
theorem dX7_copy_222 : decode cX7_copy 222 = .ok (.imul, 1) := by decide +kernel
theorem dX7_copy_223 : decode cX7_copy 223 = .ok (.iload_n 3, 1) := by decide +kernel
theorem dX7_copy_224 : decode cX7_copy 224 = .ok (.iadd, 1) := by decide +kernel
theorem dX7_copy_225 : decode cX7_copy 225 = .ok (.aload_n 0, 1) := by decide +kernel
theorem dX7_copy_226 : decode cX7_copy 226 = .ok (.getfield 46, 3) := by decide +kernel
theorem dX7_copy_229 : decode cX7_copy 229 = .ok (.bipush 10, 2) := by decide +kernel
theorem dX7_copy_231 : decode cX7_copy 231 = .ok (.iload_n 1, 1) := by decide +kernel
theorem dX7_copy_232 : decode cX7_copy 232 = .ok (.imul, 1) := by decide +kernel
theorem dX7_copy_233 : decode cX7_copy 233 = .ok (.iload_n 3, 1) := by decide +kernel
theorem dX7_copy_234 : decode cX7_copy 234 = .ok (.iadd, 1) := by decide +kernel
theorem dX7_copy_235 : decode cX7_copy 235 = .ok (.iaload, 1) := by decide +kernel
theorem dX7_copy_236 : decode cX7_copy 236 = .ok (.iastore, 1) := by decide +kernel
theorem dX7_copy_237 : decode cX7_copy 237 = .ok (.iinc 3 1, 3) := by decide +kernel
theorem dX7_copy_240 : decode cX7_copy 240 = .ok (.goto (-163), 3) := by decide +kernel
theorem dX7_copy_243 : decode cX7_copy 243 = .ok (.aload_n 0, 1) := by decide +kernel
theorem dX7_copy_244 : decode cX7_copy 244 = .ok (.dup, 1) := by decide +kernel
theorem dX7_copy_245 : decode cX7_copy 245 = .ok (.getfield 78, 3) := by decide +kernel
theorem dX7_copy_248 : decode cX7_copy 248 = .ok (.iconst 1, 1) := by decide +kernel
theorem dX7_copy_249 : decode cX7_copy 249 = .ok (.iadd, 1) := by decide +kernel
theorem dX7_copy_250 : decode cX7_copy 250 = .ok (.putfield 78, 3) := by decide +kernel
theorem dX7_copy_253 : decode cX7_copy 253 = .ok (.iload_n 2, 1) := by decide +kernel
theorem dX7_copy_254 : decode cX7_copy 254 = .ok (.ireturn, 1) := by decide +kernel
theorem dX7_actsOf_0 : decode cX7_actsOf 0 = .ok (.iload_n 0, 1) := by decide +kernel
theorem dX7_actsOf_1 : decode cX7_actsOf 1 = .ok (.iconst 1, 1) := by decide +kernel
theorem dX7_actsOf_2 : decode cX7_actsOf 2 = .ok (.if_icmp .eq 13, 3) := by decide +kernel
theorem dX7_actsOf_5 : decode cX7_actsOf 5 = .ok (.iload_n 0, 1) := by decide +kernel
theorem dX7_actsOf_6 : decode cX7_actsOf 6 = .ok (.iconst 2, 1) := by decide +kernel
theorem dX7_actsOf_7 : decode cX7_actsOf 7 = .ok (.if_icmp .eq 8, 3) := by decide +kernel
theorem dX7_actsOf_10 : decode cX7_actsOf 10 = .ok (.iload_n 0, 1) := by decide +kernel
theorem dX7_actsOf_11 : decode cX7_actsOf 11 = .ok (.iconst 3, 1) := by decide +kernel
theorem dX7_actsOf_12 : decode cX7_actsOf 12 = .ok (.if_icmp .ne 7, 3) := by decide +kernel
theorem dX7_actsOf_15 : decode cX7_actsOf 15 = .ok (.iconst 2, 1) := by decide +kernel
theorem dX7_actsOf_16 : decode cX7_actsOf 16 = .ok (.goto 14, 3) := by decide +kernel
theorem dX7_actsOf_19 : decode cX7_actsOf 19 = .ok (.iload_n 0, 1) := by decide +kernel
theorem dX7_actsOf_20 : decode cX7_actsOf 20 = .ok (.bipush 6, 2) := by decide +kernel
theorem dX7_actsOf_22 : decode cX7_actsOf 22 = .ok (.if_icmp .ne 7, 3) := by decide +kernel
theorem dX7_actsOf_25 : decode cX7_actsOf 25 = .ok (.iconst 4, 1) := by decide +kernel
theorem dX7_actsOf_26 : decode cX7_actsOf 26 = .ok (.goto 4, 3) := by decide +kernel
theorem dX7_actsOf_29 : decode cX7_actsOf 29 = .ok (.iconst 3, 1) := by decide +kernel
theorem dX7_actsOf_30 : decode cX7_actsOf 30 = .ok (.ireturn, 1) := by decide +kernel
theorem dX7_begin_0 : decode cX7_begin 0 = .ok (.aload_n 0, 1) := by decide +kernel
theorem dX7_begin_1 : decode cX7_begin 1 = .ok (.iload_n 1, 1) := by decide +kernel
theorem dX7_begin_2 : decode cX7_begin 2 = .ok (.invokevirtual 81, 3) := by decide +kernel
theorem dX7_begin_5 : decode cX7_begin 5 = .ok (.ifCond .ne 5, 3) := by decide +kernel
theorem dX7_begin_8 : decode cX7_begin 8 = .ok (.iconst (-1), 1) := by decide +kernel
theorem dX7_begin_9 : decode cX7_begin 9 = .ok (.ireturn, 1) := by decide +kernel
theorem dX7_begin_10 : decode cX7_begin 10 = .ok (.aload_n 0, 1) := by decide +kernel
theorem dX7_begin_11 : decode cX7_begin 11 = .ok (.getfield 16, 3) := by decide +kernel
theorem dX7_begin_14 : decode cX7_begin 14 = .ok (.iload_n 1, 1) := by decide +kernel
theorem dX7_begin_15 : decode cX7_begin 15 = .ok (.iaload, 1) := by decide +kernel
theorem dX7_begin_16 : decode cX7_begin 16 = .ok (.istore 6, 2) := by decide +kernel
theorem dX7_begin_18 : decode cX7_begin 18 = .ok (.iload_n 2, 1) := by decide +kernel
theorem dX7_begin_19 : decode cX7_begin 19 = .ok (.iconst 0, 1) := by decide +kernel
theorem dX7_begin_20 : decode cX7_begin 20 = .ok (.iconst 3, 1) := by decide +kernel
theorem dX7_begin_21 : decode cX7_begin 21 = .ok (.invokestatic 74, 3) := by decide +kernel
theorem dX7_begin_24 : decode cX7_begin 24 = .ok (.ifCond .eq 51, 3) := by decide +kernel
theorem dX7_begin_27 : decode cX7_begin 27 = .ok (.iload_n 3, 1) := by decide +kernel
theorem dX7_begin_28 : decode cX7_begin 28 = .ok (.iconst 0, 1) := by decide +kernel
theorem dX7_begin_29 : decode cX7_begin 29 = .ok (.iload 6, 2) := by decide +kernel
theorem dX7_begin_31 : decode cX7_begin 31 = .ok (.invokestatic 85, 3) := by decide +kernel
theorem dX7_begin_34 : decode cX7_begin 34 = .ok (.iconst 1, 1) := by decide +kernel
theorem dX7_begin_35 : decode cX7_begin 35 = .ok (.isub, 1) := by decide +kernel
theorem dX7_begin_36 : decode cX7_begin 36 = .ok (.invokestatic 74, 3) := by decide +kernel
theorem dX7_begin_39 : decode cX7_begin 39 = .ok (.ifCond .eq 36, 3) := by decide +kernel
theorem dX7_begin_42 : decode cX7_begin 42 = .ok (.iload 6, 2) := by decide +kernel
theorem dX7_begin_44 : decode cX7_begin 44 = .ok (.iconst 4, 1) := by decide +kernel
theorem dX7_begin_45 : decode cX7_begin 45 = .ok (.if_icmp .ne 14, 3) := by decide +kernel
theorem dX7_begin_48 : decode cX7_begin 48 = .ok (.iload 4, 2) := by decide +kernel
theorem dX7_begin_50 : decode cX7_begin 50 = .ok (.iconst 0, 1) := by decide +kernel
theorem dX7_begin_51 : decode cX7_begin 51 = .ok (.bipush 15, 2) := by decide +kernel
theorem dX7_begin_53 : decode cX7_begin 53 = .ok (.invokestatic 74, 3) := by decide +kernel
theorem dX7_begin_56 : decode cX7_begin 56 = .ok (.ifCond .eq 19, 3) := by decide +kernel
theorem dX7_begin_59 : decode cX7_begin 59 = .ok (.iload 6, 2) := by decide +kernel
theorem dX7_begin_61 : decode cX7_begin 61 = .ok (.iconst 5, 1) := by decide +kernel
theorem dX7_begin_62 : decode cX7_begin 62 = .ok (.if_icmp .ne 16, 3) := by decide +kernel
theorem dX7_begin_65 : decode cX7_begin 65 = .ok (.iload 4, 2) := by decide +kernel
theorem dX7_begin_67 : decode cX7_begin 67 = .ok (.iconst 0, 1) := by decide +kernel
theorem dX7_begin_68 : decode cX7_begin 68 = .ok (.iconst 3, 1) := by decide +kernel
theorem dX7_begin_69 : decode cX7_begin 69 = .ok (.invokestatic 74, 3) := by decide +kernel
theorem dX7_begin_72 : decode cX7_begin 72 = .ok (.ifCond .ne 6, 3) := by decide +kernel
theorem dX7_begin_75 : decode cX7_begin 75 = .ok (.bipush (-2), 2) := by decide +kernel
theorem dX7_begin_77 : decode cX7_begin 77 = .ok (.ireturn, 1) := by decide +kernel
theorem dX7_begin_78 : decode cX7_begin 78 = .ok (.iconst 0, 1) := by decide +kernel
theorem dX7_begin_79 : decode cX7_begin 79 = .ok (.istore 7, 2) := by decide +kernel
theorem dX7_begin_81 : decode cX7_begin 81 = .ok (.iload 7, 2) := by decide +kernel
theorem dX7_begin_83 : decode cX7_begin 83 = .ok (.aload_n 0, 1) := by decide +kernel
theorem dX7_begin_84 : decode cX7_begin 84 = .ok (.getfield 22, 3) := by decide +kernel
theorem dX7_begin_87 : decode cX7_begin 87 = .ok (.iload_n 1, 1) := by decide +kernel
theorem dX7_begin_88 : decode cX7_begin 88 = .ok (.iaload, 1) := by decide +kernel
theorem dX7_begin_89 : decode cX7_begin 89 = .ok (.if_icmp .ge 38, 3) := by decide +kernel
theorem dX7_begin_92 : decode cX7_begin 92 = .ok (.aload_n 0, 1) := by decide +kernel
theorem dX7_begin_93 : decode cX7_begin 93 = .ok (.getfield 28, 3) := by decide +kernel
theorem dX7_begin_96 : decode cX7_begin 96 = .ok (.bipush 10, 2) := by decide +kernel
theorem dX7_begin_98 : decode cX7_begin 98 = .ok (.iload_n 1, 1) := by decide +kernel
theorem dX7_begin_99 : decode cX7_begin 99 = .ok (.imul, 1) := by decide +kernel
theorem dX7_begin_100 : decode cX7_begin 100 = .ok (.iload 7, 2) := by decide +kernel
theorem dX7_begin_102 : decode cX7_begin 102 = .ok (.iadd, 1) := by decide +kernel
theorem dX7_begin_103 : decode cX7_begin 103 = .ok (.iaload, 1) := by decide +kernel
theorem dX7_begin_104 : decode cX7_begin 104 = .ok (.iload_n 2, 1) := by decide +kernel
theorem dX7_begin_105 : decode cX7_begin 105 = .ok (.if_icmp .ne 16, 3) := by decide +kernel
theorem dX7_begin_108 : decode cX7_begin 108 = .ok (.aload_n 0, 1) := by decide +kernel
theorem dX7_begin_109 : decode cX7_begin 109 = .ok (.iload_n 1, 1) := by decide +kernel
theorem dX7_begin_110 : decode cX7_begin 110 = .ok (.iload 7, 2) := by decide +kernel
theorem dX7_begin_112 : decode cX7_begin 112 = .ok (.invokevirtual 89, 3) := by decide +kernel
theorem dX7_begin_115 : decode cX7_begin 115 = .ok (.ifCond .eq 6, 3) := by decide +kernel
theorem dX7_begin_118 : decode cX7_begin 118 = .ok (.bipush (-3), 2) := by decide +kernel
theorem dX7_begin_120 : decode cX7_begin 120 = .ok (.ireturn, 1) := by decide +kernel
theorem dX7_begin_121 : decode cX7_begin 121 = .ok (.iinc 7 1, 3) := by decide +kernel
theorem dX7_begin_124 : decode cX7_begin 124 = .ok (.goto (-43), 3) := by decide +kernel
theorem dX7_begin_127 : decode cX7_begin 127 = .ok (.aload_n 0, 1) := by decide +kernel
theorem dX7_begin_128 : decode cX7_begin 128 = .ok (.getfield 22, 3) := by decide +kernel
theorem dX7_begin_131 : decode cX7_begin 131 = .ok (.iload_n 1, 1) := by decide +kernel
theorem dX7_begin_132 : decode cX7_begin 132 = .ok (.iaload, 1) := by decide +kernel
theorem dX7_begin_133 : decode cX7_begin 133 = .ok (.bipush 10, 2) := by decide +kernel
theorem dX7_begin_135 : decode cX7_begin 135 = .ok (.if_icmp .ne 6, 3) := by decide +kernel
theorem dX7_begin_138 : decode cX7_begin 138 = .ok (.bipush (-4), 2) := by decide +kernel
theorem dX7_begin_140 : decode cX7_begin 140 = .ok (.ireturn, 1) := by decide +kernel
theorem dX7_begin_141 : decode cX7_begin 141 = .ok (.bipush 10, 2) := by decide +kernel
theorem dX7_begin_143 : decode cX7_begin 143 = .ok (.iload_n 1, 1) := by decide +kernel
theorem dX7_begin_144 : decode cX7_begin 144 = .ok (.imul, 1) := by decide +kernel
theorem dX7_begin_145 : decode cX7_begin 145 = .ok (.aload_n 0, 1) := by decide +kernel
theorem dX7_begin_146 : decode cX7_begin 146 = .ok (.getfield 22, 3) := by decide +kernel
theorem dX7_begin_149 : decode cX7_begin 149 = .ok (.iload_n 1, 1) := by decide +kernel
theorem dX7_begin_150 : decode cX7_begin 150 = .ok (.iaload, 1) := by decide +kernel
theorem dX7_begin_151 : decode cX7_begin 151 = .ok (.iadd, 1) := by decide +kernel
theorem dX7_begin_152 : decode cX7_begin 152 = .ok (.istore 7, 2) := by decide +kernel
theorem dX7_begin_154 : decode cX7_begin 154 = .ok (.aload_n 0, 1) := by decide +kernel
theorem dX7_begin_155 : decode cX7_begin 155 = .ok (.getfield 25, 3) := by decide +kernel
theorem dX7_begin_158 : decode cX7_begin 158 = .ok (.iload_n 1, 1) := by decide +kernel
theorem dX7_begin_159 : decode cX7_begin 159 = .ok (.dup2, 1) := by decide +kernel
theorem dX7_begin_160 : decode cX7_begin 160 = .ok (.iaload, 1) := by decide +kernel
theorem dX7_begin_161 : decode cX7_begin 161 = .ok (.iconst 1, 1) := by decide +kernel
theorem dX7_begin_162 : decode cX7_begin 162 = .ok (.iadd, 1) := by decide +kernel
theorem dX7_begin_163 : decode cX7_begin 163 = .ok (.iastore, 1) := by decide +kernel
theorem dX7_begin_164 : decode cX7_begin 164 = .ok (.aload_n 0, 1) := by decide +kernel
theorem dX7_begin_165 : decode cX7_begin 165 = .ok (.getfield 28, 3) := by decide +kernel
theorem dX7_begin_168 : decode cX7_begin 168 = .ok (.iload 7, 2) := by decide +kernel
theorem dX7_begin_170 : decode cX7_begin 170 = .ok (.iload_n 2, 1) := by decide +kernel
theorem dX7_begin_171 : decode cX7_begin 171 = .ok (.iastore, 1) := by decide +kernel
theorem dX7_begin_172 : decode cX7_begin 172 = .ok (.aload_n 0, 1) := by decide +kernel
theorem dX7_begin_173 : decode cX7_begin 173 = .ok (.getfield 31, 3) := by decide +kernel
theorem dX7_begin_176 : decode cX7_begin 176 = .ok (.iload 7, 2) := by decide +kernel
theorem dX7_begin_178 : decode cX7_begin 178 = .ok (.iload_n 3, 1) := by decide +kernel
theorem dX7_begin_179 : decode cX7_begin 179 = .ok (.iastore, 1) := by decide +kernel
theorem dX7_begin_180 : decode cX7_begin 180 = .ok (.aload_n 0, 1) := by decide +kernel
theorem dX7_begin_181 : decode cX7_begin 181 = .ok (.getfield 34, 3) := by decide +kernel
theorem dX7_begin_184 : decode cX7_begin 184 = .ok (.iload 7, 2) := by decide +kernel
theorem dX7_begin_186 : decode cX7_begin 186 = .ok (.iload 4, 2) := by decide +kernel
theorem dX7_begin_188 : decode cX7_begin 188 = .ok (.iastore, 1) := by decide +kernel
theorem dX7_begin_189 : decode cX7_begin 189 = .ok (.aload_n 0, 1) := by decide +kernel
theorem dX7_begin_190 : decode cX7_begin 190 = .ok (.getfield 37, 3) := by decide +kernel
theorem dX7_begin_193 : decode cX7_begin 193 = .ok (.iload 7, 2) := by decide +kernel
theorem dX7_begin_195 : decode cX7_begin 195 = .ok (.iload 5, 2) := by decide +kernel
theorem dX7_begin_197 : decode cX7_begin 197 = .ok (.iastore, 1) := by decide +kernel
theorem dX7_begin_198 : decode cX7_begin 198 = .ok (.aload_n 0, 1) := by decide +kernel
theorem dX7_begin_199 : decode cX7_begin 199 = .ok (.getfield 40, 3) := by decide +kernel
theorem dX7_begin_202 : decode cX7_begin 202 = .ok (.iload 7, 2) := by decide +kernel
theorem dX7_begin_204 : decode cX7_begin 204 = .ok (.aload_n 0, 1) := by decide +kernel
theorem dX7_begin_205 : decode cX7_begin 205 = .ok (.getfield 25, 3) := by decide +kernel
theorem dX7_begin_208 : decode cX7_begin 208 = .ok (.iload_n 1, 1) := by decide +kernel
theorem dX7_begin_209 : decode cX7_begin 209 = .ok (.iaload, 1) := by decide +kernel
theorem dX7_begin_210 : decode cX7_begin 210 = .ok (.iastore, 1) := by decide +kernel
theorem dX7_begin_211 : decode cX7_begin 211 = .ok (.aload_n 0, 1) := by decide +kernel
theorem dX7_begin_212 : decode cX7_begin 212 = .ok (.getfield 43, 3) := by decide +kernel
theorem dX7_begin_215 : decode cX7_begin 215 = .ok (.iload 7, 2) := by decide +kernel
theorem dX7_begin_217 : decode cX7_begin 217 = .ok (.iconst 0, 1) := by decide +kernel
theorem dX7_begin_218 : decode cX7_begin 218 = .ok (.iastore, 1) := by decide +kernel
theorem dX7_begin_219 : decode cX7_begin 219 = .ok (.aload_n 0, 1) := by decide +kernel
theorem dX7_begin_220 : decode cX7_begin 220 = .ok (.getfield 46, 3) := by decide +kernel
theorem dX7_begin_223 : decode cX7_begin 223 = .ok (.iload 7, 2) := by decide +kernel
theorem dX7_begin_225 : decode cX7_begin 225 = .ok (.iconst 0, 1) := by decide +kernel
theorem dX7_begin_226 : decode cX7_begin 226 = .ok (.iastore, 1) := by decide +kernel
theorem dX7_begin_227 : decode cX7_begin 227 = .ok (.aload_n 0, 1) := by decide +kernel
theorem dX7_begin_228 : decode cX7_begin 228 = .ok (.getfield 22, 3) := by decide +kernel
theorem dX7_begin_231 : decode cX7_begin 231 = .ok (.iload_n 1, 1) := by decide +kernel
theorem dX7_begin_232 : decode cX7_begin 232 = .ok (.dup2, 1) := by decide +kernel
theorem dX7_begin_233 : decode cX7_begin 233 = .ok (.iaload, 1) := by decide +kernel
theorem dX7_begin_234 : decode cX7_begin 234 = .ok (.iconst 1, 1) := by decide +kernel
theorem dX7_begin_235 : decode cX7_begin 235 = .ok (.iadd, 1) := by decide +kernel
theorem dX7_begin_236 : decode cX7_begin 236 = .ok (.iastore, 1) := by decide +kernel
theorem dX7_begin_237 : decode cX7_begin 237 = .ok (.aload_n 0, 1) := by decide +kernel
theorem dX7_begin_238 : decode cX7_begin 238 = .ok (.getfield 22, 3) := by decide +kernel
theorem dX7_begin_241 : decode cX7_begin 241 = .ok (.iload_n 1, 1) := by decide +kernel
theorem dX7_begin_242 : decode cX7_begin 242 = .ok (.iaload, 1) := by decide +kernel
theorem dX7_begin_243 : decode cX7_begin 243 = .ok (.iconst 1, 1) := by decide +kernel
theorem dX7_begin_244 : decode cX7_begin 244 = .ok (.isub, 1) := by decide +kernel
theorem dX7_begin_245 : decode cX7_begin 245 = .ok (.ireturn, 1) := by decide +kernel
theorem dX7_answer_0 : decode cX7_answer 0 = .ok (.aload_n 0, 1) := by decide +kernel
theorem dX7_answer_1 : decode cX7_answer 1 = .ok (.iload_n 1, 1) := by decide +kernel
theorem dX7_answer_2 : decode cX7_answer 2 = .ok (.iload_n 2, 1) := by decide +kernel
theorem dX7_answer_3 : decode cX7_answer 3 = .ok (.invokevirtual 93, 3) := by decide +kernel
theorem dX7_answer_6 : decode cX7_answer 6 = .ok (.ifCond .ne 5, 3) := by decide +kernel
theorem dX7_answer_9 : decode cX7_answer 9 = .ok (.iconst (-1), 1) := by decide +kernel
theorem dX7_answer_10 : decode cX7_answer 10 = .ok (.ireturn, 1) := by decide +kernel
theorem dX7_answer_11 : decode cX7_answer 11 = .ok (.aload_n 0, 1) := by decide +kernel
theorem dX7_answer_12 : decode cX7_answer 12 = .ok (.iload_n 1, 1) := by decide +kernel
theorem dX7_answer_13 : decode cX7_answer 13 = .ok (.iload_n 2, 1) := by decide +kernel
theorem dX7_answer_14 : decode cX7_answer 14 = .ok (.invokevirtual 89, 3) := by decide +kernel
theorem dX7_answer_17 : decode cX7_answer 17 = .ok (.ifCond .ne 6, 3) := by decide +kernel
theorem dX7_answer_20 : decode cX7_answer 20 = .ok (.bipush (-3), 2) := by decide +kernel
theorem dX7_answer_22 : decode cX7_answer 22 = .ok (.ireturn, 1) := by decide +kernel
theorem dX7_answer_23 : decode cX7_answer 23 = .ok (.aload_n 0, 1) := by decide +kernel
theorem dX7_answer_24 : decode cX7_answer 24 = .ok (.getfield 25, 3) := by decide +kernel
theorem dX7_answer_27 : decode cX7_answer 27 = .ok (.iload_n 1, 1) := by decide +kernel
theorem dX7_answer_28 : decode cX7_answer 28 = .ok (.dup2, 1) := by decide +kernel
theorem dX7_answer_29 : decode cX7_answer 29 = .ok (.iaload, 1) := by decide +kernel
theorem dX7_answer_30 : decode cX7_answer 30 = .ok (.iconst 1, 1) := by decide +kernel
theorem dX7_answer_31 : decode cX7_answer 31 = .ok (.iadd, 1) := by decide +kernel
theorem dX7_answer_32 : decode cX7_answer 32 = .ok (.iastore, 1) := by decide +kernel
theorem dX7_answer_33 : decode cX7_answer 33 = .ok (.aload_n 0, 1) := by decide +kernel
theorem dX7_answer_34 : decode cX7_answer 34 = .ok (.getfield 43, 3) := by decide +kernel
theorem dX7_answer_37 : decode cX7_answer 37 = .ok (.bipush 10, 2) := by decide +kernel
theorem dX7_answer_39 : decode cX7_answer 39 = .ok (.iload_n 1, 1) := by decide +kernel
theorem dX7_answer_40 : decode cX7_answer 40 = .ok (.imul, 1) := by decide +kernel
theorem dX7_answer_41 : decode cX7_answer 41 = .ok (.iload_n 2, 1) := by decide +kernel
theorem dX7_answer_42 : decode cX7_answer 42 = .ok (.iadd, 1) := by decide +kernel
theorem dX7_answer_43 : decode cX7_answer 43 = .ok (.aload_n 0, 1) := by decide +kernel
theorem dX7_answer_44 : decode cX7_answer 44 = .ok (.getfield 25, 3) := by decide +kernel
theorem dX7_answer_47 : decode cX7_answer 47 = .ok (.iload_n 1, 1) := by decide +kernel
theorem dX7_answer_48 : decode cX7_answer 48 = .ok (.iaload, 1) := by decide +kernel
theorem dX7_answer_49 : decode cX7_answer 49 = .ok (.iastore, 1) := by decide +kernel
theorem dX7_answer_50 : decode cX7_answer 50 = .ok (.aload_n 0, 1) := by decide +kernel
theorem dX7_answer_51 : decode cX7_answer 51 = .ok (.getfield 46, 3) := by decide +kernel
theorem dX7_answer_54 : decode cX7_answer 54 = .ok (.bipush 10, 2) := by decide +kernel
theorem dX7_answer_56 : decode cX7_answer 56 = .ok (.iload_n 1, 1) := by decide +kernel
theorem dX7_answer_57 : decode cX7_answer 57 = .ok (.imul, 1) := by decide +kernel
theorem dX7_answer_58 : decode cX7_answer 58 = .ok (.iload_n 2, 1) := by decide +kernel
theorem dX7_answer_59 : decode cX7_answer 59 = .ok (.iadd, 1) := by decide +kernel
theorem dX7_answer_60 : decode cX7_answer 60 = .ok (.iload_n 3, 1) := by decide +kernel
theorem dX7_answer_61 : decode cX7_answer 61 = .ok (.iastore, 1) := by decide +kernel
theorem dX7_answer_62 : decode cX7_answer 62 = .ok (.aload_n 0, 1) := by decide +kernel
theorem dX7_answer_63 : decode cX7_answer 63 = .ok (.getfield 25, 3) := by decide +kernel
theorem dX7_answer_66 : decode cX7_answer 66 = .ok (.iload_n 1, 1) := by decide +kernel
theorem dX7_answer_67 : decode cX7_answer 67 = .ok (.iaload, 1) := by decide +kernel
theorem dX7_answer_68 : decode cX7_answer 68 = .ok (.ireturn, 1) := by decide +kernel
theorem dX7_alter_0 : decode cX7_alter 0 = .ok (.aload_n 0, 1) := by decide +kernel
theorem dX7_alter_1 : decode cX7_alter 1 = .ok (.aload_n 0, 1) := by decide +kernel
theorem dX7_alter_2 : decode cX7_alter 2 = .ok (.iload_n 1, 1) := by decide +kernel
theorem dX7_alter_3 : decode cX7_alter 3 = .ok (.iload_n 2, 1) := by decide +kernel
theorem dX7_alter_4 : decode cX7_alter 4 = .ok (.invokevirtual 93, 3) := by decide +kernel
theorem dX7_alter_7 : decode cX7_alter 7 = .ok (.ifCond .ne 7, 3) := by decide +kernel
theorem dX7_alter_10 : decode cX7_alter 10 = .ok (.iconst (-1), 1) := by decide +kernel
theorem dX7_alter_11 : decode cX7_alter 11 = .ok (.goto 18, 3) := by decide +kernel
theorem dX7_alter_14 : decode cX7_alter 14 = .ok (.aload_n 0, 1) := by decide +kernel
theorem dX7_alter_15 : decode cX7_alter 15 = .ok (.iload_n 1, 1) := by decide +kernel
theorem dX7_alter_16 : decode cX7_alter 16 = .ok (.iload_n 2, 1) := by decide +kernel
theorem dX7_alter_17 : decode cX7_alter 17 = .ok (.invokevirtual 89, 3) := by decide +kernel
theorem dX7_alter_20 : decode cX7_alter 20 = .ok (.ifCond .eq 8, 3) := by decide +kernel
theorem dX7_alter_23 : decode cX7_alter 23 = .ok (.bipush (-3), 2) := by decide +kernel
theorem dX7_alter_25 : decode cX7_alter 25 = .ok (.goto 4, 3) := by decide +kernel
theorem dX7_alter_28 : decode cX7_alter 28 = .ok (.iconst 0, 1) := by decide +kernel
theorem dX7_alter_29 : decode cX7_alter 29 = .ok (.putfield 96, 3) := by decide +kernel
theorem dX7_alter_32 : decode cX7_alter 32 = .ok (.aload_n 0, 1) := by decide +kernel
theorem dX7_alter_33 : decode cX7_alter 33 = .ok (.getfield 96, 3) := by decide +kernel
theorem dX7_alter_36 : decode cX7_alter 36 = .ok (.ifCond .eq 5, 3) := by decide +kernel
theorem dX7_alter_39 : decode cX7_alter 39 = .ok (.iconst 0, 1) := by decide +kernel
theorem dX7_alter_40 : decode cX7_alter 40 = .ok (.ireturn, 1) := by decide +kernel
theorem dX7_alter_41 : decode cX7_alter 41 = .ok (.aload_n 0, 1) := by decide +kernel
theorem dX7_alter_42 : decode cX7_alter 42 = .ok (.getfield 46, 3) := by decide +kernel
theorem dX7_alter_45 : decode cX7_alter 45 = .ok (.bipush 10, 2) := by decide +kernel
theorem dX7_alter_47 : decode cX7_alter 47 = .ok (.iload_n 1, 1) := by decide +kernel
theorem dX7_alter_48 : decode cX7_alter 48 = .ok (.imul, 1) := by decide +kernel
theorem dX7_alter_49 : decode cX7_alter 49 = .ok (.iload_n 2, 1) := by decide +kernel
theorem dX7_alter_50 : decode cX7_alter 50 = .ok (.iadd, 1) := by decide +kernel
theorem dX7_alter_51 : decode cX7_alter 51 = .ok (.iaload, 1) := by decide +kernel
theorem dX7_alter_52 : decode cX7_alter 52 = .ok (.istore 4, 2) := by decide +kernel
theorem dX7_alter_54 : decode cX7_alter 54 = .ok (.aload_n 0, 1) := by decide +kernel
theorem dX7_alter_55 : decode cX7_alter 55 = .ok (.getfield 46, 3) := by decide +kernel
theorem dX7_alter_58 : decode cX7_alter 58 = .ok (.bipush 10, 2) := by decide +kernel
theorem dX7_alter_60 : decode cX7_alter 60 = .ok (.iload_n 1, 1) := by decide +kernel
theorem dX7_alter_61 : decode cX7_alter 61 = .ok (.imul, 1) := by decide +kernel
theorem dX7_alter_62 : decode cX7_alter 62 = .ok (.iload_n 2, 1) := by decide +kernel
theorem dX7_alter_63 : decode cX7_alter 63 = .ok (.iadd, 1) := by decide +kernel
theorem dX7_alter_64 : decode cX7_alter 64 = .ok (.iload_n 3, 1) := by decide +kernel
theorem dX7_alter_65 : decode cX7_alter 65 = .ok (.iastore, 1) := by decide +kernel
theorem dX7_alter_66 : decode cX7_alter 66 = .ok (.iload 4, 2) := by decide +kernel
theorem dX7_alter_68 : decode cX7_alter 68 = .ok (.ireturn, 1) := by decide +kernel
theorem dX7_status_0 : decode cX7_status 0 = .ok (.aload_n 0, 1) := by decide +kernel
theorem dX7_status_1 : decode cX7_status 1 = .ok (.getfield 96, 3) := by decide +kernel
theorem dX7_status_4 : decode cX7_status 4 = .ok (.ireturn, 1) := by decide +kernel
theorem dX7_answered_0 : decode cX7_answered 0 = .ok (.aload_n 0, 1) := by decide +kernel
theorem dX7_answered_1 : decode cX7_answered 1 = .ok (.aload_n 0, 1) := by decide +kernel
theorem dX7_answered_2 : decode cX7_answered 2 = .ok (.iload_n 1, 1) := by decide +kernel
theorem dX7_answered_3 : decode cX7_answered 3 = .ok (.iload_n 2, 1) := by decide +kernel
theorem dX7_answered_4 : decode cX7_answered 4 = .ok (.invokevirtual 93, 3) := by decide +kernel
theorem dX7_answered_7 : decode cX7_answered 7 = .ok (.ifCond .ne 7, 3) := by decide +kernel
theorem dX7_answered_10 : decode cX7_answered 10 = .ok (.iconst (-1), 1) := by decide +kernel
theorem dX7_answered_11 : decode cX7_answered 11 = .ok (.goto 18, 3) := by decide +kernel
theorem dX7_answered_14 : decode cX7_answered 14 = .ok (.aload_n 0, 1) := by decide +kernel
theorem dX7_answered_15 : decode cX7_answered 15 = .ok (.iload_n 1, 1) := by decide +kernel
theorem dX7_answered_16 : decode cX7_answered 16 = .ok (.iload_n 2, 1) := by decide +kernel
theorem dX7_answered_17 : decode cX7_answered 17 = .ok (.invokevirtual 89, 3) := by decide +kernel
theorem dX7_answered_20 : decode cX7_answered 20 = .ok (.ifCond .eq 8, 3) := by decide +kernel
theorem dX7_answered_23 : decode cX7_answered 23 = .ok (.bipush (-3), 2) := by decide +kernel
theorem dX7_answered_25 : decode cX7_answered 25 = .ok (.goto 4, 3) := by decide +kernel
theorem dX7_answered_28 : decode cX7_answered 28 = .ok (.iconst 0, 1) := by decide +kernel
theorem dX7_answered_29 : decode cX7_answered 29 = .ok (.putfield 96, 3) := by decide +kernel
theorem dX7_answered_32 : decode cX7_answered 32 = .ok (.aload_n 0, 1) := by decide +kernel
theorem dX7_answered_33 : decode cX7_answered 33 = .ok (.getfield 96, 3) := by decide +kernel
theorem dX7_answered_36 : decode cX7_answered 36 = .ok (.ifCond .eq 7, 3) := by decide +kernel
theorem dX7_answered_39 : decode cX7_answered 39 = .ok (.iconst 0, 1) := by decide +kernel
theorem dX7_answered_40 : decode cX7_answered 40 = .ok (.goto 14, 3) := by decide +kernel
theorem dX7_answered_43 : decode cX7_answered 43 = .ok (.aload_n 0, 1) := by decide +kernel
theorem dX7_answered_44 : decode cX7_answered 44 = .ok (.getfield 46, 3) := by decide +kernel
theorem dX7_answered_47 : decode cX7_answered 47 = .ok (.bipush 10, 2) := by decide +kernel
theorem dX7_answered_49 : decode cX7_answered 49 = .ok (.iload_n 1, 1) := by decide +kernel
theorem dX7_answered_50 : decode cX7_answered 50 = .ok (.imul, 1) := by decide +kernel
theorem dX7_answered_51 : decode cX7_answered 51 = .ok (.iload_n 2, 1) := by decide +kernel
theorem dX7_answered_52 : decode cX7_answered 52 = .ok (.iadd, 1) := by decide +kernel
theorem dX7_answered_53 : decode cX7_answered 53 = .ok (.iaload, 1) := by decide +kernel
theorem dX7_answered_54 : decode cX7_answered 54 = .ok (.ireturn, 1) := by decide +kernel
theorem dX7_call_0 : decode cX7_call 0 = .ok (.aload_n 0, 1) := by decide +kernel
theorem dX7_call_1 : decode cX7_call 1 = .ok (.iload_n 1, 1) := by decide +kernel
theorem dX7_call_2 : decode cX7_call 2 = .ok (.iload_n 2, 1) := by decide +kernel
theorem dX7_call_3 : decode cX7_call 3 = .ok (.invokevirtual 93, 3) := by decide +kernel
theorem dX7_call_6 : decode cX7_call 6 = .ok (.ifCond .ne 5, 3) := by decide +kernel
theorem dX7_call_9 : decode cX7_call 9 = .ok (.iconst (-1), 1) := by decide +kernel
theorem dX7_call_10 : decode cX7_call 10 = .ok (.ireturn, 1) := by decide +kernel
theorem dX7_call_11 : decode cX7_call 11 = .ok (.iload_n 3, 1) := by decide +kernel
theorem dX7_call_12 : decode cX7_call 12 = .ok (.tableswitch 80 0 3 #[32, 44, 56, 68], 32) := by decide +kernel
theorem dX7_call_44 : decode cX7_call 44 = .ok (.aload_n 0, 1) := by decide +kernel
theorem dX7_call_45 : decode cX7_call 45 = .ok (.getfield 28, 3) := by decide +kernel
theorem dX7_call_48 : decode cX7_call 48 = .ok (.bipush 10, 2) := by decide +kernel
theorem dX7_call_50 : decode cX7_call 50 = .ok (.iload_n 1, 1) := by decide +kernel
theorem dX7_call_51 : decode cX7_call 51 = .ok (.imul, 1) := by decide +kernel
theorem dX7_call_52 : decode cX7_call 52 = .ok (.iload_n 2, 1) := by decide +kernel
theorem dX7_call_53 : decode cX7_call 53 = .ok (.iadd, 1) := by decide +kernel
theorem dX7_call_54 : decode cX7_call 54 = .ok (.iaload, 1) := by decide +kernel
theorem dX7_call_55 : decode cX7_call 55 = .ok (.ireturn, 1) := by decide +kernel
theorem dX7_call_56 : decode cX7_call 56 = .ok (.aload_n 0, 1) := by decide +kernel
theorem dX7_call_57 : decode cX7_call 57 = .ok (.getfield 31, 3) := by decide +kernel
theorem dX7_call_60 : decode cX7_call 60 = .ok (.bipush 10, 2) := by decide +kernel
theorem dX7_call_62 : decode cX7_call 62 = .ok (.iload_n 1, 1) := by decide +kernel
theorem dX7_call_63 : decode cX7_call 63 = .ok (.imul, 1) := by decide +kernel
theorem dX7_call_64 : decode cX7_call 64 = .ok (.iload_n 2, 1) := by decide +kernel
theorem dX7_call_65 : decode cX7_call 65 = .ok (.iadd, 1) := by decide +kernel
theorem dX7_call_66 : decode cX7_call 66 = .ok (.iaload, 1) := by decide +kernel
theorem dX7_call_67 : decode cX7_call 67 = .ok (.ireturn, 1) := by decide +kernel
theorem dX7_call_68 : decode cX7_call 68 = .ok (.aload_n 0, 1) := by decide +kernel
theorem dX7_call_69 : decode cX7_call 69 = .ok (.getfield 40, 3) := by decide +kernel
theorem dX7_call_72 : decode cX7_call 72 = .ok (.bipush 10, 2) := by decide +kernel
theorem dX7_call_74 : decode cX7_call 74 = .ok (.iload_n 1, 1) := by decide +kernel
theorem dX7_call_75 : decode cX7_call 75 = .ok (.imul, 1) := by decide +kernel
theorem dX7_call_76 : decode cX7_call 76 = .ok (.iload_n 2, 1) := by decide +kernel
theorem dX7_call_77 : decode cX7_call 77 = .ok (.iadd, 1) := by decide +kernel
theorem dX7_call_78 : decode cX7_call 78 = .ok (.iaload, 1) := by decide +kernel
theorem dX7_call_79 : decode cX7_call 79 = .ok (.ireturn, 1) := by decide +kernel
theorem dX7_call_80 : decode cX7_call 80 = .ok (.aload_n 0, 1) := by decide +kernel
theorem dX7_call_81 : decode cX7_call 81 = .ok (.getfield 43, 3) := by decide +kernel
theorem dX7_call_84 : decode cX7_call 84 = .ok (.bipush 10, 2) := by decide +kernel
theorem dX7_call_86 : decode cX7_call 86 = .ok (.iload_n 1, 1) := by decide +kernel
theorem dX7_call_87 : decode cX7_call 87 = .ok (.imul, 1) := by decide +kernel
theorem dX7_call_88 : decode cX7_call 88 = .ok (.iload_n 2, 1) := by decide +kernel
theorem dX7_call_89 : decode cX7_call 89 = .ok (.iadd, 1) := by decide +kernel
theorem dX7_call_90 : decode cX7_call 90 = .ok (.iaload, 1) := by decide +kernel
theorem dX7_call_91 : decode cX7_call 91 = .ok (.ireturn, 1) := by decide +kernel
theorem dX7_call_92 : decode cX7_call 92 = .ok (.iconst (-1), 1) := by decide +kernel
theorem dX7_call_93 : decode cX7_call 93 = .ok (.ireturn, 1) := by decide +kernel
theorem dX7_about_0 : decode cX7_about 0 = .ok (.aload_n 0, 1) := by decide +kernel
theorem dX7_about_1 : decode cX7_about 1 = .ok (.iload_n 1, 1) := by decide +kernel
theorem dX7_about_2 : decode cX7_about 2 = .ok (.invokevirtual 81, 3) := by decide +kernel
theorem dX7_about_5 : decode cX7_about 5 = .ok (.ifCond .ne 5, 3) := by decide +kernel
theorem dX7_about_8 : decode cX7_about 8 = .ok (.iconst (-1), 1) := by decide +kernel
theorem dX7_about_9 : decode cX7_about 9 = .ok (.ireturn, 1) := by decide +kernel
theorem dX7_about_10 : decode cX7_about 10 = .ok (.iconst 0, 1) := by decide +kernel
theorem dX7_about_11 : decode cX7_about 11 = .ok (.istore_n 3, 1) := by decide +kernel
theorem dX7_about_12 : decode cX7_about 12 = .ok (.iload_n 2, 1) := by decide +kernel
theorem dX7_about_13 : decode cX7_about 13 = .ok (.tableswitch 92 0 3 #[31, 38, 45, 85], 31) := by decide +kernel
theorem dX7_about_44 : decode cX7_about 44 = .ok (.aload_n 0, 1) := by decide +kernel
theorem dX7_about_45 : decode cX7_about 45 = .ok (.getfield 16, 3) := by decide +kernel
theorem dX7_about_48 : decode cX7_about 48 = .ok (.iload_n 1, 1) := by decide +kernel
theorem dX7_about_49 : decode cX7_about 49 = .ok (.iaload, 1) := by decide +kernel
theorem dX7_about_50 : decode cX7_about 50 = .ok (.ireturn, 1) := by decide +kernel
theorem dX7_about_51 : decode cX7_about 51 = .ok (.aload_n 0, 1) := by decide +kernel
theorem dX7_about_52 : decode cX7_about 52 = .ok (.getfield 22, 3) := by decide +kernel
theorem dX7_about_55 : decode cX7_about 55 = .ok (.iload_n 1, 1) := by decide +kernel
theorem dX7_about_56 : decode cX7_about 56 = .ok (.iaload, 1) := by decide +kernel
theorem dX7_about_57 : decode cX7_about 57 = .ok (.ireturn, 1) := by decide +kernel
theorem dX7_about_58 : decode cX7_about 58 = .ok (.iconst 0, 1) := by decide +kernel
theorem dX7_about_59 : decode cX7_about 59 = .ok (.istore 4, 2) := by decide +kernel
theorem dX7_about_61 : decode cX7_about 61 = .ok (.iload 4, 2) := by decide +kernel
theorem dX7_about_63 : decode cX7_about 63 = .ok (.aload_n 0, 1) := by decide +kernel
theorem dX7_about_64 : decode cX7_about 64 = .ok (.getfield 22, 3) := by decide +kernel
theorem dX7_about_67 : decode cX7_about 67 = .ok (.iload_n 1, 1) := by decide +kernel
theorem dX7_about_68 : decode cX7_about 68 = .ok (.iaload, 1) := by decide +kernel
theorem dX7_about_69 : decode cX7_about 69 = .ok (.if_icmp .ge 27, 3) := by decide +kernel
theorem dX7_about_72 : decode cX7_about 72 = .ok (.iload_n 3, 1) := by decide +kernel
theorem dX7_about_73 : decode cX7_about 73 = .ok (.aload_n 0, 1) := by decide +kernel
theorem dX7_about_74 : decode cX7_about 74 = .ok (.iload_n 1, 1) := by decide +kernel
theorem dX7_about_75 : decode cX7_about 75 = .ok (.iload 4, 2) := by decide +kernel
theorem dX7_about_77 : decode cX7_about 77 = .ok (.invokevirtual 89, 3) := by decide +kernel
theorem dX7_about_80 : decode cX7_about 80 = .ok (.ifCond .eq 7, 3) := by decide +kernel
theorem dX7_about_83 : decode cX7_about 83 = .ok (.iconst 1, 1) := by decide +kernel
theorem dX7_about_84 : decode cX7_about 84 = .ok (.goto 4, 3) := by decide +kernel
theorem dX7_about_87 : decode cX7_about 87 = .ok (.iconst 0, 1) := by decide +kernel
theorem dX7_about_88 : decode cX7_about 88 = .ok (.iadd, 1) := by decide +kernel
theorem dX7_about_89 : decode cX7_about 89 = .ok (.istore_n 3, 1) := by decide +kernel
theorem dX7_about_90 : decode cX7_about 90 = .ok (.iinc 4 1, 3) := by decide +kernel
theorem dX7_about_93 : decode cX7_about 93 = .ok (.goto (-32), 3) := by decide +kernel
theorem dX7_about_96 : decode cX7_about 96 = .ok (.iload_n 3, 1) := by decide +kernel
theorem dX7_about_97 : decode cX7_about 97 = .ok (.ireturn, 1) := by decide +kernel
theorem dX7_about_98 : decode cX7_about 98 = .ok (.aload_n 0, 1) := by decide +kernel
theorem dX7_about_99 : decode cX7_about 99 = .ok (.getfield 25, 3) := by decide +kernel
theorem dX7_about_102 : decode cX7_about 102 = .ok (.iload_n 1, 1) := by decide +kernel
theorem dX7_about_103 : decode cX7_about 103 = .ok (.iaload, 1) := by decide +kernel
theorem dX7_about_104 : decode cX7_about 104 = .ok (.ireturn, 1) := by decide +kernel
theorem dX7_about_105 : decode cX7_about 105 = .ok (.iconst (-1), 1) := by decide +kernel
theorem dX7_about_106 : decode cX7_about 106 = .ok (.ireturn, 1) := by decide +kernel
theorem dX7_isQuiet_0 : decode cX7_isQuiet 0 = .ok (.iconst 0, 1) := by decide +kernel
theorem dX7_isQuiet_1 : decode cX7_isQuiet 1 = .ok (.istore 4, 2) := by decide +kernel
theorem dX7_isQuiet_3 : decode cX7_isQuiet 3 = .ok (.iload 4, 2) := by decide +kernel
theorem dX7_isQuiet_5 : decode cX7_isQuiet 5 = .ok (.aload_n 0, 1) := by decide +kernel
theorem dX7_isQuiet_6 : decode cX7_isQuiet 6 = .ok (.getfield 22, 3) := by decide +kernel
theorem dX7_isQuiet_9 : decode cX7_isQuiet 9 = .ok (.iload_n 1, 1) := by decide +kernel
theorem dX7_isQuiet_10 : decode cX7_isQuiet 10 = .ok (.iaload, 1) := by decide +kernel
theorem dX7_isQuiet_11 : decode cX7_isQuiet 11 = .ok (.if_icmp .ge 62, 3) := by decide +kernel
theorem dX7_isQuiet_14 : decode cX7_isQuiet 14 = .ok (.bipush 10, 2) := by decide +kernel
theorem dX7_isQuiet_16 : decode cX7_isQuiet 16 = .ok (.iload_n 1, 1) := by decide +kernel
theorem dX7_isQuiet_17 : decode cX7_isQuiet 17 = .ok (.imul, 1) := by decide +kernel
theorem dX7_isQuiet_18 : decode cX7_isQuiet 18 = .ok (.iload 4, 2) := by decide +kernel
theorem dX7_isQuiet_20 : decode cX7_isQuiet 20 = .ok (.iadd, 1) := by decide +kernel
theorem dX7_isQuiet_21 : decode cX7_isQuiet 21 = .ok (.istore 5, 2) := by decide +kernel
theorem dX7_isQuiet_23 : decode cX7_isQuiet 23 = .ok (.iload_n 2, 1) := by decide +kernel
theorem dX7_isQuiet_24 : decode cX7_isQuiet 24 = .ok (.iload 4, 2) := by decide +kernel
theorem dX7_isQuiet_26 : decode cX7_isQuiet 26 = .ok (.ishr, 1) := by decide +kernel
theorem dX7_isQuiet_27 : decode cX7_isQuiet 27 = .ok (.iconst 1, 1) := by decide +kernel
theorem dX7_isQuiet_28 : decode cX7_isQuiet 28 = .ok (.iand, 1) := by decide +kernel
theorem dX7_isQuiet_29 : decode cX7_isQuiet 29 = .ok (.iconst 1, 1) := by decide +kernel
theorem dX7_isQuiet_30 : decode cX7_isQuiet 30 = .ok (.if_icmp .ne 37, 3) := by decide +kernel
theorem dX7_isQuiet_33 : decode cX7_isQuiet 33 = .ok (.aload_n 0, 1) := by decide +kernel
theorem dX7_isQuiet_34 : decode cX7_isQuiet 34 = .ok (.getfield 40, 3) := by decide +kernel
theorem dX7_isQuiet_37 : decode cX7_isQuiet 37 = .ok (.iload 5, 2) := by decide +kernel
theorem dX7_isQuiet_39 : decode cX7_isQuiet 39 = .ok (.iaload, 1) := by decide +kernel
theorem dX7_isQuiet_40 : decode cX7_isQuiet 40 = .ok (.iload_n 3, 1) := by decide +kernel
theorem dX7_isQuiet_41 : decode cX7_isQuiet 41 = .ok (.if_icmp .gt 26, 3) := by decide +kernel
theorem dX7_isQuiet_44 : decode cX7_isQuiet 44 = .ok (.aload_n 0, 1) := by decide +kernel
theorem dX7_isQuiet_45 : decode cX7_isQuiet 45 = .ok (.getfield 43, 3) := by decide +kernel
theorem dX7_isQuiet_48 : decode cX7_isQuiet 48 = .ok (.iload 5, 2) := by decide +kernel
theorem dX7_isQuiet_50 : decode cX7_isQuiet 50 = .ok (.iaload, 1) := by decide +kernel
theorem dX7_isQuiet_51 : decode cX7_isQuiet 51 = .ok (.ifCond .eq 14, 3) := by decide +kernel
theorem dX7_isQuiet_54 : decode cX7_isQuiet 54 = .ok (.aload_n 0, 1) := by decide +kernel
theorem dX7_isQuiet_55 : decode cX7_isQuiet 55 = .ok (.getfield 43, 3) := by decide +kernel
theorem dX7_isQuiet_58 : decode cX7_isQuiet 58 = .ok (.iload 5, 2) := by decide +kernel
theorem dX7_isQuiet_60 : decode cX7_isQuiet 60 = .ok (.iaload, 1) := by decide +kernel
theorem dX7_isQuiet_61 : decode cX7_isQuiet 61 = .ok (.iload_n 3, 1) := by decide +kernel
theorem dX7_isQuiet_62 : decode cX7_isQuiet 62 = .ok (.if_icmp .le 5, 3) := by decide +kernel
theorem dX7_isQuiet_65 : decode cX7_isQuiet 65 = .ok (.iconst 0, 1) := by decide +kernel
theorem dX7_isQuiet_66 : decode cX7_isQuiet 66 = .ok (.ireturn, 1) := by decide +kernel
theorem dX7_isQuiet_67 : decode cX7_isQuiet 67 = .ok (.iinc 4 1, 3) := by decide +kernel
theorem dX7_isQuiet_70 : decode cX7_isQuiet 70 = .ok (.goto (-67), 3) := by decide +kernel
theorem dX7_isQuiet_73 : decode cX7_isQuiet 73 = .ok (.iconst 1, 1) := by decide +kernel
theorem dX7_isQuiet_74 : decode cX7_isQuiet 74 = .ok (.ireturn, 1) := by decide +kernel
theorem dX7_isAhead_0 : decode cX7_isAhead 0 = .ok (.bipush 10, 2) := by decide +kernel
theorem dX7_isAhead_2 : decode cX7_isAhead 2 = .ok (.iload_n 1, 1) := by decide +kernel
theorem dX7_isAhead_3 : decode cX7_isAhead 3 = .ok (.imul, 1) := by decide +kernel
theorem dX7_isAhead_4 : decode cX7_isAhead 4 = .ok (.iload 4, 2) := by decide +kernel
theorem dX7_isAhead_6 : decode cX7_isAhead 6 = .ok (.iadd, 1) := by decide +kernel
theorem dX7_isAhead_7 : decode cX7_isAhead 7 = .ok (.istore 6, 2) := by decide +kernel
theorem dX7_isAhead_9 : decode cX7_isAhead 9 = .ok (.bipush 10, 2) := by decide +kernel
theorem dX7_isAhead_11 : decode cX7_isAhead 11 = .ok (.iload_n 1, 1) := by decide +kernel
theorem dX7_isAhead_12 : decode cX7_isAhead 12 = .ok (.imul, 1) := by decide +kernel
theorem dX7_isAhead_13 : decode cX7_isAhead 13 = .ok (.iload 5, 2) := by decide +kernel
theorem dX7_isAhead_15 : decode cX7_isAhead 15 = .ok (.iadd, 1) := by decide +kernel
theorem dX7_isAhead_16 : decode cX7_isAhead 16 = .ok (.istore 7, 2) := by decide +kernel
theorem dX7_isAhead_18 : decode cX7_isAhead 18 = .ok (.aload_n 0, 1) := by decide +kernel
theorem dX7_isAhead_19 : decode cX7_isAhead 19 = .ok (.getfield 43, 3) := by decide +kernel
theorem dX7_isAhead_22 : decode cX7_isAhead 22 = .ok (.iload 6, 2) := by decide +kernel
theorem dX7_isAhead_24 : decode cX7_isAhead 24 = .ok (.iaload, 1) := by decide +kernel
theorem dX7_isAhead_25 : decode cX7_isAhead 25 = .ok (.ifCond .eq 20, 3) := by decide +kernel
theorem dX7_isAhead_28 : decode cX7_isAhead 28 = .ok (.aload_n 0, 1) := by decide +kernel
theorem dX7_isAhead_29 : decode cX7_isAhead 29 = .ok (.getfield 43, 3) := by decide +kernel
theorem dX7_isAhead_32 : decode cX7_isAhead 32 = .ok (.iload 6, 2) := by decide +kernel
theorem dX7_isAhead_34 : decode cX7_isAhead 34 = .ok (.iaload, 1) := by decide +kernel
theorem dX7_isAhead_35 : decode cX7_isAhead 35 = .ok (.aload_n 0, 1) := by decide +kernel
theorem dX7_isAhead_36 : decode cX7_isAhead 36 = .ok (.getfield 40, 3) := by decide +kernel
theorem dX7_isAhead_39 : decode cX7_isAhead 39 = .ok (.iload 7, 2) := by decide +kernel
theorem dX7_isAhead_41 : decode cX7_isAhead 41 = .ok (.iaload, 1) := by decide +kernel
theorem dX7_isAhead_42 : decode cX7_isAhead 42 = .ok (.if_icmp .lt 5, 3) := by decide +kernel
theorem dX7_isAhead_45 : decode cX7_isAhead 45 = .ok (.iconst 0, 1) := by decide +kernel
theorem dX7_isAhead_46 : decode cX7_isAhead 46 = .ok (.ireturn, 1) := by decide +kernel
theorem dX7_isAhead_47 : decode cX7_isAhead 47 = .ok (.iload_n 2, 1) := by decide +kernel
theorem dX7_isAhead_48 : decode cX7_isAhead 48 = .ok (.ifCond .eq 20, 3) := by decide +kernel
theorem dX7_isAhead_51 : decode cX7_isAhead 51 = .ok (.aload_n 0, 1) := by decide +kernel
theorem dX7_isAhead_52 : decode cX7_isAhead 52 = .ok (.getfield 28, 3) := by decide +kernel
theorem dX7_isAhead_55 : decode cX7_isAhead 55 = .ok (.iload 6, 2) := by decide +kernel
theorem dX7_isAhead_57 : decode cX7_isAhead 57 = .ok (.iaload, 1) := by decide +kernel
theorem dX7_isAhead_58 : decode cX7_isAhead 58 = .ok (.aload_n 0, 1) := by decide +kernel
theorem dX7_isAhead_59 : decode cX7_isAhead 59 = .ok (.getfield 28, 3) := by decide +kernel
theorem dX7_isAhead_62 : decode cX7_isAhead 62 = .ok (.iload 7, 2) := by decide +kernel
theorem dX7_isAhead_64 : decode cX7_isAhead 64 = .ok (.iaload, 1) := by decide +kernel
theorem dX7_isAhead_65 : decode cX7_isAhead 65 = .ok (.if_icmp .ne 5, 3) := by decide +kernel
theorem dX7_isAhead_68 : decode cX7_isAhead 68 = .ok (.iconst 1, 1) := by decide +kernel
theorem dX7_isAhead_69 : decode cX7_isAhead 69 = .ok (.ireturn, 1) := by decide +kernel
theorem dX7_isAhead_70 : decode cX7_isAhead 70 = .ok (.aload_n 0, 1) := by decide +kernel
theorem dX7_isAhead_71 : decode cX7_isAhead 71 = .ok (.getfield 43, 3) := by decide +kernel
theorem dX7_isAhead_74 : decode cX7_isAhead 74 = .ok (.iload 6, 2) := by decide +kernel
theorem dX7_isAhead_76 : decode cX7_isAhead 76 = .ok (.iaload, 1) := by decide +kernel
theorem dX7_isAhead_77 : decode cX7_isAhead 77 = .ok (.istore 8, 2) := by decide +kernel
theorem dX7_isAhead_79 : decode cX7_isAhead 79 = .ok (.iload 8, 2) := by decide +kernel
theorem dX7_isAhead_81 : decode cX7_isAhead 81 = .ok (.aload_n 0, 1) := by decide +kernel
theorem dX7_isAhead_82 : decode cX7_isAhead 82 = .ok (.getfield 40, 3) := by decide +kernel
theorem dX7_isAhead_85 : decode cX7_isAhead 85 = .ok (.iload 7, 2) := by decide +kernel
theorem dX7_isAhead_87 : decode cX7_isAhead 87 = .ok (.iaload, 1) := by decide +kernel
theorem dX7_isAhead_88 : decode cX7_isAhead 88 = .ok (.if_icmp .ge 27, 3) := by decide +kernel
theorem dX7_isAhead_91 : decode cX7_isAhead 91 = .ok (.iload_n 2, 1) := by decide +kernel
theorem dX7_isAhead_92 : decode cX7_isAhead 92 = .ok (.iconst 1, 1) := by decide +kernel
theorem dX7_isAhead_93 : decode cX7_isAhead 93 = .ok (.if_icmp .ne 22, 3) := by decide +kernel
theorem dX7_isAhead_96 : decode cX7_isAhead 96 = .ok (.aload_n 0, 1) := by decide +kernel
theorem dX7_isAhead_97 : decode cX7_isAhead 97 = .ok (.iload_n 1, 1) := by decide +kernel
theorem dX7_isAhead_98 : decode cX7_isAhead 98 = .ok (.iload_n 3, 1) := by decide +kernel
theorem dX7_isAhead_99 : decode cX7_isAhead 99 = .ok (.iload 8, 2) := by decide +kernel
theorem dX7_isAhead_101 : decode cX7_isAhead 101 = .ok (.invokevirtual 99, 3) := by decide +kernel
theorem dX7_isAhead_104 : decode cX7_isAhead 104 = .ok (.ifCond .eq 5, 3) := by decide +kernel
theorem dX7_isAhead_107 : decode cX7_isAhead 107 = .ok (.iconst 1, 1) := by decide +kernel
theorem dX7_isAhead_108 : decode cX7_isAhead 108 = .ok (.ireturn, 1) := by decide +kernel
theorem dX7_isAhead_109 : decode cX7_isAhead 109 = .ok (.iinc 8 1, 3) := by decide +kernel
theorem dX7_isAhead_112 : decode cX7_isAhead 112 = .ok (.goto (-33), 3) := by decide +kernel
theorem dX7_isAhead_115 : decode cX7_isAhead 115 = .ok (.iconst 0, 1) := by decide +kernel
theorem dX7_isAhead_116 : decode cX7_isAhead 116 = .ok (.ireturn, 1) := by decide +kernel
theorem dX7_all_0 : decode cX7_all 0 = .ok (.iconst 1, 1) := by decide +kernel
theorem dX7_all_1 : decode cX7_all 1 = .ok (.aload_n 0, 1) := by decide +kernel
theorem dX7_all_2 : decode cX7_all 2 = .ok (.getfield 22, 3) := by decide +kernel
theorem dX7_all_5 : decode cX7_all 5 = .ok (.iload_n 1, 1) := by decide +kernel
theorem dX7_all_6 : decode cX7_all 6 = .ok (.iaload, 1) := by decide +kernel
theorem dX7_all_7 : decode cX7_all 7 = .ok (.ishl, 1) := by decide +kernel
theorem dX7_all_8 : decode cX7_all 8 = .ok (.iconst 1, 1) := by decide +kernel
theorem dX7_all_9 : decode cX7_all 9 = .ok (.isub, 1) := by decide +kernel
theorem dX7_all_10 : decode cX7_all 10 = .ok (.ireturn, 1) := by decide +kernel
theorem dX7_ahead_0 : decode cX7_ahead 0 = .ok (.aload_n 0, 1) := by decide +kernel
theorem dX7_ahead_1 : decode cX7_ahead 1 = .ok (.iload_n 1, 1) := by decide +kernel
theorem dX7_ahead_2 : decode cX7_ahead 2 = .ok (.iload_n 3, 1) := by decide +kernel
theorem dX7_ahead_3 : decode cX7_ahead 3 = .ok (.invokevirtual 93, 3) := by decide +kernel
theorem dX7_ahead_6 : decode cX7_ahead 6 = .ok (.ifCond .eq 20, 3) := by decide +kernel
theorem dX7_ahead_9 : decode cX7_ahead 9 = .ok (.aload_n 0, 1) := by decide +kernel
theorem dX7_ahead_10 : decode cX7_ahead 10 = .ok (.iload_n 1, 1) := by decide +kernel
theorem dX7_ahead_11 : decode cX7_ahead 11 = .ok (.iload 4, 2) := by decide +kernel
theorem dX7_ahead_13 : decode cX7_ahead 13 = .ok (.invokevirtual 93, 3) := by decide +kernel
theorem dX7_ahead_16 : decode cX7_ahead 16 = .ok (.ifCond .eq 10, 3) := by decide +kernel
theorem dX7_ahead_19 : decode cX7_ahead 19 = .ok (.iload_n 2, 1) := by decide +kernel
theorem dX7_ahead_20 : decode cX7_ahead 20 = .ok (.invokestatic 102, 3) := by decide +kernel
theorem dX7_ahead_23 : decode cX7_ahead 23 = .ok (.ifCond .ne 5, 3) := by decide +kernel
theorem dX7_ahead_26 : decode cX7_ahead 26 = .ok (.iconst (-1), 1) := by decide +kernel
theorem dX7_ahead_27 : decode cX7_ahead 27 = .ok (.ireturn, 1) := by decide +kernel
theorem dX7_ahead_28 : decode cX7_ahead 28 = .ok (.aload_n 0, 1) := by decide +kernel
theorem dX7_ahead_29 : decode cX7_ahead 29 = .ok (.iload_n 1, 1) := by decide +kernel
theorem dX7_ahead_30 : decode cX7_ahead 30 = .ok (.iload_n 2, 1) := by decide +kernel
theorem dX7_ahead_31 : decode cX7_ahead 31 = .ok (.aload_n 0, 1) := by decide +kernel
theorem dX7_ahead_32 : decode cX7_ahead 32 = .ok (.iload_n 1, 1) := by decide +kernel
theorem dX7_ahead_33 : decode cX7_ahead 33 = .ok (.invokevirtual 105, 3) := by decide +kernel
theorem dX7_ahead_36 : decode cX7_ahead 36 = .ok (.iload_n 3, 1) := by decide +kernel
theorem dX7_ahead_37 : decode cX7_ahead 37 = .ok (.iload 4, 2) := by decide +kernel
theorem dX7_ahead_39 : decode cX7_ahead 39 = .ok (.invokevirtual 108, 3) := by decide +kernel
theorem dX7_ahead_42 : decode cX7_ahead 42 = .ok (.ifCond .eq 7, 3) := by decide +kernel
theorem dX7_ahead_45 : decode cX7_ahead 45 = .ok (.iconst 1, 1) := by decide +kernel
theorem dX7_ahead_46 : decode cX7_ahead 46 = .ok (.goto 4, 3) := by decide +kernel
theorem dX7_ahead_49 : decode cX7_ahead 49 = .ok (.iconst 0, 1) := by decide +kernel
theorem dX7_ahead_50 : decode cX7_ahead 50 = .ok (.ireturn, 1) := by decide +kernel
theorem dX7_begins_0 : decode cX7_begins 0 = .ok (.iconst 0, 1) := by decide +kernel
theorem dX7_begins_1 : decode cX7_begins 1 = .ok (.istore_n 1, 1) := by decide +kernel
theorem dX7_begins_2 : decode cX7_begins 2 = .ok (.iload_n 1, 1) := by decide +kernel
theorem dX7_begins_3 : decode cX7_begins 3 = .ok (.bipush 12, 2) := by decide +kernel
theorem dX7_begins_5 : decode cX7_begins 5 = .ok (.if_icmp .ge 16, 3) := by decide +kernel
theorem dX7_begins_8 : decode cX7_begins 8 = .ok (.aload_n 0, 1) := by decide +kernel
theorem dX7_begins_9 : decode cX7_begins 9 = .ok (.getfield 49, 3) := by decide +kernel
theorem dX7_begins_12 : decode cX7_begins 12 = .ok (.iload_n 1, 1) := by decide +kernel
theorem dX7_begins_13 : decode cX7_begins 13 = .ok (.iconst 0, 1) := by decide +kernel
theorem dX7_begins_14 : decode cX7_begins 14 = .ok (.iastore, 1) := by decide +kernel
theorem dX7_begins_15 : decode cX7_begins 15 = .ok (.iinc 1 1, 3) := by decide +kernel
theorem dX7_begins_18 : decode cX7_begins 18 = .ok (.goto (-16), 3) := by decide +kernel
theorem dX7_begins_21 : decode cX7_begins 21 = .ok (.return_, 1) := by decide +kernel
theorem dX7_comes_0 : decode cX7_comes 0 = .ok (.bipush 12, 2) := by decide +kernel
theorem dX7_comes_2 : decode cX7_comes 2 = .ok (.iload_n 3, 1) := by decide +kernel
theorem dX7_comes_3 : decode cX7_comes 3 = .ok (.imul, 1) := by decide +kernel
theorem dX7_comes_4 : decode cX7_comes 4 = .ok (.istore 4, 2) := by decide +kernel
theorem dX7_comes_6 : decode cX7_comes 6 = .ok (.iload 4, 2) := by decide +kernel
theorem dX7_comes_8 : decode cX7_comes 8 = .ok (.bipush 12, 2) := by decide +kernel
theorem dX7_comes_10 : decode cX7_comes 10 = .ok (.iadd, 1) := by decide +kernel
theorem dX7_comes_11 : decode cX7_comes 11 = .ok (.istore 5, 2) := by decide +kernel
theorem dX7_comes_13 : decode cX7_comes 13 = .ok (.bipush 10, 2) := by decide +kernel
theorem dX7_comes_15 : decode cX7_comes 15 = .ok (.iload_n 1, 1) := by decide +kernel
theorem dX7_comes_16 : decode cX7_comes 16 = .ok (.imul, 1) := by decide +kernel
theorem dX7_comes_17 : decode cX7_comes 17 = .ok (.iload_n 2, 1) := by decide +kernel
theorem dX7_comes_18 : decode cX7_comes 18 = .ok (.iadd, 1) := by decide +kernel
theorem dX7_comes_19 : decode cX7_comes 19 = .ok (.istore 6, 2) := by decide +kernel
theorem dX7_comes_21 : decode cX7_comes 21 = .ok (.aload_n 0, 1) := by decide +kernel
theorem dX7_comes_22 : decode cX7_comes 22 = .ok (.getfield 34, 3) := by decide +kernel
theorem dX7_comes_25 : decode cX7_comes 25 = .ok (.iload 6, 2) := by decide +kernel
theorem dX7_comes_27 : decode cX7_comes 27 = .ok (.iaload, 1) := by decide +kernel
theorem dX7_comes_28 : decode cX7_comes 28 = .ok (.istore 7, 2) := by decide +kernel
theorem dX7_comes_30 : decode cX7_comes 30 = .ok (.aload_n 0, 1) := by decide +kernel
theorem dX7_comes_31 : decode cX7_comes 31 = .ok (.getfield 37, 3) := by decide +kernel
theorem dX7_comes_34 : decode cX7_comes 34 = .ok (.iload 6, 2) := by decide +kernel
theorem dX7_comes_36 : decode cX7_comes 36 = .ok (.iaload, 1) := by decide +kernel
theorem dX7_comes_37 : decode cX7_comes 37 = .ok (.istore 8, 2) := by decide +kernel
theorem dX7_comes_39 : decode cX7_comes 39 = .ok (.iconst 0, 1) := by decide +kernel
theorem dX7_comes_40 : decode cX7_comes 40 = .ok (.istore 9, 2) := by decide +kernel
theorem dX7_comes_42 : decode cX7_comes 42 = .ok (.iload 9, 2) := by decide +kernel
theorem dX7_comes_44 : decode cX7_comes 44 = .ok (.bipush 12, 2) := by decide +kernel
theorem dX7_comes_46 : decode cX7_comes 46 = .ok (.if_icmp .ge 29, 3) := by decide +kernel
theorem dX7_comes_49 : decode cX7_comes 49 = .ok (.aload_n 0, 1) := by decide +kernel
theorem dX7_comes_50 : decode cX7_comes 50 = .ok (.getfield 49, 3) := by decide +kernel
theorem dX7_comes_53 : decode cX7_comes 53 = .ok (.iload 5, 2) := by decide +kernel
theorem dX7_comes_55 : decode cX7_comes 55 = .ok (.iload 9, 2) := by decide +kernel
theorem dX7_comes_57 : decode cX7_comes 57 = .ok (.iadd, 1) := by decide +kernel
theorem dX7_comes_58 : decode cX7_comes 58 = .ok (.aload_n 0, 1) := by decide +kernel
theorem dX7_comes_59 : decode cX7_comes 59 = .ok (.getfield 49, 3) := by decide +kernel
theorem dX7_comes_62 : decode cX7_comes 62 = .ok (.iload 4, 2) := by decide +kernel
theorem dX7_comes_64 : decode cX7_comes 64 = .ok (.iload 9, 2) := by decide +kernel
theorem dX7_comes_66 : decode cX7_comes 66 = .ok (.iadd, 1) := by decide +kernel
theorem dX7_comes_67 : decode cX7_comes 67 = .ok (.iaload, 1) := by decide +kernel
theorem dX7_comes_68 : decode cX7_comes 68 = .ok (.iastore, 1) := by decide +kernel
theorem dX7_comes_69 : decode cX7_comes 69 = .ok (.iinc 9 1, 3) := by decide +kernel
theorem dX7_comes_72 : decode cX7_comes 72 = .ok (.goto (-30), 3) := by decide +kernel
theorem dX7_comes_75 : decode cX7_comes 75 = .ok (.aload_n 0, 1) := by decide +kernel
theorem dX7_comes_76 : decode cX7_comes 76 = .ok (.getfield 16, 3) := by decide +kernel
theorem dX7_comes_79 : decode cX7_comes 79 = .ok (.iload_n 1, 1) := by decide +kernel
theorem dX7_comes_80 : decode cX7_comes 80 = .ok (.iaload, 1) := by decide +kernel
theorem dX7_comes_81 : decode cX7_comes 81 = .ok (.tableswitch 237 0 5 #[39, 59, 94, 94, 125, 210], 39) := by decide +kernel
theorem dX7_comes_120 : decode cX7_comes 120 = .ok (.aload_n 0, 1) := by decide +kernel
theorem dX7_comes_121 : decode cX7_comes 121 = .ok (.iload 5, 2) := by decide +kernel
theorem dX7_comes_123 : decode cX7_comes 123 = .ok (.aload_n 0, 1) := by decide +kernel
theorem dX7_comes_124 : decode cX7_comes 124 = .ok (.getfield 31, 3) := by decide +kernel
theorem dX7_comes_127 : decode cX7_comes 127 = .ok (.iload 6, 2) := by decide +kernel
theorem dX7_comes_129 : decode cX7_comes 129 = .ok (.iaload, 1) := by decide +kernel
theorem dX7_comes_130 : decode cX7_comes 130 = .ok (.iload 7, 2) := by decide +kernel
theorem dX7_comes_132 : decode cX7_comes 132 = .ok (.iload 7, 2) := by decide +kernel
theorem dX7_comes_134 : decode cX7_comes 134 = .ok (.iload 8, 2) := by decide +kernel
theorem dX7_comes_136 : decode cX7_comes 136 = .ok (.invokevirtual 112, 3) := by decide +kernel
theorem dX7_comes_139 : decode cX7_comes 139 = .ok (.ireturn, 1) := by decide +kernel
theorem dX7_comes_140 : decode cX7_comes 140 = .ok (.aload_n 0, 1) := by decide +kernel
theorem dX7_comes_141 : decode cX7_comes 141 = .ok (.getfield 49, 3) := by decide +kernel
theorem dX7_comes_144 : decode cX7_comes 144 = .ok (.iload 5, 2) := by decide +kernel
theorem dX7_comes_146 : decode cX7_comes 146 = .ok (.dup2, 1) := by decide +kernel
theorem dX7_comes_147 : decode cX7_comes 147 = .ok (.iaload, 1) := by decide +kernel
theorem dX7_comes_148 : decode cX7_comes 148 = .ok (.aload_n 0, 1) := by decide +kernel
theorem dX7_comes_149 : decode cX7_comes 149 = .ok (.getfield 31, 3) := by decide +kernel
theorem dX7_comes_152 : decode cX7_comes 152 = .ok (.iload 6, 2) := by decide +kernel
theorem dX7_comes_154 : decode cX7_comes 154 = .ok (.iaload, 1) := by decide +kernel
theorem dX7_comes_155 : decode cX7_comes 155 = .ok (.iconst 1, 1) := by decide +kernel
theorem dX7_comes_156 : decode cX7_comes 156 = .ok (.if_icmp .ne 8, 3) := by decide +kernel
theorem dX7_comes_159 : decode cX7_comes 159 = .ok (.iload 7, 2) := by decide +kernel
theorem dX7_comes_161 : decode cX7_comes 161 = .ok (.goto 4, 3) := by decide +kernel
theorem dX7_comes_164 : decode cX7_comes 164 = .ok (.iconst 0, 1) := by decide +kernel
theorem dX7_comes_165 : decode cX7_comes 165 = .ok (.iadd, 1) := by decide +kernel
theorem dX7_comes_166 : decode cX7_comes 166 = .ok (.iastore, 1) := by decide +kernel
theorem dX7_comes_167 : decode cX7_comes 167 = .ok (.aload_n 0, 1) := by decide +kernel
theorem dX7_comes_168 : decode cX7_comes 168 = .ok (.getfield 49, 3) := by decide +kernel
theorem dX7_comes_171 : decode cX7_comes 171 = .ok (.iload 5, 2) := by decide +kernel
theorem dX7_comes_173 : decode cX7_comes 173 = .ok (.iaload, 1) := by decide +kernel
theorem dX7_comes_174 : decode cX7_comes 174 = .ok (.ireturn, 1) := by decide +kernel
theorem dX7_comes_175 : decode cX7_comes 175 = .ok (.aload_n 0, 1) := by decide +kernel
theorem dX7_comes_176 : decode cX7_comes 176 = .ok (.iload 5, 2) := by decide +kernel
theorem dX7_comes_178 : decode cX7_comes 178 = .ok (.aload_n 0, 1) := by decide +kernel
theorem dX7_comes_179 : decode cX7_comes 179 = .ok (.getfield 16, 3) := by decide +kernel
theorem dX7_comes_182 : decode cX7_comes 182 = .ok (.iload_n 1, 1) := by decide +kernel
theorem dX7_comes_183 : decode cX7_comes 183 = .ok (.iaload, 1) := by decide +kernel
theorem dX7_comes_184 : decode cX7_comes 184 = .ok (.iconst 2, 1) := by decide +kernel
theorem dX7_comes_185 : decode cX7_comes 185 = .ok (.if_icmp .ne 7, 3) := by decide +kernel
theorem dX7_comes_188 : decode cX7_comes 188 = .ok (.iconst 1, 1) := by decide +kernel
theorem dX7_comes_189 : decode cX7_comes 189 = .ok (.goto 4, 3) := by decide +kernel
theorem dX7_comes_192 : decode cX7_comes 192 = .ok (.iconst 0, 1) := by decide +kernel
theorem dX7_comes_193 : decode cX7_comes 193 = .ok (.aload_n 0, 1) := by decide +kernel
theorem dX7_comes_194 : decode cX7_comes 194 = .ok (.getfield 31, 3) := by decide +kernel
theorem dX7_comes_197 : decode cX7_comes 197 = .ok (.iload 6, 2) := by decide +kernel
theorem dX7_comes_199 : decode cX7_comes 199 = .ok (.iaload, 1) := by decide +kernel
theorem dX7_comes_200 : decode cX7_comes 200 = .ok (.iload 7, 2) := by decide +kernel
theorem dX7_comes_202 : decode cX7_comes 202 = .ok (.invokevirtual 116, 3) := by decide +kernel
theorem dX7_comes_205 : decode cX7_comes 205 = .ok (.ireturn, 1) := by decide +kernel
theorem dX7_comes_206 : decode cX7_comes 206 = .ok (.aload_n 0, 1) := by decide +kernel
theorem dX7_comes_207 : decode cX7_comes 207 = .ok (.getfield 49, 3) := by decide +kernel
theorem dX7_comes_210 : decode cX7_comes 210 = .ok (.iload 5, 2) := by decide +kernel
theorem dX7_comes_212 : decode cX7_comes 212 = .ok (.iaload, 1) := by decide +kernel
theorem dX7_comes_213 : decode cX7_comes 213 = .ok (.iload 7, 2) := by decide +kernel
theorem dX7_comes_215 : decode cX7_comes 215 = .ok (.ishr, 1) := by decide +kernel
theorem dX7_comes_216 : decode cX7_comes 216 = .ok (.iconst 1, 1) := by decide +kernel
theorem dX7_comes_217 : decode cX7_comes 217 = .ok (.iand, 1) := by decide +kernel
theorem dX7_comes_218 : decode cX7_comes 218 = .ok (.istore 9, 2) := by decide +kernel
theorem dX7_comes_220 : decode cX7_comes 220 = .ok (.aload_n 0, 1) := by decide +kernel
theorem dX7_comes_221 : decode cX7_comes 221 = .ok (.getfield 31, 3) := by decide +kernel
theorem dX7_comes_224 : decode cX7_comes 224 = .ok (.iload 6, 2) := by decide +kernel
theorem dX7_comes_226 : decode cX7_comes 226 = .ok (.iaload, 1) := by decide +kernel
theorem dX7_comes_227 : decode cX7_comes 227 = .ok (.ifCond .ne 17, 3) := by decide +kernel
theorem dX7_comes_230 : decode cX7_comes 230 = .ok (.aload_n 0, 1) := by decide +kernel
theorem dX7_comes_231 : decode cX7_comes 231 = .ok (.getfield 49, 3) := by decide +kernel
theorem dX7_comes_234 : decode cX7_comes 234 = .ok (.iload 5, 2) := by decide +kernel
theorem dX7_comes_236 : decode cX7_comes 236 = .ok (.dup2, 1) := by decide +kernel
theorem dX7_comes_237 : decode cX7_comes 237 = .ok (.iaload, 1) := by decide +kernel
theorem dX7_comes_238 : decode cX7_comes 238 = .ok (.iconst 1, 1) := by decide +kernel
theorem dX7_comes_239 : decode cX7_comes 239 = .ok (.iload 7, 2) := by decide +kernel
theorem dX7_comes_241 : decode cX7_comes 241 = .ok (.ishl, 1) := by decide +kernel
theorem dX7_comes_242 : decode cX7_comes 242 = .ok (.ior, 1) := by decide +kernel
theorem dX7_comes_243 : decode cX7_comes 243 = .ok (.iastore, 1) := by decide +kernel
theorem dX7_comes_244 : decode cX7_comes 244 = .ok (.aload_n 0, 1) := by decide +kernel
theorem dX7_comes_245 : decode cX7_comes 245 = .ok (.getfield 31, 3) := by decide +kernel
theorem dX7_comes_248 : decode cX7_comes 248 = .ok (.iload 6, 2) := by decide +kernel
theorem dX7_comes_250 : decode cX7_comes 250 = .ok (.iaload, 1) := by decide +kernel
theorem dX7_comes_251 : decode cX7_comes 251 = .ok (.iconst 1, 1) := by decide +kernel
theorem dX7_comes_252 : decode cX7_comes 252 = .ok (.if_icmp .ne 19, 3) := by decide +kernel
theorem dX7_comes_255 : decode cX7_comes 255 = .ok (.aload_n 0, 1) := by decide +kernel
theorem dX7_comes_256 : decode cX7_comes 256 = .ok (.getfield 49, 3) := by decide +kernel
theorem dX7_comes_259 : decode cX7_comes 259 = .ok (.iload 5, 2) := by decide +kernel
theorem dX7_comes_261 : decode cX7_comes 261 = .ok (.dup2, 1) := by decide +kernel
theorem dX7_comes_262 : decode cX7_comes 262 = .ok (.iaload, 1) := by decide +kernel
theorem dX7_comes_263 : decode cX7_comes 263 = .ok (.iconst 1, 1) := by decide +kernel
theorem dX7_comes_264 : decode cX7_comes 264 = .ok (.iload 7, 2) := by decide +kernel
theorem dX7_comes_266 : decode cX7_comes 266 = .ok (.ishl, 1) := by decide +kernel
theorem dX7_comes_267 : decode cX7_comes 267 = .ok (.iconst (-1), 1) := by decide +kernel
theorem dX7_comes_268 : decode cX7_comes 268 = .ok (.ixor, 1) := by decide +kernel
theorem dX7_comes_269 : decode cX7_comes 269 = .ok (.iand, 1) := by decide +kernel
theorem dX7_comes_270 : decode cX7_comes 270 = .ok (.iastore, 1) := by decide +kernel
theorem dX7_comes_271 : decode cX7_comes 271 = .ok (.aload_n 0, 1) := by decide +kernel
theorem dX7_comes_272 : decode cX7_comes 272 = .ok (.getfield 31, 3) := by decide +kernel
theorem dX7_comes_275 : decode cX7_comes 275 = .ok (.iload 6, 2) := by decide +kernel
theorem dX7_comes_277 : decode cX7_comes 277 = .ok (.iaload, 1) := by decide +kernel
theorem dX7_comes_278 : decode cX7_comes 278 = .ok (.ifCond .ne 10, 3) := by decide +kernel
theorem dX7_comes_281 : decode cX7_comes 281 = .ok (.iconst 1, 1) := by decide +kernel
theorem dX7_comes_282 : decode cX7_comes 282 = .ok (.iload 9, 2) := by decide +kernel
theorem dX7_comes_284 : decode cX7_comes 284 = .ok (.isub, 1) := by decide +kernel
theorem dX7_comes_285 : decode cX7_comes 285 = .ok (.goto 5, 3) := by decide +kernel
theorem dX7_comes_288 : decode cX7_comes 288 = .ok (.iload 9, 2) := by decide +kernel
theorem dX7_comes_290 : decode cX7_comes 290 = .ok (.ireturn, 1) := by decide +kernel
theorem dX7_comes_291 : decode cX7_comes 291 = .ok (.aload_n 0, 1) := by decide +kernel
theorem dX7_comes_292 : decode cX7_comes 292 = .ok (.iload 5, 2) := by decide +kernel
theorem dX7_comes_294 : decode cX7_comes 294 = .ok (.iload 7, 2) := by decide +kernel
theorem dX7_comes_296 : decode cX7_comes 296 = .ok (.iadd, 1) := by decide +kernel
theorem dX7_comes_297 : decode cX7_comes 297 = .ok (.aload_n 0, 1) := by decide +kernel
theorem dX7_comes_298 : decode cX7_comes 298 = .ok (.getfield 31, 3) := by decide +kernel
theorem dX7_comes_301 : decode cX7_comes 301 = .ok (.iload 6, 2) := by decide +kernel
theorem dX7_comes_303 : decode cX7_comes 303 = .ok (.iaload, 1) := by decide +kernel
theorem dX7_comes_304 : decode cX7_comes 304 = .ok (.iload 8, 2) := by decide +kernel
theorem dX7_comes_306 : decode cX7_comes 306 = .ok (.iload 8, 2) := by decide +kernel
theorem dX7_comes_308 : decode cX7_comes 308 = .ok (.bipush 16, 2) := by decide +kernel
theorem dX7_comes_310 : decode cX7_comes 310 = .ok (.ishr, 1) := by decide +kernel
theorem dX7_comes_311 : decode cX7_comes 311 = .ok (.iload 8, 2) := by decide +kernel
theorem dX7_comes_313 : decode cX7_comes 313 = .ok (.i2s, 1) := by decide +kernel
theorem dX7_comes_314 : decode cX7_comes 314 = .ok (.invokevirtual 112, 3) := by decide +kernel
theorem dX7_comes_317 : decode cX7_comes 317 = .ok (.ireturn, 1) := by decide +kernel
theorem dX7_comes_318 : decode cX7_comes 318 = .ok (.bipush 32, 2) := by decide +kernel
theorem dX7_comes_320 : decode cX7_comes 320 = .ok (.aload_n 0, 1) := by decide +kernel
theorem dX7_comes_321 : decode cX7_comes 321 = .ok (.getfield 19, 3) := by decide +kernel
theorem dX7_comes_324 : decode cX7_comes 324 = .ok (.iload_n 1, 1) := by decide +kernel
theorem dX7_comes_325 : decode cX7_comes 325 = .ok (.iaload, 1) := by decide +kernel
theorem dX7_comes_326 : decode cX7_comes 326 = .ok (.imul, 1) := by decide +kernel
theorem dX7_comes_327 : decode cX7_comes 327 = .ok (.iconst 4, 1) := by decide +kernel
theorem dX7_comes_328 : decode cX7_comes 328 = .ok (.aload_n 0, 1) := by decide +kernel
theorem dX7_comes_329 : decode cX7_comes 329 = .ok (.getfield 49, 3) := by decide +kernel
theorem dX7_comes_332 : decode cX7_comes 332 = .ok (.iload 5, 2) := by decide +kernel
theorem dX7_comes_334 : decode cX7_comes 334 = .ok (.iaload, 1) := by decide +kernel
theorem dX7_comes_335 : decode cX7_comes 335 = .ok (.imul, 1) := by decide +kernel
theorem dX7_comes_336 : decode cX7_comes 336 = .ok (.iadd, 1) := by decide +kernel
theorem dX7_comes_337 : decode cX7_comes 337 = .ok (.aload_n 0, 1) := by decide +kernel
theorem dX7_comes_338 : decode cX7_comes 338 = .ok (.getfield 31, 3) := by decide +kernel
theorem dX7_comes_341 : decode cX7_comes 341 = .ok (.iload 6, 2) := by decide +kernel
theorem dX7_comes_343 : decode cX7_comes 343 = .ok (.iaload, 1) := by decide +kernel
theorem dX7_comes_344 : decode cX7_comes 344 = .ok (.iadd, 1) := by decide +kernel
theorem dX7_comes_345 : decode cX7_comes 345 = .ok (.istore 10, 2) := by decide +kernel
theorem dX7_comes_347 : decode cX7_comes 347 = .ok (.aload_n 0, 1) := by decide +kernel
theorem dX7_comes_348 : decode cX7_comes 348 = .ok (.getfield 49, 3) := by decide +kernel
theorem dX7_comes_351 : decode cX7_comes 351 = .ok (.iload 5, 2) := by decide +kernel
theorem dX7_comes_353 : decode cX7_comes 353 = .ok (.aload_n 0, 1) := by decide +kernel
theorem dX7_comes_354 : decode cX7_comes 354 = .ok (.getfield 13, 3) := by decide +kernel
theorem dX7_comes_357 : decode cX7_comes 357 = .ok (.iload 10, 2) := by decide +kernel
theorem dX7_comes_359 : decode cX7_comes 359 = .ok (.iaload, 1) := by decide +kernel
theorem dX7_comes_360 : decode cX7_comes 360 = .ok (.iastore, 1) := by decide +kernel
theorem dX7_comes_361 : decode cX7_comes 361 = .ok (.aload_n 0, 1) := by decide +kernel
theorem dX7_comes_362 : decode cX7_comes 362 = .ok (.getfield 7, 3) := by decide +kernel
theorem dX7_comes_365 : decode cX7_comes 365 = .ok (.iload 10, 2) := by decide +kernel
theorem dX7_comes_367 : decode cX7_comes 367 = .ok (.iaload, 1) := by decide +kernel
theorem dX7_comes_368 : decode cX7_comes 368 = .ok (.ireturn, 1) := by decide +kernel
end
section
theorem dX7_cell_0 : decode cX7_cell 0 = .ok (.iload_n 2, 1) := by decide +kernel
theorem dX7_cell_1 : decode cX7_cell 1 = .ok (.ifCond .ne 10, 3) := by decide +kernel
theorem dX7_cell_4 : decode cX7_cell 4 = .ok (.aload_n 0, 1) := by decide +kernel
theorem dX7_cell_5 : decode cX7_cell 5 = .ok (.getfield 49, 3) := by decide +kernel
theorem dX7_cell_8 : decode cX7_cell 8 = .ok (.iload_n 1, 1) := by decide +kernel
theorem dX7_cell_9 : decode cX7_cell 9 = .ok (.iaload, 1) := by decide +kernel
theorem dX7_cell_10 : decode cX7_cell 10 = .ok (.ireturn, 1) := by decide +kernel
theorem dX7_cell_11 : decode cX7_cell 11 = .ok (.iload_n 2, 1) := by decide +kernel
theorem dX7_cell_12 : decode cX7_cell 12 = .ok (.iconst 1, 1) := by decide +kernel
theorem dX7_cell_13 : decode cX7_cell 13 = .ok (.if_icmp .ne 12, 3) := by decide +kernel
theorem dX7_cell_16 : decode cX7_cell 16 = .ok (.aload_n 0, 1) := by decide +kernel
theorem dX7_cell_17 : decode cX7_cell 17 = .ok (.getfield 49, 3) := by decide +kernel
theorem dX7_cell_20 : decode cX7_cell 20 = .ok (.iload_n 1, 1) := by decide +kernel
theorem dX7_cell_21 : decode cX7_cell 21 = .ok (.iload_n 3, 1) := by decide +kernel
theorem dX7_cell_22 : decode cX7_cell 22 = .ok (.iastore, 1) := by decide +kernel
theorem dX7_cell_23 : decode cX7_cell 23 = .ok (.iconst 0, 1) := by decide +kernel
theorem dX7_cell_24 : decode cX7_cell 24 = .ok (.ireturn, 1) := by decide +kernel
theorem dX7_cell_25 : decode cX7_cell 25 = .ok (.aload_n 0, 1) := by decide +kernel
theorem dX7_cell_26 : decode cX7_cell 26 = .ok (.getfield 49, 3) := by decide +kernel
theorem dX7_cell_29 : decode cX7_cell 29 = .ok (.iload_n 1, 1) := by decide +kernel
theorem dX7_cell_30 : decode cX7_cell 30 = .ok (.iaload, 1) := by decide +kernel
theorem dX7_cell_31 : decode cX7_cell 31 = .ok (.iload 4, 2) := by decide +kernel
theorem dX7_cell_33 : decode cX7_cell 33 = .ok (.if_icmp .eq 5, 3) := by decide +kernel
theorem dX7_cell_36 : decode cX7_cell 36 = .ok (.iconst 0, 1) := by decide +kernel
theorem dX7_cell_37 : decode cX7_cell 37 = .ok (.ireturn, 1) := by decide +kernel
theorem dX7_cell_38 : decode cX7_cell 38 = .ok (.aload_n 0, 1) := by decide +kernel
theorem dX7_cell_39 : decode cX7_cell 39 = .ok (.getfield 49, 3) := by decide +kernel
theorem dX7_cell_42 : decode cX7_cell 42 = .ok (.iload_n 1, 1) := by decide +kernel
theorem dX7_cell_43 : decode cX7_cell 43 = .ok (.iload 5, 2) := by decide +kernel
theorem dX7_cell_45 : decode cX7_cell 45 = .ok (.iastore, 1) := by decide +kernel
theorem dX7_cell_46 : decode cX7_cell 46 = .ok (.iconst 1, 1) := by decide +kernel
theorem dX7_cell_47 : decode cX7_cell 47 = .ok (.ireturn, 1) := by decide +kernel
theorem dX7_line_0 : decode cX7_line 0 = .ok (.aload_n 0, 1) := by decide +kernel
theorem dX7_line_1 : decode cX7_line 1 = .ok (.getfield 49, 3) := by decide +kernel
theorem dX7_line_4 : decode cX7_line 4 = .ok (.iload_n 1, 1) := by decide +kernel
theorem dX7_line_5 : decode cX7_line 5 = .ok (.bipush 11, 2) := by decide +kernel
theorem dX7_line_7 : decode cX7_line 7 = .ok (.iadd, 1) := by decide +kernel
theorem dX7_line_8 : decode cX7_line 8 = .ok (.iaload, 1) := by decide +kernel
theorem dX7_line_9 : decode cX7_line 9 = .ok (.istore 5, 2) := by decide +kernel
theorem dX7_line_11 : decode cX7_line 11 = .ok (.iload_n 3, 1) := by decide +kernel
theorem dX7_line_12 : decode cX7_line 12 = .ok (.ifCond .ne 32, 3) := by decide +kernel
theorem dX7_line_15 : decode cX7_line 15 = .ok (.aload_n 0, 1) := by decide +kernel
theorem dX7_line_16 : decode cX7_line 16 = .ok (.getfield 49, 3) := by decide +kernel
theorem dX7_line_19 : decode cX7_line 19 = .ok (.iload_n 1, 1) := by decide +kernel
theorem dX7_line_20 : decode cX7_line 20 = .ok (.iload 5, 2) := by decide +kernel
theorem dX7_line_22 : decode cX7_line 22 = .ok (.iadd, 1) := by decide +kernel
theorem dX7_line_23 : decode cX7_line 23 = .ok (.iload 4, 2) := by decide +kernel
theorem dX7_line_25 : decode cX7_line 25 = .ok (.iastore, 1) := by decide +kernel
theorem dX7_line_26 : decode cX7_line 26 = .ok (.aload_n 0, 1) := by decide +kernel
theorem dX7_line_27 : decode cX7_line 27 = .ok (.getfield 49, 3) := by decide +kernel
theorem dX7_line_30 : decode cX7_line 30 = .ok (.iload_n 1, 1) := by decide +kernel
theorem dX7_line_31 : decode cX7_line 31 = .ok (.bipush 11, 2) := by decide +kernel
theorem dX7_line_33 : decode cX7_line 33 = .ok (.iadd, 1) := by decide +kernel
theorem dX7_line_34 : decode cX7_line 34 = .ok (.iload 5, 2) := by decide +kernel
theorem dX7_line_36 : decode cX7_line 36 = .ok (.iconst 1, 1) := by decide +kernel
theorem dX7_line_37 : decode cX7_line 37 = .ok (.iadd, 1) := by decide +kernel
theorem dX7_line_38 : decode cX7_line 38 = .ok (.iastore, 1) := by decide +kernel
theorem dX7_line_39 : decode cX7_line 39 = .ok (.iload 5, 2) := by decide +kernel
theorem dX7_line_41 : decode cX7_line 41 = .ok (.iconst 1, 1) := by decide +kernel
theorem dX7_line_42 : decode cX7_line 42 = .ok (.iadd, 1) := by decide +kernel
theorem dX7_line_43 : decode cX7_line 43 = .ok (.ireturn, 1) := by decide +kernel
theorem dX7_line_44 : decode cX7_line 44 = .ok (.iload 5, 2) := by decide +kernel
theorem dX7_line_46 : decode cX7_line 46 = .ok (.ifCond .ne 5, 3) := by decide +kernel
theorem dX7_line_49 : decode cX7_line 49 = .ok (.iconst (-1), 1) := by decide +kernel
theorem dX7_line_50 : decode cX7_line 50 = .ok (.ireturn, 1) := by decide +kernel
theorem dX7_line_51 : decode cX7_line 51 = .ok (.iload_n 2, 1) := by decide +kernel
theorem dX7_line_52 : decode cX7_line 52 = .ok (.ifCond .eq 12, 3) := by decide +kernel
theorem dX7_line_55 : decode cX7_line 55 = .ok (.aload_n 0, 1) := by decide +kernel
theorem dX7_line_56 : decode cX7_line 56 = .ok (.getfield 49, 3) := by decide +kernel
theorem dX7_line_59 : decode cX7_line 59 = .ok (.iload_n 1, 1) := by decide +kernel
theorem dX7_line_60 : decode cX7_line 60 = .ok (.iaload, 1) := by decide +kernel
theorem dX7_line_61 : decode cX7_line 61 = .ok (.goto 14, 3) := by decide +kernel
theorem dX7_line_64 : decode cX7_line 64 = .ok (.aload_n 0, 1) := by decide +kernel
theorem dX7_line_65 : decode cX7_line 65 = .ok (.getfield 49, 3) := by decide +kernel
theorem dX7_line_68 : decode cX7_line 68 = .ok (.iload_n 1, 1) := by decide +kernel
theorem dX7_line_69 : decode cX7_line 69 = .ok (.iload 5, 2) := by decide +kernel
theorem dX7_line_71 : decode cX7_line 71 = .ok (.iadd, 1) := by decide +kernel
theorem dX7_line_72 : decode cX7_line 72 = .ok (.iconst 1, 1) := by decide +kernel
theorem dX7_line_73 : decode cX7_line 73 = .ok (.isub, 1) := by decide +kernel
theorem dX7_line_74 : decode cX7_line 74 = .ok (.iaload, 1) := by decide +kernel
theorem dX7_line_75 : decode cX7_line 75 = .ok (.istore 6, 2) := by decide +kernel
theorem dX7_line_77 : decode cX7_line 77 = .ok (.iconst 0, 1) := by decide +kernel
theorem dX7_line_78 : decode cX7_line 78 = .ok (.istore 7, 2) := by decide +kernel
theorem dX7_line_80 : decode cX7_line 80 = .ok (.iload 7, 2) := by decide +kernel
theorem dX7_line_82 : decode cX7_line 82 = .ok (.iconst 1, 1) := by decide +kernel
theorem dX7_line_83 : decode cX7_line 83 = .ok (.iadd, 1) := by decide +kernel
theorem dX7_line_84 : decode cX7_line 84 = .ok (.iload 5, 2) := by decide +kernel
theorem dX7_line_86 : decode cX7_line 86 = .ok (.if_icmp .ge 33, 3) := by decide +kernel
theorem dX7_line_89 : decode cX7_line 89 = .ok (.iload_n 2, 1) := by decide +kernel
theorem dX7_line_90 : decode cX7_line 90 = .ok (.ifCond .eq 29, 3) := by decide +kernel
theorem dX7_line_93 : decode cX7_line 93 = .ok (.aload_n 0, 1) := by decide +kernel
theorem dX7_line_94 : decode cX7_line 94 = .ok (.getfield 49, 3) := by decide +kernel
theorem dX7_line_97 : decode cX7_line 97 = .ok (.iload_n 1, 1) := by decide +kernel
theorem dX7_line_98 : decode cX7_line 98 = .ok (.iload 7, 2) := by decide +kernel
theorem dX7_line_100 : decode cX7_line 100 = .ok (.iadd, 1) := by decide +kernel
theorem dX7_line_101 : decode cX7_line 101 = .ok (.aload_n 0, 1) := by decide +kernel
theorem dX7_line_102 : decode cX7_line 102 = .ok (.getfield 49, 3) := by decide +kernel
theorem dX7_line_105 : decode cX7_line 105 = .ok (.iload_n 1, 1) := by decide +kernel
theorem dX7_line_106 : decode cX7_line 106 = .ok (.iload 7, 2) := by decide +kernel
theorem dX7_line_108 : decode cX7_line 108 = .ok (.iadd, 1) := by decide +kernel
theorem dX7_line_109 : decode cX7_line 109 = .ok (.iconst 1, 1) := by decide +kernel
theorem dX7_line_110 : decode cX7_line 110 = .ok (.iadd, 1) := by decide +kernel
theorem dX7_line_111 : decode cX7_line 111 = .ok (.iaload, 1) := by decide +kernel
theorem dX7_line_112 : decode cX7_line 112 = .ok (.iastore, 1) := by decide +kernel
theorem dX7_line_113 : decode cX7_line 113 = .ok (.iinc 7 1, 3) := by decide +kernel
theorem dX7_line_116 : decode cX7_line 116 = .ok (.goto (-36), 3) := by decide +kernel
theorem dX7_line_119 : decode cX7_line 119 = .ok (.aload_n 0, 1) := by decide +kernel
theorem dX7_line_120 : decode cX7_line 120 = .ok (.getfield 49, 3) := by decide +kernel
theorem dX7_line_123 : decode cX7_line 123 = .ok (.iload_n 1, 1) := by decide +kernel
theorem dX7_line_124 : decode cX7_line 124 = .ok (.iload 5, 2) := by decide +kernel
theorem dX7_line_126 : decode cX7_line 126 = .ok (.iadd, 1) := by decide +kernel
theorem dX7_line_127 : decode cX7_line 127 = .ok (.iconst 1, 1) := by decide +kernel
theorem dX7_line_128 : decode cX7_line 128 = .ok (.isub, 1) := by decide +kernel
theorem dX7_line_129 : decode cX7_line 129 = .ok (.iconst 0, 1) := by decide +kernel
theorem dX7_line_130 : decode cX7_line 130 = .ok (.iastore, 1) := by decide +kernel
theorem dX7_line_131 : decode cX7_line 131 = .ok (.aload_n 0, 1) := by decide +kernel
theorem dX7_line_132 : decode cX7_line 132 = .ok (.getfield 49, 3) := by decide +kernel
theorem dX7_line_135 : decode cX7_line 135 = .ok (.iload_n 1, 1) := by decide +kernel
theorem dX7_line_136 : decode cX7_line 136 = .ok (.bipush 11, 2) := by decide +kernel
theorem dX7_line_138 : decode cX7_line 138 = .ok (.iadd, 1) := by decide +kernel
theorem dX7_line_139 : decode cX7_line 139 = .ok (.iload 5, 2) := by decide +kernel
theorem dX7_line_141 : decode cX7_line 141 = .ok (.iconst 1, 1) := by decide +kernel
theorem dX7_line_142 : decode cX7_line 142 = .ok (.isub, 1) := by decide +kernel
theorem dX7_line_143 : decode cX7_line 143 = .ok (.iastore, 1) := by decide +kernel
theorem dX7_line_144 : decode cX7_line 144 = .ok (.iload 6, 2) := by decide +kernel
theorem dX7_line_146 : decode cX7_line 146 = .ok (.ireturn, 1) := by decide +kernel
theorem dX7_prepare_0 : decode cX7_prepare 0 = .ok (.iconst 0, 1) := by decide +kernel
theorem dX7_prepare_1 : decode cX7_prepare 1 = .ok (.istore 4, 2) := by decide +kernel
theorem dX7_prepare_3 : decode cX7_prepare 3 = .ok (.iload 4, 2) := by decide +kernel
theorem dX7_prepare_5 : decode cX7_prepare 5 = .ok (.aload_n 0, 1) := by decide +kernel
theorem dX7_prepare_6 : decode cX7_prepare 6 = .ok (.getfield 22, 3) := by decide +kernel
theorem dX7_prepare_9 : decode cX7_prepare 9 = .ok (.iload_n 1, 1) := by decide +kernel
theorem dX7_prepare_10 : decode cX7_prepare 10 = .ok (.iaload, 1) := by decide +kernel
theorem dX7_prepare_11 : decode cX7_prepare 11 = .ok (.if_icmp .ge 75, 3) := by decide +kernel
theorem dX7_prepare_14 : decode cX7_prepare 14 = .ok (.aload_n 0, 1) := by decide +kernel
theorem dX7_prepare_15 : decode cX7_prepare 15 = .ok (.getfield 58, 3) := by decide +kernel
theorem dX7_prepare_18 : decode cX7_prepare 18 = .ok (.iload 4, 2) := by decide +kernel
theorem dX7_prepare_20 : decode cX7_prepare 20 = .ok (.iconst 0, 1) := by decide +kernel
theorem dX7_prepare_21 : decode cX7_prepare 21 = .ok (.iastore, 1) := by decide +kernel
theorem dX7_prepare_22 : decode cX7_prepare 22 = .ok (.iconst 0, 1) := by decide +kernel
theorem dX7_prepare_23 : decode cX7_prepare 23 = .ok (.istore 5, 2) := by decide +kernel
theorem dX7_prepare_25 : decode cX7_prepare 25 = .ok (.iload 5, 2) := by decide +kernel
theorem dX7_prepare_27 : decode cX7_prepare 27 = .ok (.aload_n 0, 1) := by decide +kernel
theorem dX7_prepare_28 : decode cX7_prepare 28 = .ok (.getfield 22, 3) := by decide +kernel
theorem dX7_prepare_31 : decode cX7_prepare 31 = .ok (.iload_n 1, 1) := by decide +kernel
theorem dX7_prepare_32 : decode cX7_prepare 32 = .ok (.iaload, 1) := by decide +kernel
theorem dX7_prepare_33 : decode cX7_prepare 33 = .ok (.if_icmp .ge 47, 3) := by decide +kernel
theorem dX7_prepare_36 : decode cX7_prepare 36 = .ok (.iload_n 3, 1) := by decide +kernel
theorem dX7_prepare_37 : decode cX7_prepare 37 = .ok (.iload 5, 2) := by decide +kernel
theorem dX7_prepare_39 : decode cX7_prepare 39 = .ok (.ishr, 1) := by decide +kernel
theorem dX7_prepare_40 : decode cX7_prepare 40 = .ok (.iconst 1, 1) := by decide +kernel
theorem dX7_prepare_41 : decode cX7_prepare 41 = .ok (.iand, 1) := by decide +kernel
theorem dX7_prepare_42 : decode cX7_prepare 42 = .ok (.iconst 1, 1) := by decide +kernel
theorem dX7_prepare_43 : decode cX7_prepare 43 = .ok (.if_icmp .ne 31, 3) := by decide +kernel
theorem dX7_prepare_46 : decode cX7_prepare 46 = .ok (.aload_n 0, 1) := by decide +kernel
theorem dX7_prepare_47 : decode cX7_prepare 47 = .ok (.iload_n 1, 1) := by decide +kernel
theorem dX7_prepare_48 : decode cX7_prepare 48 = .ok (.iload_n 2, 1) := by decide +kernel
theorem dX7_prepare_49 : decode cX7_prepare 49 = .ok (.iload_n 3, 1) := by decide +kernel
theorem dX7_prepare_50 : decode cX7_prepare 50 = .ok (.iload 5, 2) := by decide +kernel
theorem dX7_prepare_52 : decode cX7_prepare 52 = .ok (.iload 4, 2) := by decide +kernel
theorem dX7_prepare_54 : decode cX7_prepare 54 = .ok (.invokevirtual 108, 3) := by decide +kernel
theorem dX7_prepare_57 : decode cX7_prepare 57 = .ok (.ifCond .eq 17, 3) := by decide +kernel
theorem dX7_prepare_60 : decode cX7_prepare 60 = .ok (.aload_n 0, 1) := by decide +kernel
theorem dX7_prepare_61 : decode cX7_prepare 61 = .ok (.getfield 58, 3) := by decide +kernel
theorem dX7_prepare_64 : decode cX7_prepare 64 = .ok (.iload 4, 2) := by decide +kernel
theorem dX7_prepare_66 : decode cX7_prepare 66 = .ok (.dup2, 1) := by decide +kernel
theorem dX7_prepare_67 : decode cX7_prepare 67 = .ok (.iaload, 1) := by decide +kernel
theorem dX7_prepare_68 : decode cX7_prepare 68 = .ok (.iconst 1, 1) := by decide +kernel
theorem dX7_prepare_69 : decode cX7_prepare 69 = .ok (.iload 5, 2) := by decide +kernel
theorem dX7_prepare_71 : decode cX7_prepare 71 = .ok (.ishl, 1) := by decide +kernel
theorem dX7_prepare_72 : decode cX7_prepare 72 = .ok (.ior, 1) := by decide +kernel
theorem dX7_prepare_73 : decode cX7_prepare 73 = .ok (.iastore, 1) := by decide +kernel
theorem dX7_prepare_74 : decode cX7_prepare 74 = .ok (.iinc 5 1, 3) := by decide +kernel
theorem dX7_prepare_77 : decode cX7_prepare 77 = .ok (.goto (-52), 3) := by decide +kernel
theorem dX7_prepare_80 : decode cX7_prepare 80 = .ok (.iinc 4 1, 3) := by decide +kernel
theorem dX7_prepare_83 : decode cX7_prepare 83 = .ok (.goto (-80), 3) := by decide +kernel
theorem dX7_prepare_86 : decode cX7_prepare 86 = .ok (.aload_n 0, 1) := by decide +kernel
theorem dX7_prepare_87 : decode cX7_prepare 87 = .ok (.invokevirtual 120, 3) := by decide +kernel
theorem dX7_prepare_90 : decode cX7_prepare 90 = .ok (.return_, 1) := by decide +kernel
theorem dX7_answeredOf_0 : decode cX7_answeredOf 0 = .ok (.iconst 0, 1) := by decide +kernel
theorem dX7_answeredOf_1 : decode cX7_answeredOf 1 = .ok (.istore_n 3, 1) := by decide +kernel
theorem dX7_answeredOf_2 : decode cX7_answeredOf 2 = .ok (.iconst 0, 1) := by decide +kernel
theorem dX7_answeredOf_3 : decode cX7_answeredOf 3 = .ok (.istore 4, 2) := by decide +kernel
theorem dX7_answeredOf_5 : decode cX7_answeredOf 5 = .ok (.iload 4, 2) := by decide +kernel
theorem dX7_answeredOf_7 : decode cX7_answeredOf 7 = .ok (.aload_n 0, 1) := by decide +kernel
theorem dX7_answeredOf_8 : decode cX7_answeredOf 8 = .ok (.getfield 22, 3) := by decide +kernel
theorem dX7_answeredOf_11 : decode cX7_answeredOf 11 = .ok (.iload_n 1, 1) := by decide +kernel
theorem dX7_answeredOf_12 : decode cX7_answeredOf 12 = .ok (.iaload, 1) := by decide +kernel
theorem dX7_answeredOf_13 : decode cX7_answeredOf 13 = .ok (.if_icmp .ge 40, 3) := by decide +kernel
theorem dX7_answeredOf_16 : decode cX7_answeredOf 16 = .ok (.iload_n 3, 1) := by decide +kernel
theorem dX7_answeredOf_17 : decode cX7_answeredOf 17 = .ok (.iload_n 2, 1) := by decide +kernel
theorem dX7_answeredOf_18 : decode cX7_answeredOf 18 = .ok (.iload 4, 2) := by decide +kernel
theorem dX7_answeredOf_20 : decode cX7_answeredOf 20 = .ok (.ishr, 1) := by decide +kernel
theorem dX7_answeredOf_21 : decode cX7_answeredOf 21 = .ok (.iconst 1, 1) := by decide +kernel
theorem dX7_answeredOf_22 : decode cX7_answeredOf 22 = .ok (.iand, 1) := by decide +kernel
theorem dX7_answeredOf_23 : decode cX7_answeredOf 23 = .ok (.iconst 1, 1) := by decide +kernel
theorem dX7_answeredOf_24 : decode cX7_answeredOf 24 = .ok (.if_icmp .ne 20, 3) := by decide +kernel
theorem dX7_answeredOf_27 : decode cX7_answeredOf 27 = .ok (.aload_n 0, 1) := by decide +kernel
theorem dX7_answeredOf_28 : decode cX7_answeredOf 28 = .ok (.iload_n 1, 1) := by decide +kernel
theorem dX7_answeredOf_29 : decode cX7_answeredOf 29 = .ok (.iload 4, 2) := by decide +kernel
theorem dX7_answeredOf_31 : decode cX7_answeredOf 31 = .ok (.invokevirtual 89, 3) := by decide +kernel
theorem dX7_answeredOf_34 : decode cX7_answeredOf 34 = .ok (.ifCond .ne 10, 3) := by decide +kernel
theorem dX7_answeredOf_37 : decode cX7_answeredOf 37 = .ok (.iconst 1, 1) := by decide +kernel
theorem dX7_answeredOf_38 : decode cX7_answeredOf 38 = .ok (.iload 4, 2) := by decide +kernel
theorem dX7_answeredOf_40 : decode cX7_answeredOf 40 = .ok (.ishl, 1) := by decide +kernel
theorem dX7_answeredOf_41 : decode cX7_answeredOf 41 = .ok (.goto 4, 3) := by decide +kernel
theorem dX7_answeredOf_44 : decode cX7_answeredOf 44 = .ok (.iconst 0, 1) := by decide +kernel
theorem dX7_answeredOf_45 : decode cX7_answeredOf 45 = .ok (.ior, 1) := by decide +kernel
theorem dX7_answeredOf_46 : decode cX7_answeredOf 46 = .ok (.istore_n 3, 1) := by decide +kernel
theorem dX7_answeredOf_47 : decode cX7_answeredOf 47 = .ok (.iinc 4 1, 3) := by decide +kernel
theorem dX7_answeredOf_50 : decode cX7_answeredOf 50 = .ok (.goto (-45), 3) := by decide +kernel
theorem dX7_answeredOf_53 : decode cX7_answeredOf 53 = .ok (.iload_n 3, 1) := by decide +kernel
theorem dX7_answeredOf_54 : decode cX7_answeredOf 54 = .ok (.ireturn, 1) := by decide +kernel
theorem dX7_goes_0 : decode cX7_goes 0 = .ok (.iload 4, 2) := by decide +kernel
theorem dX7_goes_2 : decode cX7_goes 2 = .ok (.iload_n 3, 1) := by decide +kernel
theorem dX7_goes_3 : decode cX7_goes 3 = .ok (.iand, 1) := by decide +kernel
theorem dX7_goes_4 : decode cX7_goes 4 = .ok (.iload_n 3, 1) := by decide +kernel
theorem dX7_goes_5 : decode cX7_goes 5 = .ok (.if_icmp .ne 59, 3) := by decide +kernel
theorem dX7_goes_8 : decode cX7_goes 8 = .ok (.aload_n 0, 1) := by decide +kernel
theorem dX7_goes_9 : decode cX7_goes 9 = .ok (.dup, 1) := by decide +kernel
theorem dX7_goes_10 : decode cX7_goes 10 = .ok (.getfield 123, 3) := by decide +kernel
theorem dX7_goes_13 : decode cX7_goes 13 = .ok (.lconst 1, 1) := by decide +kernel
theorem dX7_goes_14 : decode cX7_goes 14 = .ok (.ladd, 1) := by decide +kernel
theorem dX7_goes_15 : decode cX7_goes 15 = .ok (.putfield 123, 3) := by decide +kernel
theorem dX7_goes_18 : decode cX7_goes 18 = .ok (.aload_n 0, 1) := by decide +kernel
theorem dX7_goes_19 : decode cX7_goes 19 = .ok (.getfield 127, 3) := by decide +kernel
theorem dX7_goes_22 : decode cX7_goes 22 = .ok (.ifCond .ne 11, 3) := by decide +kernel
theorem dX7_goes_25 : decode cX7_goes 25 = .ok (.aload_n 0, 1) := by decide +kernel
theorem dX7_goes_26 : decode cX7_goes 26 = .ok (.iload 5, 2) := by decide +kernel
theorem dX7_goes_28 : decode cX7_goes 28 = .ok (.putfield 130, 3) := by decide +kernel
theorem dX7_goes_31 : decode cX7_goes 31 = .ok (.iconst 1, 1) := by decide +kernel
theorem dX7_goes_32 : decode cX7_goes 32 = .ok (.ireturn, 1) := by decide +kernel
theorem dX7_goes_33 : decode cX7_goes 33 = .ok (.aload_n 0, 1) := by decide +kernel
theorem dX7_goes_34 : decode cX7_goes 34 = .ok (.getfield 127, 3) := by decide +kernel
theorem dX7_goes_37 : decode cX7_goes 37 = .ok (.iconst 2, 1) := by decide +kernel
theorem dX7_goes_38 : decode cX7_goes 38 = .ok (.if_icmp .ne 26, 3) := by decide +kernel
theorem dX7_goes_41 : decode cX7_goes 41 = .ok (.iload 4, 2) := by decide +kernel
theorem dX7_goes_43 : decode cX7_goes 43 = .ok (.aload_n 0, 1) := by decide +kernel
theorem dX7_goes_44 : decode cX7_goes 44 = .ok (.getfield 133, 3) := by decide +kernel
theorem dX7_goes_47 : decode cX7_goes 47 = .ok (.ishr, 1) := by decide +kernel
theorem dX7_goes_48 : decode cX7_goes 48 = .ok (.iconst 1, 1) := by decide +kernel
theorem dX7_goes_49 : decode cX7_goes 49 = .ok (.iand, 1) := by decide +kernel
theorem dX7_goes_50 : decode cX7_goes 50 = .ok (.iconst 1, 1) := by decide +kernel
theorem dX7_goes_51 : decode cX7_goes 51 = .ok (.if_icmp .ne 13, 3) := by decide +kernel
theorem dX7_goes_54 : decode cX7_goes 54 = .ok (.aload_n 0, 1) := by decide +kernel
theorem dX7_goes_55 : decode cX7_goes 55 = .ok (.aload_n 0, 1) := by decide +kernel
theorem dX7_goes_56 : decode cX7_goes 56 = .ok (.getfield 55, 3) := by decide +kernel
theorem dX7_goes_59 : decode cX7_goes 59 = .ok (.iload 5, 2) := by decide +kernel
theorem dX7_goes_61 : decode cX7_goes 61 = .ok (.invokevirtual 136, 3) := by decide +kernel
theorem dX7_goes_64 : decode cX7_goes 64 = .ok (.iconst 0, 1) := by decide +kernel
theorem dX7_goes_65 : decode cX7_goes 65 = .ok (.istore 6, 2) := by decide +kernel
theorem dX7_goes_67 : decode cX7_goes 67 = .ok (.iload 6, 2) := by decide +kernel
theorem dX7_goes_69 : decode cX7_goes 69 = .ok (.aload_n 0, 1) := by decide +kernel
theorem dX7_goes_70 : decode cX7_goes 70 = .ok (.getfield 22, 3) := by decide +kernel
theorem dX7_goes_73 : decode cX7_goes 73 = .ok (.iload_n 1, 1) := by decide +kernel
theorem dX7_goes_74 : decode cX7_goes 74 = .ok (.iaload, 1) := by decide +kernel
theorem dX7_goes_75 : decode cX7_goes 75 = .ok (.if_icmp .ge 129, 3) := by decide +kernel
theorem dX7_goes_78 : decode cX7_goes 78 = .ok (.iload_n 2, 1) := by decide +kernel
theorem dX7_goes_79 : decode cX7_goes 79 = .ok (.iload 6, 2) := by decide +kernel
theorem dX7_goes_81 : decode cX7_goes 81 = .ok (.ishr, 1) := by decide +kernel
theorem dX7_goes_82 : decode cX7_goes 82 = .ok (.iconst 1, 1) := by decide +kernel
theorem dX7_goes_83 : decode cX7_goes 83 = .ok (.iand, 1) := by decide +kernel
theorem dX7_goes_84 : decode cX7_goes 84 = .ok (.ifCond .eq 114, 3) := by decide +kernel
theorem dX7_goes_87 : decode cX7_goes 87 = .ok (.iload 4, 2) := by decide +kernel
theorem dX7_goes_89 : decode cX7_goes 89 = .ok (.iload 6, 2) := by decide +kernel
theorem dX7_goes_91 : decode cX7_goes 91 = .ok (.ishr, 1) := by decide +kernel
theorem dX7_goes_92 : decode cX7_goes 92 = .ok (.iconst 1, 1) := by decide +kernel
theorem dX7_goes_93 : decode cX7_goes 93 = .ok (.iand, 1) := by decide +kernel
theorem dX7_goes_94 : decode cX7_goes 94 = .ok (.iconst 1, 1) := by decide +kernel
theorem dX7_goes_95 : decode cX7_goes 95 = .ok (.if_icmp .eq 103, 3) := by decide +kernel
theorem dX7_goes_98 : decode cX7_goes 98 = .ok (.aload_n 0, 1) := by decide +kernel
theorem dX7_goes_99 : decode cX7_goes 99 = .ok (.getfield 58, 3) := by decide +kernel
theorem dX7_goes_102 : decode cX7_goes 102 = .ok (.iload 6, 2) := by decide +kernel
theorem dX7_goes_104 : decode cX7_goes 104 = .ok (.iaload, 1) := by decide +kernel
theorem dX7_goes_105 : decode cX7_goes 105 = .ok (.iload 4, 2) := by decide +kernel
theorem dX7_goes_107 : decode cX7_goes 107 = .ok (.iconst (-1), 1) := by decide +kernel
theorem dX7_goes_108 : decode cX7_goes 108 = .ok (.ixor, 1) := by decide +kernel
theorem dX7_goes_109 : decode cX7_goes 109 = .ok (.iand, 1) := by decide +kernel
theorem dX7_goes_110 : decode cX7_goes 110 = .ok (.ifCond .eq 6, 3) := by decide +kernel
theorem dX7_goes_113 : decode cX7_goes 113 = .ok (.goto 85, 3) := by decide +kernel
theorem dX7_goes_116 : decode cX7_goes 116 = .ok (.aload_n 0, 1) := by decide +kernel
theorem dX7_goes_117 : decode cX7_goes 117 = .ok (.iload_n 1, 1) := by decide +kernel
theorem dX7_goes_118 : decode cX7_goes 118 = .ok (.iload 6, 2) := by decide +kernel
theorem dX7_goes_120 : decode cX7_goes 120 = .ok (.iload 5, 2) := by decide +kernel
theorem dX7_goes_122 : decode cX7_goes 122 = .ok (.invokevirtual 140, 3) := by decide +kernel
theorem dX7_goes_125 : decode cX7_goes 125 = .ok (.istore 7, 2) := by decide +kernel
theorem dX7_goes_127 : decode cX7_goes 127 = .ok (.aload_n 0, 1) := by decide +kernel
theorem dX7_goes_128 : decode cX7_goes 128 = .ok (.iload_n 1, 1) := by decide +kernel
theorem dX7_goes_129 : decode cX7_goes 129 = .ok (.iload 6, 2) := by decide +kernel
theorem dX7_goes_131 : decode cX7_goes 131 = .ok (.invokevirtual 89, 3) := by decide +kernel
theorem dX7_goes_134 : decode cX7_goes 134 = .ok (.ifCond .ne 23, 3) := by decide +kernel
theorem dX7_goes_137 : decode cX7_goes 137 = .ok (.iload 7, 2) := by decide +kernel
theorem dX7_goes_139 : decode cX7_goes 139 = .ok (.aload_n 0, 1) := by decide +kernel
theorem dX7_goes_140 : decode cX7_goes 140 = .ok (.getfield 46, 3) := by decide +kernel
theorem dX7_goes_143 : decode cX7_goes 143 = .ok (.bipush 10, 2) := by decide +kernel
theorem dX7_goes_145 : decode cX7_goes 145 = .ok (.iload_n 1, 1) := by decide +kernel
theorem dX7_goes_146 : decode cX7_goes 146 = .ok (.imul, 1) := by decide +kernel
theorem dX7_goes_147 : decode cX7_goes 147 = .ok (.iload 6, 2) := by decide +kernel
theorem dX7_goes_149 : decode cX7_goes 149 = .ok (.iadd, 1) := by decide +kernel
theorem dX7_goes_150 : decode cX7_goes 150 = .ok (.iaload, 1) := by decide +kernel
theorem dX7_goes_151 : decode cX7_goes 151 = .ok (.if_icmp .eq 6, 3) := by decide +kernel
theorem dX7_goes_154 : decode cX7_goes 154 = .ok (.goto 44, 3) := by decide +kernel
theorem dX7_goes_157 : decode cX7_goes 157 = .ok (.aload_n 0, 1) := by decide +kernel
theorem dX7_goes_158 : decode cX7_goes 158 = .ok (.getfield 52, 3) := by decide +kernel
theorem dX7_goes_161 : decode cX7_goes 161 = .ok (.iload 5, 2) := by decide +kernel
theorem dX7_goes_163 : decode cX7_goes 163 = .ok (.iload 6, 2) := by decide +kernel
theorem dX7_goes_165 : decode cX7_goes 165 = .ok (.iastore, 1) := by decide +kernel
theorem dX7_goes_166 : decode cX7_goes 166 = .ok (.aload_n 0, 1) := by decide +kernel
theorem dX7_goes_167 : decode cX7_goes 167 = .ok (.getfield 55, 3) := by decide +kernel
theorem dX7_goes_170 : decode cX7_goes 170 = .ok (.iload 5, 2) := by decide +kernel
theorem dX7_goes_172 : decode cX7_goes 172 = .ok (.iload 7, 2) := by decide +kernel
theorem dX7_goes_174 : decode cX7_goes 174 = .ok (.iastore, 1) := by decide +kernel
theorem dX7_goes_175 : decode cX7_goes 175 = .ok (.aload_n 0, 1) := by decide +kernel
theorem dX7_goes_176 : decode cX7_goes 176 = .ok (.iload_n 1, 1) := by decide +kernel
theorem dX7_goes_177 : decode cX7_goes 177 = .ok (.iload_n 2, 1) := by decide +kernel
theorem dX7_goes_178 : decode cX7_goes 178 = .ok (.iload_n 3, 1) := by decide +kernel
theorem dX7_goes_179 : decode cX7_goes 179 = .ok (.iload 4, 2) := by decide +kernel
theorem dX7_goes_181 : decode cX7_goes 181 = .ok (.iconst 1, 1) := by decide +kernel
theorem dX7_goes_182 : decode cX7_goes 182 = .ok (.iload 6, 2) := by decide +kernel
theorem dX7_goes_184 : decode cX7_goes 184 = .ok (.ishl, 1) := by decide +kernel
theorem dX7_goes_185 : decode cX7_goes 185 = .ok (.ior, 1) := by decide +kernel
theorem dX7_goes_186 : decode cX7_goes 186 = .ok (.iload 5, 2) := by decide +kernel
theorem dX7_goes_188 : decode cX7_goes 188 = .ok (.iconst 1, 1) := by decide +kernel
theorem dX7_goes_189 : decode cX7_goes 189 = .ok (.iadd, 1) := by decide +kernel
theorem dX7_goes_190 : decode cX7_goes 190 = .ok (.invokevirtual 144, 3) := by decide +kernel
theorem dX7_goes_193 : decode cX7_goes 193 = .ok (.ifCond .eq 5, 3) := by decide +kernel
theorem dX7_goes_196 : decode cX7_goes 196 = .ok (.iconst 1, 1) := by decide +kernel
theorem dX7_goes_197 : decode cX7_goes 197 = .ok (.ireturn, 1) := by decide +kernel
theorem dX7_goes_198 : decode cX7_goes 198 = .ok (.iinc 6 1, 3) := by decide +kernel
theorem dX7_goes_201 : decode cX7_goes 201 = .ok (.goto (-134), 3) := by decide +kernel
theorem dX7_goes_204 : decode cX7_goes 204 = .ok (.iconst 0, 1) := by decide +kernel
theorem dX7_goes_205 : decode cX7_goes 205 = .ok (.ireturn, 1) := by decide +kernel
theorem dX7_fill_0 : decode cX7_fill 0 = .ok (.iconst 0, 1) := by decide +kernel
theorem dX7_fill_1 : decode cX7_fill 1 = .ok (.istore_n 3, 1) := by decide +kernel
theorem dX7_fill_2 : decode cX7_fill 2 = .ok (.aload_n 0, 1) := by decide +kernel
theorem dX7_fill_3 : decode cX7_fill 3 = .ok (.getfield 52, 3) := by decide +kernel
theorem dX7_fill_6 : decode cX7_fill 6 = .ok (.iload_n 3, 1) := by decide +kernel
theorem dX7_fill_7 : decode cX7_fill 7 = .ok (.iaload, 1) := by decide +kernel
theorem dX7_fill_8 : decode cX7_fill 8 = .ok (.aload_n 0, 1) := by decide +kernel
theorem dX7_fill_9 : decode cX7_fill 9 = .ok (.getfield 133, 3) := by decide +kernel
theorem dX7_fill_12 : decode cX7_fill 12 = .ok (.if_icmp .eq 9, 3) := by decide +kernel
theorem dX7_fill_15 : decode cX7_fill 15 = .ok (.iinc 3 1, 3) := by decide +kernel
theorem dX7_fill_18 : decode cX7_fill 18 = .ok (.goto (-16), 3) := by decide +kernel
theorem dX7_fill_21 : decode cX7_fill 21 = .ok (.aload_n 1, 1) := by decide +kernel
theorem dX7_fill_22 : decode cX7_fill 22 = .ok (.iload_n 3, 1) := by decide +kernel
theorem dX7_fill_23 : decode cX7_fill 23 = .ok (.iaload, 1) := by decide +kernel
theorem dX7_fill_24 : decode cX7_fill 24 = .ok (.istore 4, 2) := by decide +kernel
theorem dX7_fill_26 : decode cX7_fill 26 = .ok (.iconst 0, 1) := by decide +kernel
theorem dX7_fill_27 : decode cX7_fill 27 = .ok (.istore 5, 2) := by decide +kernel
theorem dX7_fill_29 : decode cX7_fill 29 = .ok (.iload 5, 2) := by decide +kernel
theorem dX7_fill_31 : decode cX7_fill 31 = .ok (.aload_n 0, 1) := by decide +kernel
theorem dX7_fill_32 : decode cX7_fill 32 = .ok (.getfield 147, 3) := by decide +kernel
theorem dX7_fill_35 : decode cX7_fill 35 = .ok (.if_icmp .ge 21, 3) := by decide +kernel
theorem dX7_fill_38 : decode cX7_fill 38 = .ok (.aload_n 0, 1) := by decide +kernel
theorem dX7_fill_39 : decode cX7_fill 39 = .ok (.getfield 61, 3) := by decide +kernel
theorem dX7_fill_42 : decode cX7_fill 42 = .ok (.iload 5, 2) := by decide +kernel
theorem dX7_fill_44 : decode cX7_fill 44 = .ok (.iaload, 1) := by decide +kernel
theorem dX7_fill_45 : decode cX7_fill 45 = .ok (.iload 4, 2) := by decide +kernel
theorem dX7_fill_47 : decode cX7_fill 47 = .ok (.if_icmp .ge 9, 3) := by decide +kernel
theorem dX7_fill_50 : decode cX7_fill 50 = .ok (.iinc 5 1, 3) := by decide +kernel
theorem dX7_fill_53 : decode cX7_fill 53 = .ok (.goto (-24), 3) := by decide +kernel
theorem dX7_fill_56 : decode cX7_fill 56 = .ok (.iload 5, 2) := by decide +kernel
theorem dX7_fill_58 : decode cX7_fill 58 = .ok (.aload_n 0, 1) := by decide +kernel
theorem dX7_fill_59 : decode cX7_fill 59 = .ok (.getfield 147, 3) := by decide +kernel
theorem dX7_fill_62 : decode cX7_fill 62 = .ok (.if_icmp .ge 16, 3) := by decide +kernel
theorem dX7_fill_65 : decode cX7_fill 65 = .ok (.aload_n 0, 1) := by decide +kernel
theorem dX7_fill_66 : decode cX7_fill 66 = .ok (.getfield 61, 3) := by decide +kernel
theorem dX7_fill_69 : decode cX7_fill 69 = .ok (.iload 5, 2) := by decide +kernel
theorem dX7_fill_71 : decode cX7_fill 71 = .ok (.iaload, 1) := by decide +kernel
theorem dX7_fill_72 : decode cX7_fill 72 = .ok (.iload 4, 2) := by decide +kernel
theorem dX7_fill_74 : decode cX7_fill 74 = .ok (.if_icmp .ne 4, 3) := by decide +kernel
theorem dX7_fill_77 : decode cX7_fill 77 = .ok (.return_, 1) := by decide +kernel
theorem dX7_fill_78 : decode cX7_fill 78 = .ok (.aload_n 0, 1) := by decide +kernel
theorem dX7_fill_79 : decode cX7_fill 79 = .ok (.getfield 147, 3) := by decide +kernel
theorem dX7_fill_82 : decode cX7_fill 82 = .ok (.istore 6, 2) := by decide +kernel
theorem dX7_fill_84 : decode cX7_fill 84 = .ok (.iload 6, 2) := by decide +kernel
theorem dX7_fill_86 : decode cX7_fill 86 = .ok (.iload 5, 2) := by decide +kernel
theorem dX7_fill_88 : decode cX7_fill 88 = .ok (.if_icmp .le 25, 3) := by decide +kernel
theorem dX7_fill_91 : decode cX7_fill 91 = .ok (.aload_n 0, 1) := by decide +kernel
theorem dX7_fill_92 : decode cX7_fill 92 = .ok (.getfield 61, 3) := by decide +kernel
theorem dX7_fill_95 : decode cX7_fill 95 = .ok (.iload 6, 2) := by decide +kernel
theorem dX7_fill_97 : decode cX7_fill 97 = .ok (.aload_n 0, 1) := by decide +kernel
theorem dX7_fill_98 : decode cX7_fill 98 = .ok (.getfield 61, 3) := by decide +kernel
theorem dX7_fill_101 : decode cX7_fill 101 = .ok (.iload 6, 2) := by decide +kernel
theorem dX7_fill_103 : decode cX7_fill 103 = .ok (.iconst 1, 1) := by decide +kernel
theorem dX7_fill_104 : decode cX7_fill 104 = .ok (.isub, 1) := by decide +kernel
theorem dX7_fill_105 : decode cX7_fill 105 = .ok (.iaload, 1) := by decide +kernel
theorem dX7_fill_106 : decode cX7_fill 106 = .ok (.iastore, 1) := by decide +kernel
theorem dX7_fill_107 : decode cX7_fill 107 = .ok (.iinc 6 (-1), 3) := by decide +kernel
theorem dX7_fill_110 : decode cX7_fill 110 = .ok (.goto (-26), 3) := by decide +kernel
theorem dX7_fill_113 : decode cX7_fill 113 = .ok (.aload_n 0, 1) := by decide +kernel
theorem dX7_fill_114 : decode cX7_fill 114 = .ok (.getfield 61, 3) := by decide +kernel
theorem dX7_fill_117 : decode cX7_fill 117 = .ok (.iload 5, 2) := by decide +kernel
theorem dX7_fill_119 : decode cX7_fill 119 = .ok (.iload 4, 2) := by decide +kernel
theorem dX7_fill_121 : decode cX7_fill 121 = .ok (.iastore, 1) := by decide +kernel
theorem dX7_fill_122 : decode cX7_fill 122 = .ok (.aload_n 0, 1) := by decide +kernel
theorem dX7_fill_123 : decode cX7_fill 123 = .ok (.dup, 1) := by decide +kernel
theorem dX7_fill_124 : decode cX7_fill 124 = .ok (.getfield 147, 3) := by decide +kernel
theorem dX7_fill_127 : decode cX7_fill 127 = .ok (.iconst 1, 1) := by decide +kernel
theorem dX7_fill_128 : decode cX7_fill 128 = .ok (.iadd, 1) := by decide +kernel
theorem dX7_fill_129 : decode cX7_fill 129 = .ok (.putfield 147, 3) := by decide +kernel
theorem dX7_fill_132 : decode cX7_fill 132 = .ok (.return_, 1) := by decide +kernel
theorem dX7_isTaken_0 : decode cX7_isTaken 0 = .ok (.aload_n 0, 1) := by decide +kernel
theorem dX7_isTaken_1 : decode cX7_isTaken 1 = .ok (.iload_n 1, 1) := by decide +kernel
theorem dX7_isTaken_2 : decode cX7_isTaken 2 = .ok (.iload_n 2, 1) := by decide +kernel
theorem dX7_isTaken_3 : decode cX7_isTaken 3 = .ok (.iload_n 3, 1) := by decide +kernel
theorem dX7_isTaken_4 : decode cX7_isTaken 4 = .ok (.invokevirtual 150, 3) := by decide +kernel
theorem dX7_isTaken_7 : decode cX7_isTaken 7 = .ok (.aload_n 0, 1) := by decide +kernel
theorem dX7_isTaken_8 : decode cX7_isTaken 8 = .ok (.iconst 0, 1) := by decide +kernel
theorem dX7_isTaken_9 : decode cX7_isTaken 9 = .ok (.putfield 127, 3) := by decide +kernel
theorem dX7_isTaken_12 : decode cX7_isTaken 12 = .ok (.aload_n 0, 1) := by decide +kernel
theorem dX7_isTaken_13 : decode cX7_isTaken 13 = .ok (.iload_n 1, 1) := by decide +kernel
theorem dX7_isTaken_14 : decode cX7_isTaken 14 = .ok (.iload_n 3, 1) := by decide +kernel
theorem dX7_isTaken_15 : decode cX7_isTaken 15 = .ok (.aload_n 0, 1) := by decide +kernel
theorem dX7_isTaken_16 : decode cX7_isTaken 16 = .ok (.iload_n 1, 1) := by decide +kernel
theorem dX7_isTaken_17 : decode cX7_isTaken 17 = .ok (.iload_n 3, 1) := by decide +kernel
theorem dX7_isTaken_18 : decode cX7_isTaken 18 = .ok (.invokevirtual 154, 3) := by decide +kernel
theorem dX7_isTaken_21 : decode cX7_isTaken 21 = .ok (.iconst 0, 1) := by decide +kernel
theorem dX7_isTaken_22 : decode cX7_isTaken 22 = .ok (.iconst 0, 1) := by decide +kernel
theorem dX7_isTaken_23 : decode cX7_isTaken 23 = .ok (.invokevirtual 144, 3) := by decide +kernel
theorem dX7_isTaken_26 : decode cX7_isTaken 26 = .ok (.ireturn, 1) := by decide +kernel
theorem dX7_judge_0 : decode cX7_judge 0 = .ok (.aload_n 0, 1) := by decide +kernel
theorem dX7_judge_1 : decode cX7_judge 1 = .ok (.iload_n 1, 1) := by decide +kernel
theorem dX7_judge_2 : decode cX7_judge 2 = .ok (.invokevirtual 81, 3) := by decide +kernel
theorem dX7_judge_5 : decode cX7_judge 5 = .ok (.ifCond .eq 10, 3) := by decide +kernel
theorem dX7_judge_8 : decode cX7_judge 8 = .ok (.iload_n 2, 1) := by decide +kernel
theorem dX7_judge_9 : decode cX7_judge 9 = .ok (.invokestatic 102, 3) := by decide +kernel
theorem dX7_judge_12 : decode cX7_judge 12 = .ok (.ifCond .ne 5, 3) := by decide +kernel
theorem dX7_judge_15 : decode cX7_judge 15 = .ok (.iconst (-1), 1) := by decide +kernel
theorem dX7_judge_16 : decode cX7_judge 16 = .ok (.ireturn, 1) := by decide +kernel
theorem dX7_judge_17 : decode cX7_judge 17 = .ok (.aload_n 0, 1) := by decide +kernel
theorem dX7_judge_18 : decode cX7_judge 18 = .ok (.iload_n 1, 1) := by decide +kernel
theorem dX7_judge_19 : decode cX7_judge 19 = .ok (.iload_n 2, 1) := by decide +kernel
theorem dX7_judge_20 : decode cX7_judge 20 = .ok (.aload_n 0, 1) := by decide +kernel
theorem dX7_judge_21 : decode cX7_judge 21 = .ok (.iload_n 1, 1) := by decide +kernel
theorem dX7_judge_22 : decode cX7_judge 22 = .ok (.invokevirtual 105, 3) := by decide +kernel
theorem dX7_judge_25 : decode cX7_judge 25 = .ok (.invokevirtual 158, 3) := by decide +kernel
theorem dX7_judge_28 : decode cX7_judge 28 = .ok (.ifCond .eq 7, 3) := by decide +kernel
theorem dX7_judge_31 : decode cX7_judge 31 = .ok (.iconst 1, 1) := by decide +kernel
theorem dX7_judge_32 : decode cX7_judge 32 = .ok (.goto 4, 3) := by decide +kernel
theorem dX7_judge_35 : decode cX7_judge 35 = .ok (.iconst 0, 1) := by decide +kernel
theorem dX7_judge_36 : decode cX7_judge 36 = .ok (.ireturn, 1) := by decide +kernel
theorem dX7_first_0 : decode cX7_first 0 = .ok (.aload_n 0, 1) := by decide +kernel
theorem dX7_first_1 : decode cX7_first 1 = .ok (.iload_n 1, 1) := by decide +kernel
theorem dX7_first_2 : decode cX7_first 2 = .ok (.invokevirtual 81, 3) := by decide +kernel
theorem dX7_first_5 : decode cX7_first 5 = .ok (.ifCond .eq 24, 3) := by decide +kernel
theorem dX7_first_8 : decode cX7_first 8 = .ok (.iload_n 2, 1) := by decide +kernel
theorem dX7_first_9 : decode cX7_first 9 = .ok (.invokestatic 102, 3) := by decide +kernel
theorem dX7_first_12 : decode cX7_first 12 = .ok (.ifCond .eq 17, 3) := by decide +kernel
theorem dX7_first_15 : decode cX7_first 15 = .ok (.aload_n 0, 1) := by decide +kernel
theorem dX7_first_16 : decode cX7_first 16 = .ok (.iload_n 1, 1) := by decide +kernel
theorem dX7_first_17 : decode cX7_first 17 = .ok (.iload_n 2, 1) := by decide +kernel
theorem dX7_first_18 : decode cX7_first 18 = .ok (.aload_n 0, 1) := by decide +kernel
theorem dX7_first_19 : decode cX7_first 19 = .ok (.iload_n 1, 1) := by decide +kernel
theorem dX7_first_20 : decode cX7_first 20 = .ok (.invokevirtual 105, 3) := by decide +kernel
theorem dX7_first_23 : decode cX7_first 23 = .ok (.invokevirtual 158, 3) := by decide +kernel
theorem dX7_first_26 : decode cX7_first 26 = .ok (.ifCond .ne 5, 3) := by decide +kernel
theorem dX7_first_29 : decode cX7_first 29 = .ok (.iconst (-1), 1) := by decide +kernel
theorem dX7_first_30 : decode cX7_first 30 = .ok (.ireturn, 1) := by decide +kernel
theorem dX7_first_31 : decode cX7_first 31 = .ok (.iload_n 3, 1) := by decide +kernel
theorem dX7_first_32 : decode cX7_first 32 = .ok (.iconst 0, 1) := by decide +kernel
theorem dX7_first_33 : decode cX7_first 33 = .ok (.aload_n 0, 1) := by decide +kernel
theorem dX7_first_34 : decode cX7_first 34 = .ok (.getfield 130, 3) := by decide +kernel
theorem dX7_first_37 : decode cX7_first 37 = .ok (.iconst 1, 1) := by decide +kernel
theorem dX7_first_38 : decode cX7_first 38 = .ok (.isub, 1) := by decide +kernel
theorem dX7_first_39 : decode cX7_first 39 = .ok (.invokestatic 74, 3) := by decide +kernel
theorem dX7_first_42 : decode cX7_first 42 = .ok (.ifCond .eq 12, 3) := by decide +kernel
theorem dX7_first_45 : decode cX7_first 45 = .ok (.aload_n 0, 1) := by decide +kernel
theorem dX7_first_46 : decode cX7_first 46 = .ok (.getfield 52, 3) := by decide +kernel
theorem dX7_first_49 : decode cX7_first 49 = .ok (.iload_n 3, 1) := by decide +kernel
theorem dX7_first_50 : decode cX7_first 50 = .ok (.iaload, 1) := by decide +kernel
theorem dX7_first_51 : decode cX7_first 51 = .ok (.goto 4, 3) := by decide +kernel
theorem dX7_first_54 : decode cX7_first 54 = .ok (.iconst (-1), 1) := by decide +kernel
theorem dX7_first_55 : decode cX7_first 55 = .ok (.ireturn, 1) := by decide +kernel
theorem dX7_orders_0 : decode cX7_orders 0 = .ok (.aload_n 0, 1) := by decide +kernel
theorem dX7_orders_1 : decode cX7_orders 1 = .ok (.iload_n 1, 1) := by decide +kernel
theorem dX7_orders_2 : decode cX7_orders 2 = .ok (.invokevirtual 81, 3) := by decide +kernel
theorem dX7_orders_5 : decode cX7_orders 5 = .ok (.ifCond .eq 10, 3) := by decide +kernel
theorem dX7_orders_8 : decode cX7_orders 8 = .ok (.iload_n 2, 1) := by decide +kernel
theorem dX7_orders_9 : decode cX7_orders 9 = .ok (.invokestatic 102, 3) := by decide +kernel
theorem dX7_orders_12 : decode cX7_orders 12 = .ok (.ifCond .ne 7, 3) := by decide +kernel
theorem dX7_orders_15 : decode cX7_orders 15 = .ok (.ldc2_w 161, 3) := by decide +kernel
theorem dX7_orders_18 : decode cX7_orders 18 = .ok (.lreturn, 1) := by decide +kernel
theorem dX7_orders_19 : decode cX7_orders 19 = .ok (.aload_n 0, 1) := by decide +kernel
theorem dX7_orders_20 : decode cX7_orders 20 = .ok (.iload_n 1, 1) := by decide +kernel
theorem dX7_orders_21 : decode cX7_orders 21 = .ok (.iload_n 2, 1) := by decide +kernel
theorem dX7_orders_22 : decode cX7_orders 22 = .ok (.aload_n 0, 1) := by decide +kernel
theorem dX7_orders_23 : decode cX7_orders 23 = .ok (.iload_n 1, 1) := by decide +kernel
theorem dX7_orders_24 : decode cX7_orders 24 = .ok (.invokevirtual 105, 3) := by decide +kernel
theorem dX7_orders_27 : decode cX7_orders 27 = .ok (.invokevirtual 150, 3) := by decide +kernel
theorem dX7_orders_30 : decode cX7_orders 30 = .ok (.aload_n 0, 1) := by decide +kernel
theorem dX7_orders_31 : decode cX7_orders 31 = .ok (.iconst 1, 1) := by decide +kernel
theorem dX7_orders_32 : decode cX7_orders 32 = .ok (.putfield 127, 3) := by decide +kernel
theorem dX7_orders_35 : decode cX7_orders 35 = .ok (.aload_n 0, 1) := by decide +kernel
theorem dX7_orders_36 : decode cX7_orders 36 = .ok (.lconst 0, 1) := by decide +kernel
theorem dX7_orders_37 : decode cX7_orders 37 = .ok (.putfield 123, 3) := by decide +kernel
theorem dX7_orders_40 : decode cX7_orders 40 = .ok (.aload_n 0, 1) := by decide +kernel
theorem dX7_orders_41 : decode cX7_orders 41 = .ok (.iload_n 1, 1) := by decide +kernel
theorem dX7_orders_42 : decode cX7_orders 42 = .ok (.aload_n 0, 1) := by decide +kernel
theorem dX7_orders_43 : decode cX7_orders 43 = .ok (.iload_n 1, 1) := by decide +kernel
theorem dX7_orders_44 : decode cX7_orders 44 = .ok (.invokevirtual 105, 3) := by decide +kernel
theorem dX7_orders_47 : decode cX7_orders 47 = .ok (.aload_n 0, 1) := by decide +kernel
theorem dX7_orders_48 : decode cX7_orders 48 = .ok (.iload_n 1, 1) := by decide +kernel
theorem dX7_orders_49 : decode cX7_orders 49 = .ok (.aload_n 0, 1) := by decide +kernel
theorem dX7_orders_50 : decode cX7_orders 50 = .ok (.iload_n 1, 1) := by decide +kernel
theorem dX7_orders_51 : decode cX7_orders 51 = .ok (.invokevirtual 105, 3) := by decide +kernel
theorem dX7_orders_54 : decode cX7_orders 54 = .ok (.invokevirtual 154, 3) := by decide +kernel
theorem dX7_orders_57 : decode cX7_orders 57 = .ok (.iconst 0, 1) := by decide +kernel
theorem dX7_orders_58 : decode cX7_orders 58 = .ok (.iconst 0, 1) := by decide +kernel
theorem dX7_orders_59 : decode cX7_orders 59 = .ok (.invokevirtual 144, 3) := by decide +kernel
theorem dX7_orders_62 : decode cX7_orders 62 = .ok (.istore_n 3, 1) := by decide +kernel
theorem dX7_orders_63 : decode cX7_orders 63 = .ok (.aload_n 0, 1) := by decide +kernel
theorem dX7_orders_64 : decode cX7_orders 64 = .ok (.getfield 123, 3) := by decide +kernel
theorem dX7_orders_67 : decode cX7_orders 67 = .ok (.lreturn, 1) := by decide +kernel
theorem dX7_least_0 : decode cX7_least 0 = .ok (.aload_n 0, 1) := by decide +kernel
theorem dX7_least_1 : decode cX7_least 1 = .ok (.iload_n 1, 1) := by decide +kernel
theorem dX7_least_2 : decode cX7_least 2 = .ok (.invokevirtual 81, 3) := by decide +kernel
theorem dX7_least_5 : decode cX7_least 5 = .ok (.ifCond .eq 10, 3) := by decide +kernel
theorem dX7_least_8 : decode cX7_least 8 = .ok (.iload_n 2, 1) := by decide +kernel
theorem dX7_least_9 : decode cX7_least 9 = .ok (.invokestatic 102, 3) := by decide +kernel
theorem dX7_least_12 : decode cX7_least 12 = .ok (.ifCond .ne 5, 3) := by decide +kernel
theorem dX7_least_15 : decode cX7_least 15 = .ok (.iconst (-1), 1) := by decide +kernel
theorem dX7_least_16 : decode cX7_least 16 = .ok (.ireturn, 1) := by decide +kernel
theorem dX7_least_17 : decode cX7_least 17 = .ok (.aload_n 0, 1) := by decide +kernel
theorem dX7_least_18 : decode cX7_least 18 = .ok (.iload_n 1, 1) := by decide +kernel
theorem dX7_least_19 : decode cX7_least 19 = .ok (.invokevirtual 105, 3) := by decide +kernel
theorem dX7_least_22 : decode cX7_least 22 = .ok (.istore_n 3, 1) := by decide +kernel
theorem dX7_least_23 : decode cX7_least 23 = .ok (.aload_n 0, 1) := by decide +kernel
theorem dX7_least_24 : decode cX7_least 24 = .ok (.iconst 0, 1) := by decide +kernel
theorem dX7_least_25 : decode cX7_least 25 = .ok (.putfield 163, 3) := by decide +kernel
theorem dX7_least_28 : decode cX7_least 28 = .ok (.aload_n 0, 1) := by decide +kernel
theorem dX7_least_29 : decode cX7_least 29 = .ok (.iload_n 1, 1) := by decide +kernel
theorem dX7_least_30 : decode cX7_least 30 = .ok (.iload_n 2, 1) := by decide +kernel
theorem dX7_least_31 : decode cX7_least 31 = .ok (.iload_n 3, 1) := by decide +kernel
theorem dX7_least_32 : decode cX7_least 32 = .ok (.invokevirtual 158, 3) := by decide +kernel
theorem dX7_least_35 : decode cX7_least 35 = .ok (.ifCond .eq 5, 3) := by decide +kernel
theorem dX7_least_38 : decode cX7_least 38 = .ok (.iconst 0, 1) := by decide +kernel
theorem dX7_least_39 : decode cX7_least 39 = .ok (.ireturn, 1) := by decide +kernel
theorem dX7_least_40 : decode cX7_least 40 = .ok (.iconst 0, 1) := by decide +kernel
theorem dX7_least_41 : decode cX7_least 41 = .ok (.istore 4, 2) := by decide +kernel
theorem dX7_least_43 : decode cX7_least 43 = .ok (.iload_n 3, 1) := by decide +kernel
theorem dX7_least_44 : decode cX7_least 44 = .ok (.iload 4, 2) := by decide +kernel
theorem dX7_least_46 : decode cX7_least 46 = .ok (.if_icmp .eq 65, 3) := by decide +kernel
theorem dX7_least_49 : decode cX7_least 49 = .ok (.iload_n 3, 1) := by decide +kernel
theorem dX7_least_50 : decode cX7_least 50 = .ok (.istore 4, 2) := by decide +kernel
theorem dX7_least_52 : decode cX7_least 52 = .ok (.iconst 0, 1) := by decide +kernel
theorem dX7_least_53 : decode cX7_least 53 = .ok (.istore 5, 2) := by decide +kernel
theorem dX7_least_55 : decode cX7_least 55 = .ok (.iload 5, 2) := by decide +kernel
theorem dX7_least_57 : decode cX7_least 57 = .ok (.aload_n 0, 1) := by decide +kernel
theorem dX7_least_58 : decode cX7_least 58 = .ok (.getfield 22, 3) := by decide +kernel
theorem dX7_least_61 : decode cX7_least 61 = .ok (.iload_n 1, 1) := by decide +kernel
theorem dX7_least_62 : decode cX7_least 62 = .ok (.iaload, 1) := by decide +kernel
theorem dX7_least_63 : decode cX7_least 63 = .ok (.if_icmp .ge 45, 3) := by decide +kernel
theorem dX7_least_66 : decode cX7_least 66 = .ok (.iload_n 3, 1) := by decide +kernel
theorem dX7_least_67 : decode cX7_least 67 = .ok (.iload 5, 2) := by decide +kernel
theorem dX7_least_69 : decode cX7_least 69 = .ok (.ishr, 1) := by decide +kernel
theorem dX7_least_70 : decode cX7_least 70 = .ok (.iconst 1, 1) := by decide +kernel
theorem dX7_least_71 : decode cX7_least 71 = .ok (.iand, 1) := by decide +kernel
theorem dX7_least_72 : decode cX7_least 72 = .ok (.iconst 1, 1) := by decide +kernel
theorem dX7_least_73 : decode cX7_least 73 = .ok (.if_icmp .ne 29, 3) := by decide +kernel
theorem dX7_least_76 : decode cX7_least 76 = .ok (.aload_n 0, 1) := by decide +kernel
theorem dX7_least_77 : decode cX7_least 77 = .ok (.iload_n 1, 1) := by decide +kernel
theorem dX7_least_78 : decode cX7_least 78 = .ok (.iload_n 2, 1) := by decide +kernel
theorem dX7_least_79 : decode cX7_least 79 = .ok (.iload_n 3, 1) := by decide +kernel
theorem dX7_least_80 : decode cX7_least 80 = .ok (.iconst 1, 1) := by decide +kernel
theorem dX7_least_81 : decode cX7_least 81 = .ok (.iload 5, 2) := by decide +kernel
theorem dX7_least_83 : decode cX7_least 83 = .ok (.ishl, 1) := by decide +kernel
theorem dX7_least_84 : decode cX7_least 84 = .ok (.iconst (-1), 1) := by decide +kernel
theorem dX7_least_85 : decode cX7_least 85 = .ok (.ixor, 1) := by decide +kernel
theorem dX7_least_86 : decode cX7_least 86 = .ok (.iand, 1) := by decide +kernel
theorem dX7_least_87 : decode cX7_least 87 = .ok (.invokevirtual 158, 3) := by decide +kernel
theorem dX7_least_90 : decode cX7_least 90 = .ok (.ifCond .ne 12, 3) := by decide +kernel
theorem dX7_least_93 : decode cX7_least 93 = .ok (.iload_n 3, 1) := by decide +kernel
theorem dX7_least_94 : decode cX7_least 94 = .ok (.iconst 1, 1) := by decide +kernel
theorem dX7_least_95 : decode cX7_least 95 = .ok (.iload 5, 2) := by decide +kernel
theorem dX7_least_97 : decode cX7_least 97 = .ok (.ishl, 1) := by decide +kernel
theorem dX7_least_98 : decode cX7_least 98 = .ok (.iconst (-1), 1) := by decide +kernel
theorem dX7_least_99 : decode cX7_least 99 = .ok (.ixor, 1) := by decide +kernel
theorem dX7_least_100 : decode cX7_least 100 = .ok (.iand, 1) := by decide +kernel
theorem dX7_least_101 : decode cX7_least 101 = .ok (.istore_n 3, 1) := by decide +kernel
theorem dX7_least_102 : decode cX7_least 102 = .ok (.iinc 5 1, 3) := by decide +kernel
theorem dX7_least_105 : decode cX7_least 105 = .ok (.goto (-50), 3) := by decide +kernel
theorem dX7_least_108 : decode cX7_least 108 = .ok (.goto (-65), 3) := by decide +kernel
theorem dX7_least_111 : decode cX7_least 111 = .ok (.aload_n 0, 1) := by decide +kernel
theorem dX7_least_112 : decode cX7_least 112 = .ok (.iload_n 3, 1) := by decide +kernel
theorem dX7_least_113 : decode cX7_least 113 = .ok (.putfield 163, 3) := by decide +kernel
theorem dX7_least_116 : decode cX7_least 116 = .ok (.iconst 0, 1) := by decide +kernel
theorem dX7_least_117 : decode cX7_least 117 = .ok (.istore 5, 2) := by decide +kernel
theorem dX7_least_119 : decode cX7_least 119 = .ok (.iconst 0, 1) := by decide +kernel
theorem dX7_least_120 : decode cX7_least 120 = .ok (.istore 6, 2) := by decide +kernel
theorem dX7_least_122 : decode cX7_least 122 = .ok (.iload 6, 2) := by decide +kernel
theorem dX7_least_124 : decode cX7_least 124 = .ok (.bipush 10, 2) := by decide +kernel
theorem dX7_least_126 : decode cX7_least 126 = .ok (.if_icmp .ge 20, 3) := by decide +kernel
theorem dX7_least_129 : decode cX7_least 129 = .ok (.iload 5, 2) := by decide +kernel
theorem dX7_least_131 : decode cX7_least 131 = .ok (.iload_n 3, 1) := by decide +kernel
theorem dX7_least_132 : decode cX7_least 132 = .ok (.iload 6, 2) := by decide +kernel
theorem dX7_least_134 : decode cX7_least 134 = .ok (.ishr, 1) := by decide +kernel
theorem dX7_least_135 : decode cX7_least 135 = .ok (.iconst 1, 1) := by decide +kernel
theorem dX7_least_136 : decode cX7_least 136 = .ok (.iand, 1) := by decide +kernel
theorem dX7_least_137 : decode cX7_least 137 = .ok (.iadd, 1) := by decide +kernel
theorem dX7_least_138 : decode cX7_least 138 = .ok (.istore 5, 2) := by decide +kernel
theorem dX7_least_140 : decode cX7_least 140 = .ok (.iinc 6 1, 3) := by decide +kernel
theorem dX7_least_143 : decode cX7_least 143 = .ok (.goto (-21), 3) := by decide +kernel
theorem dX7_least_146 : decode cX7_least 146 = .ok (.iload 5, 2) := by decide +kernel
theorem dX7_least_148 : decode cX7_least 148 = .ok (.ireturn, 1) := by decide +kernel
theorem dX7_part_0 : decode cX7_part 0 = .ok (.iconst 0, 1) := by decide +kernel
theorem dX7_part_1 : decode cX7_part 1 = .ok (.istore_n 2, 1) := by decide +kernel
theorem dX7_part_2 : decode cX7_part 2 = .ok (.iconst 0, 1) := by decide +kernel
theorem dX7_part_3 : decode cX7_part 3 = .ok (.istore_n 3, 1) := by decide +kernel
theorem dX7_part_4 : decode cX7_part 4 = .ok (.iload_n 3, 1) := by decide +kernel
theorem dX7_part_5 : decode cX7_part 5 = .ok (.bipush 10, 2) := by decide +kernel
theorem dX7_part_7 : decode cX7_part 7 = .ok (.if_icmp .ge 33, 3) := by decide +kernel
theorem dX7_part_10 : decode cX7_part 10 = .ok (.aload_n 0, 1) := by decide +kernel
theorem dX7_part_11 : decode cX7_part 11 = .ok (.getfield 163, 3) := by decide +kernel
theorem dX7_part_14 : decode cX7_part 14 = .ok (.iload_n 3, 1) := by decide +kernel
theorem dX7_part_15 : decode cX7_part 15 = .ok (.ishr, 1) := by decide +kernel
theorem dX7_part_16 : decode cX7_part 16 = .ok (.iconst 1, 1) := by decide +kernel
theorem dX7_part_17 : decode cX7_part 17 = .ok (.iand, 1) := by decide +kernel
theorem dX7_part_18 : decode cX7_part 18 = .ok (.ifCond .ne 6, 3) := by decide +kernel
theorem dX7_part_21 : decode cX7_part 21 = .ok (.goto 13, 3) := by decide +kernel
theorem dX7_part_24 : decode cX7_part 24 = .ok (.iload_n 2, 1) := by decide +kernel
theorem dX7_part_25 : decode cX7_part 25 = .ok (.iload_n 1, 1) := by decide +kernel
theorem dX7_part_26 : decode cX7_part 26 = .ok (.if_icmp .ne 5, 3) := by decide +kernel
theorem dX7_part_29 : decode cX7_part 29 = .ok (.iload_n 3, 1) := by decide +kernel
theorem dX7_part_30 : decode cX7_part 30 = .ok (.ireturn, 1) := by decide +kernel
theorem dX7_part_31 : decode cX7_part 31 = .ok (.iinc 2 1, 3) := by decide +kernel
theorem dX7_part_34 : decode cX7_part 34 = .ok (.iinc 3 1, 3) := by decide +kernel
theorem dX7_part_37 : decode cX7_part 37 = .ok (.goto (-33), 3) := by decide +kernel
theorem dX7_part_40 : decode cX7_part 40 = .ok (.iconst (-1), 1) := by decide +kernel
theorem dX7_part_41 : decode cX7_part 41 = .ok (.ireturn, 1) := by decide +kernel
theorem dX7_fills_0 : decode cX7_fills 0 = .ok (.aload_n 0, 1) := by decide +kernel
theorem dX7_fills_1 : decode cX7_fills 1 = .ok (.iload_n 1, 1) := by decide +kernel
theorem dX7_fills_2 : decode cX7_fills 2 = .ok (.iload_n 3, 1) := by decide +kernel
theorem dX7_fills_3 : decode cX7_fills 3 = .ok (.invokevirtual 93, 3) := by decide +kernel
theorem dX7_fills_6 : decode cX7_fills 6 = .ok (.ifCond .eq 10, 3) := by decide +kernel
theorem dX7_fills_9 : decode cX7_fills 9 = .ok (.iload_n 2, 1) := by decide +kernel
theorem dX7_fills_10 : decode cX7_fills 10 = .ok (.invokestatic 102, 3) := by decide +kernel
theorem dX7_fills_13 : decode cX7_fills 13 = .ok (.ifCond .ne 5, 3) := by decide +kernel
theorem dX7_fills_16 : decode cX7_fills 16 = .ok (.iconst (-1), 1) := by decide +kernel
theorem dX7_fills_17 : decode cX7_fills 17 = .ok (.ireturn, 1) := by decide +kernel
theorem dX7_fills_18 : decode cX7_fills 18 = .ok (.aload_n 0, 1) := by decide +kernel
theorem dX7_fills_19 : decode cX7_fills 19 = .ok (.iload_n 1, 1) := by decide +kernel
theorem dX7_fills_20 : decode cX7_fills 20 = .ok (.iload_n 3, 1) := by decide +kernel
theorem dX7_fills_21 : decode cX7_fills 21 = .ok (.invokevirtual 89, 3) := by decide +kernel
theorem dX7_fills_24 : decode cX7_fills 24 = .ok (.ifCond .ne 6, 3) := by decide +kernel
theorem dX7_fills_27 : decode cX7_fills 27 = .ok (.bipush (-3), 2) := by decide +kernel
theorem dX7_fills_29 : decode cX7_fills 29 = .ok (.ireturn, 1) := by decide +kernel
theorem dX7_fills_30 : decode cX7_fills 30 = .ok (.aload_n 0, 1) := by decide +kernel
theorem dX7_fills_31 : decode cX7_fills 31 = .ok (.iload_n 1, 1) := by decide +kernel
theorem dX7_fills_32 : decode cX7_fills 32 = .ok (.iload_n 2, 1) := by decide +kernel
theorem dX7_fills_33 : decode cX7_fills 33 = .ok (.aload_n 0, 1) := by decide +kernel
theorem dX7_fills_34 : decode cX7_fills 34 = .ok (.iload_n 1, 1) := by decide +kernel
theorem dX7_fills_35 : decode cX7_fills 35 = .ok (.invokevirtual 105, 3) := by decide +kernel
theorem dX7_fills_38 : decode cX7_fills 38 = .ok (.invokevirtual 150, 3) := by decide +kernel
theorem dX7_fills_41 : decode cX7_fills 41 = .ok (.aload_n 0, 1) := by decide +kernel
theorem dX7_fills_42 : decode cX7_fills 42 = .ok (.iconst 2, 1) := by decide +kernel
theorem dX7_fills_43 : decode cX7_fills 43 = .ok (.putfield 127, 3) := by decide +kernel
theorem dX7_fills_46 : decode cX7_fills 46 = .ok (.aload_n 0, 1) := by decide +kernel
theorem dX7_fills_47 : decode cX7_fills 47 = .ok (.iload_n 3, 1) := by decide +kernel
theorem dX7_fills_48 : decode cX7_fills 48 = .ok (.putfield 133, 3) := by decide +kernel
theorem dX7_fills_51 : decode cX7_fills 51 = .ok (.aload_n 0, 1) := by decide +kernel
theorem dX7_fills_52 : decode cX7_fills 52 = .ok (.iconst 0, 1) := by decide +kernel
theorem dX7_fills_53 : decode cX7_fills 53 = .ok (.putfield 147, 3) := by decide +kernel
theorem dX7_fills_56 : decode cX7_fills 56 = .ok (.aload_n 0, 1) := by decide +kernel
theorem dX7_fills_57 : decode cX7_fills 57 = .ok (.iload_n 1, 1) := by decide +kernel
theorem dX7_fills_58 : decode cX7_fills 58 = .ok (.aload_n 0, 1) := by decide +kernel
theorem dX7_fills_59 : decode cX7_fills 59 = .ok (.iload_n 1, 1) := by decide +kernel
theorem dX7_fills_60 : decode cX7_fills 60 = .ok (.invokevirtual 105, 3) := by decide +kernel
theorem dX7_fills_63 : decode cX7_fills 63 = .ok (.aload_n 0, 1) := by decide +kernel
theorem dX7_fills_64 : decode cX7_fills 64 = .ok (.iload_n 1, 1) := by decide +kernel
theorem dX7_fills_65 : decode cX7_fills 65 = .ok (.aload_n 0, 1) := by decide +kernel
theorem dX7_fills_66 : decode cX7_fills 66 = .ok (.iload_n 1, 1) := by decide +kernel
theorem dX7_fills_67 : decode cX7_fills 67 = .ok (.invokevirtual 105, 3) := by decide +kernel
theorem dX7_fills_70 : decode cX7_fills 70 = .ok (.invokevirtual 154, 3) := by decide +kernel
theorem dX7_fills_73 : decode cX7_fills 73 = .ok (.iconst 0, 1) := by decide +kernel
theorem dX7_fills_74 : decode cX7_fills 74 = .ok (.iconst 0, 1) := by decide +kernel
theorem dX7_fills_75 : decode cX7_fills 75 = .ok (.invokevirtual 144, 3) := by decide +kernel
theorem dX7_fills_78 : decode cX7_fills 78 = .ok (.istore 4, 2) := by decide +kernel
theorem dX7_fills_80 : decode cX7_fills 80 = .ok (.aload_n 0, 1) := by decide +kernel
theorem dX7_fills_81 : decode cX7_fills 81 = .ok (.getfield 147, 3) := by decide +kernel
theorem dX7_fills_84 : decode cX7_fills 84 = .ok (.ireturn, 1) := by decide +kernel
theorem dX7_fill__0 : decode cX7_fill_ 0 = .ok (.aload_n 0, 1) := by decide +kernel
theorem dX7_fill__1 : decode cX7_fill_ 1 = .ok (.iload_n 1, 1) := by decide +kernel
theorem dX7_fill__2 : decode cX7_fill_ 2 = .ok (.iconst 0, 1) := by decide +kernel
theorem dX7_fill__3 : decode cX7_fill_ 3 = .ok (.aload_n 0, 1) := by decide +kernel
theorem dX7_fill__4 : decode cX7_fill_ 4 = .ok (.getfield 147, 3) := by decide +kernel
theorem dX7_fill__7 : decode cX7_fill_ 7 = .ok (.iconst 1, 1) := by decide +kernel
theorem dX7_fill__8 : decode cX7_fill_ 8 = .ok (.isub, 1) := by decide +kernel
theorem dX7_fill__9 : decode cX7_fill_ 9 = .ok (.invokestatic 74, 3) := by decide +kernel
theorem dX7_fill__12 : decode cX7_fill_ 12 = .ok (.ifCond .eq 7, 3) := by decide +kernel
theorem dX7_fill__15 : decode cX7_fill_ 15 = .ok (.iconst 0, 1) := by decide +kernel
theorem dX7_fill__16 : decode cX7_fill_ 16 = .ok (.goto 4, 3) := by decide +kernel
theorem dX7_fill__19 : decode cX7_fill_ 19 = .ok (.iconst (-1), 1) := by decide +kernel
theorem dX7_fill__20 : decode cX7_fill_ 20 = .ok (.putfield 96, 3) := by decide +kernel
theorem dX7_fill__23 : decode cX7_fill_ 23 = .ok (.aload_n 0, 1) := by decide +kernel
theorem dX7_fill__24 : decode cX7_fill_ 24 = .ok (.getfield 96, 3) := by decide +kernel
theorem dX7_fill__27 : decode cX7_fill_ 27 = .ok (.ifCond .ne 12, 3) := by decide +kernel
theorem dX7_fill__30 : decode cX7_fill_ 30 = .ok (.aload_n 0, 1) := by decide +kernel
theorem dX7_fill__31 : decode cX7_fill_ 31 = .ok (.getfield 61, 3) := by decide +kernel
theorem dX7_fill__34 : decode cX7_fill_ 34 = .ok (.iload_n 1, 1) := by decide +kernel
theorem dX7_fill__35 : decode cX7_fill_ 35 = .ok (.iaload, 1) := by decide +kernel
theorem dX7_fill__36 : decode cX7_fill_ 36 = .ok (.goto 4, 3) := by decide +kernel
theorem dX7_fill__39 : decode cX7_fill_ 39 = .ok (.iconst 0, 1) := by decide +kernel
theorem dX7_fill__40 : decode cX7_fill_ 40 = .ok (.ireturn, 1) := by decide +kernel
theorem dX7_apart_0 : decode cX7_apart 0 = .ok (.aload_n 0, 1) := by decide +kernel
theorem dX7_apart_1 : decode cX7_apart 1 = .ok (.iload_n 1, 1) := by decide +kernel
theorem dX7_apart_2 : decode cX7_apart 2 = .ok (.invokevirtual 81, 3) := by decide +kernel
theorem dX7_apart_5 : decode cX7_apart 5 = .ok (.ifCond .eq 29, 3) := by decide +kernel
theorem dX7_apart_8 : decode cX7_apart 8 = .ok (.iload_n 2, 1) := by decide +kernel
theorem dX7_apart_9 : decode cX7_apart 9 = .ok (.invokestatic 102, 3) := by decide +kernel
theorem dX7_apart_12 : decode cX7_apart 12 = .ok (.ifCond .eq 22, 3) := by decide +kernel
theorem dX7_apart_15 : decode cX7_apart 15 = .ok (.aload_n 0, 1) := by decide +kernel
theorem dX7_apart_16 : decode cX7_apart 16 = .ok (.getfield 16, 3) := by decide +kernel
theorem dX7_apart_19 : decode cX7_apart 19 = .ok (.iload_n 1, 1) := by decide +kernel
theorem dX7_apart_20 : decode cX7_apart 20 = .ok (.iaload, 1) := by decide +kernel
theorem dX7_apart_21 : decode cX7_apart 21 = .ok (.iconst 5, 1) := by decide +kernel
theorem dX7_apart_22 : decode cX7_apart 22 = .ok (.if_icmp .ne 12, 3) := by decide +kernel
theorem dX7_apart_25 : decode cX7_apart 25 = .ok (.iload_n 3, 1) := by decide +kernel
theorem dX7_apart_26 : decode cX7_apart 26 = .ok (.iconst 0, 1) := by decide +kernel
theorem dX7_apart_27 : decode cX7_apart 27 = .ok (.iconst 3, 1) := by decide +kernel
theorem dX7_apart_28 : decode cX7_apart 28 = .ok (.invokestatic 74, 3) := by decide +kernel
theorem dX7_apart_31 : decode cX7_apart 31 = .ok (.ifCond .ne 5, 3) := by decide +kernel
theorem dX7_apart_34 : decode cX7_apart 34 = .ok (.iconst (-1), 1) := by decide +kernel
theorem dX7_apart_35 : decode cX7_apart 35 = .ok (.ireturn, 1) := by decide +kernel
theorem dX7_apart_36 : decode cX7_apart 36 = .ok (.iconst 0, 1) := by decide +kernel
theorem dX7_apart_37 : decode cX7_apart 37 = .ok (.istore 4, 2) := by decide +kernel
theorem dX7_apart_39 : decode cX7_apart 39 = .ok (.iconst 0, 1) := by decide +kernel
theorem dX7_apart_40 : decode cX7_apart 40 = .ok (.istore 5, 2) := by decide +kernel
theorem dX7_apart_42 : decode cX7_apart 42 = .ok (.iload 5, 2) := by decide +kernel
theorem dX7_apart_44 : decode cX7_apart 44 = .ok (.aload_n 0, 1) := by decide +kernel
theorem dX7_apart_45 : decode cX7_apart 45 = .ok (.getfield 22, 3) := by decide +kernel
theorem dX7_apart_48 : decode cX7_apart 48 = .ok (.iload_n 1, 1) := by decide +kernel
theorem dX7_apart_49 : decode cX7_apart 49 = .ok (.iaload, 1) := by decide +kernel
theorem dX7_apart_50 : decode cX7_apart 50 = .ok (.if_icmp .ge 38, 3) := by decide +kernel
theorem dX7_apart_53 : decode cX7_apart 53 = .ok (.iload 4, 2) := by decide +kernel
theorem dX7_apart_55 : decode cX7_apart 55 = .ok (.aload_n 0, 1) := by decide +kernel
theorem dX7_apart_56 : decode cX7_apart 56 = .ok (.getfield 34, 3) := by decide +kernel
theorem dX7_apart_59 : decode cX7_apart 59 = .ok (.bipush 10, 2) := by decide +kernel
theorem dX7_apart_61 : decode cX7_apart 61 = .ok (.iload_n 1, 1) := by decide +kernel
theorem dX7_apart_62 : decode cX7_apart 62 = .ok (.imul, 1) := by decide +kernel
theorem dX7_apart_63 : decode cX7_apart 63 = .ok (.iload 5, 2) := by decide +kernel
theorem dX7_apart_65 : decode cX7_apart 65 = .ok (.iadd, 1) := by decide +kernel
theorem dX7_apart_66 : decode cX7_apart 66 = .ok (.iaload, 1) := by decide +kernel
theorem dX7_apart_67 : decode cX7_apart 67 = .ok (.iload_n 3, 1) := by decide +kernel
theorem dX7_apart_68 : decode cX7_apart 68 = .ok (.if_icmp .ne 10, 3) := by decide +kernel
theorem dX7_apart_71 : decode cX7_apart 71 = .ok (.iconst 1, 1) := by decide +kernel
theorem dX7_apart_72 : decode cX7_apart 72 = .ok (.iload 5, 2) := by decide +kernel
theorem dX7_apart_74 : decode cX7_apart 74 = .ok (.ishl, 1) := by decide +kernel
theorem dX7_apart_75 : decode cX7_apart 75 = .ok (.goto 4, 3) := by decide +kernel
theorem dX7_apart_78 : decode cX7_apart 78 = .ok (.iconst 0, 1) := by decide +kernel
theorem dX7_apart_79 : decode cX7_apart 79 = .ok (.ior, 1) := by decide +kernel
theorem dX7_apart_80 : decode cX7_apart 80 = .ok (.istore 4, 2) := by decide +kernel
theorem dX7_apart_82 : decode cX7_apart 82 = .ok (.iinc 5 1, 3) := by decide +kernel
theorem dX7_apart_85 : decode cX7_apart 85 = .ok (.goto (-43), 3) := by decide +kernel
theorem dX7_apart_88 : decode cX7_apart 88 = .ok (.aload_n 0, 1) := by decide +kernel
theorem dX7_apart_89 : decode cX7_apart 89 = .ok (.iload_n 1, 1) := by decide +kernel
theorem dX7_apart_90 : decode cX7_apart 90 = .ok (.iload_n 2, 1) := by decide +kernel
theorem dX7_apart_91 : decode cX7_apart 91 = .ok (.iload 4, 2) := by decide +kernel
theorem dX7_apart_93 : decode cX7_apart 93 = .ok (.invokevirtual 158, 3) := by decide +kernel
theorem dX7_apart_96 : decode cX7_apart 96 = .ok (.ifCond .eq 7, 3) := by decide +kernel
theorem dX7_apart_99 : decode cX7_apart 99 = .ok (.iconst 1, 1) := by decide +kernel
theorem dX7_apart_100 : decode cX7_apart 100 = .ok (.goto 4, 3) := by decide +kernel
theorem dX7_apart_103 : decode cX7_apart 103 = .ok (.iconst 0, 1) := by decide +kernel
theorem dX7_apart_104 : decode cX7_apart 104 = .ok (.ireturn, 1) := by decide +kernel
theorem dX7_rules_0 : decode cX7_rules 0 = .ok (.aload_n 0, 1) := by decide +kernel
theorem dX7_rules_1 : decode cX7_rules 1 = .ok (.iload_n 1, 1) := by decide +kernel
theorem dX7_rules_2 : decode cX7_rules 2 = .ok (.invokevirtual 81, 3) := by decide +kernel
theorem dX7_rules_5 : decode cX7_rules 5 = .ok (.ifCond .ne 5, 3) := by decide +kernel
theorem dX7_rules_8 : decode cX7_rules 8 = .ok (.iconst (-1), 1) := by decide +kernel
theorem dX7_rules_9 : decode cX7_rules 9 = .ok (.ireturn, 1) := by decide +kernel
theorem dX7_rules_10 : decode cX7_rules 10 = .ok (.iconst 0, 1) := by decide +kernel
theorem dX7_rules_11 : decode cX7_rules 11 = .ok (.istore_n 2, 1) := by decide +kernel
theorem dX7_rules_12 : decode cX7_rules 12 = .ok (.iconst 0, 1) := by decide +kernel
theorem dX7_rules_13 : decode cX7_rules 13 = .ok (.istore_n 3, 1) := by decide +kernel
theorem dX7_rules_14 : decode cX7_rules 14 = .ok (.iload_n 3, 1) := by decide +kernel
theorem dX7_rules_15 : decode cX7_rules 15 = .ok (.iconst 3, 1) := by decide +kernel
theorem dX7_rules_16 : decode cX7_rules 16 = .ok (.if_icmp .ge 33, 3) := by decide +kernel
theorem dX7_rules_19 : decode cX7_rules 19 = .ok (.iload_n 2, 1) := by decide +kernel
theorem dX7_rules_20 : decode cX7_rules 20 = .ok (.aload_n 0, 1) := by decide +kernel
theorem dX7_rules_21 : decode cX7_rules 21 = .ok (.iload_n 1, 1) := by decide +kernel
theorem dX7_rules_22 : decode cX7_rules 22 = .ok (.iload_n 3, 1) := by decide +kernel
theorem dX7_rules_23 : decode cX7_rules 23 = .ok (.aload_n 0, 1) := by decide +kernel
theorem dX7_rules_24 : decode cX7_rules 24 = .ok (.iload_n 1, 1) := by decide +kernel
theorem dX7_rules_25 : decode cX7_rules 25 = .ok (.invokevirtual 105, 3) := by decide +kernel
theorem dX7_rules_28 : decode cX7_rules 28 = .ok (.invokevirtual 158, 3) := by decide +kernel
theorem dX7_rules_31 : decode cX7_rules 31 = .ok (.ifCond .eq 9, 3) := by decide +kernel
theorem dX7_rules_34 : decode cX7_rules 34 = .ok (.iconst 1, 1) := by decide +kernel
theorem dX7_rules_35 : decode cX7_rules 35 = .ok (.iload_n 3, 1) := by decide +kernel
theorem dX7_rules_36 : decode cX7_rules 36 = .ok (.ishl, 1) := by decide +kernel
theorem dX7_rules_37 : decode cX7_rules 37 = .ok (.goto 4, 3) := by decide +kernel
theorem dX7_rules_40 : decode cX7_rules 40 = .ok (.iconst 0, 1) := by decide +kernel
theorem dX7_rules_41 : decode cX7_rules 41 = .ok (.ior, 1) := by decide +kernel
theorem dX7_rules_42 : decode cX7_rules 42 = .ok (.istore_n 2, 1) := by decide +kernel
theorem dX7_rules_43 : decode cX7_rules 43 = .ok (.iinc 3 1, 3) := by decide +kernel
theorem dX7_rules_46 : decode cX7_rules 46 = .ok (.goto (-32), 3) := by decide +kernel
theorem dX7_rules_49 : decode cX7_rules 49 = .ok (.iload_n 2, 1) := by decide +kernel
theorem dX7_rules_50 : decode cX7_rules 50 = .ok (.ireturn, 1) := by decide +kernel
theorem dX7_say_0 : decode cX7_say 0 = .ok (.iload_n 1, 1) := by decide +kernel
theorem dX7_say_1 : decode cX7_say 1 = .ok (.iconst 0, 1) := by decide +kernel
theorem dX7_say_2 : decode cX7_say 2 = .ok (.bipush 9, 2) := by decide +kernel
theorem dX7_say_4 : decode cX7_say 4 = .ok (.invokestatic 74, 3) := by decide +kernel
theorem dX7_say_7 : decode cX7_say 7 = .ok (.ifCond .ne 6, 3) := by decide +kernel
theorem dX7_say_10 : decode cX7_say 10 = .ok (.bipush (-2), 2) := by decide +kernel
theorem dX7_say_12 : decode cX7_say 12 = .ok (.ireturn, 1) := by decide +kernel
theorem dX7_say_13 : decode cX7_say 13 = .ok (.aload_n 0, 1) := by decide +kernel
theorem dX7_say_14 : decode cX7_say 14 = .ok (.getfield 166, 3) := by decide +kernel
theorem dX7_say_17 : decode cX7_say 17 = .ok (.bipush 10, 2) := by decide +kernel
theorem dX7_say_19 : decode cX7_say 19 = .ok (.if_icmp .ne 6, 3) := by decide +kernel
theorem dX7_say_22 : decode cX7_say 22 = .ok (.bipush (-4), 2) := by decide +kernel
theorem dX7_say_24 : decode cX7_say 24 = .ok (.ireturn, 1) := by decide +kernel
theorem dX7_say_25 : decode cX7_say 25 = .ok (.aload_n 0, 1) := by decide +kernel
theorem dX7_say_26 : decode cX7_say 26 = .ok (.getfield 64, 3) := by decide +kernel
theorem dX7_say_29 : decode cX7_say 29 = .ok (.aload_n 0, 1) := by decide +kernel
theorem dX7_say_30 : decode cX7_say 30 = .ok (.getfield 166, 3) := by decide +kernel
theorem dX7_say_33 : decode cX7_say 33 = .ok (.iload_n 1, 1) := by decide +kernel
theorem dX7_say_34 : decode cX7_say 34 = .ok (.iastore, 1) := by decide +kernel
theorem dX7_say_35 : decode cX7_say 35 = .ok (.aload_n 0, 1) := by decide +kernel
theorem dX7_say_36 : decode cX7_say 36 = .ok (.dup, 1) := by decide +kernel
theorem dX7_say_37 : decode cX7_say 37 = .ok (.getfield 166, 3) := by decide +kernel
theorem dX7_say_40 : decode cX7_say 40 = .ok (.iconst 1, 1) := by decide +kernel
theorem dX7_say_41 : decode cX7_say 41 = .ok (.iadd, 1) := by decide +kernel
theorem dX7_say_42 : decode cX7_say 42 = .ok (.putfield 166, 3) := by decide +kernel
theorem dX7_say_45 : decode cX7_say 45 = .ok (.aload_n 0, 1) := by decide +kernel
theorem dX7_say_46 : decode cX7_say 46 = .ok (.getfield 166, 3) := by decide +kernel
theorem dX7_say_49 : decode cX7_say 49 = .ok (.ireturn, 1) := by decide +kernel
theorem dX7_check_0 : decode cX7_check 0 = .ok (.aload_n 0, 1) := by decide +kernel
theorem dX7_check_1 : decode cX7_check 1 = .ok (.iload_n 1, 1) := by decide +kernel
theorem dX7_check_2 : decode cX7_check 2 = .ok (.invokevirtual 81, 3) := by decide +kernel
theorem dX7_check_5 : decode cX7_check 5 = .ok (.ifCond .eq 10, 3) := by decide +kernel
theorem dX7_check_8 : decode cX7_check 8 = .ok (.iload_n 2, 1) := by decide +kernel
theorem dX7_check_9 : decode cX7_check 9 = .ok (.invokestatic 102, 3) := by decide +kernel
theorem dX7_check_12 : decode cX7_check 12 = .ok (.ifCond .ne 5, 3) := by decide +kernel
theorem dX7_check_15 : decode cX7_check 15 = .ok (.iconst (-1), 1) := by decide +kernel
theorem dX7_check_16 : decode cX7_check 16 = .ok (.ireturn, 1) := by decide +kernel
theorem dX7_check_17 : decode cX7_check 17 = .ok (.aload_n 0, 1) := by decide +kernel
theorem dX7_check_18 : decode cX7_check 18 = .ok (.getfield 166, 3) := by decide +kernel
theorem dX7_check_21 : decode cX7_check 21 = .ok (.istore_n 3, 1) := by decide +kernel
theorem dX7_check_22 : decode cX7_check 22 = .ok (.aload_n 0, 1) := by decide +kernel
theorem dX7_check_23 : decode cX7_check 23 = .ok (.iconst 0, 1) := by decide +kernel
theorem dX7_check_24 : decode cX7_check 24 = .ok (.putfield 166, 3) := by decide +kernel
theorem dX7_check_27 : decode cX7_check 27 = .ok (.aload_n 0, 1) := by decide +kernel
theorem dX7_check_28 : decode cX7_check 28 = .ok (.iload_n 1, 1) := by decide +kernel
theorem dX7_check_29 : decode cX7_check 29 = .ok (.iload_n 2, 1) := by decide +kernel
theorem dX7_check_30 : decode cX7_check 30 = .ok (.aload_n 0, 1) := by decide +kernel
theorem dX7_check_31 : decode cX7_check 31 = .ok (.iload_n 1, 1) := by decide +kernel
theorem dX7_check_32 : decode cX7_check 32 = .ok (.invokevirtual 105, 3) := by decide +kernel
theorem dX7_check_35 : decode cX7_check 35 = .ok (.invokevirtual 150, 3) := by decide +kernel
theorem dX7_check_38 : decode cX7_check 38 = .ok (.iconst 0, 1) := by decide +kernel
theorem dX7_check_39 : decode cX7_check 39 = .ok (.istore 4, 2) := by decide +kernel
theorem dX7_check_41 : decode cX7_check 41 = .ok (.iconst 0, 1) := by decide +kernel
theorem dX7_check_42 : decode cX7_check 42 = .ok (.istore 5, 2) := by decide +kernel
theorem dX7_check_44 : decode cX7_check 44 = .ok (.iload 5, 2) := by decide +kernel
theorem dX7_check_46 : decode cX7_check 46 = .ok (.iload_n 3, 1) := by decide +kernel
theorem dX7_check_47 : decode cX7_check 47 = .ok (.if_icmp .ge 108, 3) := by decide +kernel
theorem dX7_check_50 : decode cX7_check 50 = .ok (.aload_n 0, 1) := by decide +kernel
theorem dX7_check_51 : decode cX7_check 51 = .ok (.getfield 64, 3) := by decide +kernel
theorem dX7_check_54 : decode cX7_check 54 = .ok (.iload 5, 2) := by decide +kernel
theorem dX7_check_56 : decode cX7_check 56 = .ok (.iaload, 1) := by decide +kernel
theorem dX7_check_57 : decode cX7_check 57 = .ok (.istore 6, 2) := by decide +kernel
theorem dX7_check_59 : decode cX7_check 59 = .ok (.iload 6, 2) := by decide +kernel
theorem dX7_check_61 : decode cX7_check 61 = .ok (.aload_n 0, 1) := by decide +kernel
theorem dX7_check_62 : decode cX7_check 62 = .ok (.getfield 22, 3) := by decide +kernel
theorem dX7_check_65 : decode cX7_check 65 = .ok (.iload_n 1, 1) := by decide +kernel
theorem dX7_check_66 : decode cX7_check 66 = .ok (.iaload, 1) := by decide +kernel
theorem dX7_check_67 : decode cX7_check 67 = .ok (.if_icmp .ge 29, 3) := by decide +kernel
theorem dX7_check_70 : decode cX7_check 70 = .ok (.iload 4, 2) := by decide +kernel
theorem dX7_check_72 : decode cX7_check 72 = .ok (.iload 6, 2) := by decide +kernel
theorem dX7_check_74 : decode cX7_check 74 = .ok (.ishr, 1) := by decide +kernel
theorem dX7_check_75 : decode cX7_check 75 = .ok (.iconst 1, 1) := by decide +kernel
theorem dX7_check_76 : decode cX7_check 76 = .ok (.iand, 1) := by decide +kernel
theorem dX7_check_77 : decode cX7_check 77 = .ok (.iconst 1, 1) := by decide +kernel
theorem dX7_check_78 : decode cX7_check 78 = .ok (.if_icmp .eq 18, 3) := by decide +kernel
theorem dX7_check_81 : decode cX7_check 81 = .ok (.aload_n 0, 1) := by decide +kernel
theorem dX7_check_82 : decode cX7_check 82 = .ok (.getfield 58, 3) := by decide +kernel
theorem dX7_check_85 : decode cX7_check 85 = .ok (.iload 6, 2) := by decide +kernel
theorem dX7_check_87 : decode cX7_check 87 = .ok (.iaload, 1) := by decide +kernel
theorem dX7_check_88 : decode cX7_check 88 = .ok (.iload 4, 2) := by decide +kernel
theorem dX7_check_90 : decode cX7_check 90 = .ok (.iconst (-1), 1) := by decide +kernel
theorem dX7_check_91 : decode cX7_check 91 = .ok (.ixor, 1) := by decide +kernel
theorem dX7_check_92 : decode cX7_check 92 = .ok (.iand, 1) := by decide +kernel
theorem dX7_check_93 : decode cX7_check 93 = .ok (.ifCond .eq 6, 3) := by decide +kernel
theorem dX7_check_96 : decode cX7_check 96 = .ok (.iload 5, 2) := by decide +kernel
theorem dX7_check_98 : decode cX7_check 98 = .ok (.ireturn, 1) := by decide +kernel
theorem dX7_check_99 : decode cX7_check 99 = .ok (.aload_n 0, 1) := by decide +kernel
theorem dX7_check_100 : decode cX7_check 100 = .ok (.iload_n 1, 1) := by decide +kernel
theorem dX7_check_101 : decode cX7_check 101 = .ok (.iload 6, 2) := by decide +kernel
theorem dX7_check_103 : decode cX7_check 103 = .ok (.iload 5, 2) := by decide +kernel
theorem dX7_check_105 : decode cX7_check 105 = .ok (.invokevirtual 140, 3) := by decide +kernel
theorem dX7_check_108 : decode cX7_check 108 = .ok (.istore 7, 2) := by decide +kernel
theorem dX7_check_110 : decode cX7_check 110 = .ok (.aload_n 0, 1) := by decide +kernel
theorem dX7_check_111 : decode cX7_check 111 = .ok (.iload_n 1, 1) := by decide +kernel
theorem dX7_check_112 : decode cX7_check 112 = .ok (.iload 6, 2) := by decide +kernel
theorem dX7_check_114 : decode cX7_check 114 = .ok (.invokevirtual 89, 3) := by decide +kernel
theorem dX7_check_117 : decode cX7_check 117 = .ok (.ifCond .ne 23, 3) := by decide +kernel
theorem dX7_check_120 : decode cX7_check 120 = .ok (.iload 7, 2) := by decide +kernel
theorem dX7_check_122 : decode cX7_check 122 = .ok (.aload_n 0, 1) := by decide +kernel
theorem dX7_check_123 : decode cX7_check 123 = .ok (.getfield 46, 3) := by decide +kernel
theorem dX7_check_126 : decode cX7_check 126 = .ok (.bipush 10, 2) := by decide +kernel
theorem dX7_check_128 : decode cX7_check 128 = .ok (.iload_n 1, 1) := by decide +kernel
theorem dX7_check_129 : decode cX7_check 129 = .ok (.imul, 1) := by decide +kernel
theorem dX7_check_130 : decode cX7_check 130 = .ok (.iload 6, 2) := by decide +kernel
theorem dX7_check_132 : decode cX7_check 132 = .ok (.iadd, 1) := by decide +kernel
theorem dX7_check_133 : decode cX7_check 133 = .ok (.iaload, 1) := by decide +kernel
theorem dX7_check_134 : decode cX7_check 134 = .ok (.if_icmp .eq 6, 3) := by decide +kernel
theorem dX7_check_137 : decode cX7_check 137 = .ok (.iload 5, 2) := by decide +kernel
theorem dX7_check_139 : decode cX7_check 139 = .ok (.ireturn, 1) := by decide +kernel
theorem dX7_check_140 : decode cX7_check 140 = .ok (.iload 4, 2) := by decide +kernel
theorem dX7_check_142 : decode cX7_check 142 = .ok (.iconst 1, 1) := by decide +kernel
theorem dX7_check_143 : decode cX7_check 143 = .ok (.iload 6, 2) := by decide +kernel
theorem dX7_check_145 : decode cX7_check 145 = .ok (.ishl, 1) := by decide +kernel
theorem dX7_check_146 : decode cX7_check 146 = .ok (.ior, 1) := by decide +kernel
theorem dX7_check_147 : decode cX7_check 147 = .ok (.istore 4, 2) := by decide +kernel
theorem dX7_check_149 : decode cX7_check 149 = .ok (.iinc 5 1, 3) := by decide +kernel
theorem dX7_check_152 : decode cX7_check 152 = .ok (.goto (-108), 3) := by decide +kernel
theorem dX7_check_155 : decode cX7_check 155 = .ok (.aload_n 0, 1) := by decide +kernel
theorem dX7_check_156 : decode cX7_check 156 = .ok (.iload_n 1, 1) := by decide +kernel
theorem dX7_check_157 : decode cX7_check 157 = .ok (.aload_n 0, 1) := by decide +kernel
theorem dX7_check_158 : decode cX7_check 158 = .ok (.iload_n 1, 1) := by decide +kernel
theorem dX7_check_159 : decode cX7_check 159 = .ok (.invokevirtual 105, 3) := by decide +kernel
theorem dX7_check_162 : decode cX7_check 162 = .ok (.invokevirtual 154, 3) := by decide +kernel
theorem dX7_check_165 : decode cX7_check 165 = .ok (.istore 5, 2) := by decide +kernel
theorem dX7_check_167 : decode cX7_check 167 = .ok (.iload 4, 2) := by decide +kernel
theorem dX7_check_169 : decode cX7_check 169 = .ok (.iload 5, 2) := by decide +kernel
theorem dX7_check_171 : decode cX7_check 171 = .ok (.iand, 1) := by decide +kernel
theorem dX7_check_172 : decode cX7_check 172 = .ok (.iload 5, 2) := by decide +kernel
theorem dX7_check_174 : decode cX7_check 174 = .ok (.if_icmp .ne 8, 3) := by decide +kernel
theorem dX7_check_177 : decode cX7_check 177 = .ok (.bipush 100, 2) := by decide +kernel
theorem dX7_check_179 : decode cX7_check 179 = .ok (.goto 4, 3) := by decide +kernel
theorem dX7_check_182 : decode cX7_check 182 = .ok (.iload_n 3, 1) := by decide +kernel
theorem dX7_check_183 : decode cX7_check 183 = .ok (.ireturn, 1) := by decide +kernel
end
section
theorem dX0_init_0 : decode cX0_init 0 = .ok (.aload_n 0, 1) := by decide +kernel
theorem dX0_init_1 : decode cX0_init 1 = .ok (.invokespecial 1, 3) := by decide +kernel
theorem dX0_init_4 : decode cX0_init 4 = .ok (.aload_n 0, 1) := by decide +kernel
theorem dX0_init_5 : decode cX0_init 5 = .ok (.bipush 64, 2) := by decide +kernel
theorem dX0_init_7 : decode cX0_init 7 = .ok (.newarray .int, 2) := by decide +kernel
theorem dX0_init_9 : decode cX0_init 9 = .ok (.putfield 9, 3) := by decide +kernel
theorem dX0_init_12 : decode cX0_init 12 = .ok (.return_, 1) := by decide +kernel
theorem dX0_add_0 : decode cX0_add 0 = .ok (.iconst 0, 1) := by decide +kernel
theorem dX0_add_1 : decode cX0_add 1 = .ok (.istore_n 2, 1) := by decide +kernel
theorem dX0_add_2 : decode cX0_add 2 = .ok (.iload_n 2, 1) := by decide +kernel
theorem dX0_add_3 : decode cX0_add 3 = .ok (.aload_n 0, 1) := by decide +kernel
theorem dX0_add_4 : decode cX0_add 4 = .ok (.getfield 13, 3) := by decide +kernel
theorem dX0_add_7 : decode cX0_add 7 = .ok (.if_icmp .ge 19, 3) := by decide +kernel
theorem dX0_add_10 : decode cX0_add 10 = .ok (.aload_n 0, 1) := by decide +kernel
theorem dX0_add_11 : decode cX0_add 11 = .ok (.getfield 9, 3) := by decide +kernel
theorem dX0_add_14 : decode cX0_add 14 = .ok (.iload_n 2, 1) := by decide +kernel
theorem dX0_add_15 : decode cX0_add 15 = .ok (.iaload, 1) := by decide +kernel
theorem dX0_add_16 : decode cX0_add 16 = .ok (.iload_n 1, 1) := by decide +kernel
theorem dX0_add_17 : decode cX0_add 17 = .ok (.if_icmp .ge 9, 3) := by decide +kernel
theorem dX0_add_20 : decode cX0_add 20 = .ok (.iinc 2 1, 3) := by decide +kernel
theorem dX0_add_23 : decode cX0_add 23 = .ok (.goto (-21), 3) := by decide +kernel
theorem dX0_add_26 : decode cX0_add 26 = .ok (.aload_n 0, 1) := by decide +kernel
theorem dX0_add_27 : decode cX0_add 27 = .ok (.getfield 13, 3) := by decide +kernel
theorem dX0_add_30 : decode cX0_add 30 = .ok (.bipush 64, 2) := by decide +kernel
theorem dX0_add_32 : decode cX0_add 32 = .ok (.if_icmp .ge 21, 3) := by decide +kernel
theorem dX0_add_35 : decode cX0_add 35 = .ok (.iload_n 2, 1) := by decide +kernel
theorem dX0_add_36 : decode cX0_add 36 = .ok (.aload_n 0, 1) := by decide +kernel
theorem dX0_add_37 : decode cX0_add 37 = .ok (.getfield 13, 3) := by decide +kernel
theorem dX0_add_40 : decode cX0_add 40 = .ok (.if_icmp .ge 14, 3) := by decide +kernel
theorem dX0_add_43 : decode cX0_add 43 = .ok (.aload_n 0, 1) := by decide +kernel
theorem dX0_add_44 : decode cX0_add 44 = .ok (.getfield 9, 3) := by decide +kernel
theorem dX0_add_47 : decode cX0_add 47 = .ok (.iload_n 2, 1) := by decide +kernel
theorem dX0_add_48 : decode cX0_add 48 = .ok (.iaload, 1) := by decide +kernel
theorem dX0_add_49 : decode cX0_add 49 = .ok (.iload_n 1, 1) := by decide +kernel
theorem dX0_add_50 : decode cX0_add 50 = .ok (.if_icmp .ne 4, 3) := by decide +kernel
theorem dX0_add_53 : decode cX0_add 53 = .ok (.return_, 1) := by decide +kernel
theorem dX0_add_54 : decode cX0_add 54 = .ok (.aload_n 0, 1) := by decide +kernel
theorem dX0_add_55 : decode cX0_add 55 = .ok (.getfield 13, 3) := by decide +kernel
theorem dX0_add_58 : decode cX0_add 58 = .ok (.istore_n 3, 1) := by decide +kernel
theorem dX0_add_59 : decode cX0_add 59 = .ok (.iload_n 3, 1) := by decide +kernel
theorem dX0_add_60 : decode cX0_add 60 = .ok (.iload_n 2, 1) := by decide +kernel
theorem dX0_add_61 : decode cX0_add 61 = .ok (.if_icmp .le 23, 3) := by decide +kernel
theorem dX0_add_64 : decode cX0_add 64 = .ok (.aload_n 0, 1) := by decide +kernel
theorem dX0_add_65 : decode cX0_add 65 = .ok (.getfield 9, 3) := by decide +kernel
theorem dX0_add_68 : decode cX0_add 68 = .ok (.iload_n 3, 1) := by decide +kernel
theorem dX0_add_69 : decode cX0_add 69 = .ok (.aload_n 0, 1) := by decide +kernel
theorem dX0_add_70 : decode cX0_add 70 = .ok (.getfield 9, 3) := by decide +kernel
theorem dX0_add_73 : decode cX0_add 73 = .ok (.iload_n 3, 1) := by decide +kernel
theorem dX0_add_74 : decode cX0_add 74 = .ok (.iconst 1, 1) := by decide +kernel
theorem dX0_add_75 : decode cX0_add 75 = .ok (.isub, 1) := by decide +kernel
theorem dX0_add_76 : decode cX0_add 76 = .ok (.iaload, 1) := by decide +kernel
theorem dX0_add_77 : decode cX0_add 77 = .ok (.iastore, 1) := by decide +kernel
theorem dX0_add_78 : decode cX0_add 78 = .ok (.iinc 3 (-1), 3) := by decide +kernel
theorem dX0_add_81 : decode cX0_add 81 = .ok (.goto (-22), 3) := by decide +kernel
theorem dX0_add_84 : decode cX0_add 84 = .ok (.aload_n 0, 1) := by decide +kernel
theorem dX0_add_85 : decode cX0_add 85 = .ok (.getfield 9, 3) := by decide +kernel
theorem dX0_add_88 : decode cX0_add 88 = .ok (.iload_n 2, 1) := by decide +kernel
theorem dX0_add_89 : decode cX0_add 89 = .ok (.iload_n 1, 1) := by decide +kernel
theorem dX0_add_90 : decode cX0_add 90 = .ok (.iastore, 1) := by decide +kernel
theorem dX0_add_91 : decode cX0_add 91 = .ok (.aload_n 0, 1) := by decide +kernel
theorem dX0_add_92 : decode cX0_add 92 = .ok (.dup, 1) := by decide +kernel
theorem dX0_add_93 : decode cX0_add 93 = .ok (.getfield 13, 3) := by decide +kernel
theorem dX0_add_96 : decode cX0_add 96 = .ok (.iconst 1, 1) := by decide +kernel
theorem dX0_add_97 : decode cX0_add 97 = .ok (.iadd, 1) := by decide +kernel
theorem dX0_add_98 : decode cX0_add 98 = .ok (.putfield 13, 3) := by decide +kernel
theorem dX0_add_101 : decode cX0_add 101 = .ok (.return_, 1) := by decide +kernel
theorem dX1_init_0 : decode cX1_init 0 = .ok (.aload_n 0, 1) := by decide +kernel
theorem dX1_init_1 : decode cX1_init 1 = .ok (.invokespecial 3, 3) := by decide +kernel
theorem dX1_init_4 : decode cX1_init 4 = .ok (.aload_n 0, 1) := by decide +kernel
theorem dX1_init_5 : decode cX1_init 5 = .ok (.bipush 10, 2) := by decide +kernel
theorem dX1_init_7 : decode cX1_init 7 = .ok (.newarray .int, 2) := by decide +kernel
theorem dX1_init_9 : decode cX1_init 9 = .ok (.putfield 9, 3) := by decide +kernel
theorem dX1_init_12 : decode cX1_init 12 = .ok (.aload_n 0, 1) := by decide +kernel
theorem dX1_init_13 : decode cX1_init 13 = .ok (.bipush 10, 2) := by decide +kernel
theorem dX1_init_15 : decode cX1_init 15 = .ok (.newarray .int, 2) := by decide +kernel
theorem dX1_init_17 : decode cX1_init 17 = .ok (.putfield 15, 3) := by decide +kernel
theorem dX1_init_20 : decode cX1_init 20 = .ok (.aload_n 0, 1) := by decide +kernel
theorem dX1_init_21 : decode cX1_init 21 = .ok (.bipush 10, 2) := by decide +kernel
theorem dX1_init_23 : decode cX1_init 23 = .ok (.newarray .int, 2) := by decide +kernel
theorem dX1_init_25 : decode cX1_init 25 = .ok (.putfield 18, 3) := by decide +kernel
theorem dX1_init_28 : decode cX1_init 28 = .ok (.aload_n 0, 1) := by decide +kernel
theorem dX1_init_29 : decode cX1_init 29 = .ok (.bipush 10, 2) := by decide +kernel
theorem dX1_init_31 : decode cX1_init 31 = .ok (.newarray .int, 2) := by decide +kernel
theorem dX1_init_33 : decode cX1_init 33 = .ok (.putfield 21, 3) := by decide +kernel
theorem dX1_init_36 : decode cX1_init 36 = .ok (.aload_n 0, 1) := by decide +kernel
theorem dX1_init_37 : decode cX1_init 37 = .ok (.bipush 10, 2) := by decide +kernel
theorem dX1_init_39 : decode cX1_init 39 = .ok (.newarray .int, 2) := by decide +kernel
theorem dX1_init_41 : decode cX1_init 41 = .ok (.putfield 24, 3) := by decide +kernel
theorem dX1_init_44 : decode cX1_init 44 = .ok (.aload_n 0, 1) := by decide +kernel
theorem dX1_init_45 : decode cX1_init 45 = .ok (.bipush 10, 2) := by decide +kernel
theorem dX1_init_47 : decode cX1_init 47 = .ok (.newarray .int, 2) := by decide +kernel
theorem dX1_init_49 : decode cX1_init 49 = .ok (.putfield 27, 3) := by decide +kernel
theorem dX1_init_52 : decode cX1_init 52 = .ok (.aload_n 0, 1) := by decide +kernel
theorem dX1_init_53 : decode cX1_init 53 = .ok (.bipush 10, 2) := by decide +kernel
theorem dX1_init_55 : decode cX1_init 55 = .ok (.newarray .int, 2) := by decide +kernel
theorem dX1_init_57 : decode cX1_init 57 = .ok (.putfield 30, 3) := by decide +kernel
theorem dX1_init_60 : decode cX1_init 60 = .ok (.aload_n 0, 1) := by decide +kernel
theorem dX1_init_61 : decode cX1_init 61 = .ok (.iload_n 1, 1) := by decide +kernel
theorem dX1_init_62 : decode cX1_init 62 = .ok (.putfield 33, 3) := by decide +kernel
theorem dX1_init_65 : decode cX1_init 65 = .ok (.aload_n 0, 1) := by decide +kernel
theorem dX1_init_66 : decode cX1_init 66 = .ok (.aload_n 2, 1) := by decide +kernel
theorem dX1_init_67 : decode cX1_init 67 = .ok (.putfield 37, 3) := by decide +kernel
theorem dX1_init_70 : decode cX1_init 70 = .ok (.return_, 1) := by decide +kernel
theorem dX1_twin_0 : decode cX1_twin 0 = .ok (.new 10, 3) := by decide +kernel
theorem dX1_twin_3 : decode cX1_twin 3 = .ok (.dup, 1) := by decide +kernel
theorem dX1_twin_4 : decode cX1_twin 4 = .ok (.aload_n 0, 1) := by decide +kernel
theorem dX1_twin_5 : decode cX1_twin 5 = .ok (.getfield 33, 3) := by decide +kernel
theorem dX1_twin_8 : decode cX1_twin 8 = .ok (.aload_n 0, 1) := by decide +kernel
theorem dX1_twin_9 : decode cX1_twin 9 = .ok (.getfield 37, 3) := by decide +kernel
theorem dX1_twin_12 : decode cX1_twin 12 = .ok (.invokespecial 41, 3) := by decide +kernel
theorem dX1_twin_15 : decode cX1_twin 15 = .ok (.astore_n 1, 1) := by decide +kernel
theorem dX1_twin_16 : decode cX1_twin 16 = .ok (.aload_n 1, 1) := by decide +kernel
theorem dX1_twin_17 : decode cX1_twin 17 = .ok (.aload_n 0, 1) := by decide +kernel
theorem dX1_twin_18 : decode cX1_twin 18 = .ok (.getfield 44, 3) := by decide +kernel
theorem dX1_twin_21 : decode cX1_twin 21 = .ok (.putfield 44, 3) := by decide +kernel
theorem dX1_twin_24 : decode cX1_twin 24 = .ok (.aload_n 1, 1) := by decide +kernel
theorem dX1_twin_25 : decode cX1_twin 25 = .ok (.aload_n 0, 1) := by decide +kernel
theorem dX1_twin_26 : decode cX1_twin 26 = .ok (.getfield 47, 3) := by decide +kernel
theorem dX1_twin_29 : decode cX1_twin 29 = .ok (.putfield 47, 3) := by decide +kernel
theorem dX1_twin_32 : decode cX1_twin 32 = .ok (.aload_n 0, 1) := by decide +kernel
theorem dX1_twin_33 : decode cX1_twin 33 = .ok (.getfield 9, 3) := by decide +kernel
theorem dX1_twin_36 : decode cX1_twin 36 = .ok (.iconst 0, 1) := by decide +kernel
theorem dX1_twin_37 : decode cX1_twin 37 = .ok (.aload_n 1, 1) := by decide +kernel
theorem dX1_twin_38 : decode cX1_twin 38 = .ok (.getfield 9, 3) := by decide +kernel
theorem dX1_twin_41 : decode cX1_twin 41 = .ok (.iconst 0, 1) := by decide +kernel
theorem dX1_twin_42 : decode cX1_twin 42 = .ok (.bipush 10, 2) := by decide +kernel
theorem dX1_twin_44 : decode cX1_twin 44 = .ok (.invokestatic 50, 3) := by decide +kernel
theorem dX1_twin_47 : decode cX1_twin 47 = .ok (.aload_n 0, 1) := by decide +kernel
theorem dX1_twin_48 : decode cX1_twin 48 = .ok (.getfield 15, 3) := by decide +kernel
theorem dX1_twin_51 : decode cX1_twin 51 = .ok (.iconst 0, 1) := by decide +kernel
theorem dX1_twin_52 : decode cX1_twin 52 = .ok (.aload_n 1, 1) := by decide +kernel
theorem dX1_twin_53 : decode cX1_twin 53 = .ok (.getfield 15, 3) := by decide +kernel
theorem dX1_twin_56 : decode cX1_twin 56 = .ok (.iconst 0, 1) := by decide +kernel
theorem dX1_twin_57 : decode cX1_twin 57 = .ok (.bipush 10, 2) := by decide +kernel
theorem dX1_twin_59 : decode cX1_twin 59 = .ok (.invokestatic 50, 3) := by decide +kernel
theorem dX1_twin_62 : decode cX1_twin 62 = .ok (.aload_n 0, 1) := by decide +kernel
theorem dX1_twin_63 : decode cX1_twin 63 = .ok (.getfield 18, 3) := by decide +kernel
theorem dX1_twin_66 : decode cX1_twin 66 = .ok (.iconst 0, 1) := by decide +kernel
theorem dX1_twin_67 : decode cX1_twin 67 = .ok (.aload_n 1, 1) := by decide +kernel
theorem dX1_twin_68 : decode cX1_twin 68 = .ok (.getfield 18, 3) := by decide +kernel
theorem dX1_twin_71 : decode cX1_twin 71 = .ok (.iconst 0, 1) := by decide +kernel
theorem dX1_twin_72 : decode cX1_twin 72 = .ok (.bipush 10, 2) := by decide +kernel
theorem dX1_twin_74 : decode cX1_twin 74 = .ok (.invokestatic 50, 3) := by decide +kernel
theorem dX1_twin_77 : decode cX1_twin 77 = .ok (.aload_n 0, 1) := by decide +kernel
theorem dX1_twin_78 : decode cX1_twin 78 = .ok (.getfield 21, 3) := by decide +kernel
theorem dX1_twin_81 : decode cX1_twin 81 = .ok (.iconst 0, 1) := by decide +kernel
theorem dX1_twin_82 : decode cX1_twin 82 = .ok (.aload_n 1, 1) := by decide +kernel
theorem dX1_twin_83 : decode cX1_twin 83 = .ok (.getfield 21, 3) := by decide +kernel
theorem dX1_twin_86 : decode cX1_twin 86 = .ok (.iconst 0, 1) := by decide +kernel
theorem dX1_twin_87 : decode cX1_twin 87 = .ok (.bipush 10, 2) := by decide +kernel
theorem dX1_twin_89 : decode cX1_twin 89 = .ok (.invokestatic 50, 3) := by decide +kernel
theorem dX1_twin_92 : decode cX1_twin 92 = .ok (.aload_n 0, 1) := by decide +kernel
theorem dX1_twin_93 : decode cX1_twin 93 = .ok (.getfield 24, 3) := by decide +kernel
theorem dX1_twin_96 : decode cX1_twin 96 = .ok (.iconst 0, 1) := by decide +kernel
theorem dX1_twin_97 : decode cX1_twin 97 = .ok (.aload_n 1, 1) := by decide +kernel
theorem dX1_twin_98 : decode cX1_twin 98 = .ok (.getfield 24, 3) := by decide +kernel
theorem dX1_twin_101 : decode cX1_twin 101 = .ok (.iconst 0, 1) := by decide +kernel
theorem dX1_twin_102 : decode cX1_twin 102 = .ok (.bipush 10, 2) := by decide +kernel
theorem dX1_twin_104 : decode cX1_twin 104 = .ok (.invokestatic 50, 3) := by decide +kernel
theorem dX1_twin_107 : decode cX1_twin 107 = .ok (.aload_n 0, 1) := by decide +kernel
theorem dX1_twin_108 : decode cX1_twin 108 = .ok (.getfield 27, 3) := by decide +kernel
theorem dX1_twin_111 : decode cX1_twin 111 = .ok (.iconst 0, 1) := by decide +kernel
theorem dX1_twin_112 : decode cX1_twin 112 = .ok (.aload_n 1, 1) := by decide +kernel
theorem dX1_twin_113 : decode cX1_twin 113 = .ok (.getfield 27, 3) := by decide +kernel
theorem dX1_twin_116 : decode cX1_twin 116 = .ok (.iconst 0, 1) := by decide +kernel
theorem dX1_twin_117 : decode cX1_twin 117 = .ok (.bipush 10, 2) := by decide +kernel
theorem dX1_twin_119 : decode cX1_twin 119 = .ok (.invokestatic 50, 3) := by decide +kernel
theorem dX1_twin_122 : decode cX1_twin 122 = .ok (.aload_n 0, 1) := by decide +kernel
theorem dX1_twin_123 : decode cX1_twin 123 = .ok (.getfield 30, 3) := by decide +kernel
theorem dX1_twin_126 : decode cX1_twin 126 = .ok (.iconst 0, 1) := by decide +kernel
theorem dX1_twin_127 : decode cX1_twin 127 = .ok (.aload_n 1, 1) := by decide +kernel
theorem dX1_twin_128 : decode cX1_twin 128 = .ok (.getfield 30, 3) := by decide +kernel
theorem dX1_twin_131 : decode cX1_twin 131 = .ok (.iconst 0, 1) := by decide +kernel
theorem dX1_twin_132 : decode cX1_twin 132 = .ok (.bipush 10, 2) := by decide +kernel
theorem dX1_twin_134 : decode cX1_twin 134 = .ok (.invokestatic 50, 3) := by decide +kernel
theorem dX1_twin_137 : decode cX1_twin 137 = .ok (.aload_n 1, 1) := by decide +kernel
theorem dX1_twin_138 : decode cX1_twin 138 = .ok (.areturn, 1) := by decide +kernel
theorem dX1_hasCall_0 : decode cX1_hasCall 0 = .ok (.iload_n 1, 1) := by decide +kernel
theorem dX1_hasCall_1 : decode cX1_hasCall 1 = .ok (.ifCond .lt 15, 3) := by decide +kernel
theorem dX1_hasCall_4 : decode cX1_hasCall 4 = .ok (.iload_n 1, 1) := by decide +kernel
theorem dX1_hasCall_5 : decode cX1_hasCall 5 = .ok (.aload_n 0, 1) := by decide +kernel
theorem dX1_hasCall_6 : decode cX1_hasCall 6 = .ok (.getfield 44, 3) := by decide +kernel
theorem dX1_hasCall_9 : decode cX1_hasCall 9 = .ok (.if_icmp .ge 7, 3) := by decide +kernel
theorem dX1_hasCall_12 : decode cX1_hasCall 12 = .ok (.iconst 1, 1) := by decide +kernel
theorem dX1_hasCall_13 : decode cX1_hasCall 13 = .ok (.goto 4, 3) := by decide +kernel
theorem dX1_hasCall_16 : decode cX1_hasCall 16 = .ok (.iconst 0, 1) := by decide +kernel
theorem dX1_hasCall_17 : decode cX1_hasCall 17 = .ok (.ireturn, 1) := by decide +kernel
theorem dX1_isOpen_0 : decode cX1_isOpen 0 = .ok (.aload_n 0, 1) := by decide +kernel
theorem dX1_isOpen_1 : decode cX1_isOpen 1 = .ok (.iload_n 1, 1) := by decide +kernel
theorem dX1_isOpen_2 : decode cX1_isOpen 2 = .ok (.invokevirtual 56, 3) := by decide +kernel
theorem dX1_isOpen_5 : decode cX1_isOpen 5 = .ok (.ifCond .eq 16, 3) := by decide +kernel
theorem dX1_isOpen_8 : decode cX1_isOpen 8 = .ok (.aload_n 0, 1) := by decide +kernel
theorem dX1_isOpen_9 : decode cX1_isOpen 9 = .ok (.getfield 27, 3) := by decide +kernel
theorem dX1_isOpen_12 : decode cX1_isOpen 12 = .ok (.iload_n 1, 1) := by decide +kernel
theorem dX1_isOpen_13 : decode cX1_isOpen 13 = .ok (.iaload, 1) := by decide +kernel
theorem dX1_isOpen_14 : decode cX1_isOpen 14 = .ok (.ifCond .ne 7, 3) := by decide +kernel
theorem dX1_isOpen_17 : decode cX1_isOpen 17 = .ok (.iconst 1, 1) := by decide +kernel
theorem dX1_isOpen_18 : decode cX1_isOpen 18 = .ok (.goto 4, 3) := by decide +kernel
theorem dX1_isOpen_21 : decode cX1_isOpen 21 = .ok (.iconst 0, 1) := by decide +kernel
theorem dX1_isOpen_22 : decode cX1_isOpen 22 = .ok (.ireturn, 1) := by decide +kernel
theorem dX1_isWaiting_0 : decode cX1_isWaiting 0 = .ok (.iconst 0, 1) := by decide +kernel
theorem dX1_isWaiting_1 : decode cX1_isWaiting 1 = .ok (.istore_n 2, 1) := by decide +kernel
theorem dX1_isWaiting_2 : decode cX1_isWaiting 2 = .ok (.iload_n 2, 1) := by decide +kernel
theorem dX1_isWaiting_3 : decode cX1_isWaiting 3 = .ok (.aload_n 0, 1) := by decide +kernel
theorem dX1_isWaiting_4 : decode cX1_isWaiting 4 = .ok (.getfield 44, 3) := by decide +kernel
theorem dX1_isWaiting_7 : decode cX1_isWaiting 7 = .ok (.if_icmp .ge 30, 3) := by decide +kernel
theorem dX1_isWaiting_10 : decode cX1_isWaiting 10 = .ok (.aload_n 0, 1) := by decide +kernel
theorem dX1_isWaiting_11 : decode cX1_isWaiting 11 = .ok (.getfield 9, 3) := by decide +kernel
theorem dX1_isWaiting_14 : decode cX1_isWaiting 14 = .ok (.iload_n 2, 1) := by decide +kernel
theorem dX1_isWaiting_15 : decode cX1_isWaiting 15 = .ok (.iaload, 1) := by decide +kernel
theorem dX1_isWaiting_16 : decode cX1_isWaiting 16 = .ok (.iload_n 1, 1) := by decide +kernel
theorem dX1_isWaiting_17 : decode cX1_isWaiting 17 = .ok (.if_icmp .ne 14, 3) := by decide +kernel
theorem dX1_isWaiting_20 : decode cX1_isWaiting 20 = .ok (.aload_n 0, 1) := by decide +kernel
theorem dX1_isWaiting_21 : decode cX1_isWaiting 21 = .ok (.getfield 27, 3) := by decide +kernel
theorem dX1_isWaiting_24 : decode cX1_isWaiting 24 = .ok (.iload_n 2, 1) := by decide +kernel
theorem dX1_isWaiting_25 : decode cX1_isWaiting 25 = .ok (.iaload, 1) := by decide +kernel
theorem dX1_isWaiting_26 : decode cX1_isWaiting 26 = .ok (.ifCond .ne 5, 3) := by decide +kernel
theorem dX1_isWaiting_29 : decode cX1_isWaiting 29 = .ok (.iconst 1, 1) := by decide +kernel
theorem dX1_isWaiting_30 : decode cX1_isWaiting 30 = .ok (.ireturn, 1) := by decide +kernel
theorem dX1_isWaiting_31 : decode cX1_isWaiting 31 = .ok (.iinc 2 1, 3) := by decide +kernel
theorem dX1_isWaiting_34 : decode cX1_isWaiting 34 = .ok (.goto (-32), 3) := by decide +kernel
theorem dX1_isWaiting_37 : decode cX1_isWaiting 37 = .ok (.iconst 0, 1) := by decide +kernel
theorem dX1_isWaiting_38 : decode cX1_isWaiting 38 = .ok (.ireturn, 1) := by decide +kernel
theorem dX1_start_0 : decode cX1_start 0 = .ok (.aload_n 0, 1) := by decide +kernel
theorem dX1_start_1 : decode cX1_start 1 = .ok (.getfield 44, 3) := by decide +kernel
theorem dX1_start_4 : decode cX1_start 4 = .ok (.bipush 10, 2) := by decide +kernel
theorem dX1_start_6 : decode cX1_start 6 = .ok (.if_icmp .lt 6, 3) := by decide +kernel
theorem dX1_start_9 : decode cX1_start 9 = .ok (.bipush (-4), 2) := by decide +kernel
theorem dX1_start_11 : decode cX1_start 11 = .ok (.ireturn, 1) := by decide +kernel
theorem dX1_start_12 : decode cX1_start 12 = .ok (.aload_n 0, 1) := by decide +kernel
theorem dX1_start_13 : decode cX1_start 13 = .ok (.dup, 1) := by decide +kernel
theorem dX1_start_14 : decode cX1_start 14 = .ok (.getfield 47, 3) := by decide +kernel
theorem dX1_start_17 : decode cX1_start 17 = .ok (.iconst 1, 1) := by decide +kernel
theorem dX1_start_18 : decode cX1_start 18 = .ok (.iadd, 1) := by decide +kernel
theorem dX1_start_19 : decode cX1_start 19 = .ok (.putfield 47, 3) := by decide +kernel
theorem dX1_start_22 : decode cX1_start 22 = .ok (.aload_n 0, 1) := by decide +kernel
theorem dX1_start_23 : decode cX1_start 23 = .ok (.getfield 9, 3) := by decide +kernel
theorem dX1_start_26 : decode cX1_start 26 = .ok (.aload_n 0, 1) := by decide +kernel
theorem dX1_start_27 : decode cX1_start 27 = .ok (.getfield 44, 3) := by decide +kernel
theorem dX1_start_30 : decode cX1_start 30 = .ok (.iload_n 1, 1) := by decide +kernel
theorem dX1_start_31 : decode cX1_start 31 = .ok (.iastore, 1) := by decide +kernel
theorem dX1_start_32 : decode cX1_start 32 = .ok (.aload_n 0, 1) := by decide +kernel
theorem dX1_start_33 : decode cX1_start 33 = .ok (.getfield 15, 3) := by decide +kernel
theorem dX1_start_36 : decode cX1_start 36 = .ok (.aload_n 0, 1) := by decide +kernel
theorem dX1_start_37 : decode cX1_start 37 = .ok (.getfield 44, 3) := by decide +kernel
theorem dX1_start_40 : decode cX1_start 40 = .ok (.iload_n 2, 1) := by decide +kernel
theorem dX1_start_41 : decode cX1_start 41 = .ok (.iastore, 1) := by decide +kernel
theorem dX1_start_42 : decode cX1_start 42 = .ok (.aload_n 0, 1) := by decide +kernel
theorem dX1_start_43 : decode cX1_start 43 = .ok (.getfield 18, 3) := by decide +kernel
theorem dX1_start_46 : decode cX1_start 46 = .ok (.aload_n 0, 1) := by decide +kernel
theorem dX1_start_47 : decode cX1_start 47 = .ok (.getfield 44, 3) := by decide +kernel
theorem dX1_start_50 : decode cX1_start 50 = .ok (.iload_n 3, 1) := by decide +kernel
theorem dX1_start_51 : decode cX1_start 51 = .ok (.iastore, 1) := by decide +kernel
theorem dX1_start_52 : decode cX1_start 52 = .ok (.aload_n 0, 1) := by decide +kernel
theorem dX1_start_53 : decode cX1_start 53 = .ok (.getfield 21, 3) := by decide +kernel
theorem dX1_start_56 : decode cX1_start 56 = .ok (.aload_n 0, 1) := by decide +kernel
theorem dX1_start_57 : decode cX1_start 57 = .ok (.getfield 44, 3) := by decide +kernel
theorem dX1_start_60 : decode cX1_start 60 = .ok (.iload 4, 2) := by decide +kernel
theorem dX1_start_62 : decode cX1_start 62 = .ok (.iastore, 1) := by decide +kernel
theorem dX1_start_63 : decode cX1_start 63 = .ok (.aload_n 0, 1) := by decide +kernel
theorem dX1_start_64 : decode cX1_start 64 = .ok (.getfield 24, 3) := by decide +kernel
theorem dX1_start_67 : decode cX1_start 67 = .ok (.aload_n 0, 1) := by decide +kernel
theorem dX1_start_68 : decode cX1_start 68 = .ok (.getfield 44, 3) := by decide +kernel
theorem dX1_start_71 : decode cX1_start 71 = .ok (.aload_n 0, 1) := by decide +kernel
theorem dX1_start_72 : decode cX1_start 72 = .ok (.getfield 47, 3) := by decide +kernel
theorem dX1_start_75 : decode cX1_start 75 = .ok (.iastore, 1) := by decide +kernel
theorem dX1_start_76 : decode cX1_start 76 = .ok (.aload_n 0, 1) := by decide +kernel
theorem dX1_start_77 : decode cX1_start 77 = .ok (.dup, 1) := by decide +kernel
theorem dX1_start_78 : decode cX1_start 78 = .ok (.getfield 44, 3) := by decide +kernel
theorem dX1_start_81 : decode cX1_start 81 = .ok (.iconst 1, 1) := by decide +kernel
theorem dX1_start_82 : decode cX1_start 82 = .ok (.iadd, 1) := by decide +kernel
theorem dX1_start_83 : decode cX1_start 83 = .ok (.putfield 44, 3) := by decide +kernel
theorem dX1_start_86 : decode cX1_start 86 = .ok (.aload_n 0, 1) := by decide +kernel
theorem dX1_start_87 : decode cX1_start 87 = .ok (.getfield 44, 3) := by decide +kernel
theorem dX1_start_90 : decode cX1_start 90 = .ok (.iconst 1, 1) := by decide +kernel
theorem dX1_start_91 : decode cX1_start 91 = .ok (.isub, 1) := by decide +kernel
theorem dX1_start_92 : decode cX1_start 92 = .ok (.ireturn, 1) := by decide +kernel
theorem dX1_end_0 : decode cX1_end 0 = .ok (.aload_n 0, 1) := by decide +kernel
theorem dX1_end_1 : decode cX1_end 1 = .ok (.iload_n 1, 1) := by decide +kernel
theorem dX1_end_2 : decode cX1_end 2 = .ok (.invokevirtual 56, 3) := by decide +kernel
theorem dX1_end_5 : decode cX1_end 5 = .ok (.ifCond .ne 5, 3) := by decide +kernel
theorem dX1_end_8 : decode cX1_end 8 = .ok (.iconst (-1), 1) := by decide +kernel
theorem dX1_end_9 : decode cX1_end 9 = .ok (.ireturn, 1) := by decide +kernel
theorem dX1_end_10 : decode cX1_end 10 = .ok (.aload_n 0, 1) := by decide +kernel
theorem dX1_end_11 : decode cX1_end 11 = .ok (.dup, 1) := by decide +kernel
theorem dX1_end_12 : decode cX1_end 12 = .ok (.getfield 47, 3) := by decide +kernel
theorem dX1_end_15 : decode cX1_end 15 = .ok (.iconst 1, 1) := by decide +kernel
theorem dX1_end_16 : decode cX1_end 16 = .ok (.iadd, 1) := by decide +kernel
theorem dX1_end_17 : decode cX1_end 17 = .ok (.putfield 47, 3) := by decide +kernel
theorem dX1_end_20 : decode cX1_end 20 = .ok (.aload_n 0, 1) := by decide +kernel
theorem dX1_end_21 : decode cX1_end 21 = .ok (.getfield 27, 3) := by decide +kernel
theorem dX1_end_24 : decode cX1_end 24 = .ok (.iload_n 1, 1) := by decide +kernel
theorem dX1_end_25 : decode cX1_end 25 = .ok (.aload_n 0, 1) := by decide +kernel
theorem dX1_end_26 : decode cX1_end 26 = .ok (.getfield 47, 3) := by decide +kernel
theorem dX1_end_29 : decode cX1_end 29 = .ok (.iastore, 1) := by decide +kernel
theorem dX1_end_30 : decode cX1_end 30 = .ok (.aload_n 0, 1) := by decide +kernel
theorem dX1_end_31 : decode cX1_end 31 = .ok (.getfield 30, 3) := by decide +kernel
theorem dX1_end_34 : decode cX1_end 34 = .ok (.iload_n 1, 1) := by decide +kernel
theorem dX1_end_35 : decode cX1_end 35 = .ok (.iload_n 2, 1) := by decide +kernel
theorem dX1_end_36 : decode cX1_end 36 = .ok (.iastore, 1) := by decide +kernel
theorem dX1_end_37 : decode cX1_end 37 = .ok (.aload_n 0, 1) := by decide +kernel
theorem dX1_end_38 : decode cX1_end 38 = .ok (.getfield 47, 3) := by decide +kernel
theorem dX1_end_41 : decode cX1_end 41 = .ok (.ireturn, 1) := by decide +kernel
theorem dX1_allCalls_0 : decode cX1_allCalls 0 = .ok (.iconst 1, 1) := by decide +kernel
theorem dX1_allCalls_1 : decode cX1_allCalls 1 = .ok (.aload_n 0, 1) := by decide +kernel
theorem dX1_allCalls_2 : decode cX1_allCalls 2 = .ok (.getfield 44, 3) := by decide +kernel
theorem dX1_allCalls_5 : decode cX1_allCalls 5 = .ok (.ishl, 1) := by decide +kernel
theorem dX1_allCalls_6 : decode cX1_allCalls 6 = .ok (.iconst 1, 1) := by decide +kernel
theorem dX1_allCalls_7 : decode cX1_allCalls 7 = .ok (.isub, 1) := by decide +kernel
theorem dX1_allCalls_8 : decode cX1_allCalls 8 = .ok (.ireturn, 1) := by decide +kernel
theorem dX1_endedCalls_0 : decode cX1_endedCalls 0 = .ok (.iconst 0, 1) := by decide +kernel
theorem dX1_endedCalls_1 : decode cX1_endedCalls 1 = .ok (.istore_n 1, 1) := by decide +kernel
theorem dX1_endedCalls_2 : decode cX1_endedCalls 2 = .ok (.iconst 0, 1) := by decide +kernel
theorem dX1_endedCalls_3 : decode cX1_endedCalls 3 = .ok (.istore_n 2, 1) := by decide +kernel
theorem dX1_endedCalls_4 : decode cX1_endedCalls 4 = .ok (.iload_n 2, 1) := by decide +kernel
theorem dX1_endedCalls_5 : decode cX1_endedCalls 5 = .ok (.aload_n 0, 1) := by decide +kernel
theorem dX1_endedCalls_6 : decode cX1_endedCalls 6 = .ok (.getfield 44, 3) := by decide +kernel
theorem dX1_endedCalls_9 : decode cX1_endedCalls 9 = .ok (.if_icmp .ge 24, 3) := by decide +kernel
theorem dX1_endedCalls_12 : decode cX1_endedCalls 12 = .ok (.aload_n 0, 1) := by decide +kernel
theorem dX1_endedCalls_13 : decode cX1_endedCalls 13 = .ok (.getfield 27, 3) := by decide +kernel
theorem dX1_endedCalls_16 : decode cX1_endedCalls 16 = .ok (.iload_n 2, 1) := by decide +kernel
theorem dX1_endedCalls_17 : decode cX1_endedCalls 17 = .ok (.iaload, 1) := by decide +kernel
theorem dX1_endedCalls_18 : decode cX1_endedCalls 18 = .ok (.ifCond .eq 9, 3) := by decide +kernel
theorem dX1_endedCalls_21 : decode cX1_endedCalls 21 = .ok (.iload_n 1, 1) := by decide +kernel
theorem dX1_endedCalls_22 : decode cX1_endedCalls 22 = .ok (.iconst 1, 1) := by decide +kernel
theorem dX1_endedCalls_23 : decode cX1_endedCalls 23 = .ok (.iload_n 2, 1) := by decide +kernel
theorem dX1_endedCalls_24 : decode cX1_endedCalls 24 = .ok (.ishl, 1) := by decide +kernel
theorem dX1_endedCalls_25 : decode cX1_endedCalls 25 = .ok (.ior, 1) := by decide +kernel
theorem dX1_endedCalls_26 : decode cX1_endedCalls 26 = .ok (.istore_n 1, 1) := by decide +kernel
theorem dX1_endedCalls_27 : decode cX1_endedCalls 27 = .ok (.iinc 2 1, 3) := by decide +kernel
theorem dX1_endedCalls_30 : decode cX1_endedCalls 30 = .ok (.goto (-26), 3) := by decide +kernel
theorem dX1_endedCalls_33 : decode cX1_endedCalls 33 = .ok (.iload_n 1, 1) := by decide +kernel
theorem dX1_endedCalls_34 : decode cX1_endedCalls 34 = .ok (.ireturn, 1) := by decide +kernel
theorem dX1_callsWith_0 : decode cX1_callsWith 0 = .ok (.iconst 0, 1) := by decide +kernel
theorem dX1_callsWith_1 : decode cX1_callsWith 1 = .ok (.istore_n 2, 1) := by decide +kernel
theorem dX1_callsWith_2 : decode cX1_callsWith 2 = .ok (.iconst 0, 1) := by decide +kernel
theorem dX1_callsWith_3 : decode cX1_callsWith 3 = .ok (.istore_n 3, 1) := by decide +kernel
theorem dX1_callsWith_4 : decode cX1_callsWith 4 = .ok (.iload_n 3, 1) := by decide +kernel
theorem dX1_callsWith_5 : decode cX1_callsWith 5 = .ok (.aload_n 0, 1) := by decide +kernel
theorem dX1_callsWith_6 : decode cX1_callsWith 6 = .ok (.getfield 44, 3) := by decide +kernel
theorem dX1_callsWith_9 : decode cX1_callsWith 9 = .ok (.if_icmp .ge 25, 3) := by decide +kernel
theorem dX1_callsWith_12 : decode cX1_callsWith 12 = .ok (.aload_n 0, 1) := by decide +kernel
theorem dX1_callsWith_13 : decode cX1_callsWith 13 = .ok (.getfield 18, 3) := by decide +kernel
theorem dX1_callsWith_16 : decode cX1_callsWith 16 = .ok (.iload_n 3, 1) := by decide +kernel
theorem dX1_callsWith_17 : decode cX1_callsWith 17 = .ok (.iaload, 1) := by decide +kernel
theorem dX1_callsWith_18 : decode cX1_callsWith 18 = .ok (.iload_n 1, 1) := by decide +kernel
theorem dX1_callsWith_19 : decode cX1_callsWith 19 = .ok (.if_icmp .ne 9, 3) := by decide +kernel
theorem dX1_callsWith_22 : decode cX1_callsWith 22 = .ok (.iload_n 2, 1) := by decide +kernel
theorem dX1_callsWith_23 : decode cX1_callsWith 23 = .ok (.iconst 1, 1) := by decide +kernel
theorem dX1_callsWith_24 : decode cX1_callsWith 24 = .ok (.iload_n 3, 1) := by decide +kernel
theorem dX1_callsWith_25 : decode cX1_callsWith 25 = .ok (.ishl, 1) := by decide +kernel
theorem dX1_callsWith_26 : decode cX1_callsWith 26 = .ok (.ior, 1) := by decide +kernel
theorem dX1_callsWith_27 : decode cX1_callsWith 27 = .ok (.istore_n 2, 1) := by decide +kernel
theorem dX1_callsWith_28 : decode cX1_callsWith 28 = .ok (.iinc 3 1, 3) := by decide +kernel
theorem dX1_callsWith_31 : decode cX1_callsWith 31 = .ok (.goto (-27), 3) := by decide +kernel
theorem dX1_callsWith_34 : decode cX1_callsWith 34 = .ok (.iload_n 2, 1) := by decide +kernel
theorem dX1_callsWith_35 : decode cX1_callsWith 35 = .ok (.ireturn, 1) := by decide +kernel
theorem dX1_quietTicks_0 : decode cX1_quietTicks 0 = .ok (.iconst 0, 1) := by decide +kernel
theorem dX1_quietTicks_1 : decode cX1_quietTicks 1 = .ok (.istore_n 2, 1) := by decide +kernel
theorem dX1_quietTicks_2 : decode cX1_quietTicks 2 = .ok (.iconst 1, 1) := by decide +kernel
theorem dX1_quietTicks_3 : decode cX1_quietTicks 3 = .ok (.istore_n 3, 1) := by decide +kernel
theorem dX1_quietTicks_4 : decode cX1_quietTicks 4 = .ok (.iload_n 3, 1) := by decide +kernel
theorem dX1_quietTicks_5 : decode cX1_quietTicks 5 = .ok (.aload_n 0, 1) := by decide +kernel
theorem dX1_quietTicks_6 : decode cX1_quietTicks 6 = .ok (.getfield 47, 3) := by decide +kernel
theorem dX1_quietTicks_9 : decode cX1_quietTicks 9 = .ok (.if_icmp .gt 24, 3) := by decide +kernel
theorem dX1_quietTicks_12 : decode cX1_quietTicks 12 = .ok (.aload_n 0, 1) := by decide +kernel
theorem dX1_quietTicks_13 : decode cX1_quietTicks 13 = .ok (.iload_n 1, 1) := by decide +kernel
theorem dX1_quietTicks_14 : decode cX1_quietTicks 14 = .ok (.iload_n 3, 1) := by decide +kernel
theorem dX1_quietTicks_15 : decode cX1_quietTicks 15 = .ok (.invokevirtual 60, 3) := by decide +kernel
theorem dX1_quietTicks_18 : decode cX1_quietTicks 18 = .ok (.ifCond .eq 9, 3) := by decide +kernel
theorem dX1_quietTicks_21 : decode cX1_quietTicks 21 = .ok (.iload_n 2, 1) := by decide +kernel
theorem dX1_quietTicks_22 : decode cX1_quietTicks 22 = .ok (.iconst 1, 1) := by decide +kernel
theorem dX1_quietTicks_23 : decode cX1_quietTicks 23 = .ok (.iload_n 3, 1) := by decide +kernel
theorem dX1_quietTicks_24 : decode cX1_quietTicks 24 = .ok (.ishl, 1) := by decide +kernel
theorem dX1_quietTicks_25 : decode cX1_quietTicks 25 = .ok (.ior, 1) := by decide +kernel
theorem dX1_quietTicks_26 : decode cX1_quietTicks 26 = .ok (.istore_n 2, 1) := by decide +kernel
theorem dX1_quietTicks_27 : decode cX1_quietTicks 27 = .ok (.iinc 3 1, 3) := by decide +kernel
theorem dX1_quietTicks_30 : decode cX1_quietTicks 30 = .ok (.goto (-26), 3) := by decide +kernel
theorem dX1_quietTicks_33 : decode cX1_quietTicks 33 = .ok (.iload_n 2, 1) := by decide +kernel
theorem dX1_quietTicks_34 : decode cX1_quietTicks 34 = .ok (.ireturn, 1) := by decide +kernel
theorem dX1_isQuiet_0 : decode cX1_isQuiet 0 = .ok (.iconst 0, 1) := by decide +kernel
theorem dX1_isQuiet_1 : decode cX1_isQuiet 1 = .ok (.istore_n 3, 1) := by decide +kernel
theorem dX1_isQuiet_2 : decode cX1_isQuiet 2 = .ok (.iload_n 3, 1) := by decide +kernel
theorem dX1_isQuiet_3 : decode cX1_isQuiet 3 = .ok (.aload_n 0, 1) := by decide +kernel
theorem dX1_isQuiet_4 : decode cX1_isQuiet 4 = .ok (.getfield 44, 3) := by decide +kernel
theorem dX1_isQuiet_7 : decode cX1_isQuiet 7 = .ok (.if_icmp .ge 60, 3) := by decide +kernel
theorem dX1_isQuiet_10 : decode cX1_isQuiet 10 = .ok (.aload_n 0, 1) := by decide +kernel
theorem dX1_isQuiet_11 : decode cX1_isQuiet 11 = .ok (.getfield 27, 3) := by decide +kernel
theorem dX1_isQuiet_14 : decode cX1_isQuiet 14 = .ok (.iload_n 3, 1) := by decide +kernel
theorem dX1_isQuiet_15 : decode cX1_isQuiet 15 = .ok (.iaload, 1) := by decide +kernel
theorem dX1_isQuiet_16 : decode cX1_isQuiet 16 = .ok (.ifCond .eq 17, 3) := by decide +kernel
theorem dX1_isQuiet_19 : decode cX1_isQuiet 19 = .ok (.aload_n 0, 1) := by decide +kernel
theorem dX1_isQuiet_20 : decode cX1_isQuiet 20 = .ok (.getfield 27, 3) := by decide +kernel
theorem dX1_isQuiet_23 : decode cX1_isQuiet 23 = .ok (.iload_n 3, 1) := by decide +kernel
theorem dX1_isQuiet_24 : decode cX1_isQuiet 24 = .ok (.iaload, 1) := by decide +kernel
theorem dX1_isQuiet_25 : decode cX1_isQuiet 25 = .ok (.iload_n 2, 1) := by decide +kernel
theorem dX1_isQuiet_26 : decode cX1_isQuiet 26 = .ok (.if_icmp .gt 7, 3) := by decide +kernel
theorem dX1_isQuiet_29 : decode cX1_isQuiet 29 = .ok (.iconst 1, 1) := by decide +kernel
theorem dX1_isQuiet_30 : decode cX1_isQuiet 30 = .ok (.goto 4, 3) := by decide +kernel
theorem dX1_isQuiet_33 : decode cX1_isQuiet 33 = .ok (.iconst 0, 1) := by decide +kernel
theorem dX1_isQuiet_34 : decode cX1_isQuiet 34 = .ok (.istore 4, 2) := by decide +kernel
theorem dX1_isQuiet_36 : decode cX1_isQuiet 36 = .ok (.iload_n 1, 1) := by decide +kernel
theorem dX1_isQuiet_37 : decode cX1_isQuiet 37 = .ok (.iload_n 3, 1) := by decide +kernel
theorem dX1_isQuiet_38 : decode cX1_isQuiet 38 = .ok (.invokestatic 64, 3) := by decide +kernel
theorem dX1_isQuiet_41 : decode cX1_isQuiet 41 = .ok (.ifCond .eq 20, 3) := by decide +kernel
theorem dX1_isQuiet_44 : decode cX1_isQuiet 44 = .ok (.aload_n 0, 1) := by decide +kernel
theorem dX1_isQuiet_45 : decode cX1_isQuiet 45 = .ok (.getfield 24, 3) := by decide +kernel
theorem dX1_isQuiet_48 : decode cX1_isQuiet 48 = .ok (.iload_n 3, 1) := by decide +kernel
theorem dX1_isQuiet_49 : decode cX1_isQuiet 49 = .ok (.iaload, 1) := by decide +kernel
theorem dX1_isQuiet_50 : decode cX1_isQuiet 50 = .ok (.iload_n 2, 1) := by decide +kernel
theorem dX1_isQuiet_51 : decode cX1_isQuiet 51 = .ok (.if_icmp .gt 10, 3) := by decide +kernel
theorem dX1_isQuiet_54 : decode cX1_isQuiet 54 = .ok (.iload 4, 2) := by decide +kernel
theorem dX1_isQuiet_56 : decode cX1_isQuiet 56 = .ok (.ifCond .ne 5, 3) := by decide +kernel
theorem dX1_isQuiet_59 : decode cX1_isQuiet 59 = .ok (.iconst 0, 1) := by decide +kernel
theorem dX1_isQuiet_60 : decode cX1_isQuiet 60 = .ok (.ireturn, 1) := by decide +kernel
theorem dX1_isQuiet_61 : decode cX1_isQuiet 61 = .ok (.iinc 3 1, 3) := by decide +kernel
theorem dX1_isQuiet_64 : decode cX1_isQuiet 64 = .ok (.goto (-62), 3) := by decide +kernel
theorem dX1_isQuiet_67 : decode cX1_isQuiet 67 = .ok (.iconst 1, 1) := by decide +kernel
theorem dX1_isQuiet_68 : decode cX1_isQuiet 68 = .ok (.ireturn, 1) := by decide +kernel
theorem dX1_isAhead_0 : decode cX1_isAhead 0 = .ok (.aload_n 0, 1) := by decide +kernel
theorem dX1_isAhead_1 : decode cX1_isAhead 1 = .ok (.iload_n 3, 1) := by decide +kernel
theorem dX1_isAhead_2 : decode cX1_isAhead 2 = .ok (.invokevirtual 67, 3) := by decide +kernel
theorem dX1_isAhead_5 : decode cX1_isAhead 5 = .ok (.ifCond .ne 19, 3) := by decide +kernel
theorem dX1_isAhead_8 : decode cX1_isAhead 8 = .ok (.aload_n 0, 1) := by decide +kernel
theorem dX1_isAhead_9 : decode cX1_isAhead 9 = .ok (.getfield 27, 3) := by decide +kernel
theorem dX1_isAhead_12 : decode cX1_isAhead 12 = .ok (.iload_n 3, 1) := by decide +kernel
theorem dX1_isAhead_13 : decode cX1_isAhead 13 = .ok (.iaload, 1) := by decide +kernel
theorem dX1_isAhead_14 : decode cX1_isAhead 14 = .ok (.aload_n 0, 1) := by decide +kernel
theorem dX1_isAhead_15 : decode cX1_isAhead 15 = .ok (.getfield 24, 3) := by decide +kernel
theorem dX1_isAhead_18 : decode cX1_isAhead 18 = .ok (.iload 4, 2) := by decide +kernel
theorem dX1_isAhead_20 : decode cX1_isAhead 20 = .ok (.iaload, 1) := by decide +kernel
theorem dX1_isAhead_21 : decode cX1_isAhead 21 = .ok (.if_icmp .lt 5, 3) := by decide +kernel
theorem dX1_isAhead_24 : decode cX1_isAhead 24 = .ok (.iconst 0, 1) := by decide +kernel
theorem dX1_isAhead_25 : decode cX1_isAhead 25 = .ok (.ireturn, 1) := by decide +kernel
theorem dX1_isAhead_26 : decode cX1_isAhead 26 = .ok (.iload_n 1, 1) := by decide +kernel
theorem dX1_isAhead_27 : decode cX1_isAhead 27 = .ok (.ifCond .eq 19, 3) := by decide +kernel
theorem dX1_isAhead_30 : decode cX1_isAhead 30 = .ok (.aload_n 0, 1) := by decide +kernel
theorem dX1_isAhead_31 : decode cX1_isAhead 31 = .ok (.getfield 9, 3) := by decide +kernel
theorem dX1_isAhead_34 : decode cX1_isAhead 34 = .ok (.iload_n 3, 1) := by decide +kernel
theorem dX1_isAhead_35 : decode cX1_isAhead 35 = .ok (.iaload, 1) := by decide +kernel
theorem dX1_isAhead_36 : decode cX1_isAhead 36 = .ok (.aload_n 0, 1) := by decide +kernel
theorem dX1_isAhead_37 : decode cX1_isAhead 37 = .ok (.getfield 9, 3) := by decide +kernel
theorem dX1_isAhead_40 : decode cX1_isAhead 40 = .ok (.iload 4, 2) := by decide +kernel
theorem dX1_isAhead_42 : decode cX1_isAhead 42 = .ok (.iaload, 1) := by decide +kernel
theorem dX1_isAhead_43 : decode cX1_isAhead 43 = .ok (.if_icmp .ne 5, 3) := by decide +kernel
theorem dX1_isAhead_46 : decode cX1_isAhead 46 = .ok (.iconst 1, 1) := by decide +kernel
theorem dX1_isAhead_47 : decode cX1_isAhead 47 = .ok (.ireturn, 1) := by decide +kernel
theorem dX1_isAhead_48 : decode cX1_isAhead 48 = .ok (.iconst 1, 1) := by decide +kernel
theorem dX1_isAhead_49 : decode cX1_isAhead 49 = .ok (.aload_n 0, 1) := by decide +kernel
theorem dX1_isAhead_50 : decode cX1_isAhead 50 = .ok (.getfield 24, 3) := by decide +kernel
theorem dX1_isAhead_53 : decode cX1_isAhead 53 = .ok (.iload 4, 2) := by decide +kernel
theorem dX1_isAhead_55 : decode cX1_isAhead 55 = .ok (.iaload, 1) := by decide +kernel
theorem dX1_isAhead_56 : decode cX1_isAhead 56 = .ok (.ishl, 1) := by decide +kernel
theorem dX1_isAhead_57 : decode cX1_isAhead 57 = .ok (.iconst 1, 1) := by decide +kernel
theorem dX1_isAhead_58 : decode cX1_isAhead 58 = .ok (.aload_n 0, 1) := by decide +kernel
theorem dX1_isAhead_59 : decode cX1_isAhead 59 = .ok (.getfield 27, 3) := by decide +kernel
theorem dX1_isAhead_62 : decode cX1_isAhead 62 = .ok (.iload_n 3, 1) := by decide +kernel
theorem dX1_isAhead_63 : decode cX1_isAhead 63 = .ok (.iaload, 1) := by decide +kernel
theorem dX1_isAhead_64 : decode cX1_isAhead 64 = .ok (.ishl, 1) := by decide +kernel
theorem dX1_isAhead_65 : decode cX1_isAhead 65 = .ok (.isub, 1) := by decide +kernel
theorem dX1_isAhead_66 : decode cX1_isAhead 66 = .ok (.istore 5, 2) := by decide +kernel
theorem dX1_isAhead_68 : decode cX1_isAhead 68 = .ok (.iload_n 1, 1) := by decide +kernel
theorem dX1_isAhead_69 : decode cX1_isAhead 69 = .ok (.iconst 1, 1) := by decide +kernel
theorem dX1_isAhead_70 : decode cX1_isAhead 70 = .ok (.if_icmp .ne 14, 3) := by decide +kernel
theorem dX1_isAhead_73 : decode cX1_isAhead 73 = .ok (.iload_n 2, 1) := by decide +kernel
theorem dX1_isAhead_74 : decode cX1_isAhead 74 = .ok (.iload 5, 2) := by decide +kernel
theorem dX1_isAhead_76 : decode cX1_isAhead 76 = .ok (.iand, 1) := by decide +kernel
theorem dX1_isAhead_77 : decode cX1_isAhead 77 = .ok (.ifCond .eq 7, 3) := by decide +kernel
theorem dX1_isAhead_80 : decode cX1_isAhead 80 = .ok (.iconst 1, 1) := by decide +kernel
theorem dX1_isAhead_81 : decode cX1_isAhead 81 = .ok (.goto 4, 3) := by decide +kernel
theorem dX1_isAhead_84 : decode cX1_isAhead 84 = .ok (.iconst 0, 1) := by decide +kernel
theorem dX1_isAhead_85 : decode cX1_isAhead 85 = .ok (.ireturn, 1) := by decide +kernel
theorem dX2_init_0 : decode cX2_init 0 = .ok (.aload_n 0, 1) := by decide +kernel
theorem dX2_init_1 : decode cX2_init 1 = .ok (.invokespecial 3, 3) := by decide +kernel
theorem dX2_init_4 : decode cX2_init 4 = .ok (.aload_n 0, 1) := by decide +kernel
theorem dX2_init_5 : decode cX2_init 5 = .ok (.sipush 1024, 3) := by decide +kernel
theorem dX2_init_8 : decode cX2_init 8 = .ok (.newarray .long, 2) := by decide +kernel
theorem dX2_init_10 : decode cX2_init 10 = .ok (.putfield 11, 3) := by decide +kernel
theorem dX2_init_13 : decode cX2_init 13 = .ok (.aload_n 0, 1) := by decide +kernel
theorem dX2_init_14 : decode cX2_init 14 = .ok (.sipush 1024, 3) := by decide +kernel
theorem dX2_init_17 : decode cX2_init 17 = .ok (.newarray .long, 2) := by decide +kernel
theorem dX2_init_19 : decode cX2_init 19 = .ok (.putfield 15, 3) := by decide +kernel
theorem dX2_init_22 : decode cX2_init 22 = .ok (.aload_n 0, 1) := by decide +kernel
theorem dX2_init_23 : decode cX2_init 23 = .ok (.sipush 1024, 3) := by decide +kernel
theorem dX2_init_26 : decode cX2_init 26 = .ok (.newarray .int, 2) := by decide +kernel
theorem dX2_init_28 : decode cX2_init 28 = .ok (.putfield 18, 3) := by decide +kernel
theorem dX2_init_31 : decode cX2_init 31 = .ok (.return_, 1) := by decide +kernel
theorem dX2_forget_0 : decode cX2_forget 0 = .ok (.aload_n 0, 1) := by decide +kernel
theorem dX2_forget_1 : decode cX2_forget 1 = .ok (.dup, 1) := by decide +kernel
theorem dX2_forget_2 : decode cX2_forget 2 = .ok (.getfield 22, 3) := by decide +kernel
theorem dX2_forget_5 : decode cX2_forget 5 = .ok (.iconst 1, 1) := by decide +kernel
theorem dX2_forget_6 : decode cX2_forget 6 = .ok (.iadd, 1) := by decide +kernel
theorem dX2_forget_7 : decode cX2_forget 7 = .ok (.putfield 22, 3) := by decide +kernel
theorem dX2_forget_10 : decode cX2_forget 10 = .ok (.return_, 1) := by decide +kernel
theorem dX2_placeOf_0 : decode cX2_placeOf 0 = .ok (.lload_n 0, 1) := by decide +kernel
theorem dX2_placeOf_1 : decode cX2_placeOf 1 = .ok (.ldc2_w 26, 3) := by decide +kernel
theorem dX2_placeOf_4 : decode cX2_placeOf 4 = .ok (.lmul, 1) := by decide +kernel
theorem dX2_placeOf_5 : decode cX2_placeOf 5 = .ok (.bipush 54, 2) := by decide +kernel
theorem dX2_placeOf_7 : decode cX2_placeOf 7 = .ok (.lushr, 1) := by decide +kernel
theorem dX2_placeOf_8 : decode cX2_placeOf 8 = .ok (.l2i, 1) := by decide +kernel
theorem dX2_placeOf_9 : decode cX2_placeOf 9 = .ok (.ireturn, 1) := by decide +kernel
theorem dX2_valueOf_0 : decode cX2_valueOf 0 = .ok (.lload_n 1, 1) := by decide +kernel
theorem dX2_valueOf_1 : decode cX2_valueOf 1 = .ok (.invokestatic 28, 3) := by decide +kernel
theorem dX2_valueOf_4 : decode cX2_valueOf 4 = .ok (.istore_n 3, 1) := by decide +kernel
theorem dX2_valueOf_5 : decode cX2_valueOf 5 = .ok (.aload_n 0, 1) := by decide +kernel
theorem dX2_valueOf_6 : decode cX2_valueOf 6 = .ok (.getfield 18, 3) := by decide +kernel
theorem dX2_valueOf_9 : decode cX2_valueOf 9 = .ok (.iload_n 3, 1) := by decide +kernel
theorem dX2_valueOf_10 : decode cX2_valueOf 10 = .ok (.iaload, 1) := by decide +kernel
theorem dX2_valueOf_11 : decode cX2_valueOf 11 = .ok (.aload_n 0, 1) := by decide +kernel
theorem dX2_valueOf_12 : decode cX2_valueOf 12 = .ok (.getfield 22, 3) := by decide +kernel
theorem dX2_valueOf_15 : decode cX2_valueOf 15 = .ok (.if_icmp .ne 23, 3) := by decide +kernel
theorem dX2_valueOf_18 : decode cX2_valueOf 18 = .ok (.aload_n 0, 1) := by decide +kernel
theorem dX2_valueOf_19 : decode cX2_valueOf 19 = .ok (.getfield 11, 3) := by decide +kernel
theorem dX2_valueOf_22 : decode cX2_valueOf 22 = .ok (.iload_n 3, 1) := by decide +kernel
theorem dX2_valueOf_23 : decode cX2_valueOf 23 = .ok (.laload, 1) := by decide +kernel
theorem dX2_valueOf_24 : decode cX2_valueOf 24 = .ok (.lload_n 1, 1) := by decide +kernel
theorem dX2_valueOf_25 : decode cX2_valueOf 25 = .ok (.lcmp, 1) := by decide +kernel
theorem dX2_valueOf_26 : decode cX2_valueOf 26 = .ok (.ifCond .ne 12, 3) := by decide +kernel
theorem dX2_valueOf_29 : decode cX2_valueOf 29 = .ok (.aload_n 0, 1) := by decide +kernel
theorem dX2_valueOf_30 : decode cX2_valueOf 30 = .ok (.getfield 15, 3) := by decide +kernel
theorem dX2_valueOf_33 : decode cX2_valueOf 33 = .ok (.iload_n 3, 1) := by decide +kernel
theorem dX2_valueOf_34 : decode cX2_valueOf 34 = .ok (.laload, 1) := by decide +kernel
theorem dX2_valueOf_35 : decode cX2_valueOf 35 = .ok (.goto 6, 3) := by decide +kernel
theorem dX2_valueOf_38 : decode cX2_valueOf 38 = .ok (.ldc2_w 32, 3) := by decide +kernel
theorem dX2_valueOf_41 : decode cX2_valueOf 41 = .ok (.lreturn, 1) := by decide +kernel
theorem dX2_put_0 : decode cX2_put 0 = .ok (.lload_n 1, 1) := by decide +kernel
theorem dX2_put_1 : decode cX2_put 1 = .ok (.invokestatic 28, 3) := by decide +kernel
theorem dX2_put_4 : decode cX2_put 4 = .ok (.istore 5, 2) := by decide +kernel
theorem dX2_put_6 : decode cX2_put 6 = .ok (.aload_n 0, 1) := by decide +kernel
theorem dX2_put_7 : decode cX2_put 7 = .ok (.getfield 18, 3) := by decide +kernel
theorem dX2_put_10 : decode cX2_put 10 = .ok (.iload 5, 2) := by decide +kernel
theorem dX2_put_12 : decode cX2_put 12 = .ok (.aload_n 0, 1) := by decide +kernel
theorem dX2_put_13 : decode cX2_put 13 = .ok (.getfield 22, 3) := by decide +kernel
theorem dX2_put_16 : decode cX2_put 16 = .ok (.iastore, 1) := by decide +kernel
theorem dX2_put_17 : decode cX2_put 17 = .ok (.aload_n 0, 1) := by decide +kernel
theorem dX2_put_18 : decode cX2_put 18 = .ok (.getfield 11, 3) := by decide +kernel
theorem dX2_put_21 : decode cX2_put 21 = .ok (.iload 5, 2) := by decide +kernel
theorem dX2_put_23 : decode cX2_put 23 = .ok (.lload_n 1, 1) := by decide +kernel
theorem dX2_put_24 : decode cX2_put 24 = .ok (.lastore, 1) := by decide +kernel
theorem dX2_put_25 : decode cX2_put 25 = .ok (.aload_n 0, 1) := by decide +kernel
theorem dX2_put_26 : decode cX2_put 26 = .ok (.getfield 15, 3) := by decide +kernel
theorem dX2_put_29 : decode cX2_put 29 = .ok (.iload 5, 2) := by decide +kernel
theorem dX2_put_31 : decode cX2_put 31 = .ok (.lload_n 3, 1) := by decide +kernel
theorem dX2_put_32 : decode cX2_put 32 = .ok (.lastore, 1) := by decide +kernel
theorem dX2_put_33 : decode cX2_put 33 = .ok (.return_, 1) := by decide +kernel
theorem dX3_isKind_0 : decode cX3_isKind 0 = .ok (.iload_n 0, 1) := by decide +kernel
theorem dX3_isKind_1 : decode cX3_isKind 1 = .ok (.ifCond .lt 13, 3) := by decide +kernel
theorem dX3_isKind_4 : decode cX3_isKind 4 = .ok (.iload_n 0, 1) := by decide +kernel
theorem dX3_isKind_5 : decode cX3_isKind 5 = .ok (.bipush 7, 2) := by decide +kernel
theorem dX3_isKind_7 : decode cX3_isKind 7 = .ok (.if_icmp .ge 7, 3) := by decide +kernel
theorem dX3_isKind_10 : decode cX3_isKind 10 = .ok (.iconst 1, 1) := by decide +kernel
theorem dX3_isKind_11 : decode cX3_isKind 11 = .ok (.goto 4, 3) := by decide +kernel
theorem dX3_isKind_14 : decode cX3_isKind 14 = .ok (.iconst 0, 1) := by decide +kernel
theorem dX3_isKind_15 : decode cX3_isKind 15 = .ok (.ireturn, 1) := by decide +kernel
theorem dX3_allows_0 : decode cX3_allows 0 = .ok (.iload_n 0, 1) := by decide +kernel
theorem dX3_allows_1 : decode cX3_allows 1 = .ok (.invokestatic 11, 3) := by decide +kernel
theorem dX3_allows_4 : decode cX3_allows 4 = .ok (.ifCond .eq 16, 3) := by decide +kernel
theorem dX3_allows_7 : decode cX3_allows 7 = .ok (.iload_n 1, 1) := by decide +kernel
theorem dX3_allows_8 : decode cX3_allows 8 = .ok (.ifCond .lt 12, 3) := by decide +kernel
theorem dX3_allows_11 : decode cX3_allows 11 = .ok (.iload_n 1, 1) := by decide +kernel
theorem dX3_allows_12 : decode cX3_allows 12 = .ok (.getstatic 15, 3) := by decide +kernel
theorem dX3_allows_15 : decode cX3_allows 15 = .ok (.iload_n 0, 1) := by decide +kernel
theorem dX3_allows_16 : decode cX3_allows 16 = .ok (.iaload, 1) := by decide +kernel
theorem dX3_allows_17 : decode cX3_allows 17 = .ok (.if_icmp .lt 5, 3) := by decide +kernel
theorem dX3_allows_20 : decode cX3_allows 20 = .ok (.iconst 0, 1) := by decide +kernel
theorem dX3_allows_21 : decode cX3_allows 21 = .ok (.ireturn, 1) := by decide +kernel
theorem dX3_allows_22 : decode cX3_allows 22 = .ok (.iload_n 0, 1) := by decide +kernel
theorem dX3_allows_23 : decode cX3_allows 23 = .ok (.iconst 4, 1) := by decide +kernel
theorem dX3_allows_24 : decode cX3_allows 24 = .ok (.if_icmp .ne 19, 3) := by decide +kernel
theorem dX3_allows_27 : decode cX3_allows 27 = .ok (.iload_n 2, 1) := by decide +kernel
theorem dX3_allows_28 : decode cX3_allows 28 = .ok (.ifCond .lt 13, 3) := by decide +kernel
theorem dX3_allows_31 : decode cX3_allows 31 = .ok (.iload_n 2, 1) := by decide +kernel
theorem dX3_allows_32 : decode cX3_allows 32 = .ok (.bipush 16, 2) := by decide +kernel
theorem dX3_allows_34 : decode cX3_allows 34 = .ok (.if_icmp .ge 7, 3) := by decide +kernel
theorem dX3_allows_37 : decode cX3_allows 37 = .ok (.iconst 1, 1) := by decide +kernel
theorem dX3_allows_38 : decode cX3_allows 38 = .ok (.goto 4, 3) := by decide +kernel
theorem dX3_allows_41 : decode cX3_allows 41 = .ok (.iconst 0, 1) := by decide +kernel
theorem dX3_allows_42 : decode cX3_allows 42 = .ok (.ireturn, 1) := by decide +kernel
theorem dX3_allows_43 : decode cX3_allows 43 = .ok (.iload_n 0, 1) := by decide +kernel
theorem dX3_allows_44 : decode cX3_allows 44 = .ok (.iconst 5, 1) := by decide +kernel
theorem dX3_allows_45 : decode cX3_allows 45 = .ok (.if_icmp .ne 12, 3) := by decide +kernel
theorem dX3_allows_48 : decode cX3_allows 48 = .ok (.iload_n 2, 1) := by decide +kernel
theorem dX3_allows_49 : decode cX3_allows 49 = .ok (.ifCond .lt 12, 3) := by decide +kernel
theorem dX3_allows_52 : decode cX3_allows 52 = .ok (.iload_n 2, 1) := by decide +kernel
theorem dX3_allows_53 : decode cX3_allows 53 = .ok (.iconst 4, 1) := by decide +kernel
theorem dX3_allows_54 : decode cX3_allows 54 = .ok (.if_icmp .ge 7, 3) := by decide +kernel
theorem dX3_allows_57 : decode cX3_allows 57 = .ok (.iconst 1, 1) := by decide +kernel
theorem dX3_allows_58 : decode cX3_allows 58 = .ok (.goto 4, 3) := by decide +kernel
theorem dX3_allows_61 : decode cX3_allows 61 = .ok (.iconst 0, 1) := by decide +kernel
theorem dX3_allows_62 : decode cX3_allows 62 = .ok (.ireturn, 1) := by decide +kernel
theorem dX3_reply_0 : decode cX3_reply 0 = .ok (.aload_n 0, 1) := by decide +kernel
theorem dX3_reply_1 : decode cX3_reply 1 = .ok (.getfield 19, 3) := by decide +kernel
theorem dX3_reply_4 : decode cX3_reply 4 = .ok (.tableswitch 196 0 6 #[44, 62, 86, 86, 110, 140, 170], 44) := by decide +kernel
theorem dX3_reply_48 : decode cX3_reply 48 = .ok (.aload_n 0, 1) := by decide +kernel
theorem dX3_reply_49 : decode cX3_reply 49 = .ok (.getfield 25, 3) := by decide +kernel
theorem dX3_reply_52 : decode cX3_reply 52 = .ok (.iload_n 1, 1) := by decide +kernel
theorem dX3_reply_53 : decode cX3_reply 53 = .ok (.iaload, 1) := by decide +kernel
theorem dX3_reply_54 : decode cX3_reply 54 = .ok (.lload_n 2, 1) := by decide +kernel
theorem dX3_reply_55 : decode cX3_reply 55 = .ok (.l2i, 1) := by decide +kernel
theorem dX3_reply_56 : decode cX3_reply 56 = .ok (.aload_n 0, 1) := by decide +kernel
theorem dX3_reply_57 : decode cX3_reply 57 = .ok (.getfield 28, 3) := by decide +kernel
theorem dX3_reply_60 : decode cX3_reply 60 = .ok (.iload_n 1, 1) := by decide +kernel
theorem dX3_reply_61 : decode cX3_reply 61 = .ok (.iaload, 1) := by decide +kernel
theorem dX3_reply_62 : decode cX3_reply 62 = .ok (.invokestatic 31, 3) := by decide +kernel
theorem dX3_reply_65 : decode cX3_reply 65 = .ok (.ireturn, 1) := by decide +kernel
theorem dX3_reply_66 : decode cX3_reply 66 = .ok (.aload_n 0, 1) := by decide +kernel
theorem dX3_reply_67 : decode cX3_reply 67 = .ok (.getfield 25, 3) := by decide +kernel
theorem dX3_reply_70 : decode cX3_reply 70 = .ok (.iload_n 1, 1) := by decide +kernel
theorem dX3_reply_71 : decode cX3_reply 71 = .ok (.iaload, 1) := by decide +kernel
theorem dX3_reply_72 : decode cX3_reply 72 = .ok (.ifCond .ne 8, 3) := by decide +kernel
theorem dX3_reply_75 : decode cX3_reply 75 = .ok (.lload_n 2, 1) := by decide +kernel
theorem dX3_reply_76 : decode cX3_reply 76 = .ok (.l2i, 1) := by decide +kernel
theorem dX3_reply_77 : decode cX3_reply 77 = .ok (.goto 12, 3) := by decide +kernel
theorem dX3_reply_80 : decode cX3_reply 80 = .ok (.lload_n 2, 1) := by decide +kernel
theorem dX3_reply_81 : decode cX3_reply 81 = .ok (.l2i, 1) := by decide +kernel
theorem dX3_reply_82 : decode cX3_reply 82 = .ok (.aload_n 0, 1) := by decide +kernel
theorem dX3_reply_83 : decode cX3_reply 83 = .ok (.getfield 28, 3) := by decide +kernel
theorem dX3_reply_86 : decode cX3_reply 86 = .ok (.iload_n 1, 1) := by decide +kernel
theorem dX3_reply_87 : decode cX3_reply 87 = .ok (.iaload, 1) := by decide +kernel
theorem dX3_reply_88 : decode cX3_reply 88 = .ok (.iadd, 1) := by decide +kernel
theorem dX3_reply_89 : decode cX3_reply 89 = .ok (.ireturn, 1) := by decide +kernel
theorem dX3_reply_90 : decode cX3_reply 90 = .ok (.aload_n 0, 1) := by decide +kernel
theorem dX3_reply_91 : decode cX3_reply 91 = .ok (.getfield 25, 3) := by decide +kernel
theorem dX3_reply_94 : decode cX3_reply 94 = .ok (.iload_n 1, 1) := by decide +kernel
theorem dX3_reply_95 : decode cX3_reply 95 = .ok (.iaload, 1) := by decide +kernel
theorem dX3_reply_96 : decode cX3_reply 96 = .ok (.ifCond .ne 12, 3) := by decide +kernel
theorem dX3_reply_99 : decode cX3_reply 99 = .ok (.lload_n 2, 1) := by decide +kernel
theorem dX3_reply_100 : decode cX3_reply 100 = .ok (.invokestatic 35, 3) := by decide +kernel
theorem dX3_reply_103 : decode cX3_reply 103 = .ok (.iconst 1, 1) := by decide +kernel
theorem dX3_reply_104 : decode cX3_reply 104 = .ok (.iadd, 1) := by decide +kernel
theorem dX3_reply_105 : decode cX3_reply 105 = .ok (.goto 8, 3) := by decide +kernel
theorem dX3_reply_108 : decode cX3_reply 108 = .ok (.aload_n 0, 1) := by decide +kernel
theorem dX3_reply_109 : decode cX3_reply 109 = .ok (.lload_n 2, 1) := by decide +kernel
theorem dX3_reply_110 : decode cX3_reply 110 = .ok (.invokestatic 39, 3) := by decide +kernel
theorem dX3_reply_113 : decode cX3_reply 113 = .ok (.ireturn, 1) := by decide +kernel
theorem dX3_reply_114 : decode cX3_reply 114 = .ok (.aload_n 0, 1) := by decide +kernel
theorem dX3_reply_115 : decode cX3_reply 115 = .ok (.getfield 25, 3) := by decide +kernel
theorem dX3_reply_118 : decode cX3_reply 118 = .ok (.iload_n 1, 1) := by decide +kernel
theorem dX3_reply_119 : decode cX3_reply 119 = .ok (.iaload, 1) := by decide +kernel
theorem dX3_reply_120 : decode cX3_reply 120 = .ok (.lload_n 2, 1) := by decide +kernel
theorem dX3_reply_121 : decode cX3_reply 121 = .ok (.aload_n 0, 1) := by decide +kernel
theorem dX3_reply_122 : decode cX3_reply 122 = .ok (.getfield 28, 3) := by decide +kernel
theorem dX3_reply_125 : decode cX3_reply 125 = .ok (.iload_n 1, 1) := by decide +kernel
theorem dX3_reply_126 : decode cX3_reply 126 = .ok (.iaload, 1) := by decide +kernel
theorem dX3_reply_127 : decode cX3_reply 127 = .ok (.lshr, 1) := by decide +kernel
theorem dX3_reply_128 : decode cX3_reply 128 = .ok (.lconst 1, 1) := by decide +kernel
theorem dX3_reply_129 : decode cX3_reply 129 = .ok (.land, 1) := by decide +kernel
theorem dX3_reply_130 : decode cX3_reply 130 = .ok (.lconst 0, 1) := by decide +kernel
theorem dX3_reply_131 : decode cX3_reply 131 = .ok (.lcmp, 1) := by decide +kernel
theorem dX3_reply_132 : decode cX3_reply 132 = .ok (.ifCond .eq 7, 3) := by decide +kernel
theorem dX3_reply_135 : decode cX3_reply 135 = .ok (.iconst 1, 1) := by decide +kernel
theorem dX3_reply_136 : decode cX3_reply 136 = .ok (.goto 4, 3) := by decide +kernel
theorem dX3_reply_139 : decode cX3_reply 139 = .ok (.iconst 0, 1) := by decide +kernel
theorem dX3_reply_140 : decode cX3_reply 140 = .ok (.invokestatic 43, 3) := by decide +kernel
theorem dX3_reply_143 : decode cX3_reply 143 = .ok (.ireturn, 1) := by decide +kernel
theorem dX3_reply_144 : decode cX3_reply 144 = .ok (.aload_n 0, 1) := by decide +kernel
theorem dX3_reply_145 : decode cX3_reply 145 = .ok (.getfield 25, 3) := by decide +kernel
theorem dX3_reply_148 : decode cX3_reply 148 = .ok (.iload_n 1, 1) := by decide +kernel
theorem dX3_reply_149 : decode cX3_reply 149 = .ok (.iaload, 1) := by decide +kernel
theorem dX3_reply_150 : decode cX3_reply 150 = .ok (.aload_n 0, 1) := by decide +kernel
theorem dX3_reply_151 : decode cX3_reply 151 = .ok (.lload_n 2, 1) := by decide +kernel
theorem dX3_reply_152 : decode cX3_reply 152 = .ok (.aload_n 0, 1) := by decide +kernel
theorem dX3_reply_153 : decode cX3_reply 153 = .ok (.getfield 28, 3) := by decide +kernel
theorem dX3_reply_156 : decode cX3_reply 156 = .ok (.iload_n 1, 1) := by decide +kernel
theorem dX3_reply_157 : decode cX3_reply 157 = .ok (.iaload, 1) := by decide +kernel
theorem dX3_reply_158 : decode cX3_reply 158 = .ok (.invokestatic 47, 3) := by decide +kernel
theorem dX3_reply_161 : decode cX3_reply 161 = .ok (.aload_n 0, 1) := by decide +kernel
theorem dX3_reply_162 : decode cX3_reply 162 = .ok (.getfield 51, 3) := by decide +kernel
theorem dX3_reply_165 : decode cX3_reply 165 = .ok (.iload_n 1, 1) := by decide +kernel
theorem dX3_reply_166 : decode cX3_reply 166 = .ok (.iaload, 1) := by decide +kernel
theorem dX3_reply_167 : decode cX3_reply 167 = .ok (.bipush 16, 2) := by decide +kernel
theorem dX3_reply_169 : decode cX3_reply 169 = .ok (.ishr, 1) := by decide +kernel
theorem dX3_reply_170 : decode cX3_reply 170 = .ok (.invokestatic 31, 3) := by decide +kernel
theorem dX3_reply_173 : decode cX3_reply 173 = .ok (.ireturn, 1) := by decide +kernel
theorem dX3_reply_174 : decode cX3_reply 174 = .ok (.aload_n 0, 1) := by decide +kernel
theorem dX3_reply_175 : decode cX3_reply 175 = .ok (.getfield 54, 3) := by decide +kernel
theorem dX3_reply_178 : decode cX3_reply 178 = .ok (.ifnonnull 7, 3) := by decide +kernel
theorem dX3_reply_181 : decode cX3_reply 181 = .ok (.iconst 0, 1) := by decide +kernel
theorem dX3_reply_182 : decode cX3_reply 182 = .ok (.goto 17, 3) := by decide +kernel
theorem dX3_reply_185 : decode cX3_reply 185 = .ok (.aload_n 0, 1) := by decide +kernel
theorem dX3_reply_186 : decode cX3_reply 186 = .ok (.getfield 54, 3) := by decide +kernel
theorem dX3_reply_189 : decode cX3_reply 189 = .ok (.lload_n 2, 1) := by decide +kernel
theorem dX3_reply_190 : decode cX3_reply 190 = .ok (.aload_n 0, 1) := by decide +kernel
theorem dX3_reply_191 : decode cX3_reply 191 = .ok (.getfield 25, 3) := by decide +kernel
theorem dX3_reply_194 : decode cX3_reply 194 = .ok (.iload_n 1, 1) := by decide +kernel
theorem dX3_reply_195 : decode cX3_reply 195 = .ok (.iaload, 1) := by decide +kernel
theorem dX3_reply_196 : decode cX3_reply 196 = .ok (.invokevirtual 58, 3) := by decide +kernel
theorem dX3_reply_199 : decode cX3_reply 199 = .ok (.ireturn, 1) := by decide +kernel
theorem dX3_reply_200 : decode cX3_reply 200 = .ok (.iconst 0, 1) := by decide +kernel
theorem dX3_reply_201 : decode cX3_reply 201 = .ok (.ireturn, 1) := by decide +kernel
theorem dX3_after_0 : decode cX3_after 0 = .ok (.aload_n 0, 1) := by decide +kernel
theorem dX3_after_1 : decode cX3_after 1 = .ok (.getfield 19, 3) := by decide +kernel
theorem dX3_after_4 : decode cX3_after 4 = .ok (.tableswitch 173 0 6 #[44, 51, 75, 96, 120, 139, 146], 44) := by decide +kernel
theorem dX3_after_48 : decode cX3_after 48 = .ok (.aload_n 0, 1) := by decide +kernel
theorem dX3_after_49 : decode cX3_after 49 = .ok (.iload_n 1, 1) := by decide +kernel
theorem dX3_after_50 : decode cX3_after 50 = .ok (.lload_n 2, 1) := by decide +kernel
theorem dX3_after_51 : decode cX3_after 51 = .ok (.invokestatic 64, 3) := by decide +kernel
theorem dX3_after_54 : decode cX3_after 54 = .ok (.lreturn, 1) := by decide +kernel
theorem dX3_after_55 : decode cX3_after 55 = .ok (.aload_n 0, 1) := by decide +kernel
theorem dX3_after_56 : decode cX3_after 56 = .ok (.getfield 25, 3) := by decide +kernel
theorem dX3_after_59 : decode cX3_after 59 = .ok (.iload_n 1, 1) := by decide +kernel
theorem dX3_after_60 : decode cX3_after 60 = .ok (.iaload, 1) := by decide +kernel
theorem dX3_after_61 : decode cX3_after 61 = .ok (.ifCond .ne 7, 3) := by decide +kernel
theorem dX3_after_64 : decode cX3_after 64 = .ok (.lload_n 2, 1) := by decide +kernel
theorem dX3_after_65 : decode cX3_after 65 = .ok (.goto 13, 3) := by decide +kernel
theorem dX3_after_68 : decode cX3_after 68 = .ok (.lload_n 2, 1) := by decide +kernel
theorem dX3_after_69 : decode cX3_after 69 = .ok (.l2i, 1) := by decide +kernel
theorem dX3_after_70 : decode cX3_after 70 = .ok (.aload_n 0, 1) := by decide +kernel
theorem dX3_after_71 : decode cX3_after 71 = .ok (.getfield 28, 3) := by decide +kernel
theorem dX3_after_74 : decode cX3_after 74 = .ok (.iload_n 1, 1) := by decide +kernel
theorem dX3_after_75 : decode cX3_after 75 = .ok (.iaload, 1) := by decide +kernel
theorem dX3_after_76 : decode cX3_after 76 = .ok (.iadd, 1) := by decide +kernel
theorem dX3_after_77 : decode cX3_after 77 = .ok (.i2l, 1) := by decide +kernel
theorem dX3_after_78 : decode cX3_after 78 = .ok (.lreturn, 1) := by decide +kernel
theorem dX3_after_79 : decode cX3_after 79 = .ok (.aload_n 0, 1) := by decide +kernel
theorem dX3_after_80 : decode cX3_after 80 = .ok (.getfield 25, 3) := by decide +kernel
theorem dX3_after_83 : decode cX3_after 83 = .ok (.iload_n 1, 1) := by decide +kernel
theorem dX3_after_84 : decode cX3_after 84 = .ok (.iaload, 1) := by decide +kernel
theorem dX3_after_85 : decode cX3_after 85 = .ok (.ifCond .ne 11, 3) := by decide +kernel
theorem dX3_after_88 : decode cX3_after 88 = .ok (.iload_n 1, 1) := by decide +kernel
theorem dX3_after_89 : decode cX3_after 89 = .ok (.lload_n 2, 1) := by decide +kernel
theorem dX3_after_90 : decode cX3_after 90 = .ok (.invokestatic 68, 3) := by decide +kernel
theorem dX3_after_93 : decode cX3_after 93 = .ok (.goto 6, 3) := by decide +kernel
theorem dX3_after_96 : decode cX3_after 96 = .ok (.lload_n 2, 1) := by decide +kernel
theorem dX3_after_97 : decode cX3_after 97 = .ok (.iconst 4, 1) := by decide +kernel
theorem dX3_after_98 : decode cX3_after 98 = .ok (.lushr, 1) := by decide +kernel
theorem dX3_after_99 : decode cX3_after 99 = .ok (.lreturn, 1) := by decide +kernel
theorem dX3_after_100 : decode cX3_after 100 = .ok (.aload_n 0, 1) := by decide +kernel
theorem dX3_after_101 : decode cX3_after 101 = .ok (.getfield 25, 3) := by decide +kernel
theorem dX3_after_104 : decode cX3_after 104 = .ok (.iload_n 1, 1) := by decide +kernel
theorem dX3_after_105 : decode cX3_after 105 = .ok (.iaload, 1) := by decide +kernel
theorem dX3_after_106 : decode cX3_after 106 = .ok (.ifCond .ne 14, 3) := by decide +kernel
theorem dX3_after_109 : decode cX3_after 109 = .ok (.lload_n 2, 1) := by decide +kernel
theorem dX3_after_110 : decode cX3_after 110 = .ok (.iconst 4, 1) := by decide +kernel
theorem dX3_after_111 : decode cX3_after 111 = .ok (.lshl, 1) := by decide +kernel
theorem dX3_after_112 : decode cX3_after 112 = .ok (.iload_n 1, 1) := by decide +kernel
theorem dX3_after_113 : decode cX3_after 113 = .ok (.iconst 1, 1) := by decide +kernel
theorem dX3_after_114 : decode cX3_after 114 = .ok (.iadd, 1) := by decide +kernel
theorem dX3_after_115 : decode cX3_after 115 = .ok (.i2l, 1) := by decide +kernel
theorem dX3_after_116 : decode cX3_after 116 = .ok (.lor, 1) := by decide +kernel
theorem dX3_after_117 : decode cX3_after 117 = .ok (.goto 6, 3) := by decide +kernel
theorem dX3_after_120 : decode cX3_after 120 = .ok (.lload_n 2, 1) := by decide +kernel
theorem dX3_after_121 : decode cX3_after 121 = .ok (.iconst 4, 1) := by decide +kernel
theorem dX3_after_122 : decode cX3_after 122 = .ok (.lushr, 1) := by decide +kernel
theorem dX3_after_123 : decode cX3_after 123 = .ok (.lreturn, 1) := by decide +kernel
theorem dX3_after_124 : decode cX3_after 124 = .ok (.aload_n 0, 1) := by decide +kernel
theorem dX3_after_125 : decode cX3_after 125 = .ok (.getfield 25, 3) := by decide +kernel
theorem dX3_after_128 : decode cX3_after 128 = .ok (.iload_n 1, 1) := by decide +kernel
theorem dX3_after_129 : decode cX3_after 129 = .ok (.iaload, 1) := by decide +kernel
theorem dX3_after_130 : decode cX3_after 130 = .ok (.lconst 1, 1) := by decide +kernel
theorem dX3_after_131 : decode cX3_after 131 = .ok (.aload_n 0, 1) := by decide +kernel
theorem dX3_after_132 : decode cX3_after 132 = .ok (.getfield 28, 3) := by decide +kernel
theorem dX3_after_135 : decode cX3_after 135 = .ok (.iload_n 1, 1) := by decide +kernel
theorem dX3_after_136 : decode cX3_after 136 = .ok (.iaload, 1) := by decide +kernel
theorem dX3_after_137 : decode cX3_after 137 = .ok (.lshl, 1) := by decide +kernel
theorem dX3_after_138 : decode cX3_after 138 = .ok (.lload_n 2, 1) := by decide +kernel
theorem dX3_after_139 : decode cX3_after 139 = .ok (.invokestatic 72, 3) := by decide +kernel
theorem dX3_after_142 : decode cX3_after 142 = .ok (.lreturn, 1) := by decide +kernel
theorem dX3_after_143 : decode cX3_after 143 = .ok (.aload_n 0, 1) := by decide +kernel
theorem dX3_after_144 : decode cX3_after 144 = .ok (.iload_n 1, 1) := by decide +kernel
theorem dX3_after_145 : decode cX3_after 145 = .ok (.lload_n 2, 1) := by decide +kernel
theorem dX3_after_146 : decode cX3_after 146 = .ok (.invokestatic 76, 3) := by decide +kernel
theorem dX3_after_149 : decode cX3_after 149 = .ok (.lreturn, 1) := by decide +kernel
theorem dX3_after_150 : decode cX3_after 150 = .ok (.aload_n 0, 1) := by decide +kernel
theorem dX3_after_151 : decode cX3_after 151 = .ok (.getfield 54, 3) := by decide +kernel
theorem dX3_after_154 : decode cX3_after 154 = .ok (.ifnonnull 7, 3) := by decide +kernel
theorem dX3_after_157 : decode cX3_after 157 = .ok (.lconst 0, 1) := by decide +kernel
theorem dX3_after_158 : decode cX3_after 158 = .ok (.goto 18, 3) := by decide +kernel
theorem dX3_after_161 : decode cX3_after 161 = .ok (.aload_n 0, 1) := by decide +kernel
theorem dX3_after_162 : decode cX3_after 162 = .ok (.getfield 54, 3) := by decide +kernel
theorem dX3_after_165 : decode cX3_after 165 = .ok (.lload_n 2, 1) := by decide +kernel
theorem dX3_after_166 : decode cX3_after 166 = .ok (.aload_n 0, 1) := by decide +kernel
theorem dX3_after_167 : decode cX3_after 167 = .ok (.getfield 25, 3) := by decide +kernel
theorem dX3_after_170 : decode cX3_after 170 = .ok (.iload_n 1, 1) := by decide +kernel
theorem dX3_after_171 : decode cX3_after 171 = .ok (.iaload, 1) := by decide +kernel
theorem dX3_after_172 : decode cX3_after 172 = .ok (.invokevirtual 79, 3) := by decide +kernel
theorem dX3_after_175 : decode cX3_after 175 = .ok (.i2l, 1) := by decide +kernel
theorem dX3_after_176 : decode cX3_after 176 = .ok (.lreturn, 1) := by decide +kernel
theorem dX3_after_177 : decode cX3_after 177 = .ok (.lconst 0, 1) := by decide +kernel
theorem dX3_after_178 : decode cX3_after 178 = .ok (.lreturn, 1) := by decide +kernel
theorem dX3_cellReply_0 : decode cX3_cellReply 0 = .ok (.iload_n 0, 1) := by decide +kernel
theorem dX3_cellReply_1 : decode cX3_cellReply 1 = .ok (.ifCond .ne 5, 3) := by decide +kernel
theorem dX3_cellReply_4 : decode cX3_cellReply 4 = .ok (.iload_n 1, 1) := by decide +kernel
theorem dX3_cellReply_5 : decode cX3_cellReply 5 = .ok (.ireturn, 1) := by decide +kernel
theorem dX3_cellReply_6 : decode cX3_cellReply 6 = .ok (.iload_n 0, 1) := by decide +kernel
theorem dX3_cellReply_7 : decode cX3_cellReply 7 = .ok (.iconst 1, 1) := by decide +kernel
theorem dX3_cellReply_8 : decode cX3_cellReply 8 = .ok (.if_icmp .eq 12, 3) := by decide +kernel
theorem dX3_cellReply_11 : decode cX3_cellReply 11 = .ok (.iload_n 1, 1) := by decide +kernel
theorem dX3_cellReply_12 : decode cX3_cellReply 12 = .ok (.iload_n 2, 1) := by decide +kernel
theorem dX3_cellReply_13 : decode cX3_cellReply 13 = .ok (.if_icmp .ne 7, 3) := by decide +kernel
theorem dX3_cellReply_16 : decode cX3_cellReply 16 = .ok (.iconst 1, 1) := by decide +kernel
theorem dX3_cellReply_17 : decode cX3_cellReply 17 = .ok (.goto 4, 3) := by decide +kernel
theorem dX3_cellReply_20 : decode cX3_cellReply 20 = .ok (.iconst 0, 1) := by decide +kernel
theorem dX3_cellReply_21 : decode cX3_cellReply 21 = .ok (.ireturn, 1) := by decide +kernel
theorem dX3_cellAfter_0 : decode cX3_cellAfter 0 = .ok (.aload_n 0, 1) := by decide +kernel
theorem dX3_cellAfter_1 : decode cX3_cellAfter 1 = .ok (.getfield 25, 3) := by decide +kernel
theorem dX3_cellAfter_4 : decode cX3_cellAfter 4 = .ok (.iload_n 1, 1) := by decide +kernel
theorem dX3_cellAfter_5 : decode cX3_cellAfter 5 = .ok (.iaload, 1) := by decide +kernel
theorem dX3_cellAfter_6 : decode cX3_cellAfter 6 = .ok (.ifCond .ne 5, 3) := by decide +kernel
theorem dX3_cellAfter_9 : decode cX3_cellAfter 9 = .ok (.lload_n 2, 1) := by decide +kernel
theorem dX3_cellAfter_10 : decode cX3_cellAfter 10 = .ok (.lreturn, 1) := by decide +kernel
theorem dX3_cellAfter_11 : decode cX3_cellAfter 11 = .ok (.aload_n 0, 1) := by decide +kernel
theorem dX3_cellAfter_12 : decode cX3_cellAfter 12 = .ok (.getfield 25, 3) := by decide +kernel
theorem dX3_cellAfter_15 : decode cX3_cellAfter 15 = .ok (.iload_n 1, 1) := by decide +kernel
theorem dX3_cellAfter_16 : decode cX3_cellAfter 16 = .ok (.iaload, 1) := by decide +kernel
theorem dX3_cellAfter_17 : decode cX3_cellAfter 17 = .ok (.iconst 1, 1) := by decide +kernel
theorem dX3_cellAfter_18 : decode cX3_cellAfter 18 = .ok (.if_icmp .ne 11, 3) := by decide +kernel
theorem dX3_cellAfter_21 : decode cX3_cellAfter 21 = .ok (.aload_n 0, 1) := by decide +kernel
theorem dX3_cellAfter_22 : decode cX3_cellAfter 22 = .ok (.getfield 28, 3) := by decide +kernel
theorem dX3_cellAfter_25 : decode cX3_cellAfter 25 = .ok (.iload_n 1, 1) := by decide +kernel
theorem dX3_cellAfter_26 : decode cX3_cellAfter 26 = .ok (.iaload, 1) := by decide +kernel
theorem dX3_cellAfter_27 : decode cX3_cellAfter 27 = .ok (.i2l, 1) := by decide +kernel
theorem dX3_cellAfter_28 : decode cX3_cellAfter 28 = .ok (.lreturn, 1) := by decide +kernel
theorem dX3_cellAfter_29 : decode cX3_cellAfter 29 = .ok (.lload_n 2, 1) := by decide +kernel
theorem dX3_cellAfter_30 : decode cX3_cellAfter 30 = .ok (.aload_n 0, 1) := by decide +kernel
theorem dX3_cellAfter_31 : decode cX3_cellAfter 31 = .ok (.getfield 28, 3) := by decide +kernel
theorem dX3_cellAfter_34 : decode cX3_cellAfter 34 = .ok (.iload_n 1, 1) := by decide +kernel
theorem dX3_cellAfter_35 : decode cX3_cellAfter 35 = .ok (.iaload, 1) := by decide +kernel
theorem dX3_cellAfter_36 : decode cX3_cellAfter 36 = .ok (.i2l, 1) := by decide +kernel
theorem dX3_cellAfter_37 : decode cX3_cellAfter 37 = .ok (.lcmp, 1) := by decide +kernel
theorem dX3_cellAfter_38 : decode cX3_cellAfter 38 = .ok (.ifCond .ne 13, 3) := by decide +kernel
theorem dX3_cellAfter_41 : decode cX3_cellAfter 41 = .ok (.aload_n 0, 1) := by decide +kernel
theorem dX3_cellAfter_42 : decode cX3_cellAfter 42 = .ok (.getfield 51, 3) := by decide +kernel
theorem dX3_cellAfter_45 : decode cX3_cellAfter 45 = .ok (.iload_n 1, 1) := by decide +kernel
theorem dX3_cellAfter_46 : decode cX3_cellAfter 46 = .ok (.iaload, 1) := by decide +kernel
theorem dX3_cellAfter_47 : decode cX3_cellAfter 47 = .ok (.i2l, 1) := by decide +kernel
theorem dX3_cellAfter_48 : decode cX3_cellAfter 48 = .ok (.goto 4, 3) := by decide +kernel
theorem dX3_cellAfter_51 : decode cX3_cellAfter 51 = .ok (.lload_n 2, 1) := by decide +kernel
theorem dX3_cellAfter_52 : decode cX3_cellAfter 52 = .ok (.lreturn, 1) := by decide +kernel
theorem dX3_lengthOf_0 : decode cX3_lengthOf 0 = .ok (.bipush 64, 2) := by decide +kernel
theorem dX3_lengthOf_2 : decode cX3_lengthOf 2 = .ok (.lload_n 0, 1) := by decide +kernel
theorem dX3_lengthOf_3 : decode cX3_lengthOf 3 = .ok (.invokestatic 82, 3) := by decide +kernel
theorem dX3_lengthOf_6 : decode cX3_lengthOf 6 = .ok (.isub, 1) := by decide +kernel
theorem dX3_lengthOf_7 : decode cX3_lengthOf 7 = .ok (.istore_n 2, 1) := by decide +kernel
theorem dX3_lengthOf_8 : decode cX3_lengthOf 8 = .ok (.iload_n 2, 1) := by decide +kernel
theorem dX3_lengthOf_9 : decode cX3_lengthOf 9 = .ok (.iconst 4, 1) := by decide +kernel
theorem dX3_lengthOf_10 : decode cX3_lengthOf 10 = .ok (.iadd, 1) := by decide +kernel
theorem dX3_lengthOf_11 : decode cX3_lengthOf 11 = .ok (.iconst 1, 1) := by decide +kernel
theorem dX3_lengthOf_12 : decode cX3_lengthOf 12 = .ok (.isub, 1) := by decide +kernel
theorem dX3_lengthOf_13 : decode cX3_lengthOf 13 = .ok (.iconst 4, 1) := by decide +kernel
theorem dX3_lengthOf_14 : decode cX3_lengthOf 14 = .ok (.idiv, 1) := by decide +kernel
theorem dX3_lengthOf_15 : decode cX3_lengthOf 15 = .ok (.ireturn, 1) := by decide +kernel
theorem dX3_taken_0 : decode cX3_taken 0 = .ok (.lload_n 1, 1) := by decide +kernel
theorem dX3_taken_1 : decode cX3_taken 1 = .ok (.ldc2_w 87, 3) := by decide +kernel
theorem dX3_taken_4 : decode cX3_taken 4 = .ok (.land, 1) := by decide +kernel
theorem dX3_taken_5 : decode cX3_taken 5 = .ok (.l2i, 1) := by decide +kernel
theorem dX3_taken_6 : decode cX3_taken 6 = .ok (.iconst 1, 1) := by decide +kernel
theorem dX3_taken_7 : decode cX3_taken 7 = .ok (.isub, 1) := by decide +kernel
theorem dX3_taken_8 : decode cX3_taken 8 = .ok (.istore_n 3, 1) := by decide +kernel
theorem dX3_taken_9 : decode cX3_taken 9 = .ok (.aload_n 0, 1) := by decide +kernel
theorem dX3_taken_10 : decode cX3_taken 10 = .ok (.iload_n 3, 1) := by decide +kernel
theorem dX3_taken_11 : decode cX3_taken 11 = .ok (.invokevirtual 89, 3) := by decide +kernel
theorem dX3_taken_14 : decode cX3_taken 14 = .ok (.ifCond .eq 12, 3) := by decide +kernel
theorem dX3_taken_17 : decode cX3_taken 17 = .ok (.aload_n 0, 1) := by decide +kernel
theorem dX3_taken_18 : decode cX3_taken 18 = .ok (.getfield 28, 3) := by decide +kernel
theorem dX3_taken_21 : decode cX3_taken 21 = .ok (.iload_n 3, 1) := by decide +kernel
theorem dX3_taken_22 : decode cX3_taken 22 = .ok (.iaload, 1) := by decide +kernel
theorem dX3_taken_23 : decode cX3_taken 23 = .ok (.goto 4, 3) := by decide +kernel
theorem dX3_taken_26 : decode cX3_taken 26 = .ok (.iconst (-1), 1) := by decide +kernel
theorem dX3_taken_27 : decode cX3_taken 27 = .ok (.ireturn, 1) := by decide +kernel
theorem dX3_putBehind_0 : decode cX3_putBehind 0 = .ok (.lload_n 1, 1) := by decide +kernel
theorem dX3_putBehind_1 : decode cX3_putBehind 1 = .ok (.iload_n 0, 1) := by decide +kernel
theorem dX3_putBehind_2 : decode cX3_putBehind 2 = .ok (.i2l, 1) := by decide +kernel
theorem dX3_putBehind_3 : decode cX3_putBehind 3 = .ok (.lconst 1, 1) := by decide +kernel
theorem dX3_putBehind_4 : decode cX3_putBehind 4 = .ok (.ladd, 1) := by decide +kernel
theorem dX3_putBehind_5 : decode cX3_putBehind 5 = .ok (.lload_n 1, 1) := by decide +kernel
theorem dX3_putBehind_6 : decode cX3_putBehind 6 = .ok (.invokestatic 35, 3) := by decide +kernel
theorem dX3_putBehind_9 : decode cX3_putBehind 9 = .ok (.iconst 4, 1) := by decide +kernel
theorem dX3_putBehind_10 : decode cX3_putBehind 10 = .ok (.imul, 1) := by decide +kernel
theorem dX3_putBehind_11 : decode cX3_putBehind 11 = .ok (.lshl, 1) := by decide +kernel
theorem dX3_putBehind_12 : decode cX3_putBehind 12 = .ok (.lor, 1) := by decide +kernel
theorem dX3_putBehind_13 : decode cX3_putBehind 13 = .ok (.lreturn, 1) := by decide +kernel
theorem dX3_setReply_0 : decode cX3_setReply 0 = .ok (.iload_n 1, 1) := by decide +kernel
theorem dX3_setReply_1 : decode cX3_setReply 1 = .ok (.iload_n 0, 1) := by decide +kernel
theorem dX3_setReply_2 : decode cX3_setReply 2 = .ok (.ifCond .ne 7, 3) := by decide +kernel
theorem dX3_setReply_5 : decode cX3_setReply 5 = .ok (.iconst 1, 1) := by decide +kernel
theorem dX3_setReply_6 : decode cX3_setReply 6 = .ok (.goto 4, 3) := by decide +kernel
theorem dX3_setReply_9 : decode cX3_setReply 9 = .ok (.iconst 0, 1) := by decide +kernel
theorem dX3_setReply_10 : decode cX3_setReply 10 = .ok (.if_icmp .eq 7, 3) := by decide +kernel
theorem dX3_setReply_13 : decode cX3_setReply 13 = .ok (.iconst 1, 1) := by decide +kernel
theorem dX3_setReply_14 : decode cX3_setReply 14 = .ok (.goto 4, 3) := by decide +kernel
theorem dX3_setReply_17 : decode cX3_setReply 17 = .ok (.iconst 0, 1) := by decide +kernel
theorem dX3_setReply_18 : decode cX3_setReply 18 = .ok (.ireturn, 1) := by decide +kernel
theorem dX3_setAfter_0 : decode cX3_setAfter 0 = .ok (.iload_n 0, 1) := by decide +kernel
theorem dX3_setAfter_1 : decode cX3_setAfter 1 = .ok (.ifCond .ne 7, 3) := by decide +kernel
theorem dX3_setAfter_4 : decode cX3_setAfter 4 = .ok (.lload_n 3, 1) := by decide +kernel
theorem dX3_setAfter_5 : decode cX3_setAfter 5 = .ok (.lload_n 1, 1) := by decide +kernel
theorem dX3_setAfter_6 : decode cX3_setAfter 6 = .ok (.lor, 1) := by decide +kernel
theorem dX3_setAfter_7 : decode cX3_setAfter 7 = .ok (.lreturn, 1) := by decide +kernel
theorem dX3_setAfter_8 : decode cX3_setAfter 8 = .ok (.iload_n 0, 1) := by decide +kernel
theorem dX3_setAfter_9 : decode cX3_setAfter 9 = .ok (.iconst 1, 1) := by decide +kernel
theorem dX3_setAfter_10 : decode cX3_setAfter 10 = .ok (.if_icmp .ne 13, 3) := by decide +kernel
theorem dX3_setAfter_13 : decode cX3_setAfter 13 = .ok (.lload_n 3, 1) := by decide +kernel
theorem dX3_setAfter_14 : decode cX3_setAfter 14 = .ok (.lload_n 1, 1) := by decide +kernel
theorem dX3_setAfter_15 : decode cX3_setAfter 15 = .ok (.ldc2_w 92, 3) := by decide +kernel
theorem dX3_setAfter_18 : decode cX3_setAfter 18 = .ok (.lxor, 1) := by decide +kernel
theorem dX3_setAfter_19 : decode cX3_setAfter 19 = .ok (.land, 1) := by decide +kernel
theorem dX3_setAfter_20 : decode cX3_setAfter 20 = .ok (.goto 4, 3) := by decide +kernel
theorem dX3_setAfter_23 : decode cX3_setAfter 23 = .ok (.lload_n 3, 1) := by decide +kernel
theorem dX3_setAfter_24 : decode cX3_setAfter 24 = .ok (.lreturn, 1) := by decide +kernel
theorem dX3_valueAt_0 : decode cX3_valueAt 0 = .ok (.lload_n 1, 1) := by decide +kernel
theorem dX3_valueAt_1 : decode cX3_valueAt 1 = .ok (.iload_n 3, 1) := by decide +kernel
theorem dX3_valueAt_2 : decode cX3_valueAt 2 = .ok (.iconst 4, 1) := by decide +kernel
theorem dX3_valueAt_3 : decode cX3_valueAt 3 = .ok (.imul, 1) := by decide +kernel
theorem dX3_valueAt_4 : decode cX3_valueAt 4 = .ok (.lshr, 1) := by decide +kernel
theorem dX3_valueAt_5 : decode cX3_valueAt 5 = .ok (.ldc2_w 87, 3) := by decide +kernel
theorem dX3_valueAt_8 : decode cX3_valueAt 8 = .ok (.land, 1) := by decide +kernel
theorem dX3_valueAt_9 : decode cX3_valueAt 9 = .ok (.l2i, 1) := by decide +kernel
theorem dX3_valueAt_10 : decode cX3_valueAt 10 = .ok (.iconst 1, 1) := by decide +kernel
theorem dX3_valueAt_11 : decode cX3_valueAt 11 = .ok (.isub, 1) := by decide +kernel
theorem dX3_valueAt_12 : decode cX3_valueAt 12 = .ok (.istore 4, 2) := by decide +kernel
theorem dX3_valueAt_14 : decode cX3_valueAt 14 = .ok (.aload_n 0, 1) := by decide +kernel
theorem dX3_valueAt_15 : decode cX3_valueAt 15 = .ok (.iload 4, 2) := by decide +kernel
theorem dX3_valueAt_17 : decode cX3_valueAt 17 = .ok (.invokevirtual 89, 3) := by decide +kernel
theorem dX3_valueAt_20 : decode cX3_valueAt 20 = .ok (.ifCond .ne 5, 3) := by decide +kernel
theorem dX3_valueAt_23 : decode cX3_valueAt 23 = .ok (.iconst 0, 1) := by decide +kernel
theorem dX3_valueAt_24 : decode cX3_valueAt 24 = .ok (.ireturn, 1) := by decide +kernel
theorem dX3_valueAt_25 : decode cX3_valueAt 25 = .ok (.aload_n 0, 1) := by decide +kernel
theorem dX3_valueAt_26 : decode cX3_valueAt 26 = .ok (.getfield 25, 3) := by decide +kernel
theorem dX3_valueAt_29 : decode cX3_valueAt 29 = .ok (.iload 4, 2) := by decide +kernel
theorem dX3_valueAt_31 : decode cX3_valueAt 31 = .ok (.iaload, 1) := by decide +kernel
theorem dX3_valueAt_32 : decode cX3_valueAt 32 = .ok (.iconst 1, 1) := by decide +kernel
theorem dX3_valueAt_33 : decode cX3_valueAt 33 = .ok (.if_icmp .ne 13, 3) := by decide +kernel
theorem dX3_valueAt_36 : decode cX3_valueAt 36 = .ok (.aload_n 0, 1) := by decide +kernel
theorem dX3_valueAt_37 : decode cX3_valueAt 37 = .ok (.getfield 51, 3) := by decide +kernel
theorem dX3_valueAt_40 : decode cX3_valueAt 40 = .ok (.iload 4, 2) := by decide +kernel
theorem dX3_valueAt_42 : decode cX3_valueAt 42 = .ok (.iaload, 1) := by decide +kernel
theorem dX3_valueAt_43 : decode cX3_valueAt 43 = .ok (.goto 11, 3) := by decide +kernel
theorem dX3_valueAt_46 : decode cX3_valueAt 46 = .ok (.aload_n 0, 1) := by decide +kernel
theorem dX3_valueAt_47 : decode cX3_valueAt 47 = .ok (.getfield 51, 3) := by decide +kernel
theorem dX3_valueAt_50 : decode cX3_valueAt 50 = .ok (.iload 4, 2) := by decide +kernel
theorem dX3_valueAt_52 : decode cX3_valueAt 52 = .ok (.iaload, 1) := by decide +kernel
theorem dX3_valueAt_53 : decode cX3_valueAt 53 = .ok (.i2s, 1) := by decide +kernel
theorem dX3_valueAt_54 : decode cX3_valueAt 54 = .ok (.ireturn, 1) := by decide +kernel
theorem dX3_mapAfter_0 : decode cX3_mapAfter 0 = .ok (.aload_n 0, 1) := by decide +kernel
theorem dX3_mapAfter_1 : decode cX3_mapAfter 1 = .ok (.lload_n 2, 1) := by decide +kernel
theorem dX3_mapAfter_2 : decode cX3_mapAfter 2 = .ok (.aload_n 0, 1) := by decide +kernel
theorem dX3_mapAfter_3 : decode cX3_mapAfter 3 = .ok (.getfield 28, 3) := by decide +kernel
theorem dX3_mapAfter_6 : decode cX3_mapAfter 6 = .ok (.iload_n 1, 1) := by decide +kernel
theorem dX3_mapAfter_7 : decode cX3_mapAfter 7 = .ok (.iaload, 1) := by decide +kernel
theorem dX3_mapAfter_8 : decode cX3_mapAfter 8 = .ok (.invokestatic 47, 3) := by decide +kernel
theorem dX3_mapAfter_11 : decode cX3_mapAfter 11 = .ok (.aload_n 0, 1) := by decide +kernel
theorem dX3_mapAfter_12 : decode cX3_mapAfter 12 = .ok (.getfield 51, 3) := by decide +kernel
theorem dX3_mapAfter_15 : decode cX3_mapAfter 15 = .ok (.iload_n 1, 1) := by decide +kernel
theorem dX3_mapAfter_16 : decode cX3_mapAfter 16 = .ok (.iaload, 1) := by decide +kernel
theorem dX3_mapAfter_17 : decode cX3_mapAfter 17 = .ok (.bipush 16, 2) := by decide +kernel
theorem dX3_mapAfter_19 : decode cX3_mapAfter 19 = .ok (.ishr, 1) := by decide +kernel
theorem dX3_mapAfter_20 : decode cX3_mapAfter 20 = .ok (.if_icmp .ne 7, 3) := by decide +kernel
theorem dX3_mapAfter_23 : decode cX3_mapAfter 23 = .ok (.iconst 1, 1) := by decide +kernel
theorem dX3_mapAfter_24 : decode cX3_mapAfter 24 = .ok (.goto 4, 3) := by decide +kernel
theorem dX3_mapAfter_27 : decode cX3_mapAfter 27 = .ok (.iconst 0, 1) := by decide +kernel
theorem dX3_mapAfter_28 : decode cX3_mapAfter 28 = .ok (.istore 4, 2) := by decide +kernel
theorem dX3_mapAfter_30 : decode cX3_mapAfter 30 = .ok (.aload_n 0, 1) := by decide +kernel
theorem dX3_mapAfter_31 : decode cX3_mapAfter 31 = .ok (.getfield 25, 3) := by decide +kernel
theorem dX3_mapAfter_34 : decode cX3_mapAfter 34 = .ok (.iload_n 1, 1) := by decide +kernel
theorem dX3_mapAfter_35 : decode cX3_mapAfter 35 = .ok (.iaload, 1) := by decide +kernel
theorem dX3_mapAfter_36 : decode cX3_mapAfter 36 = .ok (.ifCond .eq 18, 3) := by decide +kernel
theorem dX3_mapAfter_39 : decode cX3_mapAfter 39 = .ok (.aload_n 0, 1) := by decide +kernel
theorem dX3_mapAfter_40 : decode cX3_mapAfter 40 = .ok (.getfield 25, 3) := by decide +kernel
theorem dX3_mapAfter_43 : decode cX3_mapAfter 43 = .ok (.iload_n 1, 1) := by decide +kernel
theorem dX3_mapAfter_44 : decode cX3_mapAfter 44 = .ok (.iaload, 1) := by decide +kernel
theorem dX3_mapAfter_45 : decode cX3_mapAfter 45 = .ok (.iconst 1, 1) := by decide +kernel
theorem dX3_mapAfter_46 : decode cX3_mapAfter 46 = .ok (.if_icmp .eq 10, 3) := by decide +kernel
theorem dX3_mapAfter_49 : decode cX3_mapAfter 49 = .ok (.iload 4, 2) := by decide +kernel
theorem dX3_mapAfter_51 : decode cX3_mapAfter 51 = .ok (.ifCond .ne 5, 3) := by decide +kernel
theorem dX3_mapAfter_54 : decode cX3_mapAfter 54 = .ok (.lload_n 2, 1) := by decide +kernel
theorem dX3_mapAfter_55 : decode cX3_mapAfter 55 = .ok (.lreturn, 1) := by decide +kernel
theorem dX3_mapAfter_56 : decode cX3_mapAfter 56 = .ok (.aload_n 0, 1) := by decide +kernel
theorem dX3_mapAfter_57 : decode cX3_mapAfter 57 = .ok (.getfield 28, 3) := by decide +kernel
theorem dX3_mapAfter_60 : decode cX3_mapAfter 60 = .ok (.iload_n 1, 1) := by decide +kernel
theorem dX3_mapAfter_61 : decode cX3_mapAfter 61 = .ok (.iaload, 1) := by decide +kernel
theorem dX3_mapAfter_62 : decode cX3_mapAfter 62 = .ok (.iconst 4, 1) := by decide +kernel
theorem dX3_mapAfter_63 : decode cX3_mapAfter 63 = .ok (.imul, 1) := by decide +kernel
theorem dX3_mapAfter_64 : decode cX3_mapAfter 64 = .ok (.istore 5, 2) := by decide +kernel
theorem dX3_mapAfter_66 : decode cX3_mapAfter 66 = .ok (.lload_n 2, 1) := by decide +kernel
theorem dX3_mapAfter_67 : decode cX3_mapAfter 67 = .ok (.ldc2_w 87, 3) := by decide +kernel
theorem dX3_mapAfter_70 : decode cX3_mapAfter 70 = .ok (.iload 5, 2) := by decide +kernel
theorem dX3_mapAfter_72 : decode cX3_mapAfter 72 = .ok (.lshl, 1) := by decide +kernel
theorem dX3_mapAfter_73 : decode cX3_mapAfter 73 = .ok (.ldc2_w 92, 3) := by decide +kernel
theorem dX3_mapAfter_76 : decode cX3_mapAfter 76 = .ok (.lxor, 1) := by decide +kernel
theorem dX3_mapAfter_77 : decode cX3_mapAfter 77 = .ok (.land, 1) := by decide +kernel
theorem dX3_mapAfter_78 : decode cX3_mapAfter 78 = .ok (.iload_n 1, 1) := by decide +kernel
theorem dX3_mapAfter_79 : decode cX3_mapAfter 79 = .ok (.i2l, 1) := by decide +kernel
theorem dX3_mapAfter_80 : decode cX3_mapAfter 80 = .ok (.lconst 1, 1) := by decide +kernel
theorem dX3_mapAfter_81 : decode cX3_mapAfter 81 = .ok (.ladd, 1) := by decide +kernel
theorem dX3_mapAfter_82 : decode cX3_mapAfter 82 = .ok (.iload 5, 2) := by decide +kernel
theorem dX3_mapAfter_84 : decode cX3_mapAfter 84 = .ok (.lshl, 1) := by decide +kernel
theorem dX3_mapAfter_85 : decode cX3_mapAfter 85 = .ok (.lor, 1) := by decide +kernel
theorem dX3_mapAfter_86 : decode cX3_mapAfter 86 = .ok (.lreturn, 1) := by decide +kernel
theorem dX5_init_0 : decode cX5_init 0 = .ok (.aload_n 0, 1) := by decide +kernel
theorem dX5_init_1 : decode cX5_init 1 = .ok (.invokespecial 1, 3) := by decide +kernel
theorem dX5_init_4 : decode cX5_init 4 = .ok (.aload_n 0, 1) := by decide +kernel
theorem dX5_init_5 : decode cX5_init 5 = .ok (.bipush 32, 2) := by decide +kernel
theorem dX5_init_7 : decode cX5_init 7 = .ok (.newarray .int, 2) := by decide +kernel
theorem dX5_init_9 : decode cX5_init 9 = .ok (.putfield 9, 3) := by decide +kernel
theorem dX5_init_12 : decode cX5_init 12 = .ok (.aload_n 0, 1) := by decide +kernel
theorem dX5_init_13 : decode cX5_init 13 = .ok (.bipush 32, 2) := by decide +kernel
theorem dX5_init_15 : decode cX5_init 15 = .ok (.newarray .int, 2) := by decide +kernel
theorem dX5_init_17 : decode cX5_init 17 = .ok (.putfield 13, 3) := by decide +kernel
theorem dX5_init_20 : decode cX5_init 20 = .ok (.return_, 1) := by decide +kernel
theorem dX5_has_0 : decode cX5_has 0 = .ok (.lload_n 0, 1) := by decide +kernel
theorem dX5_has_1 : decode cX5_has 1 = .ok (.lconst 0, 1) := by decide +kernel
theorem dX5_has_2 : decode cX5_has 2 = .ok (.lcmp, 1) := by decide +kernel
theorem dX5_has_3 : decode cX5_has 3 = .ok (.ifCond .lt 24, 3) := by decide +kernel
theorem dX5_has_6 : decode cX5_has 6 = .ok (.lload_n 0, 1) := by decide +kernel
theorem dX5_has_7 : decode cX5_has 7 = .ok (.ldc2_w 16, 3) := by decide +kernel
theorem dX5_has_10 : decode cX5_has 10 = .ok (.lcmp, 1) := by decide +kernel
theorem dX5_has_11 : decode cX5_has 11 = .ok (.ifCond .ge 16, 3) := by decide +kernel
theorem dX5_has_14 : decode cX5_has 14 = .ok (.iload_n 2, 1) := by decide +kernel
theorem dX5_has_15 : decode cX5_has 15 = .ok (.ifCond .lt 12, 3) := by decide +kernel
theorem dX5_has_18 : decode cX5_has 18 = .ok (.iload_n 2, 1) := by decide +kernel
theorem dX5_has_19 : decode cX5_has 19 = .ok (.iconst 4, 1) := by decide +kernel
theorem dX5_has_20 : decode cX5_has 20 = .ok (.if_icmp .ge 7, 3) := by decide +kernel
theorem dX5_has_23 : decode cX5_has 23 = .ok (.iconst 1, 1) := by decide +kernel
theorem dX5_has_24 : decode cX5_has 24 = .ok (.goto 4, 3) := by decide +kernel
theorem dX5_has_27 : decode cX5_has 27 = .ok (.iconst 0, 1) := by decide +kernel
theorem dX5_has_28 : decode cX5_has 28 = .ok (.ireturn, 1) := by decide +kernel
theorem dX5_placeOf_0 : decode cX5_placeOf 0 = .ok (.lload_n 0, 1) := by decide +kernel
theorem dX5_placeOf_1 : decode cX5_placeOf 1 = .ok (.l2i, 1) := by decide +kernel
theorem dX5_placeOf_2 : decode cX5_placeOf 2 = .ok (.iconst 4, 1) := by decide +kernel
theorem dX5_placeOf_3 : decode cX5_placeOf 3 = .ok (.imul, 1) := by decide +kernel
theorem dX5_placeOf_4 : decode cX5_placeOf 4 = .ok (.iload_n 2, 1) := by decide +kernel
theorem dX5_placeOf_5 : decode cX5_placeOf 5 = .ok (.iadd, 1) := by decide +kernel
theorem dX5_placeOf_6 : decode cX5_placeOf 6 = .ok (.ireturn, 1) := by decide +kernel
theorem dX5_tell_0 : decode cX5_tell 0 = .ok (.iload_n 1, 1) := by decide +kernel
theorem dX5_tell_1 : decode cX5_tell 1 = .ok (.i2l, 1) := by decide +kernel
theorem dX5_tell_2 : decode cX5_tell 2 = .ok (.iload_n 2, 1) := by decide +kernel
theorem dX5_tell_3 : decode cX5_tell 3 = .ok (.invokestatic 18, 3) := by decide +kernel
theorem dX5_tell_6 : decode cX5_tell 6 = .ok (.ifCond .eq 28, 3) := by decide +kernel
theorem dX5_tell_9 : decode cX5_tell 9 = .ok (.aload_n 0, 1) := by decide +kernel
theorem dX5_tell_10 : decode cX5_tell 10 = .ok (.getfield 9, 3) := by decide +kernel
theorem dX5_tell_13 : decode cX5_tell 13 = .ok (.iload_n 1, 1) := by decide +kernel
theorem dX5_tell_14 : decode cX5_tell 14 = .ok (.i2l, 1) := by decide +kernel
theorem dX5_tell_15 : decode cX5_tell 15 = .ok (.iload_n 2, 1) := by decide +kernel
theorem dX5_tell_16 : decode cX5_tell 16 = .ok (.invokestatic 22, 3) := by decide +kernel
theorem dX5_tell_19 : decode cX5_tell 19 = .ok (.iload_n 3, 1) := by decide +kernel
theorem dX5_tell_20 : decode cX5_tell 20 = .ok (.iastore, 1) := by decide +kernel
theorem dX5_tell_21 : decode cX5_tell 21 = .ok (.aload_n 0, 1) := by decide +kernel
theorem dX5_tell_22 : decode cX5_tell 22 = .ok (.getfield 13, 3) := by decide +kernel
theorem dX5_tell_25 : decode cX5_tell 25 = .ok (.iload_n 1, 1) := by decide +kernel
theorem dX5_tell_26 : decode cX5_tell 26 = .ok (.i2l, 1) := by decide +kernel
theorem dX5_tell_27 : decode cX5_tell 27 = .ok (.iload_n 2, 1) := by decide +kernel
theorem dX5_tell_28 : decode cX5_tell 28 = .ok (.invokestatic 22, 3) := by decide +kernel
theorem dX5_tell_31 : decode cX5_tell 31 = .ok (.iload 4, 2) := by decide +kernel
theorem dX5_tell_33 : decode cX5_tell 33 = .ok (.iastore, 1) := by decide +kernel
theorem dX5_tell_34 : decode cX5_tell 34 = .ok (.return_, 1) := by decide +kernel
theorem dX5_answerIn_0 : decode cX5_answerIn 0 = .ok (.lload_n 1, 1) := by decide +kernel
theorem dX5_answerIn_1 : decode cX5_answerIn 1 = .ok (.iload_n 3, 1) := by decide +kernel
theorem dX5_answerIn_2 : decode cX5_answerIn 2 = .ok (.invokestatic 18, 3) := by decide +kernel
theorem dX5_answerIn_5 : decode cX5_answerIn 5 = .ok (.ifCond .eq 16, 3) := by decide +kernel
theorem dX5_answerIn_8 : decode cX5_answerIn 8 = .ok (.aload_n 0, 1) := by decide +kernel
theorem dX5_answerIn_9 : decode cX5_answerIn 9 = .ok (.getfield 9, 3) := by decide +kernel
theorem dX5_answerIn_12 : decode cX5_answerIn 12 = .ok (.lload_n 1, 1) := by decide +kernel
theorem dX5_answerIn_13 : decode cX5_answerIn 13 = .ok (.iload_n 3, 1) := by decide +kernel
theorem dX5_answerIn_14 : decode cX5_answerIn 14 = .ok (.invokestatic 22, 3) := by decide +kernel
theorem dX5_answerIn_17 : decode cX5_answerIn 17 = .ok (.iaload, 1) := by decide +kernel
theorem dX5_answerIn_18 : decode cX5_answerIn 18 = .ok (.goto 4, 3) := by decide +kernel
theorem dX5_answerIn_21 : decode cX5_answerIn 21 = .ok (.iconst 0, 1) := by decide +kernel
theorem dX5_answerIn_22 : decode cX5_answerIn 22 = .ok (.ireturn, 1) := by decide +kernel
theorem dX5_nextIn_0 : decode cX5_nextIn 0 = .ok (.lload_n 1, 1) := by decide +kernel
theorem dX5_nextIn_1 : decode cX5_nextIn 1 = .ok (.iload_n 3, 1) := by decide +kernel
theorem dX5_nextIn_2 : decode cX5_nextIn 2 = .ok (.invokestatic 18, 3) := by decide +kernel
theorem dX5_nextIn_5 : decode cX5_nextIn 5 = .ok (.ifCond .eq 16, 3) := by decide +kernel
theorem dX5_nextIn_8 : decode cX5_nextIn 8 = .ok (.aload_n 0, 1) := by decide +kernel
theorem dX5_nextIn_9 : decode cX5_nextIn 9 = .ok (.getfield 13, 3) := by decide +kernel
theorem dX5_nextIn_12 : decode cX5_nextIn 12 = .ok (.lload_n 1, 1) := by decide +kernel
theorem dX5_nextIn_13 : decode cX5_nextIn 13 = .ok (.iload_n 3, 1) := by decide +kernel
theorem dX5_nextIn_14 : decode cX5_nextIn 14 = .ok (.invokestatic 22, 3) := by decide +kernel
theorem dX5_nextIn_17 : decode cX5_nextIn 17 = .ok (.iaload, 1) := by decide +kernel
theorem dX5_nextIn_18 : decode cX5_nextIn 18 = .ok (.goto 4, 3) := by decide +kernel
theorem dX5_nextIn_21 : decode cX5_nextIn 21 = .ok (.iconst 0, 1) := by decide +kernel
theorem dX5_nextIn_22 : decode cX5_nextIn 22 = .ok (.ireturn, 1) := by decide +kernel
theorem dJ6_numberOfLeadingZeros_0f7a4_0 : decode cJ6_numberOfLeadingZeros_0f7a4 0 = .ok (.iload_n 0, 1) := by decide +kernel
theorem dJ6_numberOfLeadingZeros_0f7a4_1 : decode cJ6_numberOfLeadingZeros_0f7a4 1 = .ok (.ifCond .gt 14, 3) := by decide +kernel
theorem dJ6_numberOfLeadingZeros_0f7a4_4 : decode cJ6_numberOfLeadingZeros_0f7a4 4 = .ok (.iload_n 0, 1) := by decide +kernel
theorem dJ6_numberOfLeadingZeros_0f7a4_5 : decode cJ6_numberOfLeadingZeros_0f7a4 5 = .ok (.ifCond .ne 8, 3) := by decide +kernel
theorem dJ6_numberOfLeadingZeros_0f7a4_8 : decode cJ6_numberOfLeadingZeros_0f7a4 8 = .ok (.bipush 32, 2) := by decide +kernel
theorem dJ6_numberOfLeadingZeros_0f7a4_10 : decode cJ6_numberOfLeadingZeros_0f7a4 10 = .ok (.goto 4, 3) := by decide +kernel
theorem dJ6_numberOfLeadingZeros_0f7a4_13 : decode cJ6_numberOfLeadingZeros_0f7a4 13 = .ok (.iconst 0, 1) := by decide +kernel
theorem dJ6_numberOfLeadingZeros_0f7a4_14 : decode cJ6_numberOfLeadingZeros_0f7a4 14 = .ok (.ireturn, 1) := by decide +kernel
theorem dJ6_numberOfLeadingZeros_0f7a4_15 : decode cJ6_numberOfLeadingZeros_0f7a4 15 = .ok (.bipush 31, 2) := by decide +kernel
theorem dJ6_numberOfLeadingZeros_0f7a4_17 : decode cJ6_numberOfLeadingZeros_0f7a4 17 = .ok (.istore_n 1, 1) := by decide +kernel
theorem dJ6_numberOfLeadingZeros_0f7a4_18 : decode cJ6_numberOfLeadingZeros_0f7a4 18 = .ok (.iload_n 0, 1) := by decide +kernel
theorem dJ6_numberOfLeadingZeros_0f7a4_19 : decode cJ6_numberOfLeadingZeros_0f7a4 19 = .ok (.ldc_w 264, 3) := by decide +kernel
theorem dJ6_numberOfLeadingZeros_0f7a4_22 : decode cJ6_numberOfLeadingZeros_0f7a4 22 = .ok (.if_icmp .lt 11, 3) := by decide +kernel
theorem dJ6_numberOfLeadingZeros_0f7a4_25 : decode cJ6_numberOfLeadingZeros_0f7a4 25 = .ok (.iinc 1 (-16), 3) := by decide +kernel
theorem dJ6_numberOfLeadingZeros_0f7a4_28 : decode cJ6_numberOfLeadingZeros_0f7a4 28 = .ok (.iload_n 0, 1) := by decide +kernel
theorem dJ6_numberOfLeadingZeros_0f7a4_29 : decode cJ6_numberOfLeadingZeros_0f7a4 29 = .ok (.bipush 16, 2) := by decide +kernel
theorem dJ6_numberOfLeadingZeros_0f7a4_31 : decode cJ6_numberOfLeadingZeros_0f7a4 31 = .ok (.iushr, 1) := by decide +kernel
theorem dJ6_numberOfLeadingZeros_0f7a4_32 : decode cJ6_numberOfLeadingZeros_0f7a4 32 = .ok (.istore_n 0, 1) := by decide +kernel
theorem dJ6_numberOfLeadingZeros_0f7a4_33 : decode cJ6_numberOfLeadingZeros_0f7a4 33 = .ok (.iload_n 0, 1) := by decide +kernel
theorem dJ6_numberOfLeadingZeros_0f7a4_34 : decode cJ6_numberOfLeadingZeros_0f7a4 34 = .ok (.sipush 256, 3) := by decide +kernel
theorem dJ6_numberOfLeadingZeros_0f7a4_37 : decode cJ6_numberOfLeadingZeros_0f7a4 37 = .ok (.if_icmp .lt 11, 3) := by decide +kernel
theorem dJ6_numberOfLeadingZeros_0f7a4_40 : decode cJ6_numberOfLeadingZeros_0f7a4 40 = .ok (.iinc 1 (-8), 3) := by decide +kernel
theorem dJ6_numberOfLeadingZeros_0f7a4_43 : decode cJ6_numberOfLeadingZeros_0f7a4 43 = .ok (.iload_n 0, 1) := by decide +kernel
theorem dJ6_numberOfLeadingZeros_0f7a4_44 : decode cJ6_numberOfLeadingZeros_0f7a4 44 = .ok (.bipush 8, 2) := by decide +kernel
theorem dJ6_numberOfLeadingZeros_0f7a4_46 : decode cJ6_numberOfLeadingZeros_0f7a4 46 = .ok (.iushr, 1) := by decide +kernel
theorem dJ6_numberOfLeadingZeros_0f7a4_47 : decode cJ6_numberOfLeadingZeros_0f7a4 47 = .ok (.istore_n 0, 1) := by decide +kernel
theorem dJ6_numberOfLeadingZeros_0f7a4_48 : decode cJ6_numberOfLeadingZeros_0f7a4 48 = .ok (.iload_n 0, 1) := by decide +kernel
theorem dJ6_numberOfLeadingZeros_0f7a4_49 : decode cJ6_numberOfLeadingZeros_0f7a4 49 = .ok (.bipush 16, 2) := by decide +kernel
theorem dJ6_numberOfLeadingZeros_0f7a4_51 : decode cJ6_numberOfLeadingZeros_0f7a4 51 = .ok (.if_icmp .lt 10, 3) := by decide +kernel
theorem dJ6_numberOfLeadingZeros_0f7a4_54 : decode cJ6_numberOfLeadingZeros_0f7a4 54 = .ok (.iinc 1 (-4), 3) := by decide +kernel
theorem dJ6_numberOfLeadingZeros_0f7a4_57 : decode cJ6_numberOfLeadingZeros_0f7a4 57 = .ok (.iload_n 0, 1) := by decide +kernel
theorem dJ6_numberOfLeadingZeros_0f7a4_58 : decode cJ6_numberOfLeadingZeros_0f7a4 58 = .ok (.iconst 4, 1) := by decide +kernel
theorem dJ6_numberOfLeadingZeros_0f7a4_59 : decode cJ6_numberOfLeadingZeros_0f7a4 59 = .ok (.iushr, 1) := by decide +kernel
theorem dJ6_numberOfLeadingZeros_0f7a4_60 : decode cJ6_numberOfLeadingZeros_0f7a4 60 = .ok (.istore_n 0, 1) := by decide +kernel
theorem dJ6_numberOfLeadingZeros_0f7a4_61 : decode cJ6_numberOfLeadingZeros_0f7a4 61 = .ok (.iload_n 0, 1) := by decide +kernel
theorem dJ6_numberOfLeadingZeros_0f7a4_62 : decode cJ6_numberOfLeadingZeros_0f7a4 62 = .ok (.iconst 4, 1) := by decide +kernel
theorem dJ6_numberOfLeadingZeros_0f7a4_63 : decode cJ6_numberOfLeadingZeros_0f7a4 63 = .ok (.if_icmp .lt 10, 3) := by decide +kernel
theorem dJ6_numberOfLeadingZeros_0f7a4_66 : decode cJ6_numberOfLeadingZeros_0f7a4 66 = .ok (.iinc 1 (-2), 3) := by decide +kernel
theorem dJ6_numberOfLeadingZeros_0f7a4_69 : decode cJ6_numberOfLeadingZeros_0f7a4 69 = .ok (.iload_n 0, 1) := by decide +kernel
theorem dJ6_numberOfLeadingZeros_0f7a4_70 : decode cJ6_numberOfLeadingZeros_0f7a4 70 = .ok (.iconst 2, 1) := by decide +kernel
theorem dJ6_numberOfLeadingZeros_0f7a4_71 : decode cJ6_numberOfLeadingZeros_0f7a4 71 = .ok (.iushr, 1) := by decide +kernel
theorem dJ6_numberOfLeadingZeros_0f7a4_72 : decode cJ6_numberOfLeadingZeros_0f7a4 72 = .ok (.istore_n 0, 1) := by decide +kernel
theorem dJ6_numberOfLeadingZeros_0f7a4_73 : decode cJ6_numberOfLeadingZeros_0f7a4 73 = .ok (.iload_n 1, 1) := by decide +kernel
theorem dJ6_numberOfLeadingZeros_0f7a4_74 : decode cJ6_numberOfLeadingZeros_0f7a4 74 = .ok (.iload_n 0, 1) := by decide +kernel
theorem dJ6_numberOfLeadingZeros_0f7a4_75 : decode cJ6_numberOfLeadingZeros_0f7a4 75 = .ok (.iconst 1, 1) := by decide +kernel
theorem dJ6_numberOfLeadingZeros_0f7a4_76 : decode cJ6_numberOfLeadingZeros_0f7a4 76 = .ok (.iushr, 1) := by decide +kernel
theorem dJ6_numberOfLeadingZeros_0f7a4_77 : decode cJ6_numberOfLeadingZeros_0f7a4 77 = .ok (.isub, 1) := by decide +kernel
theorem dJ6_numberOfLeadingZeros_0f7a4_78 : decode cJ6_numberOfLeadingZeros_0f7a4 78 = .ok (.ireturn, 1) := by decide +kernel
theorem dJ6_bitCount_0f7a4_0 : decode cJ6_bitCount_0f7a4 0 = .ok (.iload_n 0, 1) := by decide +kernel
theorem dJ6_bitCount_0f7a4_1 : decode cJ6_bitCount_0f7a4 1 = .ok (.iload_n 0, 1) := by decide +kernel
theorem dJ6_bitCount_0f7a4_2 : decode cJ6_bitCount_0f7a4 2 = .ok (.iconst 1, 1) := by decide +kernel
theorem dJ6_bitCount_0f7a4_3 : decode cJ6_bitCount_0f7a4 3 = .ok (.iushr, 1) := by decide +kernel
theorem dJ6_bitCount_0f7a4_4 : decode cJ6_bitCount_0f7a4 4 = .ok (.ldc_w 265, 3) := by decide +kernel
theorem dJ6_bitCount_0f7a4_7 : decode cJ6_bitCount_0f7a4 7 = .ok (.iand, 1) := by decide +kernel
theorem dJ6_bitCount_0f7a4_8 : decode cJ6_bitCount_0f7a4 8 = .ok (.isub, 1) := by decide +kernel
theorem dJ6_bitCount_0f7a4_9 : decode cJ6_bitCount_0f7a4 9 = .ok (.istore_n 0, 1) := by decide +kernel
theorem dJ6_bitCount_0f7a4_10 : decode cJ6_bitCount_0f7a4 10 = .ok (.iload_n 0, 1) := by decide +kernel
theorem dJ6_bitCount_0f7a4_11 : decode cJ6_bitCount_0f7a4 11 = .ok (.ldc_w 266, 3) := by decide +kernel
theorem dJ6_bitCount_0f7a4_14 : decode cJ6_bitCount_0f7a4 14 = .ok (.iand, 1) := by decide +kernel
theorem dJ6_bitCount_0f7a4_15 : decode cJ6_bitCount_0f7a4 15 = .ok (.iload_n 0, 1) := by decide +kernel
theorem dJ6_bitCount_0f7a4_16 : decode cJ6_bitCount_0f7a4 16 = .ok (.iconst 2, 1) := by decide +kernel
theorem dJ6_bitCount_0f7a4_17 : decode cJ6_bitCount_0f7a4 17 = .ok (.iushr, 1) := by decide +kernel
theorem dJ6_bitCount_0f7a4_18 : decode cJ6_bitCount_0f7a4 18 = .ok (.ldc_w 266, 3) := by decide +kernel
theorem dJ6_bitCount_0f7a4_21 : decode cJ6_bitCount_0f7a4 21 = .ok (.iand, 1) := by decide +kernel
theorem dJ6_bitCount_0f7a4_22 : decode cJ6_bitCount_0f7a4 22 = .ok (.iadd, 1) := by decide +kernel
theorem dJ6_bitCount_0f7a4_23 : decode cJ6_bitCount_0f7a4 23 = .ok (.istore_n 0, 1) := by decide +kernel
theorem dJ6_bitCount_0f7a4_24 : decode cJ6_bitCount_0f7a4 24 = .ok (.iload_n 0, 1) := by decide +kernel
theorem dJ6_bitCount_0f7a4_25 : decode cJ6_bitCount_0f7a4 25 = .ok (.iload_n 0, 1) := by decide +kernel
theorem dJ6_bitCount_0f7a4_26 : decode cJ6_bitCount_0f7a4 26 = .ok (.iconst 4, 1) := by decide +kernel
theorem dJ6_bitCount_0f7a4_27 : decode cJ6_bitCount_0f7a4 27 = .ok (.iushr, 1) := by decide +kernel
theorem dJ6_bitCount_0f7a4_28 : decode cJ6_bitCount_0f7a4 28 = .ok (.iadd, 1) := by decide +kernel
theorem dJ6_bitCount_0f7a4_29 : decode cJ6_bitCount_0f7a4 29 = .ok (.ldc_w 267, 3) := by decide +kernel
theorem dJ6_bitCount_0f7a4_32 : decode cJ6_bitCount_0f7a4 32 = .ok (.iand, 1) := by decide +kernel
theorem dJ6_bitCount_0f7a4_33 : decode cJ6_bitCount_0f7a4 33 = .ok (.istore_n 0, 1) := by decide +kernel
theorem dJ6_bitCount_0f7a4_34 : decode cJ6_bitCount_0f7a4 34 = .ok (.iload_n 0, 1) := by decide +kernel
theorem dJ6_bitCount_0f7a4_35 : decode cJ6_bitCount_0f7a4 35 = .ok (.iload_n 0, 1) := by decide +kernel
theorem dJ6_bitCount_0f7a4_36 : decode cJ6_bitCount_0f7a4 36 = .ok (.bipush 8, 2) := by decide +kernel
theorem dJ6_bitCount_0f7a4_38 : decode cJ6_bitCount_0f7a4 38 = .ok (.iushr, 1) := by decide +kernel
theorem dJ6_bitCount_0f7a4_39 : decode cJ6_bitCount_0f7a4 39 = .ok (.iadd, 1) := by decide +kernel
theorem dJ6_bitCount_0f7a4_40 : decode cJ6_bitCount_0f7a4 40 = .ok (.istore_n 0, 1) := by decide +kernel
theorem dJ6_bitCount_0f7a4_41 : decode cJ6_bitCount_0f7a4 41 = .ok (.iload_n 0, 1) := by decide +kernel
theorem dJ6_bitCount_0f7a4_42 : decode cJ6_bitCount_0f7a4 42 = .ok (.iload_n 0, 1) := by decide +kernel
theorem dJ6_bitCount_0f7a4_43 : decode cJ6_bitCount_0f7a4 43 = .ok (.bipush 16, 2) := by decide +kernel
theorem dJ6_bitCount_0f7a4_45 : decode cJ6_bitCount_0f7a4 45 = .ok (.iushr, 1) := by decide +kernel
theorem dJ6_bitCount_0f7a4_46 : decode cJ6_bitCount_0f7a4 46 = .ok (.iadd, 1) := by decide +kernel
theorem dJ6_bitCount_0f7a4_47 : decode cJ6_bitCount_0f7a4 47 = .ok (.istore_n 0, 1) := by decide +kernel
theorem dJ6_bitCount_0f7a4_48 : decode cJ6_bitCount_0f7a4 48 = .ok (.iload_n 0, 1) := by decide +kernel
theorem dJ6_bitCount_0f7a4_49 : decode cJ6_bitCount_0f7a4 49 = .ok (.bipush 63, 2) := by decide +kernel
theorem dJ6_bitCount_0f7a4_51 : decode cJ6_bitCount_0f7a4 51 = .ok (.iand, 1) := by decide +kernel
theorem dJ6_bitCount_0f7a4_52 : decode cJ6_bitCount_0f7a4 52 = .ok (.ireturn, 1) := by decide +kernel
theorem dJ13_numberOfLeadingZeros_95d88_0 : decode cJ13_numberOfLeadingZeros_95d88 0 = .ok (.lload_n 0, 1) := by decide +kernel
theorem dJ13_numberOfLeadingZeros_95d88_1 : decode cJ13_numberOfLeadingZeros_95d88 1 = .ok (.bipush 32, 2) := by decide +kernel
theorem dJ13_numberOfLeadingZeros_95d88_3 : decode cJ13_numberOfLeadingZeros_95d88 3 = .ok (.lushr, 1) := by decide +kernel
theorem dJ13_numberOfLeadingZeros_95d88_4 : decode cJ13_numberOfLeadingZeros_95d88 4 = .ok (.l2i, 1) := by decide +kernel
theorem dJ13_numberOfLeadingZeros_95d88_5 : decode cJ13_numberOfLeadingZeros_95d88 5 = .ok (.istore_n 2, 1) := by decide +kernel
theorem dJ13_numberOfLeadingZeros_95d88_6 : decode cJ13_numberOfLeadingZeros_95d88 6 = .ok (.iload_n 2, 1) := by decide +kernel
theorem dJ13_numberOfLeadingZeros_95d88_7 : decode cJ13_numberOfLeadingZeros_95d88 7 = .ok (.ifCond .ne 14, 3) := by decide +kernel
theorem dJ13_numberOfLeadingZeros_95d88_10 : decode cJ13_numberOfLeadingZeros_95d88 10 = .ok (.bipush 32, 2) := by decide +kernel
theorem dJ13_numberOfLeadingZeros_95d88_12 : decode cJ13_numberOfLeadingZeros_95d88 12 = .ok (.lload_n 0, 1) := by decide +kernel
theorem dJ13_numberOfLeadingZeros_95d88_13 : decode cJ13_numberOfLeadingZeros_95d88 13 = .ok (.l2i, 1) := by decide +kernel
theorem dJ13_numberOfLeadingZeros_95d88_14 : decode cJ13_numberOfLeadingZeros_95d88 14 = .ok (.invokestatic 308, 3) := by decide +kernel
theorem dJ13_numberOfLeadingZeros_95d88_17 : decode cJ13_numberOfLeadingZeros_95d88 17 = .ok (.iadd, 1) := by decide +kernel
theorem dJ13_numberOfLeadingZeros_95d88_18 : decode cJ13_numberOfLeadingZeros_95d88 18 = .ok (.goto 7, 3) := by decide +kernel
theorem dJ13_numberOfLeadingZeros_95d88_21 : decode cJ13_numberOfLeadingZeros_95d88 21 = .ok (.iload_n 2, 1) := by decide +kernel
theorem dJ13_numberOfLeadingZeros_95d88_22 : decode cJ13_numberOfLeadingZeros_95d88 22 = .ok (.invokestatic 308, 3) := by decide +kernel
theorem dJ13_numberOfLeadingZeros_95d88_25 : decode cJ13_numberOfLeadingZeros_95d88 25 = .ok (.ireturn, 1) := by decide +kernel
end
section
theorem dX4_init_0 : decode cX4_init 0 = .ok (.aload_n 0, 1) := by decide +kernel
theorem dX4_init_1 : decode cX4_init 1 = .ok (.invokespecial 3, 3) := by decide +kernel
theorem dX4_init_4 : decode cX4_init 4 = .ok (.aload_n 0, 1) := by decide +kernel
theorem dX4_init_5 : decode cX4_init 5 = .ok (.new 9, 3) := by decide +kernel
theorem dX4_init_8 : decode cX4_init 8 = .ok (.dup, 1) := by decide +kernel
theorem dX4_init_9 : decode cX4_init 9 = .ok (.iconst 0, 1) := by decide +kernel
theorem dX4_init_10 : decode cX4_init 10 = .ok (.aconst_null, 1) := by decide +kernel
theorem dX4_init_11 : decode cX4_init 11 = .ok (.invokespecial 13, 3) := by decide +kernel
theorem dX4_init_14 : decode cX4_init 14 = .ok (.putfield 16, 3) := by decide +kernel
theorem dX4_init_17 : decode cX4_init 17 = .ok (.aload_n 0, 1) := by decide +kernel
theorem dX4_init_18 : decode cX4_init 18 = .ok (.bipush 10, 2) := by decide +kernel
theorem dX4_init_20 : decode cX4_init 20 = .ok (.newarray .int, 2) := by decide +kernel
theorem dX4_init_22 : decode cX4_init 22 = .ok (.putfield 22, 3) := by decide +kernel
theorem dX4_init_25 : decode cX4_init 25 = .ok (.aload_n 0, 1) := by decide +kernel
theorem dX4_init_26 : decode cX4_init 26 = .ok (.new 26, 3) := by decide +kernel
theorem dX4_init_29 : decode cX4_init 29 = .ok (.dup, 1) := by decide +kernel
theorem dX4_init_30 : decode cX4_init 30 = .ok (.invokespecial 28, 3) := by decide +kernel
theorem dX4_init_33 : decode cX4_init 33 = .ok (.putfield 29, 3) := by decide +kernel
theorem dX4_init_36 : decode cX4_init 36 = .ok (.return_, 1) := by decide +kernel
theorem dX4_takes_0 : decode cX4_takes 0 = .ok (.aload_n 0, 1) := by decide +kernel
theorem dX4_takes_1 : decode cX4_takes 1 = .ok (.aload_n 1, 1) := by decide +kernel
theorem dX4_takes_2 : decode cX4_takes 2 = .ok (.iload_n 2, 1) := by decide +kernel
theorem dX4_takes_3 : decode cX4_takes 3 = .ok (.iload_n 3, 1) := by decide +kernel
theorem dX4_takes_4 : decode cX4_takes 4 = .ok (.iconst 1, 1) := by decide +kernel
theorem dX4_takes_5 : decode cX4_takes 5 = .ok (.invokevirtual 33, 3) := by decide +kernel
theorem dX4_takes_8 : decode cX4_takes 8 = .ok (.aload_n 0, 1) := by decide +kernel
theorem dX4_takes_9 : decode cX4_takes 9 = .ok (.iconst 0, 1) := by decide +kernel
theorem dX4_takes_10 : decode cX4_takes 10 = .ok (.iconst 0, 1) := by decide +kernel
theorem dX4_takes_11 : decode cX4_takes 11 = .ok (.lconst 0, 1) := by decide +kernel
theorem dX4_takes_12 : decode cX4_takes 12 = .ok (.invokevirtual 37, 3) := by decide +kernel
theorem dX4_takes_15 : decode cX4_takes 15 = .ok (.lconst 0, 1) := by decide +kernel
theorem dX4_takes_16 : decode cX4_takes 16 = .ok (.lcmp, 1) := by decide +kernel
theorem dX4_takes_17 : decode cX4_takes 17 = .ok (.ifCond .le 7, 3) := by decide +kernel
theorem dX4_takes_20 : decode cX4_takes 20 = .ok (.iconst 1, 1) := by decide +kernel
theorem dX4_takes_21 : decode cX4_takes 21 = .ok (.goto 4, 3) := by decide +kernel
theorem dX4_takes_24 : decode cX4_takes 24 = .ok (.iconst 0, 1) := by decide +kernel
theorem dX4_takes_25 : decode cX4_takes 25 = .ok (.ireturn, 1) := by decide +kernel
theorem dX4_count_0 : decode cX4_count 0 = .ok (.aload_n 0, 1) := by decide +kernel
theorem dX4_count_1 : decode cX4_count 1 = .ok (.aload_n 1, 1) := by decide +kernel
theorem dX4_count_2 : decode cX4_count 2 = .ok (.iload_n 2, 1) := by decide +kernel
theorem dX4_count_3 : decode cX4_count 3 = .ok (.aload_n 1, 1) := by decide +kernel
theorem dX4_count_4 : decode cX4_count 4 = .ok (.invokevirtual 41, 3) := by decide +kernel
theorem dX4_count_7 : decode cX4_count 7 = .ok (.iconst 0, 1) := by decide +kernel
theorem dX4_count_8 : decode cX4_count 8 = .ok (.invokevirtual 33, 3) := by decide +kernel
theorem dX4_count_11 : decode cX4_count 11 = .ok (.aload_n 0, 1) := by decide +kernel
theorem dX4_count_12 : decode cX4_count 12 = .ok (.iconst 0, 1) := by decide +kernel
theorem dX4_count_13 : decode cX4_count 13 = .ok (.iconst 0, 1) := by decide +kernel
theorem dX4_count_14 : decode cX4_count 14 = .ok (.lconst 0, 1) := by decide +kernel
theorem dX4_count_15 : decode cX4_count 15 = .ok (.invokevirtual 37, 3) := by decide +kernel
theorem dX4_count_18 : decode cX4_count 18 = .ok (.lreturn, 1) := by decide +kernel
theorem dX4_firstAt_0 : decode cX4_firstAt 0 = .ok (.aload_n 0, 1) := by decide +kernel
theorem dX4_firstAt_1 : decode cX4_firstAt 1 = .ok (.aload_n 1, 1) := by decide +kernel
theorem dX4_firstAt_2 : decode cX4_firstAt 2 = .ok (.iload_n 2, 1) := by decide +kernel
theorem dX4_firstAt_3 : decode cX4_firstAt 3 = .ok (.aload_n 1, 1) := by decide +kernel
theorem dX4_firstAt_4 : decode cX4_firstAt 4 = .ok (.invokevirtual 41, 3) := by decide +kernel
theorem dX4_firstAt_7 : decode cX4_firstAt 7 = .ok (.iconst 1, 1) := by decide +kernel
theorem dX4_firstAt_8 : decode cX4_firstAt 8 = .ok (.invokevirtual 33, 3) := by decide +kernel
theorem dX4_firstAt_11 : decode cX4_firstAt 11 = .ok (.iconst 0, 1) := by decide +kernel
theorem dX4_firstAt_12 : decode cX4_firstAt 12 = .ok (.istore 4, 2) := by decide +kernel
theorem dX4_firstAt_14 : decode cX4_firstAt 14 = .ok (.lconst 0, 1) := by decide +kernel
theorem dX4_firstAt_15 : decode cX4_firstAt 15 = .ok (.lstore 5, 2) := by decide +kernel
theorem dX4_firstAt_17 : decode cX4_firstAt 17 = .ok (.iconst 0, 1) := by decide +kernel
theorem dX4_firstAt_18 : decode cX4_firstAt 18 = .ok (.istore 7, 2) := by decide +kernel
theorem dX4_firstAt_20 : decode cX4_firstAt 20 = .ok (.iload 7, 2) := by decide +kernel
theorem dX4_firstAt_22 : decode cX4_firstAt 22 = .ok (.bipush 10, 2) := by decide +kernel
theorem dX4_firstAt_24 : decode cX4_firstAt 24 = .ok (.if_icmp .ge 67, 3) := by decide +kernel
theorem dX4_firstAt_27 : decode cX4_firstAt 27 = .ok (.aload_n 0, 1) := by decide +kernel
theorem dX4_firstAt_28 : decode cX4_firstAt 28 = .ok (.iload 4, 2) := by decide +kernel
theorem dX4_firstAt_30 : decode cX4_firstAt 30 = .ok (.invokevirtual 45, 3) := by decide +kernel
theorem dX4_firstAt_33 : decode cX4_firstAt 33 = .ok (.ifCond .ne 58, 3) := by decide +kernel
theorem dX4_firstAt_36 : decode cX4_firstAt 36 = .ok (.aload_n 0, 1) := by decide +kernel
theorem dX4_firstAt_37 : decode cX4_firstAt 37 = .ok (.iload 7, 2) := by decide +kernel
theorem dX4_firstAt_39 : decode cX4_firstAt 39 = .ok (.iload 4, 2) := by decide +kernel
theorem dX4_firstAt_41 : decode cX4_firstAt 41 = .ok (.lload 5, 2) := by decide +kernel
theorem dX4_firstAt_43 : decode cX4_firstAt 43 = .ok (.invokevirtual 49, 3) := by decide +kernel
theorem dX4_firstAt_46 : decode cX4_firstAt 46 = .ok (.istore 8, 2) := by decide +kernel
theorem dX4_firstAt_48 : decode cX4_firstAt 48 = .ok (.iload 8, 2) := by decide +kernel
theorem dX4_firstAt_50 : decode cX4_firstAt 50 = .ok (.iconst (-1), 1) := by decide +kernel
theorem dX4_firstAt_51 : decode cX4_firstAt 51 = .ok (.if_icmp .eq 9, 3) := by decide +kernel
theorem dX4_firstAt_54 : decode cX4_firstAt 54 = .ok (.iload 7, 2) := by decide +kernel
theorem dX4_firstAt_56 : decode cX4_firstAt 56 = .ok (.iload_n 3, 1) := by decide +kernel
theorem dX4_firstAt_57 : decode cX4_firstAt 57 = .ok (.if_icmp .ne 6, 3) := by decide +kernel
theorem dX4_firstAt_60 : decode cX4_firstAt 60 = .ok (.iload 8, 2) := by decide +kernel
theorem dX4_firstAt_62 : decode cX4_firstAt 62 = .ok (.ireturn, 1) := by decide +kernel
theorem dX4_firstAt_63 : decode cX4_firstAt 63 = .ok (.aload_n 0, 1) := by decide +kernel
theorem dX4_firstAt_64 : decode cX4_firstAt 64 = .ok (.getfield 16, 3) := by decide +kernel
theorem dX4_firstAt_67 : decode cX4_firstAt 67 = .ok (.iload 8, 2) := by decide +kernel
theorem dX4_firstAt_69 : decode cX4_firstAt 69 = .ok (.lload 5, 2) := by decide +kernel
theorem dX4_firstAt_71 : decode cX4_firstAt 71 = .ok (.invokestatic 53, 3) := by decide +kernel
theorem dX4_firstAt_74 : decode cX4_firstAt 74 = .ok (.lstore 5, 2) := by decide +kernel
theorem dX4_firstAt_76 : decode cX4_firstAt 76 = .ok (.iload 4, 2) := by decide +kernel
theorem dX4_firstAt_78 : decode cX4_firstAt 78 = .ok (.iconst 1, 1) := by decide +kernel
theorem dX4_firstAt_79 : decode cX4_firstAt 79 = .ok (.iload 8, 2) := by decide +kernel
theorem dX4_firstAt_81 : decode cX4_firstAt 81 = .ok (.ishl, 1) := by decide +kernel
theorem dX4_firstAt_82 : decode cX4_firstAt 82 = .ok (.ior, 1) := by decide +kernel
theorem dX4_firstAt_83 : decode cX4_firstAt 83 = .ok (.istore 4, 2) := by decide +kernel
theorem dX4_firstAt_85 : decode cX4_firstAt 85 = .ok (.iinc 7 1, 3) := by decide +kernel
theorem dX4_firstAt_88 : decode cX4_firstAt 88 = .ok (.goto (-68), 3) := by decide +kernel
theorem dX4_firstAt_91 : decode cX4_firstAt 91 = .ok (.iconst (-1), 1) := by decide +kernel
theorem dX4_firstAt_92 : decode cX4_firstAt 92 = .ok (.ireturn, 1) := by decide +kernel
theorem dX4_leastPart_0 : decode cX4_leastPart 0 = .ok (.aload_n 1, 1) := by decide +kernel
theorem dX4_leastPart_1 : decode cX4_leastPart 1 = .ok (.invokevirtual 41, 3) := by decide +kernel
theorem dX4_leastPart_4 : decode cX4_leastPart 4 = .ok (.istore_n 3, 1) := by decide +kernel
theorem dX4_leastPart_5 : decode cX4_leastPart 5 = .ok (.aload_n 0, 1) := by decide +kernel
theorem dX4_leastPart_6 : decode cX4_leastPart 6 = .ok (.aload_n 1, 1) := by decide +kernel
theorem dX4_leastPart_7 : decode cX4_leastPart 7 = .ok (.iload_n 2, 1) := by decide +kernel
theorem dX4_leastPart_8 : decode cX4_leastPart 8 = .ok (.iload_n 3, 1) := by decide +kernel
theorem dX4_leastPart_9 : decode cX4_leastPart 9 = .ok (.invokevirtual 57, 3) := by decide +kernel
theorem dX4_leastPart_12 : decode cX4_leastPart 12 = .ok (.ifCond .eq 5, 3) := by decide +kernel
theorem dX4_leastPart_15 : decode cX4_leastPart 15 = .ok (.iconst 0, 1) := by decide +kernel
theorem dX4_leastPart_16 : decode cX4_leastPart 16 = .ok (.ireturn, 1) := by decide +kernel
theorem dX4_leastPart_17 : decode cX4_leastPart 17 = .ok (.iconst 0, 1) := by decide +kernel
theorem dX4_leastPart_18 : decode cX4_leastPart 18 = .ok (.istore 4, 2) := by decide +kernel
theorem dX4_leastPart_20 : decode cX4_leastPart 20 = .ok (.iload 4, 2) := by decide +kernel
theorem dX4_leastPart_22 : decode cX4_leastPart 22 = .ok (.bipush 10, 2) := by decide +kernel
theorem dX4_leastPart_24 : decode cX4_leastPart 24 = .ok (.if_icmp .ge 69, 3) := by decide +kernel
theorem dX4_leastPart_27 : decode cX4_leastPart 27 = .ok (.iload_n 3, 1) := by decide +kernel
theorem dX4_leastPart_28 : decode cX4_leastPart 28 = .ok (.istore 5, 2) := by decide +kernel
theorem dX4_leastPart_30 : decode cX4_leastPart 30 = .ok (.iconst 0, 1) := by decide +kernel
theorem dX4_leastPart_31 : decode cX4_leastPart 31 = .ok (.istore 6, 2) := by decide +kernel
theorem dX4_leastPart_33 : decode cX4_leastPart 33 = .ok (.iload 6, 2) := by decide +kernel
theorem dX4_leastPart_35 : decode cX4_leastPart 35 = .ok (.aload_n 1, 1) := by decide +kernel
theorem dX4_leastPart_36 : decode cX4_leastPart 36 = .ok (.getfield 61, 3) := by decide +kernel
theorem dX4_leastPart_39 : decode cX4_leastPart 39 = .ok (.if_icmp .ge 39, 3) := by decide +kernel
theorem dX4_leastPart_42 : decode cX4_leastPart 42 = .ok (.iload_n 3, 1) := by decide +kernel
theorem dX4_leastPart_43 : decode cX4_leastPart 43 = .ok (.iconst 1, 1) := by decide +kernel
theorem dX4_leastPart_44 : decode cX4_leastPart 44 = .ok (.iload 6, 2) := by decide +kernel
theorem dX4_leastPart_46 : decode cX4_leastPart 46 = .ok (.ishl, 1) := by decide +kernel
theorem dX4_leastPart_47 : decode cX4_leastPart 47 = .ok (.iconst (-1), 1) := by decide +kernel
theorem dX4_leastPart_48 : decode cX4_leastPart 48 = .ok (.ixor, 1) := by decide +kernel
theorem dX4_leastPart_49 : decode cX4_leastPart 49 = .ok (.iand, 1) := by decide +kernel
theorem dX4_leastPart_50 : decode cX4_leastPart 50 = .ok (.istore 7, 2) := by decide +kernel
theorem dX4_leastPart_52 : decode cX4_leastPart 52 = .ok (.iload 7, 2) := by decide +kernel
theorem dX4_leastPart_54 : decode cX4_leastPart 54 = .ok (.iload_n 3, 1) := by decide +kernel
theorem dX4_leastPart_55 : decode cX4_leastPart 55 = .ok (.if_icmp .eq 17, 3) := by decide +kernel
theorem dX4_leastPart_58 : decode cX4_leastPart 58 = .ok (.aload_n 0, 1) := by decide +kernel
theorem dX4_leastPart_59 : decode cX4_leastPart 59 = .ok (.aload_n 1, 1) := by decide +kernel
theorem dX4_leastPart_60 : decode cX4_leastPart 60 = .ok (.iload_n 2, 1) := by decide +kernel
theorem dX4_leastPart_61 : decode cX4_leastPart 61 = .ok (.iload 7, 2) := by decide +kernel
theorem dX4_leastPart_63 : decode cX4_leastPart 63 = .ok (.invokevirtual 57, 3) := by decide +kernel
theorem dX4_leastPart_66 : decode cX4_leastPart 66 = .ok (.ifCond .ne 6, 3) := by decide +kernel
theorem dX4_leastPart_69 : decode cX4_leastPart 69 = .ok (.iload 7, 2) := by decide +kernel
theorem dX4_leastPart_71 : decode cX4_leastPart 71 = .ok (.istore_n 3, 1) := by decide +kernel
theorem dX4_leastPart_72 : decode cX4_leastPart 72 = .ok (.iinc 6 1, 3) := by decide +kernel
theorem dX4_leastPart_75 : decode cX4_leastPart 75 = .ok (.goto (-42), 3) := by decide +kernel
theorem dX4_leastPart_78 : decode cX4_leastPart 78 = .ok (.iload_n 3, 1) := by decide +kernel
theorem dX4_leastPart_79 : decode cX4_leastPart 79 = .ok (.iload 5, 2) := by decide +kernel
theorem dX4_leastPart_81 : decode cX4_leastPart 81 = .ok (.if_icmp .ne 6, 3) := by decide +kernel
theorem dX4_leastPart_84 : decode cX4_leastPart 84 = .ok (.goto 9, 3) := by decide +kernel
theorem dX4_leastPart_87 : decode cX4_leastPart 87 = .ok (.iinc 4 1, 3) := by decide +kernel
theorem dX4_leastPart_90 : decode cX4_leastPart 90 = .ok (.goto (-70), 3) := by decide +kernel
theorem dX4_leastPart_93 : decode cX4_leastPart 93 = .ok (.iload_n 3, 1) := by decide +kernel
theorem dX4_leastPart_94 : decode cX4_leastPart 94 = .ok (.ireturn, 1) := by decide +kernel
theorem dX4_collect_0 : decode cX4_collect 0 = .ok (.aload_n 0, 1) := by decide +kernel
theorem dX4_collect_1 : decode cX4_collect 1 = .ok (.aload_n 1, 1) := by decide +kernel
theorem dX4_collect_2 : decode cX4_collect 2 = .ok (.iload_n 2, 1) := by decide +kernel
theorem dX4_collect_3 : decode cX4_collect 3 = .ok (.aload_n 1, 1) := by decide +kernel
theorem dX4_collect_4 : decode cX4_collect 4 = .ok (.invokevirtual 41, 3) := by decide +kernel
theorem dX4_collect_7 : decode cX4_collect 7 = .ok (.iconst 1, 1) := by decide +kernel
theorem dX4_collect_8 : decode cX4_collect 8 = .ok (.invokevirtual 33, 3) := by decide +kernel
theorem dX4_collect_11 : decode cX4_collect 11 = .ok (.aload 4, 2) := by decide +kernel
theorem dX4_collect_13 : decode cX4_collect 13 = .ok (.iconst 0, 1) := by decide +kernel
theorem dX4_collect_14 : decode cX4_collect 14 = .ok (.putfield 65, 3) := by decide +kernel
theorem dX4_collect_17 : decode cX4_collect 17 = .ok (.aload_n 0, 1) := by decide +kernel
theorem dX4_collect_18 : decode cX4_collect 18 = .ok (.iconst 0, 1) := by decide +kernel
theorem dX4_collect_19 : decode cX4_collect 19 = .ok (.iconst 0, 1) := by decide +kernel
theorem dX4_collect_20 : decode cX4_collect 20 = .ok (.lconst 0, 1) := by decide +kernel
theorem dX4_collect_21 : decode cX4_collect 21 = .ok (.iload_n 3, 1) := by decide +kernel
theorem dX4_collect_22 : decode cX4_collect 22 = .ok (.aload 4, 2) := by decide +kernel
theorem dX4_collect_24 : decode cX4_collect 24 = .ok (.invokevirtual 70, 3) := by decide +kernel
theorem dX4_collect_27 : decode cX4_collect 27 = .ok (.return_, 1) := by decide +kernel
theorem dX4_firstFault_0 : decode cX4_firstFault 0 = .ok (.aload_n 0, 1) := by decide +kernel
theorem dX4_firstFault_1 : decode cX4_firstFault 1 = .ok (.aload_n 1, 1) := by decide +kernel
theorem dX4_firstFault_2 : decode cX4_firstFault 2 = .ok (.iload_n 2, 1) := by decide +kernel
theorem dX4_firstFault_3 : decode cX4_firstFault 3 = .ok (.aload_n 1, 1) := by decide +kernel
theorem dX4_firstFault_4 : decode cX4_firstFault 4 = .ok (.invokevirtual 41, 3) := by decide +kernel
theorem dX4_firstFault_7 : decode cX4_firstFault 7 = .ok (.iconst 1, 1) := by decide +kernel
theorem dX4_firstFault_8 : decode cX4_firstFault 8 = .ok (.invokevirtual 33, 3) := by decide +kernel
theorem dX4_firstFault_11 : decode cX4_firstFault 11 = .ok (.iconst 0, 1) := by decide +kernel
theorem dX4_firstFault_12 : decode cX4_firstFault 12 = .ok (.istore 5, 2) := by decide +kernel
theorem dX4_firstFault_14 : decode cX4_firstFault 14 = .ok (.lconst 0, 1) := by decide +kernel
theorem dX4_firstFault_15 : decode cX4_firstFault 15 = .ok (.lstore 6, 2) := by decide +kernel
theorem dX4_firstFault_17 : decode cX4_firstFault 17 = .ok (.iconst 0, 1) := by decide +kernel
theorem dX4_firstFault_18 : decode cX4_firstFault 18 = .ok (.istore 8, 2) := by decide +kernel
theorem dX4_firstFault_20 : decode cX4_firstFault 20 = .ok (.iload 8, 2) := by decide +kernel
theorem dX4_firstFault_22 : decode cX4_firstFault 22 = .ok (.iload 4, 2) := by decide +kernel
theorem dX4_firstFault_24 : decode cX4_firstFault 24 = .ok (.if_icmp .ge 60, 3) := by decide +kernel
theorem dX4_firstFault_27 : decode cX4_firstFault 27 = .ok (.iload 8, 2) := by decide +kernel
theorem dX4_firstFault_29 : decode cX4_firstFault 29 = .ok (.aload_n 3, 1) := by decide +kernel
theorem dX4_firstFault_30 : decode cX4_firstFault 30 = .ok (.arraylength, 1) := by decide +kernel
theorem dX4_firstFault_31 : decode cX4_firstFault 31 = .ok (.if_icmp .ge 53, 3) := by decide +kernel
theorem dX4_firstFault_34 : decode cX4_firstFault 34 = .ok (.aload_n 3, 1) := by decide +kernel
theorem dX4_firstFault_35 : decode cX4_firstFault 35 = .ok (.iload 8, 2) := by decide +kernel
theorem dX4_firstFault_37 : decode cX4_firstFault 37 = .ok (.iaload, 1) := by decide +kernel
theorem dX4_firstFault_38 : decode cX4_firstFault 38 = .ok (.istore 9, 2) := by decide +kernel
theorem dX4_firstFault_40 : decode cX4_firstFault 40 = .ok (.aload_n 0, 1) := by decide +kernel
theorem dX4_firstFault_41 : decode cX4_firstFault 41 = .ok (.iload 9, 2) := by decide +kernel
theorem dX4_firstFault_43 : decode cX4_firstFault 43 = .ok (.iload 5, 2) := by decide +kernel
theorem dX4_firstFault_45 : decode cX4_firstFault 45 = .ok (.lload 6, 2) := by decide +kernel
theorem dX4_firstFault_47 : decode cX4_firstFault 47 = .ok (.invokevirtual 74, 3) := by decide +kernel
theorem dX4_firstFault_50 : decode cX4_firstFault 50 = .ok (.ifCond .ne 6, 3) := by decide +kernel
theorem dX4_firstFault_53 : decode cX4_firstFault 53 = .ok (.iload 8, 2) := by decide +kernel
theorem dX4_firstFault_55 : decode cX4_firstFault 55 = .ok (.ireturn, 1) := by decide +kernel
theorem dX4_firstFault_56 : decode cX4_firstFault 56 = .ok (.aload_n 0, 1) := by decide +kernel
theorem dX4_firstFault_57 : decode cX4_firstFault 57 = .ok (.getfield 16, 3) := by decide +kernel
theorem dX4_firstFault_60 : decode cX4_firstFault 60 = .ok (.iload 9, 2) := by decide +kernel
theorem dX4_firstFault_62 : decode cX4_firstFault 62 = .ok (.lload 6, 2) := by decide +kernel
theorem dX4_firstFault_64 : decode cX4_firstFault 64 = .ok (.invokestatic 53, 3) := by decide +kernel
theorem dX4_firstFault_67 : decode cX4_firstFault 67 = .ok (.lstore 6, 2) := by decide +kernel
theorem dX4_firstFault_69 : decode cX4_firstFault 69 = .ok (.iload 5, 2) := by decide +kernel
theorem dX4_firstFault_71 : decode cX4_firstFault 71 = .ok (.iconst 1, 1) := by decide +kernel
theorem dX4_firstFault_72 : decode cX4_firstFault 72 = .ok (.iload 9, 2) := by decide +kernel
theorem dX4_firstFault_74 : decode cX4_firstFault 74 = .ok (.ishl, 1) := by decide +kernel
theorem dX4_firstFault_75 : decode cX4_firstFault 75 = .ok (.ior, 1) := by decide +kernel
theorem dX4_firstFault_76 : decode cX4_firstFault 76 = .ok (.istore 5, 2) := by decide +kernel
theorem dX4_firstFault_78 : decode cX4_firstFault 78 = .ok (.iinc 8 1, 3) := by decide +kernel
theorem dX4_firstFault_81 : decode cX4_firstFault 81 = .ok (.goto (-61), 3) := by decide +kernel
theorem dX4_firstFault_84 : decode cX4_firstFault 84 = .ok (.aload_n 0, 1) := by decide +kernel
theorem dX4_firstFault_85 : decode cX4_firstFault 85 = .ok (.iload 5, 2) := by decide +kernel
theorem dX4_firstFault_87 : decode cX4_firstFault 87 = .ok (.invokevirtual 45, 3) := by decide +kernel
theorem dX4_firstFault_90 : decode cX4_firstFault 90 = .ok (.ifCond .eq 8, 3) := by decide +kernel
theorem dX4_firstFault_93 : decode cX4_firstFault 93 = .ok (.bipush 100, 2) := by decide +kernel
theorem dX4_firstFault_95 : decode cX4_firstFault 95 = .ok (.goto 5, 3) := by decide +kernel
theorem dX4_firstFault_98 : decode cX4_firstFault 98 = .ok (.iload 4, 2) := by decide +kernel
theorem dX4_firstFault_100 : decode cX4_firstFault 100 = .ok (.ireturn, 1) := by decide +kernel
theorem dX4_open_0 : decode cX4_open 0 = .ok (.aload_n 0, 1) := by decide +kernel
theorem dX4_open_1 : decode cX4_open 1 = .ok (.aload_n 1, 1) := by decide +kernel
theorem dX4_open_2 : decode cX4_open 2 = .ok (.putfield 16, 3) := by decide +kernel
theorem dX4_open_5 : decode cX4_open 5 = .ok (.aload_n 0, 1) := by decide +kernel
theorem dX4_open_6 : decode cX4_open 6 = .ok (.iload_n 3, 1) := by decide +kernel
theorem dX4_open_7 : decode cX4_open 7 = .ok (.putfield 78, 3) := by decide +kernel
theorem dX4_open_10 : decode cX4_open 10 = .ok (.aload_n 0, 1) := by decide +kernel
theorem dX4_open_11 : decode cX4_open 11 = .ok (.iload_n 3, 1) := by decide +kernel
theorem dX4_open_12 : decode cX4_open 12 = .ok (.aload_n 1, 1) := by decide +kernel
theorem dX4_open_13 : decode cX4_open 13 = .ok (.invokevirtual 81, 3) := by decide +kernel
theorem dX4_open_16 : decode cX4_open 16 = .ok (.iand, 1) := by decide +kernel
theorem dX4_open_17 : decode cX4_open 17 = .ok (.putfield 84, 3) := by decide +kernel
theorem dX4_open_20 : decode cX4_open 20 = .ok (.aload_n 0, 1) := by decide +kernel
theorem dX4_open_21 : decode cX4_open 21 = .ok (.iload 4, 2) := by decide +kernel
theorem dX4_open_23 : decode cX4_open 23 = .ok (.putfield 87, 3) := by decide +kernel
theorem dX4_open_26 : decode cX4_open 26 = .ok (.aload_n 0, 1) := by decide +kernel
theorem dX4_open_27 : decode cX4_open 27 = .ok (.getfield 29, 3) := by decide +kernel
theorem dX4_open_30 : decode cX4_open 30 = .ok (.invokevirtual 91, 3) := by decide +kernel
theorem dX4_open_33 : decode cX4_open 33 = .ok (.iload_n 2, 1) := by decide +kernel
theorem dX4_open_34 : decode cX4_open 34 = .ok (.iconst 1, 1) := by decide +kernel
theorem dX4_open_35 : decode cX4_open 35 = .ok (.if_icmp .ne 11, 3) := by decide +kernel
theorem dX4_open_38 : decode cX4_open 38 = .ok (.aload_n 1, 1) := by decide +kernel
theorem dX4_open_39 : decode cX4_open 39 = .ok (.iload_n 3, 1) := by decide +kernel
theorem dX4_open_40 : decode cX4_open 40 = .ok (.invokevirtual 94, 3) := by decide +kernel
theorem dX4_open_43 : decode cX4_open 43 = .ok (.goto 4, 3) := by decide +kernel
theorem dX4_open_46 : decode cX4_open 46 = .ok (.iconst 0, 1) := by decide +kernel
theorem dX4_open_47 : decode cX4_open 47 = .ok (.istore 5, 2) := by decide +kernel
theorem dX4_open_49 : decode cX4_open 49 = .ok (.iconst 0, 1) := by decide +kernel
theorem dX4_open_50 : decode cX4_open 50 = .ok (.istore 6, 2) := by decide +kernel
theorem dX4_open_52 : decode cX4_open 52 = .ok (.iload 6, 2) := by decide +kernel
theorem dX4_open_54 : decode cX4_open 54 = .ok (.aload_n 1, 1) := by decide +kernel
theorem dX4_open_55 : decode cX4_open 55 = .ok (.getfield 61, 3) := by decide +kernel
theorem dX4_open_58 : decode cX4_open 58 = .ok (.if_icmp .ge 70, 3) := by decide +kernel
theorem dX4_open_61 : decode cX4_open 61 = .ok (.aload_n 0, 1) := by decide +kernel
theorem dX4_open_62 : decode cX4_open 62 = .ok (.getfield 22, 3) := by decide +kernel
theorem dX4_open_65 : decode cX4_open 65 = .ok (.iload 6, 2) := by decide +kernel
theorem dX4_open_67 : decode cX4_open 67 = .ok (.iconst 0, 1) := by decide +kernel
theorem dX4_open_68 : decode cX4_open 68 = .ok (.iastore, 1) := by decide +kernel
theorem dX4_open_69 : decode cX4_open 69 = .ok (.iconst 0, 1) := by decide +kernel
theorem dX4_open_70 : decode cX4_open 70 = .ok (.istore 7, 2) := by decide +kernel
theorem dX4_open_72 : decode cX4_open 72 = .ok (.iload 7, 2) := by decide +kernel
theorem dX4_open_74 : decode cX4_open 74 = .ok (.iload 6, 2) := by decide +kernel
theorem dX4_open_76 : decode cX4_open 76 = .ok (.if_icmp .ge 46, 3) := by decide +kernel
theorem dX4_open_79 : decode cX4_open 79 = .ok (.iload_n 3, 1) := by decide +kernel
theorem dX4_open_80 : decode cX4_open 80 = .ok (.iload 7, 2) := by decide +kernel
theorem dX4_open_82 : decode cX4_open 82 = .ok (.invokestatic 98, 3) := by decide +kernel
theorem dX4_open_85 : decode cX4_open 85 = .ok (.ifCond .eq 31, 3) := by decide +kernel
theorem dX4_open_88 : decode cX4_open 88 = .ok (.aload_n 1, 1) := by decide +kernel
theorem dX4_open_89 : decode cX4_open 89 = .ok (.iload_n 2, 1) := by decide +kernel
theorem dX4_open_90 : decode cX4_open 90 = .ok (.iload 5, 2) := by decide +kernel
theorem dX4_open_92 : decode cX4_open 92 = .ok (.iload 7, 2) := by decide +kernel
theorem dX4_open_94 : decode cX4_open 94 = .ok (.iload 6, 2) := by decide +kernel
theorem dX4_open_96 : decode cX4_open 96 = .ok (.invokevirtual 102, 3) := by decide +kernel
theorem dX4_open_99 : decode cX4_open 99 = .ok (.ifCond .eq 17, 3) := by decide +kernel
theorem dX4_open_102 : decode cX4_open 102 = .ok (.aload_n 0, 1) := by decide +kernel
theorem dX4_open_103 : decode cX4_open 103 = .ok (.getfield 22, 3) := by decide +kernel
theorem dX4_open_106 : decode cX4_open 106 = .ok (.iload 6, 2) := by decide +kernel
theorem dX4_open_108 : decode cX4_open 108 = .ok (.dup2, 1) := by decide +kernel
theorem dX4_open_109 : decode cX4_open 109 = .ok (.iaload, 1) := by decide +kernel
theorem dX4_open_110 : decode cX4_open 110 = .ok (.iconst 1, 1) := by decide +kernel
theorem dX4_open_111 : decode cX4_open 111 = .ok (.iload 7, 2) := by decide +kernel
theorem dX4_open_113 : decode cX4_open 113 = .ok (.ishl, 1) := by decide +kernel
theorem dX4_open_114 : decode cX4_open 114 = .ok (.ior, 1) := by decide +kernel
theorem dX4_open_115 : decode cX4_open 115 = .ok (.iastore, 1) := by decide +kernel
theorem dX4_open_116 : decode cX4_open 116 = .ok (.iinc 7 1, 3) := by decide +kernel
theorem dX4_open_119 : decode cX4_open 119 = .ok (.goto (-47), 3) := by decide +kernel
theorem dX4_open_122 : decode cX4_open 122 = .ok (.iinc 6 1, 3) := by decide +kernel
theorem dX4_open_125 : decode cX4_open 125 = .ok (.goto (-73), 3) := by decide +kernel
theorem dX4_open_128 : decode cX4_open 128 = .ok (.return_, 1) := by decide +kernel
theorem dX4_isWhole_0 : decode cX4_isWhole 0 = .ok (.aload_n 0, 1) := by decide +kernel
theorem dX4_isWhole_1 : decode cX4_isWhole 1 = .ok (.getfield 84, 3) := by decide +kernel
theorem dX4_isWhole_4 : decode cX4_isWhole 4 = .ok (.iload_n 1, 1) := by decide +kernel
theorem dX4_isWhole_5 : decode cX4_isWhole 5 = .ok (.iconst (-1), 1) := by decide +kernel
theorem dX4_isWhole_6 : decode cX4_isWhole 6 = .ok (.ixor, 1) := by decide +kernel
theorem dX4_isWhole_7 : decode cX4_isWhole 7 = .ok (.iand, 1) := by decide +kernel
theorem dX4_isWhole_8 : decode cX4_isWhole 8 = .ok (.ifCond .ne 7, 3) := by decide +kernel
theorem dX4_isWhole_11 : decode cX4_isWhole 11 = .ok (.iconst 1, 1) := by decide +kernel
theorem dX4_isWhole_12 : decode cX4_isWhole 12 = .ok (.goto 4, 3) := by decide +kernel
theorem dX4_isWhole_15 : decode cX4_isWhole 15 = .ok (.iconst 0, 1) := by decide +kernel
theorem dX4_isWhole_16 : decode cX4_isWhole 16 = .ok (.ireturn, 1) := by decide +kernel
theorem dX4_fits_0 : decode cX4_fits 0 = .ok (.aload_n 0, 1) := by decide +kernel
theorem dX4_fits_1 : decode cX4_fits 1 = .ok (.getfield 16, 3) := by decide +kernel
theorem dX4_fits_4 : decode cX4_fits 4 = .ok (.iload_n 1, 1) := by decide +kernel
theorem dX4_fits_5 : decode cX4_fits 5 = .ok (.invokevirtual 106, 3) := by decide +kernel
theorem dX4_fits_8 : decode cX4_fits 8 = .ok (.ifCond .eq 31, 3) := by decide +kernel
theorem dX4_fits_11 : decode cX4_fits 11 = .ok (.aload_n 0, 1) := by decide +kernel
theorem dX4_fits_12 : decode cX4_fits 12 = .ok (.getfield 78, 3) := by decide +kernel
theorem dX4_fits_15 : decode cX4_fits 15 = .ok (.iload_n 2, 1) := by decide +kernel
theorem dX4_fits_16 : decode cX4_fits 16 = .ok (.iconst (-1), 1) := by decide +kernel
theorem dX4_fits_17 : decode cX4_fits 17 = .ok (.ixor, 1) := by decide +kernel
theorem dX4_fits_18 : decode cX4_fits 18 = .ok (.iand, 1) := by decide +kernel
theorem dX4_fits_19 : decode cX4_fits 19 = .ok (.iload_n 1, 1) := by decide +kernel
theorem dX4_fits_20 : decode cX4_fits 20 = .ok (.invokestatic 98, 3) := by decide +kernel
theorem dX4_fits_23 : decode cX4_fits 23 = .ok (.ifCond .eq 16, 3) := by decide +kernel
theorem dX4_fits_26 : decode cX4_fits 26 = .ok (.aload_n 0, 1) := by decide +kernel
theorem dX4_fits_27 : decode cX4_fits 27 = .ok (.getfield 22, 3) := by decide +kernel
theorem dX4_fits_30 : decode cX4_fits 30 = .ok (.iload_n 1, 1) := by decide +kernel
theorem dX4_fits_31 : decode cX4_fits 31 = .ok (.iaload, 1) := by decide +kernel
theorem dX4_fits_32 : decode cX4_fits 32 = .ok (.iload_n 2, 1) := by decide +kernel
theorem dX4_fits_33 : decode cX4_fits 33 = .ok (.iconst (-1), 1) := by decide +kernel
theorem dX4_fits_34 : decode cX4_fits 34 = .ok (.ixor, 1) := by decide +kernel
theorem dX4_fits_35 : decode cX4_fits 35 = .ok (.iand, 1) := by decide +kernel
theorem dX4_fits_36 : decode cX4_fits 36 = .ok (.ifCond .eq 5, 3) := by decide +kernel
theorem dX4_fits_39 : decode cX4_fits 39 = .ok (.iconst 0, 1) := by decide +kernel
theorem dX4_fits_40 : decode cX4_fits 40 = .ok (.ireturn, 1) := by decide +kernel
theorem dX4_fits_41 : decode cX4_fits 41 = .ok (.aload_n 0, 1) := by decide +kernel
theorem dX4_fits_42 : decode cX4_fits 42 = .ok (.getfield 16, 3) := by decide +kernel
theorem dX4_fits_45 : decode cX4_fits 45 = .ok (.iload_n 1, 1) := by decide +kernel
theorem dX4_fits_46 : decode cX4_fits 46 = .ok (.invokevirtual 109, 3) := by decide +kernel
theorem dX4_fits_49 : decode cX4_fits 49 = .ok (.ifCond .ne 24, 3) := by decide +kernel
theorem dX4_fits_52 : decode cX4_fits 52 = .ok (.aload_n 0, 1) := by decide +kernel
theorem dX4_fits_53 : decode cX4_fits 53 = .ok (.getfield 16, 3) := by decide +kernel
theorem dX4_fits_56 : decode cX4_fits 56 = .ok (.iload_n 1, 1) := by decide +kernel
theorem dX4_fits_57 : decode cX4_fits 57 = .ok (.lload_n 3, 1) := by decide +kernel
theorem dX4_fits_58 : decode cX4_fits 58 = .ok (.invokestatic 112, 3) := by decide +kernel
theorem dX4_fits_61 : decode cX4_fits 61 = .ok (.aload_n 0, 1) := by decide +kernel
theorem dX4_fits_62 : decode cX4_fits 62 = .ok (.getfield 16, 3) := by decide +kernel
theorem dX4_fits_65 : decode cX4_fits 65 = .ok (.getfield 116, 3) := by decide +kernel
theorem dX4_fits_68 : decode cX4_fits 68 = .ok (.iload_n 1, 1) := by decide +kernel
theorem dX4_fits_69 : decode cX4_fits 69 = .ok (.iaload, 1) := by decide +kernel
theorem dX4_fits_70 : decode cX4_fits 70 = .ok (.if_icmp .ne 7, 3) := by decide +kernel
theorem dX4_fits_73 : decode cX4_fits 73 = .ok (.iconst 1, 1) := by decide +kernel
theorem dX4_fits_74 : decode cX4_fits 74 = .ok (.goto 4, 3) := by decide +kernel
theorem dX4_fits_77 : decode cX4_fits 77 = .ok (.iconst 0, 1) := by decide +kernel
theorem dX4_fits_78 : decode cX4_fits 78 = .ok (.ireturn, 1) := by decide +kernel
theorem dX4_keyOf_0 : decode cX4_keyOf 0 = .ok (.lload_n 1, 1) := by decide +kernel
theorem dX4_keyOf_1 : decode cX4_keyOf 1 = .ok (.bipush 10, 2) := by decide +kernel
theorem dX4_keyOf_3 : decode cX4_keyOf 3 = .ok (.lshl, 1) := by decide +kernel
theorem dX4_keyOf_4 : decode cX4_keyOf 4 = .ok (.iload_n 0, 1) := by decide +kernel
theorem dX4_keyOf_5 : decode cX4_keyOf 5 = .ok (.i2l, 1) := by decide +kernel
theorem dX4_keyOf_6 : decode cX4_keyOf 6 = .ok (.lor, 1) := by decide +kernel
theorem dX4_keyOf_7 : decode cX4_keyOf 7 = .ok (.lreturn, 1) := by decide +kernel
theorem dX4_waysFrom_0 : decode cX4_waysFrom 0 = .ok (.iload_n 1, 1) := by decide +kernel
theorem dX4_waysFrom_1 : decode cX4_waysFrom 1 = .ok (.bipush 10, 2) := by decide +kernel
theorem dX4_waysFrom_3 : decode cX4_waysFrom 3 = .ok (.if_icmp .le 5, 3) := by decide +kernel
theorem dX4_waysFrom_6 : decode cX4_waysFrom 6 = .ok (.lconst 0, 1) := by decide +kernel
theorem dX4_waysFrom_7 : decode cX4_waysFrom 7 = .ok (.lreturn, 1) := by decide +kernel
theorem dX4_waysFrom_8 : decode cX4_waysFrom 8 = .ok (.iload_n 2, 1) := by decide +kernel
theorem dX4_waysFrom_9 : decode cX4_waysFrom 9 = .ok (.lload_n 3, 1) := by decide +kernel
theorem dX4_waysFrom_10 : decode cX4_waysFrom 10 = .ok (.invokestatic 119, 3) := by decide +kernel
theorem dX4_waysFrom_13 : decode cX4_waysFrom 13 = .ok (.lstore 5, 2) := by decide +kernel
theorem dX4_waysFrom_15 : decode cX4_waysFrom 15 = .ok (.aload_n 0, 1) := by decide +kernel
theorem dX4_waysFrom_16 : decode cX4_waysFrom 16 = .ok (.getfield 29, 3) := by decide +kernel
theorem dX4_waysFrom_19 : decode cX4_waysFrom 19 = .ok (.lload 5, 2) := by decide +kernel
theorem dX4_waysFrom_21 : decode cX4_waysFrom 21 = .ok (.invokevirtual 123, 3) := by decide +kernel
theorem dX4_waysFrom_24 : decode cX4_waysFrom 24 = .ok (.lstore 7, 2) := by decide +kernel
theorem dX4_waysFrom_26 : decode cX4_waysFrom 26 = .ok (.lload 7, 2) := by decide +kernel
theorem dX4_waysFrom_28 : decode cX4_waysFrom 28 = .ok (.ldc2_w 127, 3) := by decide +kernel
theorem dX4_waysFrom_31 : decode cX4_waysFrom 31 = .ok (.lcmp, 1) := by decide +kernel
theorem dX4_waysFrom_32 : decode cX4_waysFrom 32 = .ok (.ifCond .eq 6, 3) := by decide +kernel
theorem dX4_waysFrom_35 : decode cX4_waysFrom 35 = .ok (.lload 7, 2) := by decide +kernel
theorem dX4_waysFrom_37 : decode cX4_waysFrom 37 = .ok (.lreturn, 1) := by decide +kernel
theorem dX4_waysFrom_38 : decode cX4_waysFrom 38 = .ok (.aload_n 0, 1) := by decide +kernel
theorem dX4_waysFrom_39 : decode cX4_waysFrom 39 = .ok (.iload_n 2, 1) := by decide +kernel
theorem dX4_waysFrom_40 : decode cX4_waysFrom 40 = .ok (.invokevirtual 45, 3) := by decide +kernel
theorem dX4_waysFrom_43 : decode cX4_waysFrom 43 = .ok (.ifCond .eq 7, 3) := by decide +kernel
theorem dX4_waysFrom_46 : decode cX4_waysFrom 46 = .ok (.lconst 1, 1) := by decide +kernel
theorem dX4_waysFrom_47 : decode cX4_waysFrom 47 = .ok (.goto 4, 3) := by decide +kernel
theorem dX4_waysFrom_50 : decode cX4_waysFrom 50 = .ok (.lconst 0, 1) := by decide +kernel
theorem dX4_waysFrom_51 : decode cX4_waysFrom 51 = .ok (.lstore 9, 2) := by decide +kernel
theorem dX4_waysFrom_53 : decode cX4_waysFrom 53 = .ok (.iconst 0, 1) := by decide +kernel
theorem dX4_waysFrom_54 : decode cX4_waysFrom 54 = .ok (.istore 11, 2) := by decide +kernel
theorem dX4_waysFrom_56 : decode cX4_waysFrom 56 = .ok (.iload 11, 2) := by decide +kernel
theorem dX4_waysFrom_58 : decode cX4_waysFrom 58 = .ok (.aload_n 0, 1) := by decide +kernel
theorem dX4_waysFrom_59 : decode cX4_waysFrom 59 = .ok (.getfield 16, 3) := by decide +kernel
theorem dX4_waysFrom_62 : decode cX4_waysFrom 62 = .ok (.getfield 61, 3) := by decide +kernel
theorem dX4_waysFrom_65 : decode cX4_waysFrom 65 = .ok (.if_icmp .ge 62, 3) := by decide +kernel
theorem dX4_waysFrom_68 : decode cX4_waysFrom 68 = .ok (.aload_n 0, 1) := by decide +kernel
theorem dX4_waysFrom_69 : decode cX4_waysFrom 69 = .ok (.getfield 87, 3) := by decide +kernel
theorem dX4_waysFrom_72 : decode cX4_waysFrom 72 = .ok (.ifCond .eq 10, 3) := by decide +kernel
theorem dX4_waysFrom_75 : decode cX4_waysFrom 75 = .ok (.lload 9, 2) := by decide +kernel
theorem dX4_waysFrom_77 : decode cX4_waysFrom 77 = .ok (.lconst 0, 1) := by decide +kernel
theorem dX4_waysFrom_78 : decode cX4_waysFrom 78 = .ok (.lcmp, 1) := by decide +kernel
theorem dX4_waysFrom_79 : decode cX4_waysFrom 79 = .ok (.ifCond .gt 48, 3) := by decide +kernel
theorem dX4_waysFrom_82 : decode cX4_waysFrom 82 = .ok (.aload_n 0, 1) := by decide +kernel
theorem dX4_waysFrom_83 : decode cX4_waysFrom 83 = .ok (.iload 11, 2) := by decide +kernel
theorem dX4_waysFrom_85 : decode cX4_waysFrom 85 = .ok (.iload_n 2, 1) := by decide +kernel
theorem dX4_waysFrom_86 : decode cX4_waysFrom 86 = .ok (.lload_n 3, 1) := by decide +kernel
theorem dX4_waysFrom_87 : decode cX4_waysFrom 87 = .ok (.invokevirtual 74, 3) := by decide +kernel
theorem dX4_waysFrom_90 : decode cX4_waysFrom 90 = .ok (.ifCond .eq 31, 3) := by decide +kernel
theorem dX4_waysFrom_93 : decode cX4_waysFrom 93 = .ok (.lload 9, 2) := by decide +kernel
theorem dX4_waysFrom_95 : decode cX4_waysFrom 95 = .ok (.aload_n 0, 1) := by decide +kernel
theorem dX4_waysFrom_96 : decode cX4_waysFrom 96 = .ok (.iload_n 1, 1) := by decide +kernel
theorem dX4_waysFrom_97 : decode cX4_waysFrom 97 = .ok (.iconst 1, 1) := by decide +kernel
theorem dX4_waysFrom_98 : decode cX4_waysFrom 98 = .ok (.iadd, 1) := by decide +kernel
theorem dX4_waysFrom_99 : decode cX4_waysFrom 99 = .ok (.iload_n 2, 1) := by decide +kernel
theorem dX4_waysFrom_100 : decode cX4_waysFrom 100 = .ok (.iconst 1, 1) := by decide +kernel
theorem dX4_waysFrom_101 : decode cX4_waysFrom 101 = .ok (.iload 11, 2) := by decide +kernel
theorem dX4_waysFrom_103 : decode cX4_waysFrom 103 = .ok (.ishl, 1) := by decide +kernel
theorem dX4_waysFrom_104 : decode cX4_waysFrom 104 = .ok (.ior, 1) := by decide +kernel
theorem dX4_waysFrom_105 : decode cX4_waysFrom 105 = .ok (.aload_n 0, 1) := by decide +kernel
theorem dX4_waysFrom_106 : decode cX4_waysFrom 106 = .ok (.getfield 16, 3) := by decide +kernel
theorem dX4_waysFrom_109 : decode cX4_waysFrom 109 = .ok (.iload 11, 2) := by decide +kernel
theorem dX4_waysFrom_111 : decode cX4_waysFrom 111 = .ok (.lload_n 3, 1) := by decide +kernel
theorem dX4_waysFrom_112 : decode cX4_waysFrom 112 = .ok (.invokestatic 53, 3) := by decide +kernel
theorem dX4_waysFrom_115 : decode cX4_waysFrom 115 = .ok (.invokevirtual 37, 3) := by decide +kernel
theorem dX4_waysFrom_118 : decode cX4_waysFrom 118 = .ok (.ladd, 1) := by decide +kernel
theorem dX4_waysFrom_119 : decode cX4_waysFrom 119 = .ok (.lstore 9, 2) := by decide +kernel
theorem dX4_waysFrom_121 : decode cX4_waysFrom 121 = .ok (.iinc 11 1, 3) := by decide +kernel
theorem dX4_waysFrom_124 : decode cX4_waysFrom 124 = .ok (.goto (-68), 3) := by decide +kernel
theorem dX4_waysFrom_127 : decode cX4_waysFrom 127 = .ok (.aload_n 0, 1) := by decide +kernel
theorem dX4_waysFrom_128 : decode cX4_waysFrom 128 = .ok (.getfield 29, 3) := by decide +kernel
theorem dX4_waysFrom_131 : decode cX4_waysFrom 131 = .ok (.lload 5, 2) := by decide +kernel
theorem dX4_waysFrom_133 : decode cX4_waysFrom 133 = .ok (.lload 9, 2) := by decide +kernel
theorem dX4_waysFrom_135 : decode cX4_waysFrom 135 = .ok (.invokevirtual 129, 3) := by decide +kernel
theorem dX4_waysFrom_138 : decode cX4_waysFrom 138 = .ok (.lload 9, 2) := by decide +kernel
theorem dX4_waysFrom_140 : decode cX4_waysFrom 140 = .ok (.lreturn, 1) := by decide +kernel
theorem dX4_firstThatLeadsOn_0 : decode cX4_firstThatLeadsOn 0 = .ok (.iconst 0, 1) := by decide +kernel
theorem dX4_firstThatLeadsOn_1 : decode cX4_firstThatLeadsOn 1 = .ok (.istore 5, 2) := by decide +kernel
theorem dX4_firstThatLeadsOn_3 : decode cX4_firstThatLeadsOn 3 = .ok (.iload 5, 2) := by decide +kernel
theorem dX4_firstThatLeadsOn_5 : decode cX4_firstThatLeadsOn 5 = .ok (.aload_n 0, 1) := by decide +kernel
theorem dX4_firstThatLeadsOn_6 : decode cX4_firstThatLeadsOn 6 = .ok (.getfield 16, 3) := by decide +kernel
theorem dX4_firstThatLeadsOn_9 : decode cX4_firstThatLeadsOn 9 = .ok (.getfield 61, 3) := by decide +kernel
theorem dX4_firstThatLeadsOn_12 : decode cX4_firstThatLeadsOn 12 = .ok (.if_icmp .ge 51, 3) := by decide +kernel
theorem dX4_firstThatLeadsOn_15 : decode cX4_firstThatLeadsOn 15 = .ok (.aload_n 0, 1) := by decide +kernel
theorem dX4_firstThatLeadsOn_16 : decode cX4_firstThatLeadsOn 16 = .ok (.iload 5, 2) := by decide +kernel
theorem dX4_firstThatLeadsOn_18 : decode cX4_firstThatLeadsOn 18 = .ok (.iload_n 2, 1) := by decide +kernel
theorem dX4_firstThatLeadsOn_19 : decode cX4_firstThatLeadsOn 19 = .ok (.lload_n 3, 1) := by decide +kernel
theorem dX4_firstThatLeadsOn_20 : decode cX4_firstThatLeadsOn 20 = .ok (.invokevirtual 74, 3) := by decide +kernel
theorem dX4_firstThatLeadsOn_23 : decode cX4_firstThatLeadsOn 23 = .ok (.ifCond .eq 34, 3) := by decide +kernel
theorem dX4_firstThatLeadsOn_26 : decode cX4_firstThatLeadsOn 26 = .ok (.aload_n 0, 1) := by decide +kernel
theorem dX4_firstThatLeadsOn_27 : decode cX4_firstThatLeadsOn 27 = .ok (.iload_n 1, 1) := by decide +kernel
theorem dX4_firstThatLeadsOn_28 : decode cX4_firstThatLeadsOn 28 = .ok (.iconst 1, 1) := by decide +kernel
theorem dX4_firstThatLeadsOn_29 : decode cX4_firstThatLeadsOn 29 = .ok (.iadd, 1) := by decide +kernel
theorem dX4_firstThatLeadsOn_30 : decode cX4_firstThatLeadsOn 30 = .ok (.iload_n 2, 1) := by decide +kernel
theorem dX4_firstThatLeadsOn_31 : decode cX4_firstThatLeadsOn 31 = .ok (.iconst 1, 1) := by decide +kernel
theorem dX4_firstThatLeadsOn_32 : decode cX4_firstThatLeadsOn 32 = .ok (.iload 5, 2) := by decide +kernel
theorem dX4_firstThatLeadsOn_34 : decode cX4_firstThatLeadsOn 34 = .ok (.ishl, 1) := by decide +kernel
theorem dX4_firstThatLeadsOn_35 : decode cX4_firstThatLeadsOn 35 = .ok (.ior, 1) := by decide +kernel
theorem dX4_firstThatLeadsOn_36 : decode cX4_firstThatLeadsOn 36 = .ok (.aload_n 0, 1) := by decide +kernel
theorem dX4_firstThatLeadsOn_37 : decode cX4_firstThatLeadsOn 37 = .ok (.getfield 16, 3) := by decide +kernel
theorem dX4_firstThatLeadsOn_40 : decode cX4_firstThatLeadsOn 40 = .ok (.iload 5, 2) := by decide +kernel
theorem dX4_firstThatLeadsOn_42 : decode cX4_firstThatLeadsOn 42 = .ok (.lload_n 3, 1) := by decide +kernel
theorem dX4_firstThatLeadsOn_43 : decode cX4_firstThatLeadsOn 43 = .ok (.invokestatic 53, 3) := by decide +kernel
theorem dX4_firstThatLeadsOn_46 : decode cX4_firstThatLeadsOn 46 = .ok (.invokevirtual 37, 3) := by decide +kernel
theorem dX4_firstThatLeadsOn_49 : decode cX4_firstThatLeadsOn 49 = .ok (.lconst 0, 1) := by decide +kernel
theorem dX4_firstThatLeadsOn_50 : decode cX4_firstThatLeadsOn 50 = .ok (.lcmp, 1) := by decide +kernel
theorem dX4_firstThatLeadsOn_51 : decode cX4_firstThatLeadsOn 51 = .ok (.ifCond .le 6, 3) := by decide +kernel
theorem dX4_firstThatLeadsOn_54 : decode cX4_firstThatLeadsOn 54 = .ok (.iload 5, 2) := by decide +kernel
theorem dX4_firstThatLeadsOn_56 : decode cX4_firstThatLeadsOn 56 = .ok (.ireturn, 1) := by decide +kernel
theorem dX4_firstThatLeadsOn_57 : decode cX4_firstThatLeadsOn 57 = .ok (.iinc 5 1, 3) := by decide +kernel
theorem dX4_firstThatLeadsOn_60 : decode cX4_firstThatLeadsOn 60 = .ok (.goto (-57), 3) := by decide +kernel
theorem dX4_firstThatLeadsOn_63 : decode cX4_firstThatLeadsOn 63 = .ok (.iconst (-1), 1) := by decide +kernel
theorem dX4_firstThatLeadsOn_64 : decode cX4_firstThatLeadsOn 64 = .ok (.ireturn, 1) := by decide +kernel
theorem dX4_collectFrom_0 : decode cX4_collectFrom 0 = .ok (.iload_n 2, 1) := by decide +kernel
theorem dX4_collectFrom_1 : decode cX4_collectFrom 1 = .ok (.lload_n 3, 1) := by decide +kernel
theorem dX4_collectFrom_2 : decode cX4_collectFrom 2 = .ok (.invokestatic 119, 3) := by decide +kernel
theorem dX4_collectFrom_5 : decode cX4_collectFrom 5 = .ok (.lstore 7, 2) := by decide +kernel
theorem dX4_collectFrom_7 : decode cX4_collectFrom 7 = .ok (.iload_n 1, 1) := by decide +kernel
theorem dX4_collectFrom_8 : decode cX4_collectFrom 8 = .ok (.bipush 10, 2) := by decide +kernel
theorem dX4_collectFrom_10 : decode cX4_collectFrom 10 = .ok (.if_icmp .gt 19, 3) := by decide +kernel
theorem dX4_collectFrom_13 : decode cX4_collectFrom 13 = .ok (.aload_n 0, 1) := by decide +kernel
theorem dX4_collectFrom_14 : decode cX4_collectFrom 14 = .ok (.getfield 29, 3) := by decide +kernel
theorem dX4_collectFrom_17 : decode cX4_collectFrom 17 = .ok (.lload 7, 2) := by decide +kernel
theorem dX4_collectFrom_19 : decode cX4_collectFrom 19 = .ok (.invokevirtual 123, 3) := by decide +kernel
theorem dX4_collectFrom_22 : decode cX4_collectFrom 22 = .ok (.ldc2_w 127, 3) := by decide +kernel
theorem dX4_collectFrom_25 : decode cX4_collectFrom 25 = .ok (.lcmp, 1) := by decide +kernel
theorem dX4_collectFrom_26 : decode cX4_collectFrom 26 = .ok (.ifCond .eq 4, 3) := by decide +kernel
theorem dX4_collectFrom_29 : decode cX4_collectFrom 29 = .ok (.return_, 1) := by decide +kernel
theorem dX4_collectFrom_30 : decode cX4_collectFrom 30 = .ok (.aload_n 0, 1) := by decide +kernel
theorem dX4_collectFrom_31 : decode cX4_collectFrom 31 = .ok (.getfield 29, 3) := by decide +kernel
theorem dX4_collectFrom_34 : decode cX4_collectFrom 34 = .ok (.lload 7, 2) := by decide +kernel
theorem dX4_collectFrom_36 : decode cX4_collectFrom 36 = .ok (.lconst 0, 1) := by decide +kernel
theorem dX4_collectFrom_37 : decode cX4_collectFrom 37 = .ok (.invokevirtual 129, 3) := by decide +kernel
theorem dX4_collectFrom_40 : decode cX4_collectFrom 40 = .ok (.iconst 0, 1) := by decide +kernel
theorem dX4_collectFrom_41 : decode cX4_collectFrom 41 = .ok (.istore 9, 2) := by decide +kernel
theorem dX4_collectFrom_43 : decode cX4_collectFrom 43 = .ok (.iload 9, 2) := by decide +kernel
theorem dX4_collectFrom_45 : decode cX4_collectFrom 45 = .ok (.aload_n 0, 1) := by decide +kernel
theorem dX4_collectFrom_46 : decode cX4_collectFrom 46 = .ok (.getfield 16, 3) := by decide +kernel
theorem dX4_collectFrom_49 : decode cX4_collectFrom 49 = .ok (.getfield 61, 3) := by decide +kernel
theorem dX4_collectFrom_52 : decode cX4_collectFrom 52 = .ok (.if_icmp .ge 96, 3) := by decide +kernel
theorem dX4_collectFrom_55 : decode cX4_collectFrom 55 = .ok (.aload_n 0, 1) := by decide +kernel
theorem dX4_collectFrom_56 : decode cX4_collectFrom 56 = .ok (.iload 9, 2) := by decide +kernel
theorem dX4_collectFrom_58 : decode cX4_collectFrom 58 = .ok (.iload_n 2, 1) := by decide +kernel
theorem dX4_collectFrom_59 : decode cX4_collectFrom 59 = .ok (.lload_n 3, 1) := by decide +kernel
theorem dX4_collectFrom_60 : decode cX4_collectFrom 60 = .ok (.invokevirtual 74, 3) := by decide +kernel
theorem dX4_collectFrom_63 : decode cX4_collectFrom 63 = .ok (.ifCond .eq 79, 3) := by decide +kernel
theorem dX4_collectFrom_66 : decode cX4_collectFrom 66 = .ok (.iload_n 2, 1) := by decide +kernel
theorem dX4_collectFrom_67 : decode cX4_collectFrom 67 = .ok (.iconst 1, 1) := by decide +kernel
theorem dX4_collectFrom_68 : decode cX4_collectFrom 68 = .ok (.iload 9, 2) := by decide +kernel
theorem dX4_collectFrom_70 : decode cX4_collectFrom 70 = .ok (.ishl, 1) := by decide +kernel
theorem dX4_collectFrom_71 : decode cX4_collectFrom 71 = .ok (.ior, 1) := by decide +kernel
theorem dX4_collectFrom_72 : decode cX4_collectFrom 72 = .ok (.istore 10, 2) := by decide +kernel
theorem dX4_collectFrom_74 : decode cX4_collectFrom 74 = .ok (.aload_n 0, 1) := by decide +kernel
theorem dX4_collectFrom_75 : decode cX4_collectFrom 75 = .ok (.getfield 16, 3) := by decide +kernel
theorem dX4_collectFrom_78 : decode cX4_collectFrom 78 = .ok (.iload 9, 2) := by decide +kernel
theorem dX4_collectFrom_80 : decode cX4_collectFrom 80 = .ok (.lload_n 3, 1) := by decide +kernel
theorem dX4_collectFrom_81 : decode cX4_collectFrom 81 = .ok (.invokestatic 53, 3) := by decide +kernel
theorem dX4_collectFrom_84 : decode cX4_collectFrom 84 = .ok (.lstore 11, 2) := by decide +kernel
theorem dX4_collectFrom_86 : decode cX4_collectFrom 86 = .ok (.iload 9, 2) := by decide +kernel
theorem dX4_collectFrom_88 : decode cX4_collectFrom 88 = .ok (.iload 5, 2) := by decide +kernel
theorem dX4_collectFrom_90 : decode cX4_collectFrom 90 = .ok (.if_icmp .eq 21, 3) := by decide +kernel
theorem dX4_collectFrom_93 : decode cX4_collectFrom 93 = .ok (.aload_n 0, 1) := by decide +kernel
theorem dX4_collectFrom_94 : decode cX4_collectFrom 94 = .ok (.iload_n 1, 1) := by decide +kernel
theorem dX4_collectFrom_95 : decode cX4_collectFrom 95 = .ok (.iconst 1, 1) := by decide +kernel
theorem dX4_collectFrom_96 : decode cX4_collectFrom 96 = .ok (.iadd, 1) := by decide +kernel
theorem dX4_collectFrom_97 : decode cX4_collectFrom 97 = .ok (.iload 10, 2) := by decide +kernel
theorem dX4_collectFrom_99 : decode cX4_collectFrom 99 = .ok (.lload 11, 2) := by decide +kernel
theorem dX4_collectFrom_101 : decode cX4_collectFrom 101 = .ok (.iload 5, 2) := by decide +kernel
theorem dX4_collectFrom_103 : decode cX4_collectFrom 103 = .ok (.aload 6, 2) := by decide +kernel
theorem dX4_collectFrom_105 : decode cX4_collectFrom 105 = .ok (.invokevirtual 70, 3) := by decide +kernel
theorem dX4_collectFrom_108 : decode cX4_collectFrom 108 = .ok (.goto 34, 3) := by decide +kernel
theorem dX4_collectFrom_111 : decode cX4_collectFrom 111 = .ok (.aload_n 0, 1) := by decide +kernel
theorem dX4_collectFrom_112 : decode cX4_collectFrom 112 = .ok (.iload_n 1, 1) := by decide +kernel
theorem dX4_collectFrom_113 : decode cX4_collectFrom 113 = .ok (.iconst 1, 1) := by decide +kernel
theorem dX4_collectFrom_114 : decode cX4_collectFrom 114 = .ok (.iadd, 1) := by decide +kernel
theorem dX4_collectFrom_115 : decode cX4_collectFrom 115 = .ok (.iload 10, 2) := by decide +kernel
theorem dX4_collectFrom_117 : decode cX4_collectFrom 117 = .ok (.lload 11, 2) := by decide +kernel
theorem dX4_collectFrom_119 : decode cX4_collectFrom 119 = .ok (.invokevirtual 37, 3) := by decide +kernel
theorem dX4_collectFrom_122 : decode cX4_collectFrom 122 = .ok (.lconst 0, 1) := by decide +kernel
theorem dX4_collectFrom_123 : decode cX4_collectFrom 123 = .ok (.lcmp, 1) := by decide +kernel
theorem dX4_collectFrom_124 : decode cX4_collectFrom 124 = .ok (.ifCond .le 18, 3) := by decide +kernel
theorem dX4_collectFrom_127 : decode cX4_collectFrom 127 = .ok (.aload 6, 2) := by decide +kernel
theorem dX4_collectFrom_129 : decode cX4_collectFrom 129 = .ok (.aload_n 0, 1) := by decide +kernel
theorem dX4_collectFrom_130 : decode cX4_collectFrom 130 = .ok (.getfield 16, 3) := by decide +kernel
theorem dX4_collectFrom_133 : decode cX4_collectFrom 133 = .ok (.iload 9, 2) := by decide +kernel
theorem dX4_collectFrom_135 : decode cX4_collectFrom 135 = .ok (.lload_n 3, 1) := by decide +kernel
theorem dX4_collectFrom_136 : decode cX4_collectFrom 136 = .ok (.invokestatic 112, 3) := by decide +kernel
theorem dX4_collectFrom_139 : decode cX4_collectFrom 139 = .ok (.invokevirtual 133, 3) := by decide +kernel
theorem dX4_collectFrom_142 : decode cX4_collectFrom 142 = .ok (.iinc 9 1, 3) := by decide +kernel
theorem dX4_collectFrom_145 : decode cX4_collectFrom 145 = .ok (.goto (-102), 3) := by decide +kernel
theorem dX4_collectFrom_148 : decode cX4_collectFrom 148 = .ok (.return_, 1) := by decide +kernel
end
section
theorem dX6_init_0 : decode cX6_init 0 = .ok (.aload_n 0, 1) := by decide +kernel
theorem dX6_init_1 : decode cX6_init 1 = .ok (.invokespecial 1, 3) := by decide +kernel
theorem dX6_init_4 : decode cX6_init 4 = .ok (.aload_n 0, 1) := by decide +kernel
theorem dX6_init_5 : decode cX6_init 5 = .ok (.iconst 4, 1) := by decide +kernel
theorem dX6_init_6 : decode cX6_init 6 = .ok (.anewarray 9, 3) := by decide +kernel
theorem dX6_init_9 : decode cX6_init 9 = .ok (.putfield 11, 3) := by decide +kernel
theorem dX6_init_12 : decode cX6_init 12 = .ok (.aload_n 0, 1) := by decide +kernel
theorem dX6_init_13 : decode cX6_init 13 = .ok (.bipush 12, 2) := by decide +kernel
theorem dX6_init_15 : decode cX6_init 15 = .ok (.anewarray 15, 3) := by decide +kernel
theorem dX6_init_18 : decode cX6_init 18 = .ok (.putfield 17, 3) := by decide +kernel
theorem dX6_init_21 : decode cX6_init 21 = .ok (.aload_n 0, 1) := by decide +kernel
theorem dX6_init_22 : decode cX6_init 22 = .ok (.new 21, 3) := by decide +kernel
theorem dX6_init_25 : decode cX6_init 25 = .ok (.dup, 1) := by decide +kernel
theorem dX6_init_26 : decode cX6_init 26 = .ok (.invokespecial 23, 3) := by decide +kernel
theorem dX6_init_29 : decode cX6_init 29 = .ok (.putfield 24, 3) := by decide +kernel
theorem dX6_init_32 : decode cX6_init 32 = .ok (.aload_n 0, 1) := by decide +kernel
theorem dX6_init_33 : decode cX6_init 33 = .ok (.new 28, 3) := by decide +kernel
theorem dX6_init_36 : decode cX6_init 36 = .ok (.dup, 1) := by decide +kernel
theorem dX6_init_37 : decode cX6_init 37 = .ok (.invokespecial 30, 3) := by decide +kernel
theorem dX6_init_40 : decode cX6_init 40 = .ok (.putfield 31, 3) := by decide +kernel
theorem dX6_init_43 : decode cX6_init 43 = .ok (.aload_n 0, 1) := by decide +kernel
theorem dX6_init_44 : decode cX6_init 44 = .ok (.bipush 10, 2) := by decide +kernel
theorem dX6_init_46 : decode cX6_init 46 = .ok (.newarray .int, 2) := by decide +kernel
theorem dX6_init_48 : decode cX6_init 48 = .ok (.putfield 35, 3) := by decide +kernel
theorem dX6_init_51 : decode cX6_init 51 = .ok (.return_, 1) := by decide +kernel
theorem dX6_machine_0 : decode cX6_machine 0 = .ok (.aload_n 0, 1) := by decide +kernel
theorem dX6_machine_1 : decode cX6_machine 1 = .ok (.getfield 39, 3) := by decide +kernel
theorem dX6_machine_4 : decode cX6_machine 4 = .ok (.iconst 4, 1) := by decide +kernel
theorem dX6_machine_5 : decode cX6_machine 5 = .ok (.if_icmp .lt 6, 3) := by decide +kernel
theorem dX6_machine_8 : decode cX6_machine 8 = .ok (.bipush (-4), 2) := by decide +kernel
theorem dX6_machine_10 : decode cX6_machine 10 = .ok (.ireturn, 1) := by decide +kernel
theorem dX6_machine_11 : decode cX6_machine 11 = .ok (.aload_n 0, 1) := by decide +kernel
theorem dX6_machine_12 : decode cX6_machine 12 = .ok (.getfield 11, 3) := by decide +kernel
theorem dX6_machine_15 : decode cX6_machine 15 = .ok (.aload_n 0, 1) := by decide +kernel
theorem dX6_machine_16 : decode cX6_machine 16 = .ok (.getfield 39, 3) := by decide +kernel
theorem dX6_machine_19 : decode cX6_machine 19 = .ok (.new 9, 3) := by decide +kernel
theorem dX6_machine_22 : decode cX6_machine 22 = .ok (.dup, 1) := by decide +kernel
theorem dX6_machine_23 : decode cX6_machine 23 = .ok (.invokespecial 43, 3) := by decide +kernel
theorem dX6_machine_26 : decode cX6_machine 26 = .ok (.aastore, 1) := by decide +kernel
theorem dX6_machine_27 : decode cX6_machine 27 = .ok (.aload_n 0, 1) := by decide +kernel
theorem dX6_machine_28 : decode cX6_machine 28 = .ok (.dup, 1) := by decide +kernel
theorem dX6_machine_29 : decode cX6_machine 29 = .ok (.getfield 39, 3) := by decide +kernel
theorem dX6_machine_32 : decode cX6_machine 32 = .ok (.iconst 1, 1) := by decide +kernel
theorem dX6_machine_33 : decode cX6_machine 33 = .ok (.iadd, 1) := by decide +kernel
theorem dX6_machine_34 : decode cX6_machine 34 = .ok (.putfield 39, 3) := by decide +kernel
theorem dX6_machine_37 : decode cX6_machine 37 = .ok (.aload_n 0, 1) := by decide +kernel
theorem dX6_machine_38 : decode cX6_machine 38 = .ok (.getfield 39, 3) := by decide +kernel
theorem dX6_machine_41 : decode cX6_machine 41 = .ok (.iconst 1, 1) := by decide +kernel
theorem dX6_machine_42 : decode cX6_machine 42 = .ok (.isub, 1) := by decide +kernel
theorem dX6_machine_43 : decode cX6_machine 43 = .ok (.ireturn, 1) := by decide +kernel
theorem dX6_row_0 : decode cX6_row 0 = .ok (.aload_n 0, 1) := by decide +kernel
theorem dX6_row_1 : decode cX6_row 1 = .ok (.iload_n 1, 1) := by decide +kernel
theorem dX6_row_2 : decode cX6_row 2 = .ok (.invokevirtual 44, 3) := by decide +kernel
theorem dX6_row_5 : decode cX6_row 5 = .ok (.astore 6, 2) := by decide +kernel
theorem dX6_row_7 : decode cX6_row 7 = .ok (.aload 6, 2) := by decide +kernel
theorem dX6_row_9 : decode cX6_row 9 = .ok (.ifnonnull 5, 3) := by decide +kernel
theorem dX6_row_12 : decode cX6_row 12 = .ok (.iconst (-1), 1) := by decide +kernel
theorem dX6_row_13 : decode cX6_row 13 = .ok (.ireturn, 1) := by decide +kernel
theorem dX6_row_14 : decode cX6_row 14 = .ok (.iload_n 2, 1) := by decide +kernel
theorem dX6_row_15 : decode cX6_row 15 = .ok (.i2l, 1) := by decide +kernel
theorem dX6_row_16 : decode cX6_row 16 = .ok (.iload_n 3, 1) := by decide +kernel
theorem dX6_row_17 : decode cX6_row 17 = .ok (.invokestatic 48, 3) := by decide +kernel
theorem dX6_row_20 : decode cX6_row 20 = .ok (.ifCond .eq 13, 3) := by decide +kernel
theorem dX6_row_23 : decode cX6_row 23 = .ok (.iload 5, 2) := by decide +kernel
theorem dX6_row_25 : decode cX6_row 25 = .ok (.i2l, 1) := by decide +kernel
theorem dX6_row_26 : decode cX6_row 26 = .ok (.iload_n 3, 1) := by decide +kernel
theorem dX6_row_27 : decode cX6_row 27 = .ok (.invokestatic 48, 3) := by decide +kernel
theorem dX6_row_30 : decode cX6_row 30 = .ok (.ifCond .ne 6, 3) := by decide +kernel
theorem dX6_row_33 : decode cX6_row 33 = .ok (.bipush (-2), 2) := by decide +kernel
theorem dX6_row_35 : decode cX6_row 35 = .ok (.ireturn, 1) := by decide +kernel
theorem dX6_row_36 : decode cX6_row 36 = .ok (.aload 6, 2) := by decide +kernel
theorem dX6_row_38 : decode cX6_row 38 = .ok (.getfield 52, 3) := by decide +kernel
theorem dX6_row_41 : decode cX6_row 41 = .ok (.ifCond .eq 6, 3) := by decide +kernel
theorem dX6_row_44 : decode cX6_row 44 = .ok (.bipush (-3), 2) := by decide +kernel
theorem dX6_row_46 : decode cX6_row 46 = .ok (.ireturn, 1) := by decide +kernel
theorem dX6_row_47 : decode cX6_row 47 = .ok (.aload 6, 2) := by decide +kernel
theorem dX6_row_49 : decode cX6_row 49 = .ok (.iload_n 2, 1) := by decide +kernel
theorem dX6_row_50 : decode cX6_row 50 = .ok (.iload_n 3, 1) := by decide +kernel
theorem dX6_row_51 : decode cX6_row 51 = .ok (.iload 4, 2) := by decide +kernel
theorem dX6_row_53 : decode cX6_row 53 = .ok (.iload 5, 2) := by decide +kernel
theorem dX6_row_55 : decode cX6_row 55 = .ok (.invokevirtual 56, 3) := by decide +kernel
theorem dX6_row_58 : decode cX6_row 58 = .ok (.iconst 0, 1) := by decide +kernel
theorem dX6_row_59 : decode cX6_row 59 = .ok (.ireturn, 1) := by decide +kernel
theorem dX6_history_0 : decode cX6_history 0 = .ok (.iload_n 1, 1) := by decide +kernel
theorem dX6_history_1 : decode cX6_history 1 = .ok (.bipush 6, 2) := by decide +kernel
theorem dX6_history_3 : decode cX6_history 3 = .ok (.if_icmp .ne 7, 3) := by decide +kernel
theorem dX6_history_6 : decode cX6_history 6 = .ok (.iconst 1, 1) := by decide +kernel
theorem dX6_history_7 : decode cX6_history 7 = .ok (.goto 4, 3) := by decide +kernel
theorem dX6_history_10 : decode cX6_history 10 = .ok (.iconst 0, 1) := by decide +kernel
theorem dX6_history_11 : decode cX6_history 11 = .ok (.istore_n 3, 1) := by decide +kernel
theorem dX6_history_12 : decode cX6_history 12 = .ok (.iload_n 3, 1) := by decide +kernel
theorem dX6_history_13 : decode cX6_history 13 = .ok (.ifCond .eq 11, 3) := by decide +kernel
theorem dX6_history_16 : decode cX6_history 16 = .ok (.aload_n 0, 1) := by decide +kernel
theorem dX6_history_17 : decode cX6_history 17 = .ok (.iload_n 2, 1) := by decide +kernel
theorem dX6_history_18 : decode cX6_history 18 = .ok (.invokevirtual 44, 3) := by decide +kernel
theorem dX6_history_21 : decode cX6_history 21 = .ok (.goto 4, 3) := by decide +kernel
theorem dX6_history_24 : decode cX6_history 24 = .ok (.aconst_null, 1) := by decide +kernel
theorem dX6_history_25 : decode cX6_history 25 = .ok (.astore 4, 2) := by decide +kernel
theorem dX6_history_27 : decode cX6_history 27 = .ok (.iload_n 1, 1) := by decide +kernel
theorem dX6_history_28 : decode cX6_history 28 = .ok (.invokestatic 62, 3) := by decide +kernel
theorem dX6_history_31 : decode cX6_history 31 = .ok (.ifCond .eq 12, 3) := by decide +kernel
theorem dX6_history_34 : decode cX6_history 34 = .ok (.iload_n 3, 1) := by decide +kernel
theorem dX6_history_35 : decode cX6_history 35 = .ok (.ifCond .eq 10, 3) := by decide +kernel
theorem dX6_history_38 : decode cX6_history 38 = .ok (.aload 4, 2) := by decide +kernel
theorem dX6_history_40 : decode cX6_history 40 = .ok (.ifnonnull 5, 3) := by decide +kernel
theorem dX6_history_43 : decode cX6_history 43 = .ok (.iconst (-1), 1) := by decide +kernel
theorem dX6_history_44 : decode cX6_history 44 = .ok (.ireturn, 1) := by decide +kernel
theorem dX6_history_45 : decode cX6_history 45 = .ok (.iload_n 3, 1) := by decide +kernel
theorem dX6_history_46 : decode cX6_history 46 = .ok (.ifCond .ne 10, 3) := by decide +kernel
theorem dX6_history_49 : decode cX6_history 49 = .ok (.iload_n 2, 1) := by decide +kernel
theorem dX6_history_50 : decode cX6_history 50 = .ok (.ifCond .eq 6, 3) := by decide +kernel
theorem dX6_history_53 : decode cX6_history 53 = .ok (.bipush (-2), 2) := by decide +kernel
theorem dX6_history_55 : decode cX6_history 55 = .ok (.ireturn, 1) := by decide +kernel
theorem dX6_history_56 : decode cX6_history 56 = .ok (.aload_n 0, 1) := by decide +kernel
theorem dX6_history_57 : decode cX6_history 57 = .ok (.getfield 66, 3) := by decide +kernel
theorem dX6_history_60 : decode cX6_history 60 = .ok (.bipush 12, 2) := by decide +kernel
theorem dX6_history_62 : decode cX6_history 62 = .ok (.if_icmp .lt 6, 3) := by decide +kernel
theorem dX6_history_65 : decode cX6_history 65 = .ok (.bipush (-4), 2) := by decide +kernel
theorem dX6_history_67 : decode cX6_history 67 = .ok (.ireturn, 1) := by decide +kernel
theorem dX6_history_68 : decode cX6_history 68 = .ok (.aload 4, 2) := by decide +kernel
theorem dX6_history_70 : decode cX6_history 70 = .ok (.ifnull 9, 3) := by decide +kernel
theorem dX6_history_73 : decode cX6_history 73 = .ok (.aload 4, 2) := by decide +kernel
theorem dX6_history_75 : decode cX6_history 75 = .ok (.iconst 1, 1) := by decide +kernel
theorem dX6_history_76 : decode cX6_history 76 = .ok (.putfield 52, 3) := by decide +kernel
theorem dX6_history_79 : decode cX6_history 79 = .ok (.aload_n 0, 1) := by decide +kernel
theorem dX6_history_80 : decode cX6_history 80 = .ok (.new 15, 3) := by decide +kernel
theorem dX6_history_83 : decode cX6_history 83 = .ok (.dup, 1) := by decide +kernel
theorem dX6_history_84 : decode cX6_history 84 = .ok (.iload_n 1, 1) := by decide +kernel
theorem dX6_history_85 : decode cX6_history 85 = .ok (.aload 4, 2) := by decide +kernel
theorem dX6_history_87 : decode cX6_history 87 = .ok (.invokespecial 69, 3) := by decide +kernel
theorem dX6_history_90 : decode cX6_history 90 = .ok (.invokevirtual 72, 3) := by decide +kernel
theorem dX6_history_93 : decode cX6_history 93 = .ok (.ireturn, 1) := by decide +kernel
theorem dX6_copy_0 : decode cX6_copy 0 = .ok (.aload_n 0, 1) := by decide +kernel
theorem dX6_copy_1 : decode cX6_copy 1 = .ok (.iload_n 1, 1) := by decide +kernel
theorem dX6_copy_2 : decode cX6_copy 2 = .ok (.invokevirtual 76, 3) := by decide +kernel
theorem dX6_copy_5 : decode cX6_copy 5 = .ok (.astore_n 2, 1) := by decide +kernel
theorem dX6_copy_6 : decode cX6_copy 6 = .ok (.aload_n 2, 1) := by decide +kernel
theorem dX6_copy_7 : decode cX6_copy 7 = .ok (.ifnonnull 5, 3) := by decide +kernel
theorem dX6_copy_10 : decode cX6_copy 10 = .ok (.iconst (-1), 1) := by decide +kernel
theorem dX6_copy_11 : decode cX6_copy 11 = .ok (.ireturn, 1) := by decide +kernel
theorem dX6_copy_12 : decode cX6_copy 12 = .ok (.aload_n 0, 1) := by decide +kernel
theorem dX6_copy_13 : decode cX6_copy 13 = .ok (.getfield 66, 3) := by decide +kernel
theorem dX6_copy_16 : decode cX6_copy 16 = .ok (.bipush 12, 2) := by decide +kernel
theorem dX6_copy_18 : decode cX6_copy 18 = .ok (.if_icmp .lt 6, 3) := by decide +kernel
theorem dX6_copy_21 : decode cX6_copy 21 = .ok (.bipush (-4), 2) := by decide +kernel
theorem dX6_copy_23 : decode cX6_copy 23 = .ok (.ireturn, 1) := by decide +kernel
theorem dX6_copy_24 : decode cX6_copy 24 = .ok (.aload_n 0, 1) := by decide +kernel
theorem dX6_copy_25 : decode cX6_copy 25 = .ok (.aload_n 2, 1) := by decide +kernel
theorem dX6_copy_26 : decode cX6_copy 26 = .ok (.invokevirtual 80, 3) := by decide +kernel
theorem dX6_copy_29 : decode cX6_copy 29 = .ok (.invokevirtual 72, 3) := by decide +kernel
theorem dX6_copy_32 : decode cX6_copy 32 = .ok (.ireturn, 1) := by decide +kernel
theorem dX6_begin_0 : decode cX6_begin 0 = .ok (.aload_n 0, 1) := by decide +kernel
theorem dX6_begin_1 : decode cX6_begin 1 = .ok (.iload_n 1, 1) := by decide +kernel
theorem dX6_begin_2 : decode cX6_begin 2 = .ok (.invokevirtual 76, 3) := by decide +kernel
theorem dX6_begin_5 : decode cX6_begin 5 = .ok (.astore 6, 2) := by decide +kernel
theorem dX6_begin_7 : decode cX6_begin 7 = .ok (.aload 6, 2) := by decide +kernel
theorem dX6_begin_9 : decode cX6_begin 9 = .ok (.ifnonnull 5, 3) := by decide +kernel
theorem dX6_begin_12 : decode cX6_begin 12 = .ok (.iconst (-1), 1) := by decide +kernel
theorem dX6_begin_13 : decode cX6_begin 13 = .ok (.ireturn, 1) := by decide +kernel
theorem dX6_begin_14 : decode cX6_begin 14 = .ok (.iload_n 2, 1) := by decide +kernel
theorem dX6_begin_15 : decode cX6_begin 15 = .ok (.ifCond .lt 22, 3) := by decide +kernel
theorem dX6_begin_18 : decode cX6_begin 18 = .ok (.iload_n 2, 1) := by decide +kernel
theorem dX6_begin_19 : decode cX6_begin 19 = .ok (.iconst 4, 1) := by decide +kernel
theorem dX6_begin_20 : decode cX6_begin 20 = .ok (.if_icmp .ge 17, 3) := by decide +kernel
theorem dX6_begin_23 : decode cX6_begin 23 = .ok (.aload 6, 2) := by decide +kernel
theorem dX6_begin_25 : decode cX6_begin 25 = .ok (.getfield 84, 3) := by decide +kernel
theorem dX6_begin_28 : decode cX6_begin 28 = .ok (.iload_n 3, 1) := by decide +kernel
theorem dX6_begin_29 : decode cX6_begin 29 = .ok (.iload 4, 2) := by decide +kernel
theorem dX6_begin_31 : decode cX6_begin 31 = .ok (.invokestatic 87, 3) := by decide +kernel
theorem dX6_begin_34 : decode cX6_begin 34 = .ok (.ifCond .ne 6, 3) := by decide +kernel
theorem dX6_begin_37 : decode cX6_begin 37 = .ok (.bipush (-2), 2) := by decide +kernel
theorem dX6_begin_39 : decode cX6_begin 39 = .ok (.ireturn, 1) := by decide +kernel
theorem dX6_begin_40 : decode cX6_begin 40 = .ok (.aload 6, 2) := by decide +kernel
theorem dX6_begin_42 : decode cX6_begin 42 = .ok (.iload_n 2, 1) := by decide +kernel
theorem dX6_begin_43 : decode cX6_begin 43 = .ok (.invokevirtual 91, 3) := by decide +kernel
theorem dX6_begin_46 : decode cX6_begin 46 = .ok (.ifCond .eq 6, 3) := by decide +kernel
theorem dX6_begin_49 : decode cX6_begin 49 = .ok (.bipush (-3), 2) := by decide +kernel
theorem dX6_begin_51 : decode cX6_begin 51 = .ok (.ireturn, 1) := by decide +kernel
theorem dX6_begin_52 : decode cX6_begin 52 = .ok (.aload 6, 2) := by decide +kernel
theorem dX6_begin_54 : decode cX6_begin 54 = .ok (.getfield 94, 3) := by decide +kernel
theorem dX6_begin_57 : decode cX6_begin 57 = .ok (.bipush 10, 2) := by decide +kernel
theorem dX6_begin_59 : decode cX6_begin 59 = .ok (.if_icmp .lt 6, 3) := by decide +kernel
theorem dX6_begin_62 : decode cX6_begin 62 = .ok (.bipush (-4), 2) := by decide +kernel
theorem dX6_begin_64 : decode cX6_begin 64 = .ok (.ireturn, 1) := by decide +kernel
theorem dX6_begin_65 : decode cX6_begin 65 = .ok (.aload 6, 2) := by decide +kernel
theorem dX6_begin_67 : decode cX6_begin 67 = .ok (.iload_n 2, 1) := by decide +kernel
theorem dX6_begin_68 : decode cX6_begin 68 = .ok (.iload_n 3, 1) := by decide +kernel
theorem dX6_begin_69 : decode cX6_begin 69 = .ok (.iload 4, 2) := by decide +kernel
theorem dX6_begin_71 : decode cX6_begin 71 = .ok (.iload 5, 2) := by decide +kernel
theorem dX6_begin_73 : decode cX6_begin 73 = .ok (.invokevirtual 97, 3) := by decide +kernel
theorem dX6_begin_76 : decode cX6_begin 76 = .ok (.ireturn, 1) := by decide +kernel
theorem dX6_answer_0 : decode cX6_answer 0 = .ok (.aload_n 0, 1) := by decide +kernel
theorem dX6_answer_1 : decode cX6_answer 1 = .ok (.iload_n 1, 1) := by decide +kernel
theorem dX6_answer_2 : decode cX6_answer 2 = .ok (.invokevirtual 76, 3) := by decide +kernel
theorem dX6_answer_5 : decode cX6_answer 5 = .ok (.astore 4, 2) := by decide +kernel
theorem dX6_answer_7 : decode cX6_answer 7 = .ok (.aload 4, 2) := by decide +kernel
theorem dX6_answer_9 : decode cX6_answer 9 = .ok (.ifnull 12, 3) := by decide +kernel
theorem dX6_answer_12 : decode cX6_answer 12 = .ok (.aload 4, 2) := by decide +kernel
theorem dX6_answer_14 : decode cX6_answer 14 = .ok (.iload_n 2, 1) := by decide +kernel
theorem dX6_answer_15 : decode cX6_answer 15 = .ok (.invokevirtual 101, 3) := by decide +kernel
theorem dX6_answer_18 : decode cX6_answer 18 = .ok (.ifCond .ne 5, 3) := by decide +kernel
theorem dX6_answer_21 : decode cX6_answer 21 = .ok (.iconst (-1), 1) := by decide +kernel
theorem dX6_answer_22 : decode cX6_answer 22 = .ok (.ireturn, 1) := by decide +kernel
theorem dX6_answer_23 : decode cX6_answer 23 = .ok (.aload 4, 2) := by decide +kernel
theorem dX6_answer_25 : decode cX6_answer 25 = .ok (.iload_n 2, 1) := by decide +kernel
theorem dX6_answer_26 : decode cX6_answer 26 = .ok (.invokevirtual 104, 3) := by decide +kernel
theorem dX6_answer_29 : decode cX6_answer 29 = .ok (.ifCond .ne 6, 3) := by decide +kernel
theorem dX6_answer_32 : decode cX6_answer 32 = .ok (.bipush (-3), 2) := by decide +kernel
theorem dX6_answer_34 : decode cX6_answer 34 = .ok (.ireturn, 1) := by decide +kernel
theorem dX6_answer_35 : decode cX6_answer 35 = .ok (.aload 4, 2) := by decide +kernel
theorem dX6_answer_37 : decode cX6_answer 37 = .ok (.iload_n 2, 1) := by decide +kernel
theorem dX6_answer_38 : decode cX6_answer 38 = .ok (.iload_n 3, 1) := by decide +kernel
theorem dX6_answer_39 : decode cX6_answer 39 = .ok (.invokevirtual 107, 3) := by decide +kernel
theorem dX6_answer_42 : decode cX6_answer 42 = .ok (.ireturn, 1) := by decide +kernel
theorem dX6_alter_0 : decode cX6_alter 0 = .ok (.aload_n 0, 1) := by decide +kernel
theorem dX6_alter_1 : decode cX6_alter 1 = .ok (.iload_n 1, 1) := by decide +kernel
theorem dX6_alter_2 : decode cX6_alter 2 = .ok (.iload_n 2, 1) := by decide +kernel
theorem dX6_alter_3 : decode cX6_alter 3 = .ok (.invokevirtual 111, 3) := by decide +kernel
theorem dX6_alter_6 : decode cX6_alter 6 = .ok (.istore 4, 2) := by decide +kernel
theorem dX6_alter_8 : decode cX6_alter 8 = .ok (.aload_n 0, 1) := by decide +kernel
theorem dX6_alter_9 : decode cX6_alter 9 = .ok (.iload_n 1, 1) := by decide +kernel
theorem dX6_alter_10 : decode cX6_alter 10 = .ok (.invokevirtual 76, 3) := by decide +kernel
theorem dX6_alter_13 : decode cX6_alter 13 = .ok (.astore 5, 2) := by decide +kernel
theorem dX6_alter_15 : decode cX6_alter 15 = .ok (.aload_n 0, 1) := by decide +kernel
theorem dX6_alter_16 : decode cX6_alter 16 = .ok (.getfield 114, 3) := by decide +kernel
theorem dX6_alter_19 : decode cX6_alter 19 = .ok (.ifCond .ne 25, 3) := by decide +kernel
theorem dX6_alter_22 : decode cX6_alter 22 = .ok (.aload 5, 2) := by decide +kernel
theorem dX6_alter_24 : decode cX6_alter 24 = .ok (.ifnull 20, 3) := by decide +kernel
theorem dX6_alter_27 : decode cX6_alter 27 = .ok (.aload 5, 2) := by decide +kernel
theorem dX6_alter_29 : decode cX6_alter 29 = .ok (.iload_n 2, 1) := by decide +kernel
theorem dX6_alter_30 : decode cX6_alter 30 = .ok (.invokevirtual 101, 3) := by decide +kernel
theorem dX6_alter_33 : decode cX6_alter 33 = .ok (.ifCond .eq 11, 3) := by decide +kernel
theorem dX6_alter_36 : decode cX6_alter 36 = .ok (.aload 5, 2) := by decide +kernel
theorem dX6_alter_38 : decode cX6_alter 38 = .ok (.getfield 117, 3) := by decide +kernel
theorem dX6_alter_41 : decode cX6_alter 41 = .ok (.iload_n 2, 1) := by decide +kernel
theorem dX6_alter_42 : decode cX6_alter 42 = .ok (.iload_n 3, 1) := by decide +kernel
theorem dX6_alter_43 : decode cX6_alter 43 = .ok (.iastore, 1) := by decide +kernel
theorem dX6_alter_44 : decode cX6_alter 44 = .ok (.iload 4, 2) := by decide +kernel
theorem dX6_alter_46 : decode cX6_alter 46 = .ok (.ireturn, 1) := by decide +kernel
theorem dX6_status_0 : decode cX6_status 0 = .ok (.aload_n 0, 1) := by decide +kernel
theorem dX6_status_1 : decode cX6_status 1 = .ok (.getfield 114, 3) := by decide +kernel
theorem dX6_status_4 : decode cX6_status 4 = .ok (.ireturn, 1) := by decide +kernel
theorem dX6_answered_0 : decode cX6_answered 0 = .ok (.aload_n 0, 1) := by decide +kernel
theorem dX6_answered_1 : decode cX6_answered 1 = .ok (.iload_n 1, 1) := by decide +kernel
theorem dX6_answered_2 : decode cX6_answered 2 = .ok (.invokevirtual 76, 3) := by decide +kernel
theorem dX6_answered_5 : decode cX6_answered 5 = .ok (.astore_n 3, 1) := by decide +kernel
theorem dX6_answered_6 : decode cX6_answered 6 = .ok (.aload_n 3, 1) := by decide +kernel
theorem dX6_answered_7 : decode cX6_answered 7 = .ok (.ifnull 11, 3) := by decide +kernel
theorem dX6_answered_10 : decode cX6_answered 10 = .ok (.aload_n 3, 1) := by decide +kernel
theorem dX6_answered_11 : decode cX6_answered 11 = .ok (.iload_n 2, 1) := by decide +kernel
theorem dX6_answered_12 : decode cX6_answered 12 = .ok (.invokevirtual 101, 3) := by decide +kernel
theorem dX6_answered_15 : decode cX6_answered 15 = .ok (.ifCond .ne 10, 3) := by decide +kernel
theorem dX6_answered_18 : decode cX6_answered 18 = .ok (.aload_n 0, 1) := by decide +kernel
theorem dX6_answered_19 : decode cX6_answered 19 = .ok (.iconst (-1), 1) := by decide +kernel
theorem dX6_answered_20 : decode cX6_answered 20 = .ok (.putfield 114, 3) := by decide +kernel
theorem dX6_answered_23 : decode cX6_answered 23 = .ok (.iconst 0, 1) := by decide +kernel
theorem dX6_answered_24 : decode cX6_answered 24 = .ok (.ireturn, 1) := by decide +kernel
theorem dX6_answered_25 : decode cX6_answered 25 = .ok (.aload_n 3, 1) := by decide +kernel
theorem dX6_answered_26 : decode cX6_answered 26 = .ok (.iload_n 2, 1) := by decide +kernel
theorem dX6_answered_27 : decode cX6_answered 27 = .ok (.invokevirtual 104, 3) := by decide +kernel
theorem dX6_answered_30 : decode cX6_answered 30 = .ok (.ifCond .eq 11, 3) := by decide +kernel
theorem dX6_answered_33 : decode cX6_answered 33 = .ok (.aload_n 0, 1) := by decide +kernel
theorem dX6_answered_34 : decode cX6_answered 34 = .ok (.bipush (-3), 2) := by decide +kernel
theorem dX6_answered_36 : decode cX6_answered 36 = .ok (.putfield 114, 3) := by decide +kernel
theorem dX6_answered_39 : decode cX6_answered 39 = .ok (.iconst 0, 1) := by decide +kernel
theorem dX6_answered_40 : decode cX6_answered 40 = .ok (.ireturn, 1) := by decide +kernel
theorem dX6_answered_41 : decode cX6_answered 41 = .ok (.aload_n 0, 1) := by decide +kernel
theorem dX6_answered_42 : decode cX6_answered 42 = .ok (.iconst 0, 1) := by decide +kernel
theorem dX6_answered_43 : decode cX6_answered 43 = .ok (.putfield 114, 3) := by decide +kernel
theorem dX6_answered_46 : decode cX6_answered 46 = .ok (.aload_n 3, 1) := by decide +kernel
theorem dX6_answered_47 : decode cX6_answered 47 = .ok (.getfield 117, 3) := by decide +kernel
theorem dX6_answered_50 : decode cX6_answered 50 = .ok (.iload_n 2, 1) := by decide +kernel
theorem dX6_answered_51 : decode cX6_answered 51 = .ok (.iaload, 1) := by decide +kernel
theorem dX6_answered_52 : decode cX6_answered 52 = .ok (.ireturn, 1) := by decide +kernel
theorem dX6_call_0 : decode cX6_call 0 = .ok (.aload_n 0, 1) := by decide +kernel
theorem dX6_call_1 : decode cX6_call 1 = .ok (.iload_n 1, 1) := by decide +kernel
theorem dX6_call_2 : decode cX6_call 2 = .ok (.invokevirtual 76, 3) := by decide +kernel
theorem dX6_call_5 : decode cX6_call 5 = .ok (.astore 4, 2) := by decide +kernel
theorem dX6_call_7 : decode cX6_call 7 = .ok (.aload 4, 2) := by decide +kernel
theorem dX6_call_9 : decode cX6_call 9 = .ok (.ifnull 12, 3) := by decide +kernel
theorem dX6_call_12 : decode cX6_call 12 = .ok (.aload 4, 2) := by decide +kernel
theorem dX6_call_14 : decode cX6_call 14 = .ok (.iload_n 2, 1) := by decide +kernel
theorem dX6_call_15 : decode cX6_call 15 = .ok (.invokevirtual 101, 3) := by decide +kernel
theorem dX6_call_18 : decode cX6_call 18 = .ok (.ifCond .ne 5, 3) := by decide +kernel
theorem dX6_call_21 : decode cX6_call 21 = .ok (.iconst (-1), 1) := by decide +kernel
theorem dX6_call_22 : decode cX6_call 22 = .ok (.ireturn, 1) := by decide +kernel
theorem dX6_call_23 : decode cX6_call 23 = .ok (.iload_n 3, 1) := by decide +kernel
theorem dX6_call_24 : decode cX6_call 24 = .ok (.tableswitch 64 0 3 #[32, 40, 48, 56], 32) := by decide +kernel
theorem dX6_call_56 : decode cX6_call 56 = .ok (.aload 4, 2) := by decide +kernel
theorem dX6_call_58 : decode cX6_call 58 = .ok (.getfield 120, 3) := by decide +kernel
theorem dX6_call_61 : decode cX6_call 61 = .ok (.iload_n 2, 1) := by decide +kernel
theorem dX6_call_62 : decode cX6_call 62 = .ok (.iaload, 1) := by decide +kernel
theorem dX6_call_63 : decode cX6_call 63 = .ok (.ireturn, 1) := by decide +kernel
theorem dX6_call_64 : decode cX6_call 64 = .ok (.aload 4, 2) := by decide +kernel
theorem dX6_call_66 : decode cX6_call 66 = .ok (.getfield 123, 3) := by decide +kernel
theorem dX6_call_69 : decode cX6_call 69 = .ok (.iload_n 2, 1) := by decide +kernel
theorem dX6_call_70 : decode cX6_call 70 = .ok (.iaload, 1) := by decide +kernel
theorem dX6_call_71 : decode cX6_call 71 = .ok (.ireturn, 1) := by decide +kernel
theorem dX6_call_72 : decode cX6_call 72 = .ok (.aload 4, 2) := by decide +kernel
theorem dX6_call_74 : decode cX6_call 74 = .ok (.getfield 126, 3) := by decide +kernel
theorem dX6_call_77 : decode cX6_call 77 = .ok (.iload_n 2, 1) := by decide +kernel
theorem dX6_call_78 : decode cX6_call 78 = .ok (.iaload, 1) := by decide +kernel
theorem dX6_call_79 : decode cX6_call 79 = .ok (.ireturn, 1) := by decide +kernel
theorem dX6_call_80 : decode cX6_call 80 = .ok (.aload 4, 2) := by decide +kernel
theorem dX6_call_82 : decode cX6_call 82 = .ok (.getfield 129, 3) := by decide +kernel
theorem dX6_call_85 : decode cX6_call 85 = .ok (.iload_n 2, 1) := by decide +kernel
theorem dX6_call_86 : decode cX6_call 86 = .ok (.iaload, 1) := by decide +kernel
theorem dX6_call_87 : decode cX6_call 87 = .ok (.ireturn, 1) := by decide +kernel
theorem dX6_call_88 : decode cX6_call 88 = .ok (.iconst (-1), 1) := by decide +kernel
theorem dX6_call_89 : decode cX6_call 89 = .ok (.ireturn, 1) := by decide +kernel
theorem dX6_about_0 : decode cX6_about 0 = .ok (.aload_n 0, 1) := by decide +kernel
theorem dX6_about_1 : decode cX6_about 1 = .ok (.iload_n 1, 1) := by decide +kernel
theorem dX6_about_2 : decode cX6_about 2 = .ok (.invokevirtual 76, 3) := by decide +kernel
theorem dX6_about_5 : decode cX6_about 5 = .ok (.astore_n 3, 1) := by decide +kernel
theorem dX6_about_6 : decode cX6_about 6 = .ok (.aload_n 3, 1) := by decide +kernel
theorem dX6_about_7 : decode cX6_about 7 = .ok (.ifnonnull 5, 3) := by decide +kernel
theorem dX6_about_10 : decode cX6_about 10 = .ok (.iconst (-1), 1) := by decide +kernel
theorem dX6_about_11 : decode cX6_about 11 = .ok (.ireturn, 1) := by decide +kernel
theorem dX6_about_12 : decode cX6_about 12 = .ok (.iload_n 2, 1) := by decide +kernel
theorem dX6_about_13 : decode cX6_about 13 = .ok (.tableswitch 59 0 3 #[31, 36, 41, 54], 31) := by decide +kernel
theorem dX6_about_44 : decode cX6_about 44 = .ok (.aload_n 3, 1) := by decide +kernel
theorem dX6_about_45 : decode cX6_about 45 = .ok (.getfield 84, 3) := by decide +kernel
theorem dX6_about_48 : decode cX6_about 48 = .ok (.ireturn, 1) := by decide +kernel
theorem dX6_about_49 : decode cX6_about 49 = .ok (.aload_n 3, 1) := by decide +kernel
theorem dX6_about_50 : decode cX6_about 50 = .ok (.getfield 94, 3) := by decide +kernel
theorem dX6_about_53 : decode cX6_about 53 = .ok (.ireturn, 1) := by decide +kernel
theorem dX6_about_54 : decode cX6_about 54 = .ok (.aload_n 3, 1) := by decide +kernel
theorem dX6_about_55 : decode cX6_about 55 = .ok (.getfield 94, 3) := by decide +kernel
theorem dX6_about_58 : decode cX6_about 58 = .ok (.aload_n 3, 1) := by decide +kernel
theorem dX6_about_59 : decode cX6_about 59 = .ok (.invokevirtual 132, 3) := by decide +kernel
theorem dX6_about_62 : decode cX6_about 62 = .ok (.invokestatic 136, 3) := by decide +kernel
theorem dX6_about_65 : decode cX6_about 65 = .ok (.isub, 1) := by decide +kernel
theorem dX6_about_66 : decode cX6_about 66 = .ok (.ireturn, 1) := by decide +kernel
theorem dX6_about_67 : decode cX6_about 67 = .ok (.aload_n 3, 1) := by decide +kernel
theorem dX6_about_68 : decode cX6_about 68 = .ok (.getfield 142, 3) := by decide +kernel
theorem dX6_about_71 : decode cX6_about 71 = .ok (.ireturn, 1) := by decide +kernel
theorem dX6_about_72 : decode cX6_about 72 = .ok (.iconst (-1), 1) := by decide +kernel
theorem dX6_about_73 : decode cX6_about 73 = .ok (.ireturn, 1) := by decide +kernel
theorem dX6_ahead_0 : decode cX6_ahead 0 = .ok (.aload_n 0, 1) := by decide +kernel
theorem dX6_ahead_1 : decode cX6_ahead 1 = .ok (.iload_n 1, 1) := by decide +kernel
theorem dX6_ahead_2 : decode cX6_ahead 2 = .ok (.invokevirtual 76, 3) := by decide +kernel
theorem dX6_ahead_5 : decode cX6_ahead 5 = .ok (.astore 5, 2) := by decide +kernel
theorem dX6_ahead_7 : decode cX6_ahead 7 = .ok (.aload 5, 2) := by decide +kernel
theorem dX6_ahead_9 : decode cX6_ahead 9 = .ok (.ifnull 29, 3) := by decide +kernel
theorem dX6_ahead_12 : decode cX6_ahead 12 = .ok (.iload_n 2, 1) := by decide +kernel
theorem dX6_ahead_13 : decode cX6_ahead 13 = .ok (.invokestatic 145, 3) := by decide +kernel
theorem dX6_ahead_16 : decode cX6_ahead 16 = .ok (.ifCond .eq 22, 3) := by decide +kernel
theorem dX6_ahead_19 : decode cX6_ahead 19 = .ok (.aload 5, 2) := by decide +kernel
theorem dX6_ahead_21 : decode cX6_ahead 21 = .ok (.iload_n 3, 1) := by decide +kernel
theorem dX6_ahead_22 : decode cX6_ahead 22 = .ok (.invokevirtual 101, 3) := by decide +kernel
theorem dX6_ahead_25 : decode cX6_ahead 25 = .ok (.ifCond .eq 13, 3) := by decide +kernel
theorem dX6_ahead_28 : decode cX6_ahead 28 = .ok (.aload 5, 2) := by decide +kernel
theorem dX6_ahead_30 : decode cX6_ahead 30 = .ok (.iload 4, 2) := by decide +kernel
theorem dX6_ahead_32 : decode cX6_ahead 32 = .ok (.invokevirtual 101, 3) := by decide +kernel
theorem dX6_ahead_35 : decode cX6_ahead 35 = .ok (.ifCond .ne 5, 3) := by decide +kernel
theorem dX6_ahead_38 : decode cX6_ahead 38 = .ok (.iconst (-1), 1) := by decide +kernel
theorem dX6_ahead_39 : decode cX6_ahead 39 = .ok (.ireturn, 1) := by decide +kernel
theorem dX6_ahead_40 : decode cX6_ahead 40 = .ok (.aload 5, 2) := by decide +kernel
theorem dX6_ahead_42 : decode cX6_ahead 42 = .ok (.iload_n 2, 1) := by decide +kernel
theorem dX6_ahead_43 : decode cX6_ahead 43 = .ok (.aload 5, 2) := by decide +kernel
theorem dX6_ahead_45 : decode cX6_ahead 45 = .ok (.aload 5, 2) := by decide +kernel
theorem dX6_ahead_47 : decode cX6_ahead 47 = .ok (.invokevirtual 148, 3) := by decide +kernel
theorem dX6_ahead_50 : decode cX6_ahead 50 = .ok (.invokevirtual 151, 3) := by decide +kernel
theorem dX6_ahead_53 : decode cX6_ahead 53 = .ok (.iload_n 3, 1) := by decide +kernel
theorem dX6_ahead_54 : decode cX6_ahead 54 = .ok (.iload 4, 2) := by decide +kernel
theorem dX6_ahead_56 : decode cX6_ahead 56 = .ok (.invokevirtual 154, 3) := by decide +kernel
theorem dX6_ahead_59 : decode cX6_ahead 59 = .ok (.ifCond .eq 7, 3) := by decide +kernel
theorem dX6_ahead_62 : decode cX6_ahead 62 = .ok (.iconst 1, 1) := by decide +kernel
theorem dX6_ahead_63 : decode cX6_ahead 63 = .ok (.goto 4, 3) := by decide +kernel
theorem dX6_ahead_66 : decode cX6_ahead 66 = .ok (.iconst 0, 1) := by decide +kernel
theorem dX6_ahead_67 : decode cX6_ahead 67 = .ok (.ireturn, 1) := by decide +kernel
theorem dX6_judge_0 : decode cX6_judge 0 = .ok (.aload_n 0, 1) := by decide +kernel
theorem dX6_judge_1 : decode cX6_judge 1 = .ok (.iload_n 1, 1) := by decide +kernel
theorem dX6_judge_2 : decode cX6_judge 2 = .ok (.invokevirtual 76, 3) := by decide +kernel
theorem dX6_judge_5 : decode cX6_judge 5 = .ok (.astore_n 3, 1) := by decide +kernel
theorem dX6_judge_6 : decode cX6_judge 6 = .ok (.aload_n 3, 1) := by decide +kernel
theorem dX6_judge_7 : decode cX6_judge 7 = .ok (.ifnull 10, 3) := by decide +kernel
theorem dX6_judge_10 : decode cX6_judge 10 = .ok (.iload_n 2, 1) := by decide +kernel
theorem dX6_judge_11 : decode cX6_judge 11 = .ok (.invokestatic 145, 3) := by decide +kernel
theorem dX6_judge_14 : decode cX6_judge 14 = .ok (.ifCond .ne 5, 3) := by decide +kernel
theorem dX6_judge_17 : decode cX6_judge 17 = .ok (.iconst (-1), 1) := by decide +kernel
theorem dX6_judge_18 : decode cX6_judge 18 = .ok (.ireturn, 1) := by decide +kernel
theorem dX6_judge_19 : decode cX6_judge 19 = .ok (.aload_n 0, 1) := by decide +kernel
theorem dX6_judge_20 : decode cX6_judge 20 = .ok (.getfield 24, 3) := by decide +kernel
theorem dX6_judge_23 : decode cX6_judge 23 = .ok (.aload_n 3, 1) := by decide +kernel
theorem dX6_judge_24 : decode cX6_judge 24 = .ok (.iload_n 2, 1) := by decide +kernel
theorem dX6_judge_25 : decode cX6_judge 25 = .ok (.aload_n 3, 1) := by decide +kernel
theorem dX6_judge_26 : decode cX6_judge 26 = .ok (.invokevirtual 148, 3) := by decide +kernel
theorem dX6_judge_29 : decode cX6_judge 29 = .ok (.invokevirtual 158, 3) := by decide +kernel
theorem dX6_judge_32 : decode cX6_judge 32 = .ok (.ifCond .eq 7, 3) := by decide +kernel
theorem dX6_judge_35 : decode cX6_judge 35 = .ok (.iconst 1, 1) := by decide +kernel
theorem dX6_judge_36 : decode cX6_judge 36 = .ok (.goto 4, 3) := by decide +kernel
theorem dX6_judge_39 : decode cX6_judge 39 = .ok (.iconst 0, 1) := by decide +kernel
theorem dX6_judge_40 : decode cX6_judge 40 = .ok (.ireturn, 1) := by decide +kernel
theorem dX6_first_0 : decode cX6_first 0 = .ok (.aload_n 0, 1) := by decide +kernel
theorem dX6_first_1 : decode cX6_first 1 = .ok (.iload_n 1, 1) := by decide +kernel
theorem dX6_first_2 : decode cX6_first 2 = .ok (.invokevirtual 76, 3) := by decide +kernel
theorem dX6_first_5 : decode cX6_first 5 = .ok (.astore 4, 2) := by decide +kernel
theorem dX6_first_7 : decode cX6_first 7 = .ok (.aload 4, 2) := by decide +kernel
theorem dX6_first_9 : decode cX6_first 9 = .ok (.ifnull 20, 3) := by decide +kernel
theorem dX6_first_12 : decode cX6_first 12 = .ok (.iload_n 2, 1) := by decide +kernel
theorem dX6_first_13 : decode cX6_first 13 = .ok (.invokestatic 145, 3) := by decide +kernel
theorem dX6_first_16 : decode cX6_first 16 = .ok (.ifCond .eq 13, 3) := by decide +kernel
theorem dX6_first_19 : decode cX6_first 19 = .ok (.iload_n 3, 1) := by decide +kernel
theorem dX6_first_20 : decode cX6_first 20 = .ok (.ifCond .lt 9, 3) := by decide +kernel
theorem dX6_first_23 : decode cX6_first 23 = .ok (.iload_n 3, 1) := by decide +kernel
theorem dX6_first_24 : decode cX6_first 24 = .ok (.bipush 10, 2) := by decide +kernel
theorem dX6_first_26 : decode cX6_first 26 = .ok (.if_icmp .lt 5, 3) := by decide +kernel
theorem dX6_first_29 : decode cX6_first 29 = .ok (.iconst (-1), 1) := by decide +kernel
theorem dX6_first_30 : decode cX6_first 30 = .ok (.ireturn, 1) := by decide +kernel
theorem dX6_first_31 : decode cX6_first 31 = .ok (.aload_n 0, 1) := by decide +kernel
theorem dX6_first_32 : decode cX6_first 32 = .ok (.getfield 24, 3) := by decide +kernel
theorem dX6_first_35 : decode cX6_first 35 = .ok (.aload 4, 2) := by decide +kernel
theorem dX6_first_37 : decode cX6_first 37 = .ok (.iload_n 2, 1) := by decide +kernel
theorem dX6_first_38 : decode cX6_first 38 = .ok (.iload_n 3, 1) := by decide +kernel
theorem dX6_first_39 : decode cX6_first 39 = .ok (.invokevirtual 162, 3) := by decide +kernel
theorem dX6_first_42 : decode cX6_first 42 = .ok (.ireturn, 1) := by decide +kernel
theorem dX6_orders_0 : decode cX6_orders 0 = .ok (.aload_n 0, 1) := by decide +kernel
theorem dX6_orders_1 : decode cX6_orders 1 = .ok (.iload_n 1, 1) := by decide +kernel
theorem dX6_orders_2 : decode cX6_orders 2 = .ok (.invokevirtual 76, 3) := by decide +kernel
theorem dX6_orders_5 : decode cX6_orders 5 = .ok (.astore_n 3, 1) := by decide +kernel
theorem dX6_orders_6 : decode cX6_orders 6 = .ok (.aload_n 3, 1) := by decide +kernel
theorem dX6_orders_7 : decode cX6_orders 7 = .ok (.ifnull 10, 3) := by decide +kernel
theorem dX6_orders_10 : decode cX6_orders 10 = .ok (.iload_n 2, 1) := by decide +kernel
theorem dX6_orders_11 : decode cX6_orders 11 = .ok (.invokestatic 145, 3) := by decide +kernel
theorem dX6_orders_14 : decode cX6_orders 14 = .ok (.ifCond .ne 7, 3) := by decide +kernel
theorem dX6_orders_17 : decode cX6_orders 17 = .ok (.ldc2_w 166, 3) := by decide +kernel
theorem dX6_orders_20 : decode cX6_orders 20 = .ok (.lreturn, 1) := by decide +kernel
theorem dX6_orders_21 : decode cX6_orders 21 = .ok (.aload_n 0, 1) := by decide +kernel
theorem dX6_orders_22 : decode cX6_orders 22 = .ok (.getfield 24, 3) := by decide +kernel
theorem dX6_orders_25 : decode cX6_orders 25 = .ok (.aload_n 3, 1) := by decide +kernel
theorem dX6_orders_26 : decode cX6_orders 26 = .ok (.iload_n 2, 1) := by decide +kernel
theorem dX6_orders_27 : decode cX6_orders 27 = .ok (.invokevirtual 168, 3) := by decide +kernel
theorem dX6_orders_30 : decode cX6_orders 30 = .ok (.lreturn, 1) := by decide +kernel
theorem dX6_least_0 : decode cX6_least 0 = .ok (.aload_n 0, 1) := by decide +kernel
theorem dX6_least_1 : decode cX6_least 1 = .ok (.iload_n 1, 1) := by decide +kernel
theorem dX6_least_2 : decode cX6_least 2 = .ok (.invokevirtual 76, 3) := by decide +kernel
theorem dX6_least_5 : decode cX6_least 5 = .ok (.astore_n 3, 1) := by decide +kernel
theorem dX6_least_6 : decode cX6_least 6 = .ok (.aload_n 3, 1) := by decide +kernel
theorem dX6_least_7 : decode cX6_least 7 = .ok (.ifnull 10, 3) := by decide +kernel
theorem dX6_least_10 : decode cX6_least 10 = .ok (.iload_n 2, 1) := by decide +kernel
theorem dX6_least_11 : decode cX6_least 11 = .ok (.invokestatic 145, 3) := by decide +kernel
theorem dX6_least_14 : decode cX6_least 14 = .ok (.ifCond .ne 5, 3) := by decide +kernel
theorem dX6_least_17 : decode cX6_least 17 = .ok (.iconst (-1), 1) := by decide +kernel
theorem dX6_least_18 : decode cX6_least 18 = .ok (.ireturn, 1) := by decide +kernel
theorem dX6_least_19 : decode cX6_least 19 = .ok (.aload_n 0, 1) := by decide +kernel
theorem dX6_least_20 : decode cX6_least 20 = .ok (.aload_n 0, 1) := by decide +kernel
theorem dX6_least_21 : decode cX6_least 21 = .ok (.getfield 24, 3) := by decide +kernel
theorem dX6_least_24 : decode cX6_least 24 = .ok (.aload_n 3, 1) := by decide +kernel
theorem dX6_least_25 : decode cX6_least 25 = .ok (.iload_n 2, 1) := by decide +kernel
theorem dX6_least_26 : decode cX6_least 26 = .ok (.invokevirtual 172, 3) := by decide +kernel
theorem dX6_least_29 : decode cX6_least 29 = .ok (.putfield 176, 3) := by decide +kernel
theorem dX6_least_32 : decode cX6_least 32 = .ok (.aload_n 0, 1) := by decide +kernel
theorem dX6_least_33 : decode cX6_least 33 = .ok (.getfield 176, 3) := by decide +kernel
theorem dX6_least_36 : decode cX6_least 36 = .ok (.invokestatic 136, 3) := by decide +kernel
theorem dX6_least_39 : decode cX6_least 39 = .ok (.ireturn, 1) := by decide +kernel
theorem dX6_part_0 : decode cX6_part 0 = .ok (.iconst 0, 1) := by decide +kernel
theorem dX6_part_1 : decode cX6_part 1 = .ok (.istore_n 2, 1) := by decide +kernel
theorem dX6_part_2 : decode cX6_part 2 = .ok (.iconst 0, 1) := by decide +kernel
theorem dX6_part_3 : decode cX6_part 3 = .ok (.istore_n 3, 1) := by decide +kernel
theorem dX6_part_4 : decode cX6_part 4 = .ok (.iload_n 3, 1) := by decide +kernel
theorem dX6_part_5 : decode cX6_part 5 = .ok (.bipush 10, 2) := by decide +kernel
theorem dX6_part_7 : decode cX6_part 7 = .ok (.if_icmp .ge 30, 3) := by decide +kernel
theorem dX6_part_10 : decode cX6_part 10 = .ok (.aload_n 0, 1) := by decide +kernel
theorem dX6_part_11 : decode cX6_part 11 = .ok (.getfield 176, 3) := by decide +kernel
theorem dX6_part_14 : decode cX6_part 14 = .ok (.iload_n 3, 1) := by decide +kernel
theorem dX6_part_15 : decode cX6_part 15 = .ok (.invokestatic 178, 3) := by decide +kernel
theorem dX6_part_18 : decode cX6_part 18 = .ok (.ifCond .eq 13, 3) := by decide +kernel
theorem dX6_part_21 : decode cX6_part 21 = .ok (.iload_n 2, 1) := by decide +kernel
theorem dX6_part_22 : decode cX6_part 22 = .ok (.iload_n 1, 1) := by decide +kernel
theorem dX6_part_23 : decode cX6_part 23 = .ok (.if_icmp .ne 5, 3) := by decide +kernel
theorem dX6_part_26 : decode cX6_part 26 = .ok (.iload_n 3, 1) := by decide +kernel
theorem dX6_part_27 : decode cX6_part 27 = .ok (.ireturn, 1) := by decide +kernel
theorem dX6_part_28 : decode cX6_part 28 = .ok (.iinc 2 1, 3) := by decide +kernel
theorem dX6_part_31 : decode cX6_part 31 = .ok (.iinc 3 1, 3) := by decide +kernel
theorem dX6_part_34 : decode cX6_part 34 = .ok (.goto (-30), 3) := by decide +kernel
theorem dX6_part_37 : decode cX6_part 37 = .ok (.iconst (-1), 1) := by decide +kernel
theorem dX6_part_38 : decode cX6_part 38 = .ok (.ireturn, 1) := by decide +kernel
theorem dX6_fills_0 : decode cX6_fills 0 = .ok (.aload_n 0, 1) := by decide +kernel
theorem dX6_fills_1 : decode cX6_fills 1 = .ok (.iload_n 1, 1) := by decide +kernel
theorem dX6_fills_2 : decode cX6_fills 2 = .ok (.invokevirtual 76, 3) := by decide +kernel
theorem dX6_fills_5 : decode cX6_fills 5 = .ok (.astore 4, 2) := by decide +kernel
theorem dX6_fills_7 : decode cX6_fills 7 = .ok (.aload 4, 2) := by decide +kernel
theorem dX6_fills_9 : decode cX6_fills 9 = .ok (.ifnull 19, 3) := by decide +kernel
theorem dX6_fills_12 : decode cX6_fills 12 = .ok (.iload_n 2, 1) := by decide +kernel
theorem dX6_fills_13 : decode cX6_fills 13 = .ok (.invokestatic 145, 3) := by decide +kernel
theorem dX6_fills_16 : decode cX6_fills 16 = .ok (.ifCond .eq 12, 3) := by decide +kernel
theorem dX6_fills_19 : decode cX6_fills 19 = .ok (.aload 4, 2) := by decide +kernel
theorem dX6_fills_21 : decode cX6_fills 21 = .ok (.iload_n 3, 1) := by decide +kernel
theorem dX6_fills_22 : decode cX6_fills 22 = .ok (.invokevirtual 101, 3) := by decide +kernel
theorem dX6_fills_25 : decode cX6_fills 25 = .ok (.ifCond .ne 5, 3) := by decide +kernel
theorem dX6_fills_28 : decode cX6_fills 28 = .ok (.iconst (-1), 1) := by decide +kernel
theorem dX6_fills_29 : decode cX6_fills 29 = .ok (.ireturn, 1) := by decide +kernel
theorem dX6_fills_30 : decode cX6_fills 30 = .ok (.aload 4, 2) := by decide +kernel
theorem dX6_fills_32 : decode cX6_fills 32 = .ok (.iload_n 3, 1) := by decide +kernel
theorem dX6_fills_33 : decode cX6_fills 33 = .ok (.invokevirtual 104, 3) := by decide +kernel
theorem dX6_fills_36 : decode cX6_fills 36 = .ok (.ifCond .ne 6, 3) := by decide +kernel
theorem dX6_fills_39 : decode cX6_fills 39 = .ok (.bipush (-3), 2) := by decide +kernel
theorem dX6_fills_41 : decode cX6_fills 41 = .ok (.ireturn, 1) := by decide +kernel
theorem dX6_fills_42 : decode cX6_fills 42 = .ok (.aload_n 0, 1) := by decide +kernel
theorem dX6_fills_43 : decode cX6_fills 43 = .ok (.getfield 24, 3) := by decide +kernel
theorem dX6_fills_46 : decode cX6_fills 46 = .ok (.aload 4, 2) := by decide +kernel
theorem dX6_fills_48 : decode cX6_fills 48 = .ok (.iload_n 2, 1) := by decide +kernel
theorem dX6_fills_49 : decode cX6_fills 49 = .ok (.iload_n 3, 1) := by decide +kernel
theorem dX6_fills_50 : decode cX6_fills 50 = .ok (.aload_n 0, 1) := by decide +kernel
theorem dX6_fills_51 : decode cX6_fills 51 = .ok (.getfield 31, 3) := by decide +kernel
theorem dX6_fills_54 : decode cX6_fills 54 = .ok (.invokevirtual 182, 3) := by decide +kernel
theorem dX6_fills_57 : decode cX6_fills 57 = .ok (.aload_n 0, 1) := by decide +kernel
theorem dX6_fills_58 : decode cX6_fills 58 = .ok (.getfield 31, 3) := by decide +kernel
theorem dX6_fills_61 : decode cX6_fills 61 = .ok (.getfield 186, 3) := by decide +kernel
theorem dX6_fills_64 : decode cX6_fills 64 = .ok (.ireturn, 1) := by decide +kernel
theorem dX6_fill_0 : decode cX6_fill 0 = .ok (.iload_n 1, 1) := by decide +kernel
theorem dX6_fill_1 : decode cX6_fill 1 = .ok (.ifCond .lt 14, 3) := by decide +kernel
theorem dX6_fill_4 : decode cX6_fill 4 = .ok (.iload_n 1, 1) := by decide +kernel
theorem dX6_fill_5 : decode cX6_fill 5 = .ok (.aload_n 0, 1) := by decide +kernel
theorem dX6_fill_6 : decode cX6_fill 6 = .ok (.getfield 31, 3) := by decide +kernel
theorem dX6_fill_9 : decode cX6_fill 9 = .ok (.getfield 186, 3) := by decide +kernel
theorem dX6_fill_12 : decode cX6_fill 12 = .ok (.if_icmp .lt 10, 3) := by decide +kernel
theorem dX6_fill_15 : decode cX6_fill 15 = .ok (.aload_n 0, 1) := by decide +kernel
theorem dX6_fill_16 : decode cX6_fill 16 = .ok (.iconst (-1), 1) := by decide +kernel
theorem dX6_fill_17 : decode cX6_fill 17 = .ok (.putfield 114, 3) := by decide +kernel
theorem dX6_fill_20 : decode cX6_fill 20 = .ok (.iconst 0, 1) := by decide +kernel
theorem dX6_fill_21 : decode cX6_fill 21 = .ok (.ireturn, 1) := by decide +kernel
theorem dX6_fill_22 : decode cX6_fill 22 = .ok (.aload_n 0, 1) := by decide +kernel
theorem dX6_fill_23 : decode cX6_fill 23 = .ok (.iconst 0, 1) := by decide +kernel
theorem dX6_fill_24 : decode cX6_fill 24 = .ok (.putfield 114, 3) := by decide +kernel
theorem dX6_fill_27 : decode cX6_fill 27 = .ok (.aload_n 0, 1) := by decide +kernel
theorem dX6_fill_28 : decode cX6_fill 28 = .ok (.getfield 31, 3) := by decide +kernel
theorem dX6_fill_31 : decode cX6_fill 31 = .ok (.getfield 188, 3) := by decide +kernel
theorem dX6_fill_34 : decode cX6_fill 34 = .ok (.iload_n 1, 1) := by decide +kernel
theorem dX6_fill_35 : decode cX6_fill 35 = .ok (.iaload, 1) := by decide +kernel
theorem dX6_fill_36 : decode cX6_fill 36 = .ok (.ireturn, 1) := by decide +kernel
theorem dX6_apart_0 : decode cX6_apart 0 = .ok (.aload_n 0, 1) := by decide +kernel
theorem dX6_apart_1 : decode cX6_apart 1 = .ok (.iload_n 1, 1) := by decide +kernel
theorem dX6_apart_2 : decode cX6_apart 2 = .ok (.invokevirtual 76, 3) := by decide +kernel
theorem dX6_apart_5 : decode cX6_apart 5 = .ok (.astore 4, 2) := by decide +kernel
theorem dX6_apart_7 : decode cX6_apart 7 = .ok (.iload_n 3, 1) := by decide +kernel
theorem dX6_apart_8 : decode cX6_apart 8 = .ok (.ifCond .lt 12, 3) := by decide +kernel
theorem dX6_apart_11 : decode cX6_apart 11 = .ok (.iload_n 3, 1) := by decide +kernel
theorem dX6_apart_12 : decode cX6_apart 12 = .ok (.iconst 4, 1) := by decide +kernel
theorem dX6_apart_13 : decode cX6_apart 13 = .ok (.if_icmp .ge 7, 3) := by decide +kernel
theorem dX6_apart_16 : decode cX6_apart 16 = .ok (.iconst 1, 1) := by decide +kernel
theorem dX6_apart_17 : decode cX6_apart 17 = .ok (.goto 4, 3) := by decide +kernel
theorem dX6_apart_20 : decode cX6_apart 20 = .ok (.iconst 0, 1) := by decide +kernel
theorem dX6_apart_21 : decode cX6_apart 21 = .ok (.istore 5, 2) := by decide +kernel
theorem dX6_apart_23 : decode cX6_apart 23 = .ok (.aload 4, 2) := by decide +kernel
theorem dX6_apart_25 : decode cX6_apart 25 = .ok (.ifnull 24, 3) := by decide +kernel
theorem dX6_apart_28 : decode cX6_apart 28 = .ok (.iload_n 2, 1) := by decide +kernel
theorem dX6_apart_29 : decode cX6_apart 29 = .ok (.invokestatic 145, 3) := by decide +kernel
theorem dX6_apart_32 : decode cX6_apart 32 = .ok (.ifCond .eq 17, 3) := by decide +kernel
theorem dX6_apart_35 : decode cX6_apart 35 = .ok (.aload 4, 2) := by decide +kernel
theorem dX6_apart_37 : decode cX6_apart 37 = .ok (.getfield 84, 3) := by decide +kernel
theorem dX6_apart_40 : decode cX6_apart 40 = .ok (.iconst 5, 1) := by decide +kernel
theorem dX6_apart_41 : decode cX6_apart 41 = .ok (.if_icmp .ne 8, 3) := by decide +kernel
theorem dX6_apart_44 : decode cX6_apart 44 = .ok (.iload 5, 2) := by decide +kernel
theorem dX6_apart_46 : decode cX6_apart 46 = .ok (.ifCond .ne 5, 3) := by decide +kernel
theorem dX6_apart_49 : decode cX6_apart 49 = .ok (.iconst (-1), 1) := by decide +kernel
theorem dX6_apart_50 : decode cX6_apart 50 = .ok (.ireturn, 1) := by decide +kernel
theorem dX6_apart_51 : decode cX6_apart 51 = .ok (.aload_n 0, 1) := by decide +kernel
theorem dX6_apart_52 : decode cX6_apart 52 = .ok (.getfield 24, 3) := by decide +kernel
theorem dX6_apart_55 : decode cX6_apart 55 = .ok (.aload 4, 2) := by decide +kernel
theorem dX6_apart_57 : decode cX6_apart 57 = .ok (.iload_n 2, 1) := by decide +kernel
theorem dX6_apart_58 : decode cX6_apart 58 = .ok (.aload 4, 2) := by decide +kernel
theorem dX6_apart_60 : decode cX6_apart 60 = .ok (.iload_n 3, 1) := by decide +kernel
theorem dX6_apart_61 : decode cX6_apart 61 = .ok (.invokevirtual 191, 3) := by decide +kernel
theorem dX6_apart_64 : decode cX6_apart 64 = .ok (.invokevirtual 158, 3) := by decide +kernel
theorem dX6_apart_67 : decode cX6_apart 67 = .ok (.ifCond .eq 7, 3) := by decide +kernel
theorem dX6_apart_70 : decode cX6_apart 70 = .ok (.iconst 1, 1) := by decide +kernel
theorem dX6_apart_71 : decode cX6_apart 71 = .ok (.goto 4, 3) := by decide +kernel
theorem dX6_apart_74 : decode cX6_apart 74 = .ok (.iconst 0, 1) := by decide +kernel
theorem dX6_apart_75 : decode cX6_apart 75 = .ok (.ireturn, 1) := by decide +kernel
theorem dX6_rules_0 : decode cX6_rules 0 = .ok (.aload_n 0, 1) := by decide +kernel
theorem dX6_rules_1 : decode cX6_rules 1 = .ok (.iload_n 1, 1) := by decide +kernel
theorem dX6_rules_2 : decode cX6_rules 2 = .ok (.invokevirtual 76, 3) := by decide +kernel
theorem dX6_rules_5 : decode cX6_rules 5 = .ok (.astore_n 2, 1) := by decide +kernel
theorem dX6_rules_6 : decode cX6_rules 6 = .ok (.aload_n 2, 1) := by decide +kernel
theorem dX6_rules_7 : decode cX6_rules 7 = .ok (.ifnonnull 5, 3) := by decide +kernel
theorem dX6_rules_10 : decode cX6_rules 10 = .ok (.iconst (-1), 1) := by decide +kernel
theorem dX6_rules_11 : decode cX6_rules 11 = .ok (.ireturn, 1) := by decide +kernel
theorem dX6_rules_12 : decode cX6_rules 12 = .ok (.iconst 0, 1) := by decide +kernel
theorem dX6_rules_13 : decode cX6_rules 13 = .ok (.istore_n 3, 1) := by decide +kernel
theorem dX6_rules_14 : decode cX6_rules 14 = .ok (.iconst 0, 1) := by decide +kernel
theorem dX6_rules_15 : decode cX6_rules 15 = .ok (.istore 4, 2) := by decide +kernel
theorem dX6_rules_17 : decode cX6_rules 17 = .ok (.iload 4, 2) := by decide +kernel
theorem dX6_rules_19 : decode cX6_rules 19 = .ok (.iconst 3, 1) := by decide +kernel
theorem dX6_rules_20 : decode cX6_rules 20 = .ok (.if_icmp .ge 33, 3) := by decide +kernel
theorem dX6_rules_23 : decode cX6_rules 23 = .ok (.aload_n 0, 1) := by decide +kernel
theorem dX6_rules_24 : decode cX6_rules 24 = .ok (.getfield 24, 3) := by decide +kernel
theorem dX6_rules_27 : decode cX6_rules 27 = .ok (.aload_n 2, 1) := by decide +kernel
theorem dX6_rules_28 : decode cX6_rules 28 = .ok (.iload 4, 2) := by decide +kernel
theorem dX6_rules_30 : decode cX6_rules 30 = .ok (.aload_n 2, 1) := by decide +kernel
theorem dX6_rules_31 : decode cX6_rules 31 = .ok (.invokevirtual 148, 3) := by decide +kernel
theorem dX6_rules_34 : decode cX6_rules 34 = .ok (.invokevirtual 158, 3) := by decide +kernel
theorem dX6_rules_37 : decode cX6_rules 37 = .ok (.ifCond .eq 10, 3) := by decide +kernel
theorem dX6_rules_40 : decode cX6_rules 40 = .ok (.iload_n 3, 1) := by decide +kernel
theorem dX6_rules_41 : decode cX6_rules 41 = .ok (.iconst 1, 1) := by decide +kernel
theorem dX6_rules_42 : decode cX6_rules 42 = .ok (.iload 4, 2) := by decide +kernel
theorem dX6_rules_44 : decode cX6_rules 44 = .ok (.ishl, 1) := by decide +kernel
theorem dX6_rules_45 : decode cX6_rules 45 = .ok (.ior, 1) := by decide +kernel
theorem dX6_rules_46 : decode cX6_rules 46 = .ok (.istore_n 3, 1) := by decide +kernel
theorem dX6_rules_47 : decode cX6_rules 47 = .ok (.iinc 4 1, 3) := by decide +kernel
theorem dX6_rules_50 : decode cX6_rules 50 = .ok (.goto (-33), 3) := by decide +kernel
theorem dX6_rules_53 : decode cX6_rules 53 = .ok (.iload_n 3, 1) := by decide +kernel
theorem dX6_rules_54 : decode cX6_rules 54 = .ok (.ireturn, 1) := by decide +kernel
theorem dX6_say_0 : decode cX6_say 0 = .ok (.iload_n 1, 1) := by decide +kernel
theorem dX6_say_1 : decode cX6_say 1 = .ok (.ifCond .lt 9, 3) := by decide +kernel
theorem dX6_say_4 : decode cX6_say 4 = .ok (.iload_n 1, 1) := by decide +kernel
theorem dX6_say_5 : decode cX6_say 5 = .ok (.bipush 10, 2) := by decide +kernel
theorem dX6_say_7 : decode cX6_say 7 = .ok (.if_icmp .lt 6, 3) := by decide +kernel
theorem dX6_say_10 : decode cX6_say 10 = .ok (.bipush (-2), 2) := by decide +kernel
theorem dX6_say_12 : decode cX6_say 12 = .ok (.ireturn, 1) := by decide +kernel
theorem dX6_say_13 : decode cX6_say 13 = .ok (.aload_n 0, 1) := by decide +kernel
theorem dX6_say_14 : decode cX6_say 14 = .ok (.getfield 194, 3) := by decide +kernel
theorem dX6_say_17 : decode cX6_say 17 = .ok (.bipush 10, 2) := by decide +kernel
theorem dX6_say_19 : decode cX6_say 19 = .ok (.if_icmp .lt 6, 3) := by decide +kernel
theorem dX6_say_22 : decode cX6_say 22 = .ok (.bipush (-4), 2) := by decide +kernel
theorem dX6_say_24 : decode cX6_say 24 = .ok (.ireturn, 1) := by decide +kernel
theorem dX6_say_25 : decode cX6_say 25 = .ok (.aload_n 0, 1) := by decide +kernel
theorem dX6_say_26 : decode cX6_say 26 = .ok (.getfield 35, 3) := by decide +kernel
theorem dX6_say_29 : decode cX6_say 29 = .ok (.aload_n 0, 1) := by decide +kernel
theorem dX6_say_30 : decode cX6_say 30 = .ok (.getfield 194, 3) := by decide +kernel
theorem dX6_say_33 : decode cX6_say 33 = .ok (.iload_n 1, 1) := by decide +kernel
theorem dX6_say_34 : decode cX6_say 34 = .ok (.iastore, 1) := by decide +kernel
theorem dX6_say_35 : decode cX6_say 35 = .ok (.aload_n 0, 1) := by decide +kernel
theorem dX6_say_36 : decode cX6_say 36 = .ok (.dup, 1) := by decide +kernel
theorem dX6_say_37 : decode cX6_say 37 = .ok (.getfield 194, 3) := by decide +kernel
theorem dX6_say_40 : decode cX6_say 40 = .ok (.iconst 1, 1) := by decide +kernel
theorem dX6_say_41 : decode cX6_say 41 = .ok (.iadd, 1) := by decide +kernel
theorem dX6_say_42 : decode cX6_say 42 = .ok (.putfield 194, 3) := by decide +kernel
theorem dX6_say_45 : decode cX6_say 45 = .ok (.aload_n 0, 1) := by decide +kernel
theorem dX6_say_46 : decode cX6_say 46 = .ok (.getfield 194, 3) := by decide +kernel
theorem dX6_say_49 : decode cX6_say 49 = .ok (.ireturn, 1) := by decide +kernel
theorem dX6_check_0 : decode cX6_check 0 = .ok (.aload_n 0, 1) := by decide +kernel
theorem dX6_check_1 : decode cX6_check 1 = .ok (.iload_n 1, 1) := by decide +kernel
theorem dX6_check_2 : decode cX6_check 2 = .ok (.invokevirtual 76, 3) := by decide +kernel
theorem dX6_check_5 : decode cX6_check 5 = .ok (.astore_n 3, 1) := by decide +kernel
theorem dX6_check_6 : decode cX6_check 6 = .ok (.aload_n 3, 1) := by decide +kernel
theorem dX6_check_7 : decode cX6_check 7 = .ok (.ifnull 10, 3) := by decide +kernel
theorem dX6_check_10 : decode cX6_check 10 = .ok (.iload_n 2, 1) := by decide +kernel
theorem dX6_check_11 : decode cX6_check 11 = .ok (.invokestatic 145, 3) := by decide +kernel
theorem dX6_check_14 : decode cX6_check 14 = .ok (.ifCond .ne 5, 3) := by decide +kernel
theorem dX6_check_17 : decode cX6_check 17 = .ok (.iconst (-1), 1) := by decide +kernel
theorem dX6_check_18 : decode cX6_check 18 = .ok (.ireturn, 1) := by decide +kernel
theorem dX6_check_19 : decode cX6_check 19 = .ok (.aload_n 0, 1) := by decide +kernel
theorem dX6_check_20 : decode cX6_check 20 = .ok (.getfield 194, 3) := by decide +kernel
theorem dX6_check_23 : decode cX6_check 23 = .ok (.istore 4, 2) := by decide +kernel
theorem dX6_check_25 : decode cX6_check 25 = .ok (.aload_n 0, 1) := by decide +kernel
theorem dX6_check_26 : decode cX6_check 26 = .ok (.iconst 0, 1) := by decide +kernel
theorem dX6_check_27 : decode cX6_check 27 = .ok (.putfield 194, 3) := by decide +kernel
theorem dX6_check_30 : decode cX6_check 30 = .ok (.aload_n 0, 1) := by decide +kernel
theorem dX6_check_31 : decode cX6_check 31 = .ok (.getfield 24, 3) := by decide +kernel
theorem dX6_check_34 : decode cX6_check 34 = .ok (.aload_n 3, 1) := by decide +kernel
theorem dX6_check_35 : decode cX6_check 35 = .ok (.iload_n 2, 1) := by decide +kernel
theorem dX6_check_36 : decode cX6_check 36 = .ok (.aload_n 0, 1) := by decide +kernel
theorem dX6_check_37 : decode cX6_check 37 = .ok (.getfield 35, 3) := by decide +kernel
theorem dX6_check_40 : decode cX6_check 40 = .ok (.iload 4, 2) := by decide +kernel
theorem dX6_check_42 : decode cX6_check 42 = .ok (.invokevirtual 197, 3) := by decide +kernel
theorem dX6_check_45 : decode cX6_check 45 = .ok (.ireturn, 1) := by decide +kernel
theorem dX6_tableOf_0 : decode cX6_tableOf 0 = .ok (.iload_n 1, 1) := by decide +kernel
theorem dX6_tableOf_1 : decode cX6_tableOf 1 = .ok (.ifCond .lt 20, 3) := by decide +kernel
theorem dX6_tableOf_4 : decode cX6_tableOf 4 = .ok (.iload_n 1, 1) := by decide +kernel
theorem dX6_tableOf_5 : decode cX6_tableOf 5 = .ok (.aload_n 0, 1) := by decide +kernel
theorem dX6_tableOf_6 : decode cX6_tableOf 6 = .ok (.getfield 39, 3) := by decide +kernel
theorem dX6_tableOf_9 : decode cX6_tableOf 9 = .ok (.if_icmp .ge 12, 3) := by decide +kernel
theorem dX6_tableOf_12 : decode cX6_tableOf 12 = .ok (.aload_n 0, 1) := by decide +kernel
theorem dX6_tableOf_13 : decode cX6_tableOf 13 = .ok (.getfield 11, 3) := by decide +kernel
theorem dX6_tableOf_16 : decode cX6_tableOf 16 = .ok (.iload_n 1, 1) := by decide +kernel
theorem dX6_tableOf_17 : decode cX6_tableOf 17 = .ok (.aaload, 1) := by decide +kernel
theorem dX6_tableOf_18 : decode cX6_tableOf 18 = .ok (.goto 4, 3) := by decide +kernel
theorem dX6_tableOf_21 : decode cX6_tableOf 21 = .ok (.aconst_null, 1) := by decide +kernel
theorem dX6_tableOf_22 : decode cX6_tableOf 22 = .ok (.areturn, 1) := by decide +kernel
theorem dX6_historyOf_0 : decode cX6_historyOf 0 = .ok (.iload_n 1, 1) := by decide +kernel
theorem dX6_historyOf_1 : decode cX6_historyOf 1 = .ok (.ifCond .lt 20, 3) := by decide +kernel
theorem dX6_historyOf_4 : decode cX6_historyOf 4 = .ok (.iload_n 1, 1) := by decide +kernel
theorem dX6_historyOf_5 : decode cX6_historyOf 5 = .ok (.aload_n 0, 1) := by decide +kernel
theorem dX6_historyOf_6 : decode cX6_historyOf 6 = .ok (.getfield 66, 3) := by decide +kernel
theorem dX6_historyOf_9 : decode cX6_historyOf 9 = .ok (.if_icmp .ge 12, 3) := by decide +kernel
theorem dX6_historyOf_12 : decode cX6_historyOf 12 = .ok (.aload_n 0, 1) := by decide +kernel
theorem dX6_historyOf_13 : decode cX6_historyOf 13 = .ok (.getfield 17, 3) := by decide +kernel
theorem dX6_historyOf_16 : decode cX6_historyOf 16 = .ok (.iload_n 1, 1) := by decide +kernel
theorem dX6_historyOf_17 : decode cX6_historyOf 17 = .ok (.aaload, 1) := by decide +kernel
theorem dX6_historyOf_18 : decode cX6_historyOf 18 = .ok (.goto 4, 3) := by decide +kernel
theorem dX6_historyOf_21 : decode cX6_historyOf 21 = .ok (.aconst_null, 1) := by decide +kernel
theorem dX6_historyOf_22 : decode cX6_historyOf 22 = .ok (.areturn, 1) := by decide +kernel
theorem dX6_keep_0 : decode cX6_keep 0 = .ok (.aload_n 0, 1) := by decide +kernel
theorem dX6_keep_1 : decode cX6_keep 1 = .ok (.getfield 66, 3) := by decide +kernel
theorem dX6_keep_4 : decode cX6_keep 4 = .ok (.bipush 12, 2) := by decide +kernel
theorem dX6_keep_6 : decode cX6_keep 6 = .ok (.if_icmp .lt 6, 3) := by decide +kernel
theorem dX6_keep_9 : decode cX6_keep 9 = .ok (.bipush (-4), 2) := by decide +kernel
theorem dX6_keep_11 : decode cX6_keep 11 = .ok (.ireturn, 1) := by decide +kernel
theorem dX6_keep_12 : decode cX6_keep 12 = .ok (.aload_n 0, 1) := by decide +kernel
theorem dX6_keep_13 : decode cX6_keep 13 = .ok (.getfield 17, 3) := by decide +kernel
theorem dX6_keep_16 : decode cX6_keep 16 = .ok (.aload_n 0, 1) := by decide +kernel
theorem dX6_keep_17 : decode cX6_keep 17 = .ok (.getfield 66, 3) := by decide +kernel
theorem dX6_keep_20 : decode cX6_keep 20 = .ok (.aload_n 1, 1) := by decide +kernel
theorem dX6_keep_21 : decode cX6_keep 21 = .ok (.aastore, 1) := by decide +kernel
theorem dX6_keep_22 : decode cX6_keep 22 = .ok (.aload_n 0, 1) := by decide +kernel
theorem dX6_keep_23 : decode cX6_keep 23 = .ok (.dup, 1) := by decide +kernel
theorem dX6_keep_24 : decode cX6_keep 24 = .ok (.getfield 66, 3) := by decide +kernel
theorem dX6_keep_27 : decode cX6_keep 27 = .ok (.iconst 1, 1) := by decide +kernel
theorem dX6_keep_28 : decode cX6_keep 28 = .ok (.iadd, 1) := by decide +kernel
theorem dX6_keep_29 : decode cX6_keep 29 = .ok (.putfield 66, 3) := by decide +kernel
theorem dX6_keep_32 : decode cX6_keep 32 = .ok (.aload_n 0, 1) := by decide +kernel
theorem dX6_keep_33 : decode cX6_keep 33 = .ok (.getfield 66, 3) := by decide +kernel
theorem dX6_keep_36 : decode cX6_keep 36 = .ok (.iconst 1, 1) := by decide +kernel
theorem dX6_keep_37 : decode cX6_keep 37 = .ok (.isub, 1) := by decide +kernel
theorem dX6_keep_38 : decode cX6_keep 38 = .ok (.ireturn, 1) := by decide +kernel
theorem dX6_isRule_0 : decode cX6_isRule 0 = .ok (.iload_n 0, 1) := by decide +kernel
theorem dX6_isRule_1 : decode cX6_isRule 1 = .ok (.ifCond .lt 12, 3) := by decide +kernel
theorem dX6_isRule_4 : decode cX6_isRule 4 = .ok (.iload_n 0, 1) := by decide +kernel
theorem dX6_isRule_5 : decode cX6_isRule 5 = .ok (.iconst 3, 1) := by decide +kernel
theorem dX6_isRule_6 : decode cX6_isRule 6 = .ok (.if_icmp .ge 7, 3) := by decide +kernel
theorem dX6_isRule_9 : decode cX6_isRule 9 = .ok (.iconst 1, 1) := by decide +kernel
theorem dX6_isRule_10 : decode cX6_isRule 10 = .ok (.goto 4, 3) := by decide +kernel
theorem dX6_isRule_13 : decode cX6_isRule 13 = .ok (.iconst 0, 1) := by decide +kernel
theorem dX6_isRule_14 : decode cX6_isRule 14 = .ok (.ireturn, 1) := by decide +kernel
theorem dX6_holds_0 : decode cX6_holds 0 = .ok (.iload_n 0, 1) := by decide +kernel
theorem dX6_holds_1 : decode cX6_holds 1 = .ok (.iload_n 1, 1) := by decide +kernel
theorem dX6_holds_2 : decode cX6_holds 2 = .ok (.ishr, 1) := by decide +kernel
theorem dX6_holds_3 : decode cX6_holds 3 = .ok (.iconst 1, 1) := by decide +kernel
theorem dX6_holds_4 : decode cX6_holds 4 = .ok (.iand, 1) := by decide +kernel
theorem dX6_holds_5 : decode cX6_holds 5 = .ok (.ifCond .eq 7, 3) := by decide +kernel
theorem dX6_holds_8 : decode cX6_holds 8 = .ok (.iconst 1, 1) := by decide +kernel
theorem dX6_holds_9 : decode cX6_holds 9 = .ok (.goto 4, 3) := by decide +kernel
theorem dX6_holds_12 : decode cX6_holds 12 = .ok (.iconst 0, 1) := by decide +kernel
theorem dX6_holds_13 : decode cX6_holds 13 = .ok (.ireturn, 1) := by decide +kernel
end
section
theorem dL_law_0 : decode cL_law 0 = .ok (.new 7, 3) := by decide +kernel
theorem dL_law_3 : decode cL_law 3 = .ok (.dup, 1) := by decide +kernel
theorem dL_law_4 : decode cL_law 4 = .ok (.invokespecial 9, 3) := by decide +kernel
theorem dL_law_7 : decode cL_law 7 = .ok (.astore_n 1, 1) := by decide +kernel
theorem dL_law_8 : decode cL_law 8 = .ok (.new 10, 3) := by decide +kernel
theorem dL_law_11 : decode cL_law 11 = .ok (.dup, 1) := by decide +kernel
theorem dL_law_12 : decode cL_law 12 = .ok (.invokespecial 12, 3) := by decide +kernel
theorem dL_law_15 : decode cL_law 15 = .ok (.astore_n 2, 1) := by decide +kernel
theorem dL_law_16 : decode cL_law 16 = .ok (.iconst 0, 1) := by decide +kernel
theorem dL_law_17 : decode cL_law 17 = .ok (.istore_n 3, 1) := by decide +kernel
theorem dL_law_18 : decode cL_law 18 = .ok (.iload_n 3, 1) := by decide +kernel
theorem dL_law_19 : decode cL_law 19 = .ok (.aload_n 0, 1) := by decide +kernel
theorem dL_law_20 : decode cL_law 20 = .ok (.arraylength, 1) := by decide +kernel
theorem dL_law_21 : decode cL_law 21 = .ok (.bipush 6, 2) := by decide +kernel
theorem dL_law_23 : decode cL_law 23 = .ok (.isub, 1) := by decide +kernel
theorem dL_law_24 : decode cL_law 24 = .ok (.if_icmp .gt 932, 3) := by decide +kernel
theorem dL_law_27 : decode cL_law 27 = .ok (.aload_n 0, 1) := by decide +kernel
theorem dL_law_28 : decode cL_law 28 = .ok (.iload_n 3, 1) := by decide +kernel
theorem dL_law_29 : decode cL_law 29 = .ok (.iaload, 1) := by decide +kernel
theorem dL_law_30 : decode cL_law 30 = .ok (.bipush 31, 2) := by decide +kernel
theorem dL_law_32 : decode cL_law 32 = .ok (.iand, 1) := by decide +kernel
theorem dL_law_33 : decode cL_law 33 = .ok (.tableswitch 917 0 22 #[107, 120, 183, 216, 239, 302, 345, 388, 401, 434, 477, 510, 563, 596, 639, 673, 706, 729, 772, 795, 838, 861, 884], 107) := by decide +kernel
theorem dL_law_140 : decode cL_law 140 = .ok (.aload_n 1, 1) := by decide +kernel
theorem dL_law_141 : decode cL_law 141 = .ok (.invokevirtual 13, 3) := by decide +kernel
theorem dL_law_144 : decode cL_law 144 = .ok (.aload_n 2, 1) := by decide +kernel
theorem dL_law_145 : decode cL_law 145 = .ok (.invokevirtual 17, 3) := by decide +kernel
theorem dL_law_148 : decode cL_law 148 = .ok (.if_icmp .eq 802, 3) := by decide +kernel
theorem dL_law_151 : decode cL_law 151 = .ok (.iconst 0, 1) := by decide +kernel
theorem dL_law_152 : decode cL_law 152 = .ok (.ireturn, 1) := by decide +kernel
theorem dL_law_153 : decode cL_law 153 = .ok (.aload_n 1, 1) := by decide +kernel
theorem dL_law_154 : decode cL_law 154 = .ok (.aload_n 0, 1) := by decide +kernel
theorem dL_law_155 : decode cL_law 155 = .ok (.iload_n 3, 1) := by decide +kernel
theorem dL_law_156 : decode cL_law 156 = .ok (.iconst 1, 1) := by decide +kernel
theorem dL_law_157 : decode cL_law 157 = .ok (.iadd, 1) := by decide +kernel
theorem dL_law_158 : decode cL_law 158 = .ok (.iaload, 1) := by decide +kernel
theorem dL_law_159 : decode cL_law 159 = .ok (.aload_n 0, 1) := by decide +kernel
theorem dL_law_160 : decode cL_law 160 = .ok (.iload_n 3, 1) := by decide +kernel
theorem dL_law_161 : decode cL_law 161 = .ok (.iconst 2, 1) := by decide +kernel
theorem dL_law_162 : decode cL_law 162 = .ok (.iadd, 1) := by decide +kernel
theorem dL_law_163 : decode cL_law 163 = .ok (.iaload, 1) := by decide +kernel
theorem dL_law_164 : decode cL_law 164 = .ok (.aload_n 0, 1) := by decide +kernel
theorem dL_law_165 : decode cL_law 165 = .ok (.iload_n 3, 1) := by decide +kernel
theorem dL_law_166 : decode cL_law 166 = .ok (.iconst 3, 1) := by decide +kernel
theorem dL_law_167 : decode cL_law 167 = .ok (.iadd, 1) := by decide +kernel
theorem dL_law_168 : decode cL_law 168 = .ok (.iaload, 1) := by decide +kernel
theorem dL_law_169 : decode cL_law 169 = .ok (.aload_n 0, 1) := by decide +kernel
theorem dL_law_170 : decode cL_law 170 = .ok (.iload_n 3, 1) := by decide +kernel
theorem dL_law_171 : decode cL_law 171 = .ok (.iconst 4, 1) := by decide +kernel
theorem dL_law_172 : decode cL_law 172 = .ok (.iadd, 1) := by decide +kernel
theorem dL_law_173 : decode cL_law 173 = .ok (.iaload, 1) := by decide +kernel
theorem dL_law_174 : decode cL_law 174 = .ok (.aload_n 0, 1) := by decide +kernel
theorem dL_law_175 : decode cL_law 175 = .ok (.iload_n 3, 1) := by decide +kernel
theorem dL_law_176 : decode cL_law 176 = .ok (.iconst 5, 1) := by decide +kernel
theorem dL_law_177 : decode cL_law 177 = .ok (.iadd, 1) := by decide +kernel
theorem dL_law_178 : decode cL_law 178 = .ok (.iaload, 1) := by decide +kernel
theorem dL_law_179 : decode cL_law 179 = .ok (.invokevirtual 18, 3) := by decide +kernel
theorem dL_law_182 : decode cL_law 182 = .ok (.aload_n 2, 1) := by decide +kernel
theorem dL_law_183 : decode cL_law 183 = .ok (.aload_n 0, 1) := by decide +kernel
theorem dL_law_184 : decode cL_law 184 = .ok (.iload_n 3, 1) := by decide +kernel
theorem dL_law_185 : decode cL_law 185 = .ok (.iconst 1, 1) := by decide +kernel
theorem dL_law_186 : decode cL_law 186 = .ok (.iadd, 1) := by decide +kernel
theorem dL_law_187 : decode cL_law 187 = .ok (.iaload, 1) := by decide +kernel
theorem dL_law_188 : decode cL_law 188 = .ok (.aload_n 0, 1) := by decide +kernel
theorem dL_law_189 : decode cL_law 189 = .ok (.iload_n 3, 1) := by decide +kernel
theorem dL_law_190 : decode cL_law 190 = .ok (.iconst 2, 1) := by decide +kernel
theorem dL_law_191 : decode cL_law 191 = .ok (.iadd, 1) := by decide +kernel
theorem dL_law_192 : decode cL_law 192 = .ok (.iaload, 1) := by decide +kernel
theorem dL_law_193 : decode cL_law 193 = .ok (.aload_n 0, 1) := by decide +kernel
theorem dL_law_194 : decode cL_law 194 = .ok (.iload_n 3, 1) := by decide +kernel
theorem dL_law_195 : decode cL_law 195 = .ok (.iconst 3, 1) := by decide +kernel
theorem dL_law_196 : decode cL_law 196 = .ok (.iadd, 1) := by decide +kernel
theorem dL_law_197 : decode cL_law 197 = .ok (.iaload, 1) := by decide +kernel
theorem dL_law_198 : decode cL_law 198 = .ok (.aload_n 0, 1) := by decide +kernel
theorem dL_law_199 : decode cL_law 199 = .ok (.iload_n 3, 1) := by decide +kernel
theorem dL_law_200 : decode cL_law 200 = .ok (.iconst 4, 1) := by decide +kernel
theorem dL_law_201 : decode cL_law 201 = .ok (.iadd, 1) := by decide +kernel
theorem dL_law_202 : decode cL_law 202 = .ok (.iaload, 1) := by decide +kernel
theorem dL_law_203 : decode cL_law 203 = .ok (.aload_n 0, 1) := by decide +kernel
theorem dL_law_204 : decode cL_law 204 = .ok (.iload_n 3, 1) := by decide +kernel
theorem dL_law_205 : decode cL_law 205 = .ok (.iconst 5, 1) := by decide +kernel
theorem dL_law_206 : decode cL_law 206 = .ok (.iadd, 1) := by decide +kernel
theorem dL_law_207 : decode cL_law 207 = .ok (.iaload, 1) := by decide +kernel
theorem dL_law_208 : decode cL_law 208 = .ok (.invokevirtual 22, 3) := by decide +kernel
theorem dL_law_211 : decode cL_law 211 = .ok (.if_icmp .eq 739, 3) := by decide +kernel
theorem dL_law_214 : decode cL_law 214 = .ok (.iconst 0, 1) := by decide +kernel
theorem dL_law_215 : decode cL_law 215 = .ok (.ireturn, 1) := by decide +kernel
theorem dL_law_216 : decode cL_law 216 = .ok (.aload_n 1, 1) := by decide +kernel
theorem dL_law_217 : decode cL_law 217 = .ok (.aload_n 0, 1) := by decide +kernel
theorem dL_law_218 : decode cL_law 218 = .ok (.iload_n 3, 1) := by decide +kernel
theorem dL_law_219 : decode cL_law 219 = .ok (.iconst 1, 1) := by decide +kernel
theorem dL_law_220 : decode cL_law 220 = .ok (.iadd, 1) := by decide +kernel
theorem dL_law_221 : decode cL_law 221 = .ok (.iaload, 1) := by decide +kernel
theorem dL_law_222 : decode cL_law 222 = .ok (.aload_n 0, 1) := by decide +kernel
theorem dL_law_223 : decode cL_law 223 = .ok (.iload_n 3, 1) := by decide +kernel
theorem dL_law_224 : decode cL_law 224 = .ok (.iconst 2, 1) := by decide +kernel
theorem dL_law_225 : decode cL_law 225 = .ok (.iadd, 1) := by decide +kernel
theorem dL_law_226 : decode cL_law 226 = .ok (.iaload, 1) := by decide +kernel
theorem dL_law_227 : decode cL_law 227 = .ok (.invokevirtual 23, 3) := by decide +kernel
theorem dL_law_230 : decode cL_law 230 = .ok (.aload_n 2, 1) := by decide +kernel
theorem dL_law_231 : decode cL_law 231 = .ok (.aload_n 0, 1) := by decide +kernel
theorem dL_law_232 : decode cL_law 232 = .ok (.iload_n 3, 1) := by decide +kernel
theorem dL_law_233 : decode cL_law 233 = .ok (.iconst 1, 1) := by decide +kernel
theorem dL_law_234 : decode cL_law 234 = .ok (.iadd, 1) := by decide +kernel
theorem dL_law_235 : decode cL_law 235 = .ok (.iaload, 1) := by decide +kernel
theorem dL_law_236 : decode cL_law 236 = .ok (.aload_n 0, 1) := by decide +kernel
theorem dL_law_237 : decode cL_law 237 = .ok (.iload_n 3, 1) := by decide +kernel
theorem dL_law_238 : decode cL_law 238 = .ok (.iconst 2, 1) := by decide +kernel
theorem dL_law_239 : decode cL_law 239 = .ok (.iadd, 1) := by decide +kernel
theorem dL_law_240 : decode cL_law 240 = .ok (.iaload, 1) := by decide +kernel
theorem dL_law_241 : decode cL_law 241 = .ok (.invokevirtual 27, 3) := by decide +kernel
theorem dL_law_244 : decode cL_law 244 = .ok (.if_icmp .eq 706, 3) := by decide +kernel
theorem dL_law_247 : decode cL_law 247 = .ok (.iconst 0, 1) := by decide +kernel
theorem dL_law_248 : decode cL_law 248 = .ok (.ireturn, 1) := by decide +kernel
theorem dL_law_249 : decode cL_law 249 = .ok (.aload_n 1, 1) := by decide +kernel
theorem dL_law_250 : decode cL_law 250 = .ok (.aload_n 0, 1) := by decide +kernel
theorem dL_law_251 : decode cL_law 251 = .ok (.iload_n 3, 1) := by decide +kernel
theorem dL_law_252 : decode cL_law 252 = .ok (.iconst 1, 1) := by decide +kernel
theorem dL_law_253 : decode cL_law 253 = .ok (.iadd, 1) := by decide +kernel
theorem dL_law_254 : decode cL_law 254 = .ok (.iaload, 1) := by decide +kernel
theorem dL_law_255 : decode cL_law 255 = .ok (.invokevirtual 28, 3) := by decide +kernel
theorem dL_law_258 : decode cL_law 258 = .ok (.aload_n 2, 1) := by decide +kernel
theorem dL_law_259 : decode cL_law 259 = .ok (.aload_n 0, 1) := by decide +kernel
theorem dL_law_260 : decode cL_law 260 = .ok (.iload_n 3, 1) := by decide +kernel
theorem dL_law_261 : decode cL_law 261 = .ok (.iconst 1, 1) := by decide +kernel
theorem dL_law_262 : decode cL_law 262 = .ok (.iadd, 1) := by decide +kernel
theorem dL_law_263 : decode cL_law 263 = .ok (.iaload, 1) := by decide +kernel
theorem dL_law_264 : decode cL_law 264 = .ok (.invokevirtual 32, 3) := by decide +kernel
theorem dL_law_267 : decode cL_law 267 = .ok (.if_icmp .eq 683, 3) := by decide +kernel
theorem dL_law_270 : decode cL_law 270 = .ok (.iconst 0, 1) := by decide +kernel
theorem dL_law_271 : decode cL_law 271 = .ok (.ireturn, 1) := by decide +kernel
theorem dL_law_272 : decode cL_law 272 = .ok (.aload_n 1, 1) := by decide +kernel
theorem dL_law_273 : decode cL_law 273 = .ok (.aload_n 0, 1) := by decide +kernel
theorem dL_law_274 : decode cL_law 274 = .ok (.iload_n 3, 1) := by decide +kernel
theorem dL_law_275 : decode cL_law 275 = .ok (.iconst 1, 1) := by decide +kernel
theorem dL_law_276 : decode cL_law 276 = .ok (.iadd, 1) := by decide +kernel
theorem dL_law_277 : decode cL_law 277 = .ok (.iaload, 1) := by decide +kernel
theorem dL_law_278 : decode cL_law 278 = .ok (.aload_n 0, 1) := by decide +kernel
theorem dL_law_279 : decode cL_law 279 = .ok (.iload_n 3, 1) := by decide +kernel
theorem dL_law_280 : decode cL_law 280 = .ok (.iconst 2, 1) := by decide +kernel
theorem dL_law_281 : decode cL_law 281 = .ok (.iadd, 1) := by decide +kernel
theorem dL_law_282 : decode cL_law 282 = .ok (.iaload, 1) := by decide +kernel
theorem dL_law_283 : decode cL_law 283 = .ok (.aload_n 0, 1) := by decide +kernel
theorem dL_law_284 : decode cL_law 284 = .ok (.iload_n 3, 1) := by decide +kernel
theorem dL_law_285 : decode cL_law 285 = .ok (.iconst 3, 1) := by decide +kernel
theorem dL_law_286 : decode cL_law 286 = .ok (.iadd, 1) := by decide +kernel
theorem dL_law_287 : decode cL_law 287 = .ok (.iaload, 1) := by decide +kernel
theorem dL_law_288 : decode cL_law 288 = .ok (.aload_n 0, 1) := by decide +kernel
theorem dL_law_289 : decode cL_law 289 = .ok (.iload_n 3, 1) := by decide +kernel
theorem dL_law_290 : decode cL_law 290 = .ok (.iconst 4, 1) := by decide +kernel
theorem dL_law_291 : decode cL_law 291 = .ok (.iadd, 1) := by decide +kernel
theorem dL_law_292 : decode cL_law 292 = .ok (.iaload, 1) := by decide +kernel
theorem dL_law_293 : decode cL_law 293 = .ok (.aload_n 0, 1) := by decide +kernel
theorem dL_law_294 : decode cL_law 294 = .ok (.iload_n 3, 1) := by decide +kernel
theorem dL_law_295 : decode cL_law 295 = .ok (.iconst 5, 1) := by decide +kernel
theorem dL_law_296 : decode cL_law 296 = .ok (.iadd, 1) := by decide +kernel
theorem dL_law_297 : decode cL_law 297 = .ok (.iaload, 1) := by decide +kernel
theorem dL_law_298 : decode cL_law 298 = .ok (.invokevirtual 33, 3) := by decide +kernel
theorem dL_law_301 : decode cL_law 301 = .ok (.aload_n 2, 1) := by decide +kernel
theorem dL_law_302 : decode cL_law 302 = .ok (.aload_n 0, 1) := by decide +kernel
theorem dL_law_303 : decode cL_law 303 = .ok (.iload_n 3, 1) := by decide +kernel
theorem dL_law_304 : decode cL_law 304 = .ok (.iconst 1, 1) := by decide +kernel
theorem dL_law_305 : decode cL_law 305 = .ok (.iadd, 1) := by decide +kernel
theorem dL_law_306 : decode cL_law 306 = .ok (.iaload, 1) := by decide +kernel
theorem dL_law_307 : decode cL_law 307 = .ok (.aload_n 0, 1) := by decide +kernel
theorem dL_law_308 : decode cL_law 308 = .ok (.iload_n 3, 1) := by decide +kernel
theorem dL_law_309 : decode cL_law 309 = .ok (.iconst 2, 1) := by decide +kernel
theorem dL_law_310 : decode cL_law 310 = .ok (.iadd, 1) := by decide +kernel
theorem dL_law_311 : decode cL_law 311 = .ok (.iaload, 1) := by decide +kernel
theorem dL_law_312 : decode cL_law 312 = .ok (.aload_n 0, 1) := by decide +kernel
theorem dL_law_313 : decode cL_law 313 = .ok (.iload_n 3, 1) := by decide +kernel
theorem dL_law_314 : decode cL_law 314 = .ok (.iconst 3, 1) := by decide +kernel
theorem dL_law_315 : decode cL_law 315 = .ok (.iadd, 1) := by decide +kernel
theorem dL_law_316 : decode cL_law 316 = .ok (.iaload, 1) := by decide +kernel
theorem dL_law_317 : decode cL_law 317 = .ok (.aload_n 0, 1) := by decide +kernel
theorem dL_law_318 : decode cL_law 318 = .ok (.iload_n 3, 1) := by decide +kernel
theorem dL_law_319 : decode cL_law 319 = .ok (.iconst 4, 1) := by decide +kernel
theorem dL_law_320 : decode cL_law 320 = .ok (.iadd, 1) := by decide +kernel
theorem dL_law_321 : decode cL_law 321 = .ok (.iaload, 1) := by decide +kernel
theorem dL_law_322 : decode cL_law 322 = .ok (.aload_n 0, 1) := by decide +kernel
theorem dL_law_323 : decode cL_law 323 = .ok (.iload_n 3, 1) := by decide +kernel
theorem dL_law_324 : decode cL_law 324 = .ok (.iconst 5, 1) := by decide +kernel
theorem dL_law_325 : decode cL_law 325 = .ok (.iadd, 1) := by decide +kernel
theorem dL_law_326 : decode cL_law 326 = .ok (.iaload, 1) := by decide +kernel
theorem dL_law_327 : decode cL_law 327 = .ok (.invokevirtual 36, 3) := by decide +kernel
theorem dL_law_330 : decode cL_law 330 = .ok (.if_icmp .eq 620, 3) := by decide +kernel
theorem dL_law_333 : decode cL_law 333 = .ok (.iconst 0, 1) := by decide +kernel
theorem dL_law_334 : decode cL_law 334 = .ok (.ireturn, 1) := by decide +kernel
theorem dL_law_335 : decode cL_law 335 = .ok (.aload_n 1, 1) := by decide +kernel
theorem dL_law_336 : decode cL_law 336 = .ok (.aload_n 0, 1) := by decide +kernel
theorem dL_law_337 : decode cL_law 337 = .ok (.iload_n 3, 1) := by decide +kernel
theorem dL_law_338 : decode cL_law 338 = .ok (.iconst 1, 1) := by decide +kernel
theorem dL_law_339 : decode cL_law 339 = .ok (.iadd, 1) := by decide +kernel
theorem dL_law_340 : decode cL_law 340 = .ok (.iaload, 1) := by decide +kernel
theorem dL_law_341 : decode cL_law 341 = .ok (.aload_n 0, 1) := by decide +kernel
theorem dL_law_342 : decode cL_law 342 = .ok (.iload_n 3, 1) := by decide +kernel
theorem dL_law_343 : decode cL_law 343 = .ok (.iconst 2, 1) := by decide +kernel
theorem dL_law_344 : decode cL_law 344 = .ok (.iadd, 1) := by decide +kernel
theorem dL_law_345 : decode cL_law 345 = .ok (.iaload, 1) := by decide +kernel
theorem dL_law_346 : decode cL_law 346 = .ok (.aload_n 0, 1) := by decide +kernel
theorem dL_law_347 : decode cL_law 347 = .ok (.iload_n 3, 1) := by decide +kernel
theorem dL_law_348 : decode cL_law 348 = .ok (.iconst 3, 1) := by decide +kernel
theorem dL_law_349 : decode cL_law 349 = .ok (.iadd, 1) := by decide +kernel
theorem dL_law_350 : decode cL_law 350 = .ok (.iaload, 1) := by decide +kernel
theorem dL_law_351 : decode cL_law 351 = .ok (.invokevirtual 37, 3) := by decide +kernel
theorem dL_law_354 : decode cL_law 354 = .ok (.aload_n 2, 1) := by decide +kernel
theorem dL_law_355 : decode cL_law 355 = .ok (.aload_n 0, 1) := by decide +kernel
theorem dL_law_356 : decode cL_law 356 = .ok (.iload_n 3, 1) := by decide +kernel
theorem dL_law_357 : decode cL_law 357 = .ok (.iconst 1, 1) := by decide +kernel
theorem dL_law_358 : decode cL_law 358 = .ok (.iadd, 1) := by decide +kernel
theorem dL_law_359 : decode cL_law 359 = .ok (.iaload, 1) := by decide +kernel
theorem dL_law_360 : decode cL_law 360 = .ok (.aload_n 0, 1) := by decide +kernel
theorem dL_law_361 : decode cL_law 361 = .ok (.iload_n 3, 1) := by decide +kernel
theorem dL_law_362 : decode cL_law 362 = .ok (.iconst 2, 1) := by decide +kernel
theorem dL_law_363 : decode cL_law 363 = .ok (.iadd, 1) := by decide +kernel
theorem dL_law_364 : decode cL_law 364 = .ok (.iaload, 1) := by decide +kernel
theorem dL_law_365 : decode cL_law 365 = .ok (.aload_n 0, 1) := by decide +kernel
theorem dL_law_366 : decode cL_law 366 = .ok (.iload_n 3, 1) := by decide +kernel
theorem dL_law_367 : decode cL_law 367 = .ok (.iconst 3, 1) := by decide +kernel
theorem dL_law_368 : decode cL_law 368 = .ok (.iadd, 1) := by decide +kernel
theorem dL_law_369 : decode cL_law 369 = .ok (.iaload, 1) := by decide +kernel
theorem dL_law_370 : decode cL_law 370 = .ok (.invokevirtual 41, 3) := by decide +kernel
theorem dL_law_373 : decode cL_law 373 = .ok (.if_icmp .eq 577, 3) := by decide +kernel
theorem dL_law_376 : decode cL_law 376 = .ok (.iconst 0, 1) := by decide +kernel
theorem dL_law_377 : decode cL_law 377 = .ok (.ireturn, 1) := by decide +kernel
theorem dL_law_378 : decode cL_law 378 = .ok (.aload_n 1, 1) := by decide +kernel
theorem dL_law_379 : decode cL_law 379 = .ok (.aload_n 0, 1) := by decide +kernel
theorem dL_law_380 : decode cL_law 380 = .ok (.iload_n 3, 1) := by decide +kernel
theorem dL_law_381 : decode cL_law 381 = .ok (.iconst 1, 1) := by decide +kernel
theorem dL_law_382 : decode cL_law 382 = .ok (.iadd, 1) := by decide +kernel
theorem dL_law_383 : decode cL_law 383 = .ok (.iaload, 1) := by decide +kernel
theorem dL_law_384 : decode cL_law 384 = .ok (.aload_n 0, 1) := by decide +kernel
theorem dL_law_385 : decode cL_law 385 = .ok (.iload_n 3, 1) := by decide +kernel
theorem dL_law_386 : decode cL_law 386 = .ok (.iconst 2, 1) := by decide +kernel
theorem dL_law_387 : decode cL_law 387 = .ok (.iadd, 1) := by decide +kernel
theorem dL_law_388 : decode cL_law 388 = .ok (.iaload, 1) := by decide +kernel
theorem dL_law_389 : decode cL_law 389 = .ok (.aload_n 0, 1) := by decide +kernel
theorem dL_law_390 : decode cL_law 390 = .ok (.iload_n 3, 1) := by decide +kernel
theorem dL_law_391 : decode cL_law 391 = .ok (.iconst 3, 1) := by decide +kernel
theorem dL_law_392 : decode cL_law 392 = .ok (.iadd, 1) := by decide +kernel
theorem dL_law_393 : decode cL_law 393 = .ok (.iaload, 1) := by decide +kernel
theorem dL_law_394 : decode cL_law 394 = .ok (.invokevirtual 42, 3) := by decide +kernel
theorem dL_law_397 : decode cL_law 397 = .ok (.aload_n 2, 1) := by decide +kernel
theorem dL_law_398 : decode cL_law 398 = .ok (.aload_n 0, 1) := by decide +kernel
theorem dL_law_399 : decode cL_law 399 = .ok (.iload_n 3, 1) := by decide +kernel
theorem dL_law_400 : decode cL_law 400 = .ok (.iconst 1, 1) := by decide +kernel
theorem dL_law_401 : decode cL_law 401 = .ok (.iadd, 1) := by decide +kernel
theorem dL_law_402 : decode cL_law 402 = .ok (.iaload, 1) := by decide +kernel
theorem dL_law_403 : decode cL_law 403 = .ok (.aload_n 0, 1) := by decide +kernel
theorem dL_law_404 : decode cL_law 404 = .ok (.iload_n 3, 1) := by decide +kernel
theorem dL_law_405 : decode cL_law 405 = .ok (.iconst 2, 1) := by decide +kernel
theorem dL_law_406 : decode cL_law 406 = .ok (.iadd, 1) := by decide +kernel
theorem dL_law_407 : decode cL_law 407 = .ok (.iaload, 1) := by decide +kernel
theorem dL_law_408 : decode cL_law 408 = .ok (.aload_n 0, 1) := by decide +kernel
theorem dL_law_409 : decode cL_law 409 = .ok (.iload_n 3, 1) := by decide +kernel
theorem dL_law_410 : decode cL_law 410 = .ok (.iconst 3, 1) := by decide +kernel
theorem dL_law_411 : decode cL_law 411 = .ok (.iadd, 1) := by decide +kernel
theorem dL_law_412 : decode cL_law 412 = .ok (.iaload, 1) := by decide +kernel
theorem dL_law_413 : decode cL_law 413 = .ok (.invokevirtual 45, 3) := by decide +kernel
theorem dL_law_416 : decode cL_law 416 = .ok (.if_icmp .eq 534, 3) := by decide +kernel
theorem dL_law_419 : decode cL_law 419 = .ok (.iconst 0, 1) := by decide +kernel
theorem dL_law_420 : decode cL_law 420 = .ok (.ireturn, 1) := by decide +kernel
theorem dL_law_421 : decode cL_law 421 = .ok (.aload_n 1, 1) := by decide +kernel
theorem dL_law_422 : decode cL_law 422 = .ok (.invokevirtual 46, 3) := by decide +kernel
theorem dL_law_425 : decode cL_law 425 = .ok (.aload_n 2, 1) := by decide +kernel
theorem dL_law_426 : decode cL_law 426 = .ok (.invokevirtual 49, 3) := by decide +kernel
theorem dL_law_429 : decode cL_law 429 = .ok (.if_icmp .eq 521, 3) := by decide +kernel
theorem dL_law_432 : decode cL_law 432 = .ok (.iconst 0, 1) := by decide +kernel
theorem dL_law_433 : decode cL_law 433 = .ok (.ireturn, 1) := by decide +kernel
theorem dL_law_434 : decode cL_law 434 = .ok (.aload_n 1, 1) := by decide +kernel
theorem dL_law_435 : decode cL_law 435 = .ok (.aload_n 0, 1) := by decide +kernel
theorem dL_law_436 : decode cL_law 436 = .ok (.iload_n 3, 1) := by decide +kernel
theorem dL_law_437 : decode cL_law 437 = .ok (.iconst 1, 1) := by decide +kernel
theorem dL_law_438 : decode cL_law 438 = .ok (.iadd, 1) := by decide +kernel
theorem dL_law_439 : decode cL_law 439 = .ok (.iaload, 1) := by decide +kernel
theorem dL_law_440 : decode cL_law 440 = .ok (.aload_n 0, 1) := by decide +kernel
theorem dL_law_441 : decode cL_law 441 = .ok (.iload_n 3, 1) := by decide +kernel
theorem dL_law_442 : decode cL_law 442 = .ok (.iconst 2, 1) := by decide +kernel
theorem dL_law_443 : decode cL_law 443 = .ok (.iadd, 1) := by decide +kernel
theorem dL_law_444 : decode cL_law 444 = .ok (.iaload, 1) := by decide +kernel
theorem dL_law_445 : decode cL_law 445 = .ok (.invokevirtual 50, 3) := by decide +kernel
theorem dL_law_448 : decode cL_law 448 = .ok (.aload_n 2, 1) := by decide +kernel
theorem dL_law_449 : decode cL_law 449 = .ok (.aload_n 0, 1) := by decide +kernel
theorem dL_law_450 : decode cL_law 450 = .ok (.iload_n 3, 1) := by decide +kernel
theorem dL_law_451 : decode cL_law 451 = .ok (.iconst 1, 1) := by decide +kernel
theorem dL_law_452 : decode cL_law 452 = .ok (.iadd, 1) := by decide +kernel
theorem dL_law_453 : decode cL_law 453 = .ok (.iaload, 1) := by decide +kernel
theorem dL_law_454 : decode cL_law 454 = .ok (.aload_n 0, 1) := by decide +kernel
theorem dL_law_455 : decode cL_law 455 = .ok (.iload_n 3, 1) := by decide +kernel
theorem dL_law_456 : decode cL_law 456 = .ok (.iconst 2, 1) := by decide +kernel
theorem dL_law_457 : decode cL_law 457 = .ok (.iadd, 1) := by decide +kernel
theorem dL_law_458 : decode cL_law 458 = .ok (.iaload, 1) := by decide +kernel
theorem dL_law_459 : decode cL_law 459 = .ok (.invokevirtual 53, 3) := by decide +kernel
theorem dL_law_462 : decode cL_law 462 = .ok (.if_icmp .eq 488, 3) := by decide +kernel
theorem dL_law_465 : decode cL_law 465 = .ok (.iconst 0, 1) := by decide +kernel
theorem dL_law_466 : decode cL_law 466 = .ok (.ireturn, 1) := by decide +kernel
theorem dL_law_467 : decode cL_law 467 = .ok (.aload_n 1, 1) := by decide +kernel
theorem dL_law_468 : decode cL_law 468 = .ok (.aload_n 0, 1) := by decide +kernel
theorem dL_law_469 : decode cL_law 469 = .ok (.iload_n 3, 1) := by decide +kernel
theorem dL_law_470 : decode cL_law 470 = .ok (.iconst 1, 1) := by decide +kernel
theorem dL_law_471 : decode cL_law 471 = .ok (.iadd, 1) := by decide +kernel
theorem dL_law_472 : decode cL_law 472 = .ok (.iaload, 1) := by decide +kernel
theorem dL_law_473 : decode cL_law 473 = .ok (.aload_n 0, 1) := by decide +kernel
theorem dL_law_474 : decode cL_law 474 = .ok (.iload_n 3, 1) := by decide +kernel
theorem dL_law_475 : decode cL_law 475 = .ok (.iconst 2, 1) := by decide +kernel
theorem dL_law_476 : decode cL_law 476 = .ok (.iadd, 1) := by decide +kernel
theorem dL_law_477 : decode cL_law 477 = .ok (.iaload, 1) := by decide +kernel
theorem dL_law_478 : decode cL_law 478 = .ok (.aload_n 0, 1) := by decide +kernel
theorem dL_law_479 : decode cL_law 479 = .ok (.iload_n 3, 1) := by decide +kernel
theorem dL_law_480 : decode cL_law 480 = .ok (.iconst 3, 1) := by decide +kernel
theorem dL_law_481 : decode cL_law 481 = .ok (.iadd, 1) := by decide +kernel
theorem dL_law_482 : decode cL_law 482 = .ok (.iaload, 1) := by decide +kernel
theorem dL_law_483 : decode cL_law 483 = .ok (.invokevirtual 54, 3) := by decide +kernel
theorem dL_law_486 : decode cL_law 486 = .ok (.aload_n 2, 1) := by decide +kernel
theorem dL_law_487 : decode cL_law 487 = .ok (.aload_n 0, 1) := by decide +kernel
theorem dL_law_488 : decode cL_law 488 = .ok (.iload_n 3, 1) := by decide +kernel
theorem dL_law_489 : decode cL_law 489 = .ok (.iconst 1, 1) := by decide +kernel
theorem dL_law_490 : decode cL_law 490 = .ok (.iadd, 1) := by decide +kernel
theorem dL_law_491 : decode cL_law 491 = .ok (.iaload, 1) := by decide +kernel
theorem dL_law_492 : decode cL_law 492 = .ok (.aload_n 0, 1) := by decide +kernel
theorem dL_law_493 : decode cL_law 493 = .ok (.iload_n 3, 1) := by decide +kernel
theorem dL_law_494 : decode cL_law 494 = .ok (.iconst 2, 1) := by decide +kernel
theorem dL_law_495 : decode cL_law 495 = .ok (.iadd, 1) := by decide +kernel
theorem dL_law_496 : decode cL_law 496 = .ok (.iaload, 1) := by decide +kernel
theorem dL_law_497 : decode cL_law 497 = .ok (.aload_n 0, 1) := by decide +kernel
theorem dL_law_498 : decode cL_law 498 = .ok (.iload_n 3, 1) := by decide +kernel
theorem dL_law_499 : decode cL_law 499 = .ok (.iconst 3, 1) := by decide +kernel
theorem dL_law_500 : decode cL_law 500 = .ok (.iadd, 1) := by decide +kernel
theorem dL_law_501 : decode cL_law 501 = .ok (.iaload, 1) := by decide +kernel
theorem dL_law_502 : decode cL_law 502 = .ok (.invokevirtual 57, 3) := by decide +kernel
theorem dL_law_505 : decode cL_law 505 = .ok (.if_icmp .eq 445, 3) := by decide +kernel
theorem dL_law_508 : decode cL_law 508 = .ok (.iconst 0, 1) := by decide +kernel
theorem dL_law_509 : decode cL_law 509 = .ok (.ireturn, 1) := by decide +kernel
theorem dL_law_510 : decode cL_law 510 = .ok (.aload_n 1, 1) := by decide +kernel
theorem dL_law_511 : decode cL_law 511 = .ok (.aload_n 0, 1) := by decide +kernel
theorem dL_law_512 : decode cL_law 512 = .ok (.iload_n 3, 1) := by decide +kernel
theorem dL_law_513 : decode cL_law 513 = .ok (.iconst 1, 1) := by decide +kernel
theorem dL_law_514 : decode cL_law 514 = .ok (.iadd, 1) := by decide +kernel
theorem dL_law_515 : decode cL_law 515 = .ok (.iaload, 1) := by decide +kernel
theorem dL_law_516 : decode cL_law 516 = .ok (.aload_n 0, 1) := by decide +kernel
theorem dL_law_517 : decode cL_law 517 = .ok (.iload_n 3, 1) := by decide +kernel
theorem dL_law_518 : decode cL_law 518 = .ok (.iconst 2, 1) := by decide +kernel
theorem dL_law_519 : decode cL_law 519 = .ok (.iadd, 1) := by decide +kernel
theorem dL_law_520 : decode cL_law 520 = .ok (.iaload, 1) := by decide +kernel
theorem dL_law_521 : decode cL_law 521 = .ok (.invokevirtual 58, 3) := by decide +kernel
theorem dL_law_524 : decode cL_law 524 = .ok (.aload_n 2, 1) := by decide +kernel
theorem dL_law_525 : decode cL_law 525 = .ok (.aload_n 0, 1) := by decide +kernel
theorem dL_law_526 : decode cL_law 526 = .ok (.iload_n 3, 1) := by decide +kernel
theorem dL_law_527 : decode cL_law 527 = .ok (.iconst 1, 1) := by decide +kernel
theorem dL_law_528 : decode cL_law 528 = .ok (.iadd, 1) := by decide +kernel
theorem dL_law_529 : decode cL_law 529 = .ok (.iaload, 1) := by decide +kernel
theorem dL_law_530 : decode cL_law 530 = .ok (.aload_n 0, 1) := by decide +kernel
theorem dL_law_531 : decode cL_law 531 = .ok (.iload_n 3, 1) := by decide +kernel
theorem dL_law_532 : decode cL_law 532 = .ok (.iconst 2, 1) := by decide +kernel
theorem dL_law_533 : decode cL_law 533 = .ok (.iadd, 1) := by decide +kernel
theorem dL_law_534 : decode cL_law 534 = .ok (.iaload, 1) := by decide +kernel
theorem dL_law_535 : decode cL_law 535 = .ok (.invokevirtual 61, 3) := by decide +kernel
theorem dL_law_538 : decode cL_law 538 = .ok (.if_icmp .eq 412, 3) := by decide +kernel
theorem dL_law_541 : decode cL_law 541 = .ok (.iconst 0, 1) := by decide +kernel
theorem dL_law_542 : decode cL_law 542 = .ok (.ireturn, 1) := by decide +kernel
theorem dL_law_543 : decode cL_law 543 = .ok (.aload_n 1, 1) := by decide +kernel
theorem dL_law_544 : decode cL_law 544 = .ok (.aload_n 0, 1) := by decide +kernel
theorem dL_law_545 : decode cL_law 545 = .ok (.iload_n 3, 1) := by decide +kernel
theorem dL_law_546 : decode cL_law 546 = .ok (.iconst 1, 1) := by decide +kernel
theorem dL_law_547 : decode cL_law 547 = .ok (.iadd, 1) := by decide +kernel
theorem dL_law_548 : decode cL_law 548 = .ok (.iaload, 1) := by decide +kernel
theorem dL_law_549 : decode cL_law 549 = .ok (.aload_n 0, 1) := by decide +kernel
theorem dL_law_550 : decode cL_law 550 = .ok (.iload_n 3, 1) := by decide +kernel
theorem dL_law_551 : decode cL_law 551 = .ok (.iconst 2, 1) := by decide +kernel
theorem dL_law_552 : decode cL_law 552 = .ok (.iadd, 1) := by decide +kernel
theorem dL_law_553 : decode cL_law 553 = .ok (.iaload, 1) := by decide +kernel
theorem dL_law_554 : decode cL_law 554 = .ok (.aload_n 0, 1) := by decide +kernel
theorem dL_law_555 : decode cL_law 555 = .ok (.iload_n 3, 1) := by decide +kernel
theorem dL_law_556 : decode cL_law 556 = .ok (.iconst 3, 1) := by decide +kernel
theorem dL_law_557 : decode cL_law 557 = .ok (.iadd, 1) := by decide +kernel
theorem dL_law_558 : decode cL_law 558 = .ok (.iaload, 1) := by decide +kernel
theorem dL_law_559 : decode cL_law 559 = .ok (.aload_n 0, 1) := by decide +kernel
theorem dL_law_560 : decode cL_law 560 = .ok (.iload_n 3, 1) := by decide +kernel
theorem dL_law_561 : decode cL_law 561 = .ok (.iconst 4, 1) := by decide +kernel
theorem dL_law_562 : decode cL_law 562 = .ok (.iadd, 1) := by decide +kernel
theorem dL_law_563 : decode cL_law 563 = .ok (.iaload, 1) := by decide +kernel
theorem dL_law_564 : decode cL_law 564 = .ok (.invokevirtual 62, 3) := by decide +kernel
theorem dL_law_567 : decode cL_law 567 = .ok (.aload_n 2, 1) := by decide +kernel
theorem dL_law_568 : decode cL_law 568 = .ok (.aload_n 0, 1) := by decide +kernel
theorem dL_law_569 : decode cL_law 569 = .ok (.iload_n 3, 1) := by decide +kernel
theorem dL_law_570 : decode cL_law 570 = .ok (.iconst 1, 1) := by decide +kernel
theorem dL_law_571 : decode cL_law 571 = .ok (.iadd, 1) := by decide +kernel
theorem dL_law_572 : decode cL_law 572 = .ok (.iaload, 1) := by decide +kernel
theorem dL_law_573 : decode cL_law 573 = .ok (.aload_n 0, 1) := by decide +kernel
theorem dL_law_574 : decode cL_law 574 = .ok (.iload_n 3, 1) := by decide +kernel
theorem dL_law_575 : decode cL_law 575 = .ok (.iconst 2, 1) := by decide +kernel
theorem dL_law_576 : decode cL_law 576 = .ok (.iadd, 1) := by decide +kernel
theorem dL_law_577 : decode cL_law 577 = .ok (.iaload, 1) := by decide +kernel
theorem dL_law_578 : decode cL_law 578 = .ok (.aload_n 0, 1) := by decide +kernel
theorem dL_law_579 : decode cL_law 579 = .ok (.iload_n 3, 1) := by decide +kernel
theorem dL_law_580 : decode cL_law 580 = .ok (.iconst 3, 1) := by decide +kernel
theorem dL_law_581 : decode cL_law 581 = .ok (.iadd, 1) := by decide +kernel
theorem dL_law_582 : decode cL_law 582 = .ok (.iaload, 1) := by decide +kernel
theorem dL_law_583 : decode cL_law 583 = .ok (.aload_n 0, 1) := by decide +kernel
theorem dL_law_584 : decode cL_law 584 = .ok (.iload_n 3, 1) := by decide +kernel
theorem dL_law_585 : decode cL_law 585 = .ok (.iconst 4, 1) := by decide +kernel
theorem dL_law_586 : decode cL_law 586 = .ok (.iadd, 1) := by decide +kernel
theorem dL_law_587 : decode cL_law 587 = .ok (.iaload, 1) := by decide +kernel
theorem dL_law_588 : decode cL_law 588 = .ok (.invokevirtual 66, 3) := by decide +kernel
theorem dL_law_591 : decode cL_law 591 = .ok (.if_icmp .eq 359, 3) := by decide +kernel
theorem dL_law_594 : decode cL_law 594 = .ok (.iconst 0, 1) := by decide +kernel
theorem dL_law_595 : decode cL_law 595 = .ok (.ireturn, 1) := by decide +kernel
theorem dL_law_596 : decode cL_law 596 = .ok (.aload_n 1, 1) := by decide +kernel
theorem dL_law_597 : decode cL_law 597 = .ok (.aload_n 0, 1) := by decide +kernel
theorem dL_law_598 : decode cL_law 598 = .ok (.iload_n 3, 1) := by decide +kernel
theorem dL_law_599 : decode cL_law 599 = .ok (.iconst 1, 1) := by decide +kernel
theorem dL_law_600 : decode cL_law 600 = .ok (.iadd, 1) := by decide +kernel
theorem dL_law_601 : decode cL_law 601 = .ok (.iaload, 1) := by decide +kernel
theorem dL_law_602 : decode cL_law 602 = .ok (.aload_n 0, 1) := by decide +kernel
theorem dL_law_603 : decode cL_law 603 = .ok (.iload_n 3, 1) := by decide +kernel
theorem dL_law_604 : decode cL_law 604 = .ok (.iconst 2, 1) := by decide +kernel
theorem dL_law_605 : decode cL_law 605 = .ok (.iadd, 1) := by decide +kernel
theorem dL_law_606 : decode cL_law 606 = .ok (.iaload, 1) := by decide +kernel
theorem dL_law_607 : decode cL_law 607 = .ok (.invokevirtual 67, 3) := by decide +kernel
theorem dL_law_610 : decode cL_law 610 = .ok (.aload_n 2, 1) := by decide +kernel
theorem dL_law_611 : decode cL_law 611 = .ok (.aload_n 0, 1) := by decide +kernel
theorem dL_law_612 : decode cL_law 612 = .ok (.iload_n 3, 1) := by decide +kernel
theorem dL_law_613 : decode cL_law 613 = .ok (.iconst 1, 1) := by decide +kernel
theorem dL_law_614 : decode cL_law 614 = .ok (.iadd, 1) := by decide +kernel
theorem dL_law_615 : decode cL_law 615 = .ok (.iaload, 1) := by decide +kernel
theorem dL_law_616 : decode cL_law 616 = .ok (.aload_n 0, 1) := by decide +kernel
theorem dL_law_617 : decode cL_law 617 = .ok (.iload_n 3, 1) := by decide +kernel
theorem dL_law_618 : decode cL_law 618 = .ok (.iconst 2, 1) := by decide +kernel
theorem dL_law_619 : decode cL_law 619 = .ok (.iadd, 1) := by decide +kernel
theorem dL_law_620 : decode cL_law 620 = .ok (.iaload, 1) := by decide +kernel
theorem dL_law_621 : decode cL_law 621 = .ok (.invokevirtual 70, 3) := by decide +kernel
theorem dL_law_624 : decode cL_law 624 = .ok (.if_icmp .eq 326, 3) := by decide +kernel
theorem dL_law_627 : decode cL_law 627 = .ok (.iconst 0, 1) := by decide +kernel
theorem dL_law_628 : decode cL_law 628 = .ok (.ireturn, 1) := by decide +kernel
theorem dL_law_629 : decode cL_law 629 = .ok (.aload_n 1, 1) := by decide +kernel
theorem dL_law_630 : decode cL_law 630 = .ok (.aload_n 0, 1) := by decide +kernel
theorem dL_law_631 : decode cL_law 631 = .ok (.iload_n 3, 1) := by decide +kernel
theorem dL_law_632 : decode cL_law 632 = .ok (.iconst 1, 1) := by decide +kernel
theorem dL_law_633 : decode cL_law 633 = .ok (.iadd, 1) := by decide +kernel
theorem dL_law_634 : decode cL_law 634 = .ok (.iaload, 1) := by decide +kernel
theorem dL_law_635 : decode cL_law 635 = .ok (.aload_n 0, 1) := by decide +kernel
theorem dL_law_636 : decode cL_law 636 = .ok (.iload_n 3, 1) := by decide +kernel
theorem dL_law_637 : decode cL_law 637 = .ok (.iconst 2, 1) := by decide +kernel
theorem dL_law_638 : decode cL_law 638 = .ok (.iadd, 1) := by decide +kernel
theorem dL_law_639 : decode cL_law 639 = .ok (.iaload, 1) := by decide +kernel
theorem dL_law_640 : decode cL_law 640 = .ok (.aload_n 0, 1) := by decide +kernel
theorem dL_law_641 : decode cL_law 641 = .ok (.iload_n 3, 1) := by decide +kernel
theorem dL_law_642 : decode cL_law 642 = .ok (.iconst 3, 1) := by decide +kernel
theorem dL_law_643 : decode cL_law 643 = .ok (.iadd, 1) := by decide +kernel
theorem dL_law_644 : decode cL_law 644 = .ok (.iaload, 1) := by decide +kernel
theorem dL_law_645 : decode cL_law 645 = .ok (.invokevirtual 71, 3) := by decide +kernel
theorem dL_law_648 : decode cL_law 648 = .ok (.aload_n 2, 1) := by decide +kernel
theorem dL_law_649 : decode cL_law 649 = .ok (.aload_n 0, 1) := by decide +kernel
theorem dL_law_650 : decode cL_law 650 = .ok (.iload_n 3, 1) := by decide +kernel
theorem dL_law_651 : decode cL_law 651 = .ok (.iconst 1, 1) := by decide +kernel
theorem dL_law_652 : decode cL_law 652 = .ok (.iadd, 1) := by decide +kernel
theorem dL_law_653 : decode cL_law 653 = .ok (.iaload, 1) := by decide +kernel
theorem dL_law_654 : decode cL_law 654 = .ok (.aload_n 0, 1) := by decide +kernel
theorem dL_law_655 : decode cL_law 655 = .ok (.iload_n 3, 1) := by decide +kernel
theorem dL_law_656 : decode cL_law 656 = .ok (.iconst 2, 1) := by decide +kernel
theorem dL_law_657 : decode cL_law 657 = .ok (.iadd, 1) := by decide +kernel
theorem dL_law_658 : decode cL_law 658 = .ok (.iaload, 1) := by decide +kernel
theorem dL_law_659 : decode cL_law 659 = .ok (.aload_n 0, 1) := by decide +kernel
theorem dL_law_660 : decode cL_law 660 = .ok (.iload_n 3, 1) := by decide +kernel
theorem dL_law_661 : decode cL_law 661 = .ok (.iconst 3, 1) := by decide +kernel
theorem dL_law_662 : decode cL_law 662 = .ok (.iadd, 1) := by decide +kernel
theorem dL_law_663 : decode cL_law 663 = .ok (.iaload, 1) := by decide +kernel
theorem dL_law_664 : decode cL_law 664 = .ok (.invokevirtual 74, 3) := by decide +kernel
theorem dL_law_667 : decode cL_law 667 = .ok (.if_icmp .eq 283, 3) := by decide +kernel
theorem dL_law_670 : decode cL_law 670 = .ok (.iconst 0, 1) := by decide +kernel
theorem dL_law_671 : decode cL_law 671 = .ok (.ireturn, 1) := by decide +kernel
theorem dL_law_672 : decode cL_law 672 = .ok (.aload_n 1, 1) := by decide +kernel
theorem dL_law_673 : decode cL_law 673 = .ok (.aload_n 0, 1) := by decide +kernel
theorem dL_law_674 : decode cL_law 674 = .ok (.iload_n 3, 1) := by decide +kernel
theorem dL_law_675 : decode cL_law 675 = .ok (.iconst 1, 1) := by decide +kernel
theorem dL_law_676 : decode cL_law 676 = .ok (.iadd, 1) := by decide +kernel
theorem dL_law_677 : decode cL_law 677 = .ok (.iaload, 1) := by decide +kernel
theorem dL_law_678 : decode cL_law 678 = .ok (.aload_n 0, 1) := by decide +kernel
theorem dL_law_679 : decode cL_law 679 = .ok (.iload_n 3, 1) := by decide +kernel
theorem dL_law_680 : decode cL_law 680 = .ok (.iconst 2, 1) := by decide +kernel
theorem dL_law_681 : decode cL_law 681 = .ok (.iadd, 1) := by decide +kernel
theorem dL_law_682 : decode cL_law 682 = .ok (.iaload, 1) := by decide +kernel
theorem dL_law_683 : decode cL_law 683 = .ok (.invokevirtual 75, 3) := by decide +kernel
theorem dL_law_686 : decode cL_law 686 = .ok (.aload_n 2, 1) := by decide +kernel
theorem dL_law_687 : decode cL_law 687 = .ok (.aload_n 0, 1) := by decide +kernel
theorem dL_law_688 : decode cL_law 688 = .ok (.iload_n 3, 1) := by decide +kernel
theorem dL_law_689 : decode cL_law 689 = .ok (.iconst 1, 1) := by decide +kernel
theorem dL_law_690 : decode cL_law 690 = .ok (.iadd, 1) := by decide +kernel
theorem dL_law_691 : decode cL_law 691 = .ok (.iaload, 1) := by decide +kernel
theorem dL_law_692 : decode cL_law 692 = .ok (.aload_n 0, 1) := by decide +kernel
theorem dL_law_693 : decode cL_law 693 = .ok (.iload_n 3, 1) := by decide +kernel
theorem dL_law_694 : decode cL_law 694 = .ok (.iconst 2, 1) := by decide +kernel
theorem dL_law_695 : decode cL_law 695 = .ok (.iadd, 1) := by decide +kernel
theorem dL_law_696 : decode cL_law 696 = .ok (.iaload, 1) := by decide +kernel
theorem dL_law_697 : decode cL_law 697 = .ok (.invokevirtual 79, 3) := by decide +kernel
theorem dL_law_700 : decode cL_law 700 = .ok (.lcmp, 1) := by decide +kernel
theorem dL_law_701 : decode cL_law 701 = .ok (.ifCond .eq 249, 3) := by decide +kernel
theorem dL_law_704 : decode cL_law 704 = .ok (.iconst 0, 1) := by decide +kernel
theorem dL_law_705 : decode cL_law 705 = .ok (.ireturn, 1) := by decide +kernel
theorem dL_law_706 : decode cL_law 706 = .ok (.aload_n 1, 1) := by decide +kernel
theorem dL_law_707 : decode cL_law 707 = .ok (.aload_n 0, 1) := by decide +kernel
theorem dL_law_708 : decode cL_law 708 = .ok (.iload_n 3, 1) := by decide +kernel
theorem dL_law_709 : decode cL_law 709 = .ok (.iconst 1, 1) := by decide +kernel
theorem dL_law_710 : decode cL_law 710 = .ok (.iadd, 1) := by decide +kernel
theorem dL_law_711 : decode cL_law 711 = .ok (.iaload, 1) := by decide +kernel
theorem dL_law_712 : decode cL_law 712 = .ok (.aload_n 0, 1) := by decide +kernel
theorem dL_law_713 : decode cL_law 713 = .ok (.iload_n 3, 1) := by decide +kernel
theorem dL_law_714 : decode cL_law 714 = .ok (.iconst 2, 1) := by decide +kernel
theorem dL_law_715 : decode cL_law 715 = .ok (.iadd, 1) := by decide +kernel
theorem dL_law_716 : decode cL_law 716 = .ok (.iaload, 1) := by decide +kernel
theorem dL_law_717 : decode cL_law 717 = .ok (.invokevirtual 80, 3) := by decide +kernel
theorem dL_law_720 : decode cL_law 720 = .ok (.aload_n 2, 1) := by decide +kernel
theorem dL_law_721 : decode cL_law 721 = .ok (.aload_n 0, 1) := by decide +kernel
theorem dL_law_722 : decode cL_law 722 = .ok (.iload_n 3, 1) := by decide +kernel
theorem dL_law_723 : decode cL_law 723 = .ok (.iconst 1, 1) := by decide +kernel
theorem dL_law_724 : decode cL_law 724 = .ok (.iadd, 1) := by decide +kernel
theorem dL_law_725 : decode cL_law 725 = .ok (.iaload, 1) := by decide +kernel
theorem dL_law_726 : decode cL_law 726 = .ok (.aload_n 0, 1) := by decide +kernel
theorem dL_law_727 : decode cL_law 727 = .ok (.iload_n 3, 1) := by decide +kernel
theorem dL_law_728 : decode cL_law 728 = .ok (.iconst 2, 1) := by decide +kernel
theorem dL_law_729 : decode cL_law 729 = .ok (.iadd, 1) := by decide +kernel
theorem dL_law_730 : decode cL_law 730 = .ok (.iaload, 1) := by decide +kernel
theorem dL_law_731 : decode cL_law 731 = .ok (.invokevirtual 83, 3) := by decide +kernel
theorem dL_law_734 : decode cL_law 734 = .ok (.if_icmp .eq 216, 3) := by decide +kernel
theorem dL_law_737 : decode cL_law 737 = .ok (.iconst 0, 1) := by decide +kernel
theorem dL_law_738 : decode cL_law 738 = .ok (.ireturn, 1) := by decide +kernel
theorem dL_law_739 : decode cL_law 739 = .ok (.aload_n 1, 1) := by decide +kernel
theorem dL_law_740 : decode cL_law 740 = .ok (.aload_n 0, 1) := by decide +kernel
theorem dL_law_741 : decode cL_law 741 = .ok (.iload_n 3, 1) := by decide +kernel
theorem dL_law_742 : decode cL_law 742 = .ok (.iconst 1, 1) := by decide +kernel
theorem dL_law_743 : decode cL_law 743 = .ok (.iadd, 1) := by decide +kernel
theorem dL_law_744 : decode cL_law 744 = .ok (.iaload, 1) := by decide +kernel
theorem dL_law_745 : decode cL_law 745 = .ok (.invokevirtual 84, 3) := by decide +kernel
theorem dL_law_748 : decode cL_law 748 = .ok (.aload_n 2, 1) := by decide +kernel
theorem dL_law_749 : decode cL_law 749 = .ok (.aload_n 0, 1) := by decide +kernel
theorem dL_law_750 : decode cL_law 750 = .ok (.iload_n 3, 1) := by decide +kernel
theorem dL_law_751 : decode cL_law 751 = .ok (.iconst 1, 1) := by decide +kernel
theorem dL_law_752 : decode cL_law 752 = .ok (.iadd, 1) := by decide +kernel
theorem dL_law_753 : decode cL_law 753 = .ok (.iaload, 1) := by decide +kernel
theorem dL_law_754 : decode cL_law 754 = .ok (.invokevirtual 87, 3) := by decide +kernel
theorem dL_law_757 : decode cL_law 757 = .ok (.if_icmp .eq 193, 3) := by decide +kernel
theorem dL_law_760 : decode cL_law 760 = .ok (.iconst 0, 1) := by decide +kernel
theorem dL_law_761 : decode cL_law 761 = .ok (.ireturn, 1) := by decide +kernel
theorem dL_law_762 : decode cL_law 762 = .ok (.aload_n 1, 1) := by decide +kernel
theorem dL_law_763 : decode cL_law 763 = .ok (.aload_n 0, 1) := by decide +kernel
theorem dL_law_764 : decode cL_law 764 = .ok (.iload_n 3, 1) := by decide +kernel
theorem dL_law_765 : decode cL_law 765 = .ok (.iconst 1, 1) := by decide +kernel
theorem dL_law_766 : decode cL_law 766 = .ok (.iadd, 1) := by decide +kernel
theorem dL_law_767 : decode cL_law 767 = .ok (.iaload, 1) := by decide +kernel
theorem dL_law_768 : decode cL_law 768 = .ok (.aload_n 0, 1) := by decide +kernel
theorem dL_law_769 : decode cL_law 769 = .ok (.iload_n 3, 1) := by decide +kernel
theorem dL_law_770 : decode cL_law 770 = .ok (.iconst 2, 1) := by decide +kernel
theorem dL_law_771 : decode cL_law 771 = .ok (.iadd, 1) := by decide +kernel
theorem dL_law_772 : decode cL_law 772 = .ok (.iaload, 1) := by decide +kernel
theorem dL_law_773 : decode cL_law 773 = .ok (.aload_n 0, 1) := by decide +kernel
theorem dL_law_774 : decode cL_law 774 = .ok (.iload_n 3, 1) := by decide +kernel
theorem dL_law_775 : decode cL_law 775 = .ok (.iconst 3, 1) := by decide +kernel
theorem dL_law_776 : decode cL_law 776 = .ok (.iadd, 1) := by decide +kernel
theorem dL_law_777 : decode cL_law 777 = .ok (.iaload, 1) := by decide +kernel
theorem dL_law_778 : decode cL_law 778 = .ok (.invokevirtual 88, 3) := by decide +kernel
theorem dL_law_781 : decode cL_law 781 = .ok (.aload_n 2, 1) := by decide +kernel
theorem dL_law_782 : decode cL_law 782 = .ok (.aload_n 0, 1) := by decide +kernel
theorem dL_law_783 : decode cL_law 783 = .ok (.iload_n 3, 1) := by decide +kernel
theorem dL_law_784 : decode cL_law 784 = .ok (.iconst 1, 1) := by decide +kernel
theorem dL_law_785 : decode cL_law 785 = .ok (.iadd, 1) := by decide +kernel
theorem dL_law_786 : decode cL_law 786 = .ok (.iaload, 1) := by decide +kernel
theorem dL_law_787 : decode cL_law 787 = .ok (.aload_n 0, 1) := by decide +kernel
theorem dL_law_788 : decode cL_law 788 = .ok (.iload_n 3, 1) := by decide +kernel
theorem dL_law_789 : decode cL_law 789 = .ok (.iconst 2, 1) := by decide +kernel
theorem dL_law_790 : decode cL_law 790 = .ok (.iadd, 1) := by decide +kernel
theorem dL_law_791 : decode cL_law 791 = .ok (.iaload, 1) := by decide +kernel
theorem dL_law_792 : decode cL_law 792 = .ok (.aload_n 0, 1) := by decide +kernel
theorem dL_law_793 : decode cL_law 793 = .ok (.iload_n 3, 1) := by decide +kernel
theorem dL_law_794 : decode cL_law 794 = .ok (.iconst 3, 1) := by decide +kernel
theorem dL_law_795 : decode cL_law 795 = .ok (.iadd, 1) := by decide +kernel
theorem dL_law_796 : decode cL_law 796 = .ok (.iaload, 1) := by decide +kernel
theorem dL_law_797 : decode cL_law 797 = .ok (.invokevirtual 91, 3) := by decide +kernel
theorem dL_law_800 : decode cL_law 800 = .ok (.if_icmp .eq 150, 3) := by decide +kernel
theorem dL_law_803 : decode cL_law 803 = .ok (.iconst 0, 1) := by decide +kernel
theorem dL_law_804 : decode cL_law 804 = .ok (.ireturn, 1) := by decide +kernel
theorem dL_law_805 : decode cL_law 805 = .ok (.aload_n 1, 1) := by decide +kernel
theorem dL_law_806 : decode cL_law 806 = .ok (.aload_n 0, 1) := by decide +kernel
theorem dL_law_807 : decode cL_law 807 = .ok (.iload_n 3, 1) := by decide +kernel
theorem dL_law_808 : decode cL_law 808 = .ok (.iconst 1, 1) := by decide +kernel
theorem dL_law_809 : decode cL_law 809 = .ok (.iadd, 1) := by decide +kernel
theorem dL_law_810 : decode cL_law 810 = .ok (.iaload, 1) := by decide +kernel
theorem dL_law_811 : decode cL_law 811 = .ok (.invokevirtual 92, 3) := by decide +kernel
theorem dL_law_814 : decode cL_law 814 = .ok (.aload_n 2, 1) := by decide +kernel
theorem dL_law_815 : decode cL_law 815 = .ok (.aload_n 0, 1) := by decide +kernel
theorem dL_law_816 : decode cL_law 816 = .ok (.iload_n 3, 1) := by decide +kernel
theorem dL_law_817 : decode cL_law 817 = .ok (.iconst 1, 1) := by decide +kernel
theorem dL_law_818 : decode cL_law 818 = .ok (.iadd, 1) := by decide +kernel
theorem dL_law_819 : decode cL_law 819 = .ok (.iaload, 1) := by decide +kernel
theorem dL_law_820 : decode cL_law 820 = .ok (.invokevirtual 95, 3) := by decide +kernel
theorem dL_law_823 : decode cL_law 823 = .ok (.if_icmp .eq 127, 3) := by decide +kernel
theorem dL_law_826 : decode cL_law 826 = .ok (.iconst 0, 1) := by decide +kernel
theorem dL_law_827 : decode cL_law 827 = .ok (.ireturn, 1) := by decide +kernel
theorem dL_law_828 : decode cL_law 828 = .ok (.aload_n 1, 1) := by decide +kernel
theorem dL_law_829 : decode cL_law 829 = .ok (.aload_n 0, 1) := by decide +kernel
theorem dL_law_830 : decode cL_law 830 = .ok (.iload_n 3, 1) := by decide +kernel
theorem dL_law_831 : decode cL_law 831 = .ok (.iconst 1, 1) := by decide +kernel
theorem dL_law_832 : decode cL_law 832 = .ok (.iadd, 1) := by decide +kernel
theorem dL_law_833 : decode cL_law 833 = .ok (.iaload, 1) := by decide +kernel
theorem dL_law_834 : decode cL_law 834 = .ok (.aload_n 0, 1) := by decide +kernel
theorem dL_law_835 : decode cL_law 835 = .ok (.iload_n 3, 1) := by decide +kernel
theorem dL_law_836 : decode cL_law 836 = .ok (.iconst 2, 1) := by decide +kernel
theorem dL_law_837 : decode cL_law 837 = .ok (.iadd, 1) := by decide +kernel
theorem dL_law_838 : decode cL_law 838 = .ok (.iaload, 1) := by decide +kernel
theorem dL_law_839 : decode cL_law 839 = .ok (.aload_n 0, 1) := by decide +kernel
theorem dL_law_840 : decode cL_law 840 = .ok (.iload_n 3, 1) := by decide +kernel
theorem dL_law_841 : decode cL_law 841 = .ok (.iconst 3, 1) := by decide +kernel
theorem dL_law_842 : decode cL_law 842 = .ok (.iadd, 1) := by decide +kernel
theorem dL_law_843 : decode cL_law 843 = .ok (.iaload, 1) := by decide +kernel
theorem dL_law_844 : decode cL_law 844 = .ok (.invokevirtual 96, 3) := by decide +kernel
theorem dL_law_847 : decode cL_law 847 = .ok (.aload_n 2, 1) := by decide +kernel
theorem dL_law_848 : decode cL_law 848 = .ok (.aload_n 0, 1) := by decide +kernel
theorem dL_law_849 : decode cL_law 849 = .ok (.iload_n 3, 1) := by decide +kernel
theorem dL_law_850 : decode cL_law 850 = .ok (.iconst 1, 1) := by decide +kernel
theorem dL_law_851 : decode cL_law 851 = .ok (.iadd, 1) := by decide +kernel
theorem dL_law_852 : decode cL_law 852 = .ok (.iaload, 1) := by decide +kernel
theorem dL_law_853 : decode cL_law 853 = .ok (.aload_n 0, 1) := by decide +kernel
theorem dL_law_854 : decode cL_law 854 = .ok (.iload_n 3, 1) := by decide +kernel
theorem dL_law_855 : decode cL_law 855 = .ok (.iconst 2, 1) := by decide +kernel
theorem dL_law_856 : decode cL_law 856 = .ok (.iadd, 1) := by decide +kernel
theorem dL_law_857 : decode cL_law 857 = .ok (.iaload, 1) := by decide +kernel
theorem dL_law_858 : decode cL_law 858 = .ok (.aload_n 0, 1) := by decide +kernel
theorem dL_law_859 : decode cL_law 859 = .ok (.iload_n 3, 1) := by decide +kernel
theorem dL_law_860 : decode cL_law 860 = .ok (.iconst 3, 1) := by decide +kernel
theorem dL_law_861 : decode cL_law 861 = .ok (.iadd, 1) := by decide +kernel
theorem dL_law_862 : decode cL_law 862 = .ok (.iaload, 1) := by decide +kernel
theorem dL_law_863 : decode cL_law 863 = .ok (.invokevirtual 99, 3) := by decide +kernel
theorem dL_law_866 : decode cL_law 866 = .ok (.if_icmp .eq 84, 3) := by decide +kernel
theorem dL_law_869 : decode cL_law 869 = .ok (.iconst 0, 1) := by decide +kernel
theorem dL_law_870 : decode cL_law 870 = .ok (.ireturn, 1) := by decide +kernel
theorem dL_law_871 : decode cL_law 871 = .ok (.aload_n 1, 1) := by decide +kernel
theorem dL_law_872 : decode cL_law 872 = .ok (.aload_n 0, 1) := by decide +kernel
theorem dL_law_873 : decode cL_law 873 = .ok (.iload_n 3, 1) := by decide +kernel
theorem dL_law_874 : decode cL_law 874 = .ok (.iconst 1, 1) := by decide +kernel
theorem dL_law_875 : decode cL_law 875 = .ok (.iadd, 1) := by decide +kernel
theorem dL_law_876 : decode cL_law 876 = .ok (.iaload, 1) := by decide +kernel
theorem dL_law_877 : decode cL_law 877 = .ok (.invokevirtual 100, 3) := by decide +kernel
theorem dL_law_880 : decode cL_law 880 = .ok (.aload_n 2, 1) := by decide +kernel
theorem dL_law_881 : decode cL_law 881 = .ok (.aload_n 0, 1) := by decide +kernel
theorem dL_law_882 : decode cL_law 882 = .ok (.iload_n 3, 1) := by decide +kernel
theorem dL_law_883 : decode cL_law 883 = .ok (.iconst 1, 1) := by decide +kernel
theorem dL_law_884 : decode cL_law 884 = .ok (.iadd, 1) := by decide +kernel
theorem dL_law_885 : decode cL_law 885 = .ok (.iaload, 1) := by decide +kernel
theorem dL_law_886 : decode cL_law 886 = .ok (.invokevirtual 103, 3) := by decide +kernel
theorem dL_law_889 : decode cL_law 889 = .ok (.if_icmp .eq 61, 3) := by decide +kernel
theorem dL_law_892 : decode cL_law 892 = .ok (.iconst 0, 1) := by decide +kernel
theorem dL_law_893 : decode cL_law 893 = .ok (.ireturn, 1) := by decide +kernel
theorem dL_law_894 : decode cL_law 894 = .ok (.aload_n 1, 1) := by decide +kernel
theorem dL_law_895 : decode cL_law 895 = .ok (.aload_n 0, 1) := by decide +kernel
theorem dL_law_896 : decode cL_law 896 = .ok (.iload_n 3, 1) := by decide +kernel
theorem dL_law_897 : decode cL_law 897 = .ok (.iconst 1, 1) := by decide +kernel
theorem dL_law_898 : decode cL_law 898 = .ok (.iadd, 1) := by decide +kernel
theorem dL_law_899 : decode cL_law 899 = .ok (.iaload, 1) := by decide +kernel
theorem dL_law_900 : decode cL_law 900 = .ok (.invokevirtual 104, 3) := by decide +kernel
theorem dL_law_903 : decode cL_law 903 = .ok (.aload_n 2, 1) := by decide +kernel
theorem dL_law_904 : decode cL_law 904 = .ok (.aload_n 0, 1) := by decide +kernel
theorem dL_law_905 : decode cL_law 905 = .ok (.iload_n 3, 1) := by decide +kernel
theorem dL_law_906 : decode cL_law 906 = .ok (.iconst 1, 1) := by decide +kernel
theorem dL_law_907 : decode cL_law 907 = .ok (.iadd, 1) := by decide +kernel
theorem dL_law_908 : decode cL_law 908 = .ok (.iaload, 1) := by decide +kernel
theorem dL_law_909 : decode cL_law 909 = .ok (.invokevirtual 107, 3) := by decide +kernel
theorem dL_law_912 : decode cL_law 912 = .ok (.if_icmp .eq 38, 3) := by decide +kernel
theorem dL_law_915 : decode cL_law 915 = .ok (.iconst 0, 1) := by decide +kernel
theorem dL_law_916 : decode cL_law 916 = .ok (.ireturn, 1) := by decide +kernel
theorem dL_law_917 : decode cL_law 917 = .ok (.aload_n 1, 1) := by decide +kernel
theorem dL_law_918 : decode cL_law 918 = .ok (.aload_n 0, 1) := by decide +kernel
theorem dL_law_919 : decode cL_law 919 = .ok (.iload_n 3, 1) := by decide +kernel
theorem dL_law_920 : decode cL_law 920 = .ok (.iconst 1, 1) := by decide +kernel
theorem dL_law_921 : decode cL_law 921 = .ok (.iadd, 1) := by decide +kernel
theorem dL_law_922 : decode cL_law 922 = .ok (.iaload, 1) := by decide +kernel
theorem dL_law_923 : decode cL_law 923 = .ok (.aload_n 0, 1) := by decide +kernel
theorem dL_law_924 : decode cL_law 924 = .ok (.iload_n 3, 1) := by decide +kernel
theorem dL_law_925 : decode cL_law 925 = .ok (.iconst 2, 1) := by decide +kernel
theorem dL_law_926 : decode cL_law 926 = .ok (.iadd, 1) := by decide +kernel
theorem dL_law_927 : decode cL_law 927 = .ok (.iaload, 1) := by decide +kernel
theorem dL_law_928 : decode cL_law 928 = .ok (.invokevirtual 108, 3) := by decide +kernel
theorem dL_law_931 : decode cL_law 931 = .ok (.aload_n 2, 1) := by decide +kernel
theorem dL_law_932 : decode cL_law 932 = .ok (.aload_n 0, 1) := by decide +kernel
theorem dL_law_933 : decode cL_law 933 = .ok (.iload_n 3, 1) := by decide +kernel
theorem dL_law_934 : decode cL_law 934 = .ok (.iconst 1, 1) := by decide +kernel
theorem dL_law_935 : decode cL_law 935 = .ok (.iadd, 1) := by decide +kernel
theorem dL_law_936 : decode cL_law 936 = .ok (.iaload, 1) := by decide +kernel
theorem dL_law_937 : decode cL_law 937 = .ok (.aload_n 0, 1) := by decide +kernel
theorem dL_law_938 : decode cL_law 938 = .ok (.iload_n 3, 1) := by decide +kernel
theorem dL_law_939 : decode cL_law 939 = .ok (.iconst 2, 1) := by decide +kernel
theorem dL_law_940 : decode cL_law 940 = .ok (.iadd, 1) := by decide +kernel
theorem dL_law_941 : decode cL_law 941 = .ok (.iaload, 1) := by decide +kernel
theorem dL_law_942 : decode cL_law 942 = .ok (.invokevirtual 111, 3) := by decide +kernel
theorem dL_law_945 : decode cL_law 945 = .ok (.if_icmp .eq 5, 3) := by decide +kernel
theorem dL_law_948 : decode cL_law 948 = .ok (.iconst 0, 1) := by decide +kernel
theorem dL_law_949 : decode cL_law 949 = .ok (.ireturn, 1) := by decide +kernel
theorem dL_law_950 : decode cL_law 950 = .ok (.iinc 3 6, 3) := by decide +kernel
theorem dL_law_953 : decode cL_law 953 = .ok (.goto (-935), 3) := by decide +kernel
theorem dL_law_956 : decode cL_law 956 = .ok (.iconst 1, 1) := by decide +kernel
theorem dL_law_957 : decode cL_law 957 = .ok (.ireturn, 1) := by decide +kernel
end
section
def Mw (tc : Nat → ClassId) (o : Nat) (ad : Nat → Nat) (u : St) : va_W := [(o, .inr (6, [.int (u.1 0), .ref (ad 1), .ref (ad 2), .int (u.1 3), .int (u.1 4), .ref (ad 5), .ref (ad 6), .ref (ad 7), .ref (ad 8), .ref (ad 9), .ref (ad 10), .ref (ad 11), .ref (ad 12), .ref (ad 13), .ref (ad 14), .ref (ad 15), .int (u.1 16), .ref (ad 17), .ref (ad 18), .ref (ad 19), .ref (ad 20), .int (u.1 21), .long (u.2.2 22 0), .int (u.1 23), .int (u.1 24), .ref (ad 25), .int (u.1 26), .int (u.1 27), .ref (ad 28), .int (u.1 29)])), (ad 1, .inl (tc 0, 128, .inl (u.2.1 1))), (ad 2, .inl (tc 0, 128, .inl (u.2.1 2))), (ad 5, .inl (tc 0, 12, .inl (u.2.1 5))), (ad 6, .inl (tc 0, 12, .inl (u.2.1 6))), (ad 7, .inl (tc 0, 12, .inl (u.2.1 7))), (ad 8, .inl (tc 0, 12, .inl (u.2.1 8))), (ad 9, .inl (tc 0, 120, .inl (u.2.1 9))), (ad 10, .inl (tc 0, 120, .inl (u.2.1 10))), (ad 11, .inl (tc 0, 120, .inl (u.2.1 11))), (ad 12, .inl (tc 0, 120, .inl (u.2.1 12))), (ad 13, .inl (tc 0, 120, .inl (u.2.1 13))), (ad 14, .inl (tc 0, 120, .inl (u.2.1 14))), (ad 15, .inl (tc 0, 120, .inl (u.2.1 15))), (ad 17, .inl (tc 0, 132, .inl (u.2.1 17))), (ad 18, .inl (tc 0, 11, .inl (u.2.1 18))), (ad 19, .inl (tc 0, 11, .inl (u.2.1 19))), (ad 20, .inl (tc 0, 10, .inl (u.2.1 20))), (ad 25, .inl (tc 0, 8000, .inl (u.2.1 25))), (ad 28, .inl (tc 0, 10, .inl (u.2.1 28)))]
def j_X7_in (v0 : Int32) (v1 : Int32) (v2 : Int32) : Option (Int32) :=
  if v0 < v1 then some (0 : Int32) else if v2 < v0 then some (0 : Int32) else some (1 : Int32)
set_option maxHeartbeats 4000000 in
set_option maxRecDepth 100000 in
theorem k_X7_in (l : Launch) (D : va_G) (tc : Nat → ClassId) (ws : va_W) (v0 : Int32) (v1 : Int32) (v2 : Int32) {x0 : Int32} (hj : j_X7_in v0 v1 v2 = some x0) : MetD l D tc yX7_in cX7_in 3 (some .boolean) 0 0 [.int v0, .int v1, .int v2] (ws) (some (.int x0)) (ws) :=
  x_entI (fun x => x) (fun _ => ws) (by decide) (own := RX7) rfl (Nat.le_of_ble_eq_true rfl) (fun p e s m args below meth c A Q ls C V hl hret => by
  obtain ⟨hx, hb, hr, hml, hown, hts, hlk, hN⟩ := id C
  have hRf : 0 ≤ (rmz 0 0 0 0).frames := Nat.le_refl _
  have hRl : 0 ≤ (rmz 0 0 0 0).locals := Nat.le_refl _
  generalize (rmz 0 0 0 0) = R at hret hRf hRl ⊢
  generalize s.heap = H at V ⊢
  generalize ([] : List Loc) = locs at V ⊢
  have hl : lv_has ls 3 [(0, .int v0), (1, .int v1), (2, .int v2)] := hl
  unfold j_X7_in at hj
  refine lv_iload_n hx hb dX7_in_0 rfl (lv_at hl 0 rfl) ?_
  refine lv_iload_n hx hb dX7_in_1 rfl (lv_at hl 1 rfl) ?_
  refine lv_icmp_lt (tgt := 14) hx hb dX7_in_2 (by decide) (fun c1 => ?_) (fun c1 => ?_)
  · replace hj := ip _ c1 hj
    refine lv_iconst (v := 0) hx hb dX7_in_14 (by decide) ?_
    exact hret (0 : Int32) hj rfl V dX7_in_15
  · replace hj := iq _ c1 hj
    refine lv_iload_n hx hb dX7_in_5 rfl (lv_at hl 0 rfl) ?_
    refine lv_iload_n hx hb dX7_in_6 rfl (lv_at hl 2 rfl) ?_
    refine lv_icmp_gt (tgt := 14) hx hb dX7_in_7 (by decide) (fun c2 => ?_) (fun c2 => ?_)
    · replace hj := ip _ c2 hj
      refine lv_iconst (v := 0) hx hb dX7_in_14 (by decide) ?_
      exact hret (0 : Int32) hj rfl V dX7_in_15
    · replace hj := iq _ c2 hj
      refine lv_iconst (v := 1) hx hb dX7_in_10 (by decide) ?_
      refine lv_goto (tgt := 15) hx hb dX7_in_11 (by decide) ?_
      exact hret (1 : Int32) hj rfl V dX7_in_15)

def j_X7_isHistory (u : St) (v1 : Int32) : Option (Int32) :=
  (j_X7_in v1 (0 : Int32) ((u.1 4) - (1 : Int32))).bind (fun r1 => some r1)
set_option maxHeartbeats 4000000 in
set_option maxRecDepth 100000 in
theorem k_X7_isHistory (l : Launch) (D : va_G) (tc : Nat → ClassId) (o : Nat) (ad : Nat → Nat) (u : St) (v1 : Int32) {x0 : Int32} (hj : j_X7_isHistory u v1 = some x0) : MetD l D tc yX7_isHistory cX7_isHistory 2 (some .boolean) 1 22 [.ref o, .int v1] (Mw tc o ad u) (some (.int x0)) (Mw tc o ad u) :=
  x_entI (fun x => x) (fun _ => Mw tc o ad u) (by decide) (own := RX7) rfl (Nat.le_of_ble_eq_true rfl) (fun p e s m args below meth c A Q ls C V hl hret => by
  obtain ⟨hx, hb, hr, hml, hown, hts, hlk, hN⟩ := id C
  have hRf : 1 ≤ (rmz 1 0 0 22).frames := Nat.le_refl _
  have hRl : 22 ≤ (rmz 1 0 0 22).locals := Nat.le_refl _
  generalize (rmz 1 0 0 22) = R at hret hRf hRl ⊢
  generalize s.heap = H at V ⊢
  generalize ([] : List Loc) = locs at V ⊢
  have hl : lv_has ls 2 [(0, .ref o), (1, .int v1)] := hl
  unfold j_X7_isHistory at hj
  refine lv_iload_n hx hb dX7_isHistory_0 rfl (lv_at hl 1 rfl) ?_
  refine lv_iconst (v := 0) hx hb dX7_isHistory_1 (by decide) ?_
  refine lv_aload_n hx hb dX7_isHistory_2 rfl (lv_at hl 0 rfl) ?_
  refine x_get hx hb hts hown V inX7 0 rfl rfl 4 (by decide) tw_524 rfl rfl dX7_isHistory_3 ?_
  refine lv_iconst (v := 1) hx hb dX7_isHistory_6 (by decide) ?_
  refine lv_isub hx hb dX7_isHistory_7 ?_
  obtain ⟨r1, hr1, hj⟩ := bd_some hj
  refine x_allI V _ (rg_map _) (x_runS (n := 3) (rest := []) C V _ (rg_map _) (rg_nd _) (k_X7_in l D tc (Mw tc o ad u) v1 (0 : Int32) ((u.1 4) - (1 : Int32)) hr1) tw_619 tw_620 tw_6 tw_621 (by decide +kernel) ⟨Nat.le_trans (Nat.le_of_ble_eq_true rfl) hRf, Nat.le_trans (Nat.le_of_ble_eq_true rfl) hRl⟩ ⟨Nat.zero_le _, Nat.zero_le _⟩ rfl hl.1 rfl (Nat.le_of_ble_eq_true rfl) dX7_isHistory_8) (fun H locs V zr1 => ?_)
  replace V : Wd D tc A s H locs (Mw tc o ad u) := V
  exact hret r1 hj zr1 V dX7_isHistory_11)

def j_X7_isCall (u : St) (v1 : Int32) (v2 : Int32) : Option (Int32) :=
  (j_X7_isHistory u v1).bind (fun r1 => if r1 = (0 : Int32) then some (0 : Int32) else gd v1 12 ((j_X7_in v2 (0 : Int32) ((u.2.1 7 v1.toNatClampNeg) - (1 : Int32))).bind (fun r4 => if r4 = (0 : Int32) then some (0 : Int32) else some (1 : Int32))))
set_option maxHeartbeats 4000000 in
set_option maxRecDepth 100000 in
theorem k_X7_isCall (l : Launch) (D : va_G) (tc : Nat → ClassId) (o : Nat) (ad : Nat → Nat) (u : St) (v1 : Int32) (v2 : Int32) {x0 : Int32} (hj : j_X7_isCall u v1 v2 = some x0) : MetD l D tc yX7_isCall cX7_isCall 3 (some .boolean) 2 43 [.ref o, .int v1, .int v2] (Mw tc o ad u) (some (.int x0)) (Mw tc o ad u) :=
  x_entI (fun x => x) (fun _ => Mw tc o ad u) (by decide) (own := RX7) rfl (Nat.le_of_ble_eq_true rfl) (fun p e s m args below meth c A Q ls C V hl hret => by
  obtain ⟨hx, hb, hr, hml, hown, hts, hlk, hN⟩ := id C
  have hRf : 2 ≤ (rmz 2 0 0 43).frames := Nat.le_refl _
  have hRl : 43 ≤ (rmz 2 0 0 43).locals := Nat.le_refl _
  generalize (rmz 2 0 0 43) = R at hret hRf hRl ⊢
  generalize s.heap = H at V ⊢
  generalize ([] : List Loc) = locs at V ⊢
  have hl : lv_has ls 3 [(0, .ref o), (1, .int v1), (2, .int v2)] := hl
  unfold j_X7_isCall at hj
  refine lv_aload_n hx hb dX7_isCall_0 rfl (lv_at hl 0 rfl) ?_
  refine lv_iload_n hx hb dX7_isCall_1 rfl (lv_at hl 1 rfl) ?_
  obtain ⟨r1, hr1, hj⟩ := bd_some hj
  refine x_allI V _ (rg_map _) (x_runV (n := 1) (rest := []) C V _ (rg_map _) (rg_nd _) (k_X7_isHistory l D tc o ad u v1 hr1) tw_630 tw_632 tp_10 tw_6 tw_633 (by decide +kernel) ⟨Nat.le_trans (Nat.le_of_ble_eq_true rfl) hRf, Nat.le_trans (Nat.le_of_ble_eq_true rfl) hRl⟩ ⟨Nat.zero_le _, Nat.zero_le _⟩ 0 6 rfl rfl rfl hl.1 rfl (Nat.le_of_ble_eq_true rfl) dX7_isCall_2) (fun H locs V zr1 => ?_)
  replace V : Wd D tc A s H locs (Mw tc o ad u) := V
  refine lv_if_eq (tgt := 28) hx hb dX7_isCall_5 (by decide) (fun c2 => ?_) (fun c2 => ?_)
  · replace hj := ip _ c2 hj
    refine lv_iconst (v := 0) hx hb dX7_isCall_28 (by decide) ?_
    exact hret (0 : Int32) hj rfl V dX7_isCall_29
  · replace hj := iq _ c2 hj
    refine lv_iload_n hx hb dX7_isCall_8 rfl (lv_at hl 2 rfl) ?_
    refine lv_iconst (v := 0) hx hb dX7_isCall_9 (by decide) ?_
    refine lv_aload_n hx hb dX7_isCall_10 rfl (lv_at hl 0 rfl) ?_
    refine x_get hx hb hts hown V inX7 0 rfl rfl 7 (by decide) tw_527 rfl rfl dX7_isCall_11 ?_
    refine lv_iload_n hx hb dX7_isCall_14 rfl (lv_at hl 1 rfl) ?_
    obtain ⟨i3, hj⟩ := gd_some hj
    refine x_iald hx hb V 5 rfl i3 dX7_isCall_15 ?_
    refine lv_iconst (v := 1) hx hb dX7_isCall_16 (by decide) ?_
    refine lv_isub hx hb dX7_isCall_17 ?_
    obtain ⟨r4, hr4, hj⟩ := bd_some hj
    refine x_allI V _ (rg_map _) (x_runS (n := 3) (rest := []) C V _ (rg_map _) (rg_nd _) (k_X7_in l D tc (Mw tc o ad u) v2 (0 : Int32) ((u.2.1 7 v1.toNatClampNeg) - (1 : Int32)) hr4) tw_619 tw_620 tw_6 tw_621 (by decide +kernel) ⟨Nat.le_trans (Nat.le_of_ble_eq_true rfl) hRf, Nat.le_trans (Nat.le_of_ble_eq_true rfl) hRl⟩ ⟨Nat.zero_le _, Nat.zero_le _⟩ rfl hl.1 rfl (Nat.le_of_ble_eq_true rfl) dX7_isCall_18) (fun H locs V zr4 => ?_)
    replace V : Wd D tc A s H locs (Mw tc o ad u) := V
    refine lv_if_eq (tgt := 28) hx hb dX7_isCall_21 (by decide) (fun c5 => ?_) (fun c5 => ?_)
    · replace hj := ip _ c5 hj
      refine lv_iconst (v := 0) hx hb dX7_isCall_28 (by decide) ?_
      exact hret (0 : Int32) hj rfl V dX7_isCall_29
    · replace hj := iq _ c5 hj
      refine lv_iconst (v := 1) hx hb dX7_isCall_24 (by decide) ?_
      refine lv_goto (tgt := 29) hx hb dX7_isCall_25 (by decide) ?_
      exact hret (1 : Int32) hj rfl V dX7_isCall_29)

def q_X7_isQuiet_3 (u : St) (k_3 : Int32 → Int32 → Int32 → Int32 → Option (Int32)) (v1 : Int32) (v2 : Int32) (v3 : Int32) (v4 : Int32) : Option (Int32) :=
  gd v1 12 (if (u.2.1 7 v1.toNatClampNeg) ≤ v4 then some (1 : Int32) else nm (((10 : Int32) * v1) + v4) (fun x3 => if ((v2 >>> (v4 &&& 31)) &&& (1 : Int32)) = (1 : Int32) then gd x3 120 (if v3 < (u.2.1 13 x3.toNatClampNeg) then nm (v4 + 1) (fun x8 => k_3 v1 v2 v3 x8) else gd x3 120 (if (u.2.1 14 x3.toNatClampNeg) = (0 : Int32) then some (0 : Int32) else gd x3 120 (if (u.2.1 14 x3.toNatClampNeg) ≤ v3 then nm (v4 + 1) (fun x13 => k_3 v1 v2 v3 x13) else some (0 : Int32)))) else nm (v4 + 1) (fun x5 => k_3 v1 v2 v3 x5)))
set_option maxHeartbeats 4000000 in
set_option maxRecDepth 100000 in
theorem b_X7_isQuiet_3 {p : Program} {l : Launch} {e : Env} {R : Room} {s : State} {m : MethodId} {args : Array Value} {below : List Frame} {meth : Method} {c : Code} {A : Nat → Prop} {Q : State → Prop} {D : va_G} {tc : Nat → ClassId} (o : Nat) (ad : Nat → Nat) (u : St) (hRf : 0 ≤ R.frames) (hRl : 0 ≤ R.locals) (C : Cx p s m args meth c cX7_isQuiet 6 RX7 (some .boolean)) {x0 : Int32} (hret : RetI p l e R s m args below meth c Q cX7_isQuiet D tc A .boolean (some x0) (fun x => x) (fun _ => Mw tc o ad u)) (k_3 : Int32 → Int32 → Int32 → Int32 → Option (Int32)) (hk_3 : ∀ (v1 : Int32) (v2 : Int32) (v3 : Int32) (v4 : Int32), k_3 v1 v2 v3 v4 = some x0 → ∀ (H : Heap) (locs : List Loc) (ls : Array Slot), Wd D tc A s H locs (Mw tc o ad u) → lv_has ls 6 [(0, .ref o), (1, .int v1), (2, .int v2), (3, .int v3), (4, .int v4)] → W p l e R s m args below meth c H locs 0 0 Q (F0 m 3 ls [])) : ∀ (v1 : Int32) (v2 : Int32) (v3 : Int32) (v4 : Int32), q_X7_isQuiet_3 u k_3 v1 v2 v3 v4 = some x0 → ∀ (H : Heap) (locs : List Loc) (ls : Array Slot), Wd D tc A s H locs (Mw tc o ad u) → lv_has ls 6 [(0, .ref o), (1, .int v1), (2, .int v2), (3, .int v3), (4, .int v4)] → W p l e R s m args below meth c H locs 0 0 Q (F0 m 3 ls []) := by
  obtain ⟨hx, hb, hr, hml, hown, hts, hlk, hN⟩ := id C
  intro v1 v2 v3 v4 hj H locs ls V hl
  unfold q_X7_isQuiet_3 at hj
  refine lv_iload hx hb dX7_isQuiet_3 (lv_at hl 4 rfl) ?_
  refine lv_aload_n hx hb dX7_isQuiet_5 rfl (lv_at hl 0 rfl) ?_
  refine x_get hx hb hts hown V inX7 0 rfl rfl 7 (by decide) tw_527 rfl rfl dX7_isQuiet_6 ?_
  refine lv_iload_n hx hb dX7_isQuiet_9 rfl (lv_at hl 1 rfl) ?_
  obtain ⟨i1, hj⟩ := gd_some hj
  refine x_iald hx hb V 5 rfl i1 dX7_isQuiet_10 ?_
  refine lv_icmp_ge (tgt := 73) hx hb dX7_isQuiet_11 (by decide) (fun c2 => ?_) (fun c2 => ?_)
  · replace hj := ip _ c2 hj
    refine lv_iconst (v := 1) hx hb dX7_isQuiet_73 (by decide) ?_
    exact hret (1 : Int32) hj rfl V dX7_isQuiet_74
  · replace hj := iq _ c2 hj
    refine lv_bipush (v := 10) hx hb dX7_isQuiet_14 (by decide) ?_
    refine lv_iload_n hx hb dX7_isQuiet_16 rfl (lv_at hl 1 rfl) ?_
    refine lv_imul hx hb dX7_isQuiet_17 ?_
    refine lv_iload hx hb dX7_isQuiet_18 (lv_at hl 4 rfl) ?_
    refine lv_iadd hx hb dX7_isQuiet_20 ?_
    obtain ⟨x3, ex3, hj⟩ := nm_some hj
    refine x_topi ex3 ?_
    refine lv_istore (lv' := [(5, .int x3), (0, .ref o), (1, .int v1), (2, .int v2), (3, .int v3), (4, .int v4)]) hx hb dX7_isQuiet_21 hl (by decide) rfl (fun ls hl => ?_)
    refine lv_iload_n hx hb dX7_isQuiet_23 rfl (lv_at hl 3 rfl) ?_
    refine lv_iload hx hb dX7_isQuiet_24 (lv_at hl 5 rfl) ?_
    refine lv_ishr hx hb dX7_isQuiet_26 ?_
    refine lv_iconst (v := 1) hx hb dX7_isQuiet_27 (by decide) ?_
    refine lv_iand hx hb dX7_isQuiet_28 ?_
    refine lv_iconst (v := 1) hx hb dX7_isQuiet_29 (by decide) ?_
    refine lv_icmp_ne (tgt := 67) hx hb dX7_isQuiet_30 (by decide) (fun c4 => ?_) (fun c4 => ?_)
    · replace hj := iq _ c4 hj
      obtain ⟨x5, ex5, hj⟩ := nm_some hj
      refine lv_iinc (v := x5) (lv' := [(4, .int x5), (5, .int x3), (0, .ref o), (1, .int v1), (2, .int v2), (3, .int v3)]) hx hb dX7_isQuiet_67 hl (k := 5) rfl (by rw [ex5]; rfl) (by decide) rfl (fun ls hl => ?_)
      refine lv_goto (tgt := 3) hx hb dX7_isQuiet_70 (by decide) ?_
      exact hk_3 v1 v2 v3 x5 hj _ _ _ V (lv_sub hl [2, 3, 4, 5, 0] rfl)
    · replace hj := ip _ c4 hj
      refine lv_aload_n hx hb dX7_isQuiet_33 rfl (lv_at hl 1 rfl) ?_
      refine x_get hx hb hts hown V inX7 0 rfl rfl 13 (by decide) tw_533 rfl rfl dX7_isQuiet_34 ?_
      refine lv_iload hx hb dX7_isQuiet_37 (lv_at hl 0 rfl) ?_
      obtain ⟨i6, hj⟩ := gd_some hj
      refine x_iald hx hb V 11 rfl i6 dX7_isQuiet_39 ?_
      refine lv_iload_n hx hb dX7_isQuiet_40 rfl (lv_at hl 4 rfl) ?_
      refine lv_icmp_gt (tgt := 67) hx hb dX7_isQuiet_41 (by decide) (fun c7 => ?_) (fun c7 => ?_)
      · replace hj := ip _ c7 hj
        obtain ⟨x8, ex8, hj⟩ := nm_some hj
        refine lv_iinc (v := x8) (lv' := [(4, .int x8), (5, .int x3), (0, .ref o), (1, .int v1), (2, .int v2), (3, .int v3)]) hx hb dX7_isQuiet_67 hl (k := 5) rfl (by rw [ex8]; rfl) (by decide) rfl (fun ls hl => ?_)
        refine lv_goto (tgt := 3) hx hb dX7_isQuiet_70 (by decide) ?_
        exact hk_3 v1 v2 v3 x8 hj _ _ _ V (lv_sub hl [2, 3, 4, 5, 0] rfl)
      · replace hj := iq _ c7 hj
        refine lv_aload_n hx hb dX7_isQuiet_44 rfl (lv_at hl 1 rfl) ?_
        refine x_get hx hb hts hown V inX7 0 rfl rfl 14 (by decide) tw_534 rfl rfl dX7_isQuiet_45 ?_
        refine lv_iload hx hb dX7_isQuiet_48 (lv_at hl 0 rfl) ?_
        obtain ⟨i9, hj⟩ := gd_some hj
        refine x_iald hx hb V 12 rfl i9 dX7_isQuiet_50 ?_
        refine lv_if_eq (tgt := 65) hx hb dX7_isQuiet_51 (by decide) (fun c10 => ?_) (fun c10 => ?_)
        · replace hj := ip _ c10 hj
          refine lv_iconst (v := 0) hx hb dX7_isQuiet_65 (by decide) ?_
          exact hret (0 : Int32) hj rfl V dX7_isQuiet_66
        · replace hj := iq _ c10 hj
          refine lv_aload_n hx hb dX7_isQuiet_54 rfl (lv_at hl 1 rfl) ?_
          refine x_get hx hb hts hown V inX7 0 rfl rfl 14 (by decide) tw_534 rfl rfl dX7_isQuiet_55 ?_
          refine lv_iload hx hb dX7_isQuiet_58 (lv_at hl 0 rfl) ?_
          obtain ⟨i11, hj⟩ := gd_some hj
          refine x_iald hx hb V 12 rfl i11 dX7_isQuiet_60 ?_
          refine lv_iload_n hx hb dX7_isQuiet_61 rfl (lv_at hl 4 rfl) ?_
          refine lv_icmp_le (tgt := 67) hx hb dX7_isQuiet_62 (by decide) (fun c12 => ?_) (fun c12 => ?_)
          · replace hj := ip _ c12 hj
            obtain ⟨x13, ex13, hj⟩ := nm_some hj
            refine lv_iinc (v := x13) (lv' := [(4, .int x13), (5, .int x3), (0, .ref o), (1, .int v1), (2, .int v2), (3, .int v3)]) hx hb dX7_isQuiet_67 hl (k := 5) rfl (by rw [ex13]; rfl) (by decide) rfl (fun ls hl => ?_)
            refine lv_goto (tgt := 3) hx hb dX7_isQuiet_70 (by decide) ?_
            exact hk_3 v1 v2 v3 x13 hj _ _ _ V (lv_sub hl [2, 3, 4, 5, 0] rfl)
          · replace hj := iq _ c12 hj
            refine lv_iconst (v := 0) hx hb dX7_isQuiet_65 (by decide) ?_
            exact hret (0 : Int32) hj rfl V dX7_isQuiet_66
def j_X7_isQuiet_3 (u : St) : Nat → Int32 → Int32 → Int32 → Int32 → Option (Int32)
  | 0 => fun _ _ _ _ => none
  | n + 1 => q_X7_isQuiet_3 u (j_X7_isQuiet_3 u n)
theorem lp_X7_isQuiet_3 {p : Program} {l : Launch} {e : Env} {R : Room} {s : State} {m : MethodId} {args : Array Value} {below : List Frame} {meth : Method} {c : Code} {A : Nat → Prop} {Q : State → Prop} {D : va_G} {tc : Nat → ClassId} (o : Nat) (ad : Nat → Nat) (u : St) (hRf : 0 ≤ R.frames) (hRl : 0 ≤ R.locals) (C : Cx p s m args meth c cX7_isQuiet 6 RX7 (some .boolean)) {x0 : Int32} (hret : RetI p l e R s m args below meth c Q cX7_isQuiet D tc A .boolean (some x0) (fun x => x) (fun _ => Mw tc o ad u))  : ∀ (n : Nat), ∀ (v1 : Int32) (v2 : Int32) (v3 : Int32) (v4 : Int32), j_X7_isQuiet_3 u n v1 v2 v3 v4 = some x0 → ∀ (H : Heap) (locs : List Loc) (ls : Array Slot), Wd D tc A s H locs (Mw tc o ad u) → lv_has ls 6 [(0, .ref o), (1, .int v1), (2, .int v2), (3, .int v3), (4, .int v4)] → W p l e R s m args below meth c H locs 0 0 Q (F0 m 3 ls []) := by
  intro n
  induction n with
  | zero =>
    intro v1 v2 v3 v4 hj
    have hj : (none : Option (Int32)) = some x0 := hj
    cases hj
  | succ n ih =>
    intro v1 v2 v3 v4 hj
    exact b_X7_isQuiet_3 o ad u hRf hRl C hret   (j_X7_isQuiet_3 u n) ih v1 v2 v3 v4 hj
def j_X7_isQuiet (u : St) (v1 : Int32) (v2 : Int32) (v3 : Int32) : Option (Int32) :=
  j_X7_isQuiet_3 u 100 v1 v2 v3 (0 : Int32)
set_option maxHeartbeats 4000000 in
set_option maxRecDepth 100000 in
theorem k_X7_isQuiet (l : Launch) (D : va_G) (tc : Nat → ClassId) (o : Nat) (ad : Nat → Nat) (u : St) (v1 : Int32) (v2 : Int32) (v3 : Int32) {x0 : Int32} (hj : j_X7_isQuiet u v1 v2 v3 = some x0) : MetD l D tc yX7_isQuiet cX7_isQuiet 6 (some .boolean) 0 0 [.ref o, .int v1, .int v2, .int v3] (Mw tc o ad u) (some (.int x0)) (Mw tc o ad u) :=
  x_entI (fun x => x) (fun _ => Mw tc o ad u) (by decide) (own := RX7) rfl (Nat.le_of_ble_eq_true rfl) (fun p e s m args below meth c A Q ls C V hl hret => by
  obtain ⟨hx, hb, hr, hml, hown, hts, hlk, hN⟩ := id C
  have hRf : 0 ≤ (rmz 0 0 0 0).frames := Nat.le_refl _
  have hRl : 0 ≤ (rmz 0 0 0 0).locals := Nat.le_refl _
  generalize (rmz 0 0 0 0) = R at hret hRf hRl ⊢
  generalize s.heap = H at V ⊢
  generalize ([] : List Loc) = locs at V ⊢
  have hl : lv_has ls 6 [(0, .ref o), (1, .int v1), (2, .int v2), (3, .int v3)] := hl
  unfold j_X7_isQuiet at hj
  refine lv_iconst (v := 0) hx hb dX7_isQuiet_0 (by decide) ?_
  refine lv_istore (lv' := [(4, .int (0 : Int32)), (0, .ref o), (1, .int v1), (2, .int v2), (3, .int v3)]) hx hb dX7_isQuiet_1 hl (by decide) rfl (fun ls hl => ?_)
  exact lp_X7_isQuiet_3 o ad u hRf hRl C hret   100 v1 v2 v3 (0 : Int32) hj _ _ _ V (lv_sub hl [1, 2, 3, 4, 0] rfl))
end
