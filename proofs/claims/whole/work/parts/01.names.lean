-- ===== PART A: goes FIRST, ahead of the names: the tables' words, and 'selects' of the private methods out of them =====
/-- a private method of a class that the tables say can be made, by its rows of tables_1 -/
def lw_okq (q : MethodName × Nat) : Prop := (q.1.cls ≠ "java/lang/invoke/MethodHandle" ∧ q.1.cls ≠ "java/lang/invoke/VarHandle") ∧ Cond.instantiable q.1.cls q.2 ∈ tables_1 ∧ Cond.privateMethod q.1 ∈ tables_1 ∧ Cond.instanceMethod q.1 ∈ tables_1
theorem lw_p0 : lw_okq (⟨"HistoryCourt", "tableOf", "(I)LHistoryCourt$Table;"⟩, 10) := ⟨⟨by decide +kernel, by decide +kernel⟩, List.mem_of_getElem? (i := 13) (by decide +kernel), List.mem_of_getElem? (i := 196) (by decide +kernel), List.mem_of_getElem? (i := 197) (by decide +kernel)⟩
theorem lw_p1 : lw_okq (⟨"HistoryCourt", "keep", "(LHistoryCourt$History;)I"⟩, 10) := ⟨⟨by decide +kernel, by decide +kernel⟩, List.mem_of_getElem? (i := 13) (by decide +kernel), List.mem_of_getElem? (i := 220) (by decide +kernel), List.mem_of_getElem? (i := 221) (by decide +kernel)⟩
theorem lw_p2 : lw_okq (⟨"HistoryCourt", "historyOf", "(I)LHistoryCourt$History;"⟩, 10) := ⟨⟨by decide +kernel, by decide +kernel⟩, List.mem_of_getElem? (i := 13) (by decide +kernel), List.mem_of_getElem? (i := 228) (by decide +kernel), List.mem_of_getElem? (i := 229) (by decide +kernel)⟩
theorem lw_p3 : lw_okq (⟨"HistoryCourt$History", "isQuiet", "(II)Z"⟩, 11) := ⟨⟨by decide +kernel, by decide +kernel⟩, List.mem_of_getElem? (i := 31) (by decide +kernel), List.mem_of_getElem? (i := 322) (by decide +kernel), List.mem_of_getElem? (i := 323) (by decide +kernel)⟩
theorem lw_p4 : lw_okq (⟨"HistoryCourt$Search", "open", "(LHistoryCourt$History;IIZ)V"⟩, 6) := ⟨⟨by decide +kernel, by decide +kernel⟩, List.mem_of_getElem? (i := 25) (by decide +kernel), List.mem_of_getElem? (i := 342) (by decide +kernel), List.mem_of_getElem? (i := 343) (by decide +kernel)⟩
theorem lw_p5 : lw_okq (⟨"HistoryCourt$Search", "waysFrom", "(IIJ)J"⟩, 6) := ⟨⟨by decide +kernel, by decide +kernel⟩, List.mem_of_getElem? (i := 25) (by decide +kernel), List.mem_of_getElem? (i := 354) (by decide +kernel), List.mem_of_getElem? (i := 355) (by decide +kernel)⟩
theorem lw_p6 : lw_okq (⟨"HistoryCourt$Search", "isWhole", "(I)Z"⟩, 6) := ⟨⟨by decide +kernel, by decide +kernel⟩, List.mem_of_getElem? (i := 25) (by decide +kernel), List.mem_of_getElem? (i := 371) (by decide +kernel), List.mem_of_getElem? (i := 372) (by decide +kernel)⟩
theorem lw_p7 : lw_okq (⟨"HistoryCourt$Search", "fits", "(IIJ)Z"⟩, 6) := ⟨⟨by decide +kernel, by decide +kernel⟩, List.mem_of_getElem? (i := 25) (by decide +kernel), List.mem_of_getElem? (i := 375) (by decide +kernel), List.mem_of_getElem? (i := 376) (by decide +kernel)⟩
theorem lw_p8 : lw_okq (⟨"HistoryCourt$Search", "firstThatLeadsOn", "(IIJ)I"⟩, 6) := ⟨⟨by decide +kernel, by decide +kernel⟩, List.mem_of_getElem? (i := 25) (by decide +kernel), List.mem_of_getElem? (i := 445) (by decide +kernel), List.mem_of_getElem? (i := 446) (by decide +kernel)⟩
theorem lw_p9 : lw_okq (⟨"HistoryCourt$Search", "collectFrom", "(IIJILHistoryCourt$Answers;)V"⟩, 6) := ⟨⟨by decide +kernel, by decide +kernel⟩, List.mem_of_getElem? (i := 25) (by decide +kernel), List.mem_of_getElem? (i := 480) (by decide +kernel), List.mem_of_getElem? (i := 481) (by decide +kernel)⟩
theorem lw_p10 : lw_okq (⟨"HistoryCourtModel", "isHistory", "(I)Z"⟩, 30) := ⟨⟨by decide +kernel, by decide +kernel⟩, List.mem_of_getElem? (i := 516) (by decide +kernel), List.mem_of_getElem? (i := 631) (by decide +kernel), List.mem_of_getElem? (i := 632) (by decide +kernel)⟩
theorem lw_p11 : lw_okq (⟨"HistoryCourtModel", "isOpen", "(II)Z"⟩, 30) := ⟨⟨by decide +kernel, by decide +kernel⟩, List.mem_of_getElem? (i := 516) (by decide +kernel), List.mem_of_getElem? (i := 642) (by decide +kernel), List.mem_of_getElem? (i := 643) (by decide +kernel)⟩
theorem lw_p12 : lw_okq (⟨"HistoryCourtModel", "isCall", "(II)Z"⟩, 30) := ⟨⟨by decide +kernel, by decide +kernel⟩, List.mem_of_getElem? (i := 516) (by decide +kernel), List.mem_of_getElem? (i := 650) (by decide +kernel), List.mem_of_getElem? (i := 651) (by decide +kernel)⟩
theorem lw_p13 : lw_okq (⟨"HistoryCourtModel", "all", "(I)I"⟩, 30) := ⟨⟨by decide +kernel, by decide +kernel⟩, List.mem_of_getElem? (i := 516) (by decide +kernel), List.mem_of_getElem? (i := 681) (by decide +kernel), List.mem_of_getElem? (i := 682) (by decide +kernel)⟩
theorem lw_p14 : lw_okq (⟨"HistoryCourtModel", "isAhead", "(IIIII)Z"⟩, 30) := ⟨⟨by decide +kernel, by decide +kernel⟩, List.mem_of_getElem? (i := 516) (by decide +kernel), List.mem_of_getElem? (i := 685) (by decide +kernel), List.mem_of_getElem? (i := 686) (by decide +kernel)⟩
theorem lw_p15 : lw_okq (⟨"HistoryCourtModel", "isQuiet", "(III)Z"⟩, 30) := ⟨⟨by decide +kernel, by decide +kernel⟩, List.mem_of_getElem? (i := 516) (by decide +kernel), List.mem_of_getElem? (i := 689) (by decide +kernel), List.mem_of_getElem? (i := 690) (by decide +kernel)⟩
def lw_privs_1 : List (MethodName × Nat) := [(⟨"HistoryCourt", "tableOf", "(I)LHistoryCourt$Table;"⟩, 10), (⟨"HistoryCourt", "keep", "(LHistoryCourt$History;)I"⟩, 10), (⟨"HistoryCourt", "historyOf", "(I)LHistoryCourt$History;"⟩, 10), (⟨"HistoryCourt$History", "isQuiet", "(II)Z"⟩, 11), (⟨"HistoryCourt$Search", "open", "(LHistoryCourt$History;IIZ)V"⟩, 6), (⟨"HistoryCourt$Search", "waysFrom", "(IIJ)J"⟩, 6), (⟨"HistoryCourt$Search", "isWhole", "(I)Z"⟩, 6), (⟨"HistoryCourt$Search", "fits", "(IIJ)Z"⟩, 6), (⟨"HistoryCourt$Search", "firstThatLeadsOn", "(IIJ)I"⟩, 6), (⟨"HistoryCourt$Search", "collectFrom", "(IIJILHistoryCourt$Answers;)V"⟩, 6), (⟨"HistoryCourtModel", "isHistory", "(I)Z"⟩, 30), (⟨"HistoryCourtModel", "isOpen", "(II)Z"⟩, 30), (⟨"HistoryCourtModel", "isCall", "(II)Z"⟩, 30), (⟨"HistoryCourtModel", "all", "(I)I"⟩, 30), (⟨"HistoryCourtModel", "isAhead", "(IIIII)Z"⟩, 30), (⟨"HistoryCourtModel", "isQuiet", "(III)Z"⟩, 30)]
theorem lw_r1 : ∀ q ∈ lw_privs_1, lw_okq q := List.forall_mem_cons.mpr ⟨lw_p0, List.forall_mem_cons.mpr ⟨lw_p1, List.forall_mem_cons.mpr ⟨lw_p2, List.forall_mem_cons.mpr ⟨lw_p3, List.forall_mem_cons.mpr ⟨lw_p4, List.forall_mem_cons.mpr ⟨lw_p5, List.forall_mem_cons.mpr ⟨lw_p6, List.forall_mem_cons.mpr ⟨lw_p7, List.forall_mem_cons.mpr ⟨lw_p8, List.forall_mem_cons.mpr ⟨lw_p9, List.forall_mem_cons.mpr ⟨lw_p10, List.forall_mem_cons.mpr ⟨lw_p11, List.forall_mem_cons.mpr ⟨lw_p12, List.forall_mem_cons.mpr ⟨lw_p13, List.forall_mem_cons.mpr ⟨lw_p14, List.forall_mem_cons.mpr ⟨lw_p15, fun _ h => absurd h List.not_mem_nil⟩⟩⟩⟩⟩⟩⟩⟩⟩⟩⟩⟩⟩⟩⟩⟩
theorem lw_p16 : lw_okq (⟨"HistoryCourtModel", "isTaken", "(III)Z"⟩, 30) := ⟨⟨by decide +kernel, by decide +kernel⟩, List.mem_of_getElem? (i := 516) (by decide +kernel), List.mem_of_getElem? (i := 697) (by decide +kernel), List.mem_of_getElem? (i := 698) (by decide +kernel)⟩
theorem lw_p17 : lw_okq (⟨"HistoryCourtModel", "prepare", "(III)V"⟩, 30) := ⟨⟨by decide +kernel, by decide +kernel⟩, List.mem_of_getElem? (i := 516) (by decide +kernel), List.mem_of_getElem? (i := 701) (by decide +kernel), List.mem_of_getElem? (i := 702) (by decide +kernel)⟩
theorem lw_p18 : lw_okq (⟨"HistoryCourtModel", "begins", "()V"⟩, 30) := ⟨⟨by decide +kernel, by decide +kernel⟩, List.mem_of_getElem? (i := 516) (by decide +kernel), List.mem_of_getElem? (i := 705) (by decide +kernel), List.mem_of_getElem? (i := 706) (by decide +kernel)⟩
theorem lw_p19 : lw_okq (⟨"HistoryCourtModel", "answeredOf", "(II)I"⟩, 30) := ⟨⟨by decide +kernel, by decide +kernel⟩, List.mem_of_getElem? (i := 516) (by decide +kernel), List.mem_of_getElem? (i := 709) (by decide +kernel), List.mem_of_getElem? (i := 710) (by decide +kernel)⟩
theorem lw_p20 : lw_okq (⟨"HistoryCourtModel", "goes", "(IIIII)Z"⟩, 30) := ⟨⟨by decide +kernel, by decide +kernel⟩, List.mem_of_getElem? (i := 516) (by decide +kernel), List.mem_of_getElem? (i := 713) (by decide +kernel), List.mem_of_getElem? (i := 714) (by decide +kernel)⟩
theorem lw_p21 : lw_okq (⟨"HistoryCourtModel", "fill", "([II)V"⟩, 30) := ⟨⟨by decide +kernel, by decide +kernel⟩, List.mem_of_getElem? (i := 516) (by decide +kernel), List.mem_of_getElem? (i := 717) (by decide +kernel), List.mem_of_getElem? (i := 718) (by decide +kernel)⟩
theorem lw_p22 : lw_okq (⟨"HistoryCourtModel", "comes", "(III)I"⟩, 30) := ⟨⟨by decide +kernel, by decide +kernel⟩, List.mem_of_getElem? (i := 516) (by decide +kernel), List.mem_of_getElem? (i := 721) (by decide +kernel), List.mem_of_getElem? (i := 722) (by decide +kernel)⟩
theorem lw_p23 : lw_okq (⟨"HistoryCourtModel", "cell", "(IIIII)I"⟩, 30) := ⟨⟨by decide +kernel, by decide +kernel⟩, List.mem_of_getElem? (i := 516) (by decide +kernel), List.mem_of_getElem? (i := 725) (by decide +kernel), List.mem_of_getElem? (i := 726) (by decide +kernel)⟩
theorem lw_p24 : lw_okq (⟨"HistoryCourtModel", "line", "(IZII)I"⟩, 30) := ⟨⟨by decide +kernel, by decide +kernel⟩, List.mem_of_getElem? (i := 516) (by decide +kernel), List.mem_of_getElem? (i := 729) (by decide +kernel), List.mem_of_getElem? (i := 730) (by decide +kernel)⟩
def lw_privs_2 : List (MethodName × Nat) := [(⟨"HistoryCourtModel", "isTaken", "(III)Z"⟩, 30), (⟨"HistoryCourtModel", "prepare", "(III)V"⟩, 30), (⟨"HistoryCourtModel", "begins", "()V"⟩, 30), (⟨"HistoryCourtModel", "answeredOf", "(II)I"⟩, 30), (⟨"HistoryCourtModel", "goes", "(IIIII)Z"⟩, 30), (⟨"HistoryCourtModel", "fill", "([II)V"⟩, 30), (⟨"HistoryCourtModel", "comes", "(III)I"⟩, 30), (⟨"HistoryCourtModel", "cell", "(IIIII)I"⟩, 30), (⟨"HistoryCourtModel", "line", "(IZII)I"⟩, 30)]
theorem lw_r2 : ∀ q ∈ lw_privs_2, lw_okq q := List.forall_mem_cons.mpr ⟨lw_p16, List.forall_mem_cons.mpr ⟨lw_p17, List.forall_mem_cons.mpr ⟨lw_p18, List.forall_mem_cons.mpr ⟨lw_p19, List.forall_mem_cons.mpr ⟨lw_p20, List.forall_mem_cons.mpr ⟨lw_p21, List.forall_mem_cons.mpr ⟨lw_p22, List.forall_mem_cons.mpr ⟨lw_p23, List.forall_mem_cons.mpr ⟨lw_p24, fun _ h => absurd h List.not_mem_nil⟩⟩⟩⟩⟩⟩⟩⟩⟩
def lw_privs : List (MethodName × Nat) := lw_privs_1 ++ (lw_privs_2)
def lw_tbl : List Cond := k2_sels lw_privs ++ tables_1
theorem lw_privs_ok : ∀ q ∈ lw_privs, lw_okq q := by
  show ∀ q ∈ lw_privs_1 ++ (lw_privs_2), lw_okq q
  exact List.forall_mem_append.mpr ⟨lw_r1, lw_r2⟩

def RX0 : String := "HistoryCourt$Answers"
def TX0 : u_T := fun k => match k with
  | 0 => ("HistoryCourt$Answers", "values", "[I", true)
  | _ => ("HistoryCourt$Answers", "count", "I", false)
def tyX0 : Nat → FieldType := fun k => match k with
  | 0 => .array .int
  | _ => .int
abbrev wsX00 : List Cond := u_ws RX0 TX0 2
theorem nmX0 : ∀ a, a < 2 → ∀ b, b < 2 → a ≠ b → (TX0 a).2.1 ≠ (TX0 b).2.1 := by decide +kernel
theorem tyX0_ok : ∀ k, k < 2 → parseFieldDescriptor (TX0 k).2.2.1 = some (tyX0 k) := by decide +kernel
abbrev cX0_init : ByteArray := prog_2_method_1_code
def yX0_init : MethodName := ⟨RX0, "<init>", "()V"⟩
abbrev cX0_add : ByteArray := prog_2_method_2_code
def yX0_add : MethodName := ⟨RX0, "add", "(I)V"⟩
def RX1 : String := "HistoryCourt$History"
def TX1 : u_T := fun k => match k with
  | 0 => ("HistoryCourt$History", "kind", "I", true)
  | 1 => ("HistoryCourt$History", "table", "LHistoryCourt$Table;", true)
  | 2 => ("HistoryCourt$History", "calls", "I", false)
  | 3 => ("HistoryCourt$History", "ticks", "I", false)
  | 4 => ("HistoryCourt$History", "caller", "[I", true)
  | 5 => ("HistoryCourt$History", "act", "[I", true)
  | 6 => ("HistoryCourt$History", "a", "[I", true)
  | 7 => ("HistoryCourt$History", "b", "[I", true)
  | 8 => ("HistoryCourt$History", "begun", "[I", true)
  | 9 => ("HistoryCourt$History", "ended", "[I", true)
  | _ => ("HistoryCourt$History", "value", "[I", true)
def tyX1 : Nat → FieldType := fun k => match k with
  | 0 => .int
  | 1 => .object "HistoryCourt$Table"
  | 2 => .int
  | 3 => .int
  | 4 => .array .int
  | 5 => .array .int
  | 6 => .array .int
  | 7 => .array .int
  | 8 => .array .int
  | 9 => .array .int
  | _ => .array .int
abbrev wsX10 : List Cond := u_ws RX1 TX1 11
theorem nmX1 : ∀ a, a < 11 → ∀ b, b < 11 → a ≠ b → (TX1 a).2.1 ≠ (TX1 b).2.1 := by decide +kernel
theorem tyX1_ok : ∀ k, k < 11 → parseFieldDescriptor (TX1 k).2.2.1 = some (tyX1 k) := by decide +kernel
abbrev cX1_init : ByteArray := prog_3_method_1_code
def yX1_init : MethodName := ⟨RX1, "<init>", "(ILHistoryCourt$Table;)V"⟩
abbrev cX1_twin : ByteArray := prog_3_method_2_code
def yX1_twin : MethodName := ⟨RX1, "twin", "()LHistoryCourt$History;"⟩
abbrev cX1_hasCall : ByteArray := prog_3_method_3_code
def yX1_hasCall : MethodName := ⟨RX1, "hasCall", "(I)Z"⟩
abbrev cX1_isOpen : ByteArray := prog_3_method_4_code
def yX1_isOpen : MethodName := ⟨RX1, "isOpen", "(I)Z"⟩
abbrev cX1_isWaiting : ByteArray := prog_3_method_5_code
def yX1_isWaiting : MethodName := ⟨RX1, "isWaiting", "(I)Z"⟩
abbrev cX1_start : ByteArray := prog_3_method_6_code
def yX1_start : MethodName := ⟨RX1, "start", "(IIII)I"⟩
abbrev cX1_end : ByteArray := prog_3_method_7_code
def yX1_end : MethodName := ⟨RX1, "end", "(II)I"⟩
abbrev cX1_allCalls : ByteArray := prog_3_method_8_code
def yX1_allCalls : MethodName := ⟨RX1, "allCalls", "()I"⟩
abbrev cX1_endedCalls : ByteArray := prog_3_method_9_code
def yX1_endedCalls : MethodName := ⟨RX1, "endedCalls", "()I"⟩
abbrev cX1_callsWith : ByteArray := prog_3_method_10_code
def yX1_callsWith : MethodName := ⟨RX1, "callsWith", "(I)I"⟩
abbrev cX1_quietTicks : ByteArray := prog_3_method_11_code
def yX1_quietTicks : MethodName := ⟨RX1, "quietTicks", "(I)I"⟩
abbrev cX1_isQuiet : ByteArray := prog_3_method_12_code
def yX1_isQuiet : MethodName := ⟨RX1, "isQuiet", "(II)Z"⟩
abbrev cX1_isAhead : ByteArray := prog_3_method_13_code
def yX1_isAhead : MethodName := ⟨RX1, "isAhead", "(IIII)Z"⟩
def RX2 : String := "HistoryCourt$Memo"
def TX2 : u_T := fun k => match k with
  | 0 => ("HistoryCourt$Memo", "keys", "[J", true)
  | 1 => ("HistoryCourt$Memo", "values", "[J", true)
  | 2 => ("HistoryCourt$Memo", "ages", "[I", true)
  | _ => ("HistoryCourt$Memo", "age", "I", false)
def tyX2 : Nat → FieldType := fun k => match k with
  | 0 => .array .long
  | 1 => .array .long
  | 2 => .array .int
  | _ => .int
abbrev wsX20 : List Cond := u_ws RX2 TX2 4
theorem nmX2 : ∀ a, a < 4 → ∀ b, b < 4 → a ≠ b → (TX2 a).2.1 ≠ (TX2 b).2.1 := by decide +kernel
theorem tyX2_ok : ∀ k, k < 4 → parseFieldDescriptor (TX2 k).2.2.1 = some (tyX2 k) := by decide +kernel
abbrev cX2_init : ByteArray := prog_4_method_1_code
def yX2_init : MethodName := ⟨RX2, "<init>", "()V"⟩
abbrev cX2_forget : ByteArray := prog_4_method_2_code
def yX2_forget : MethodName := ⟨RX2, "forget", "()V"⟩
abbrev cX2_placeOf : ByteArray := prog_4_method_3_code
def yX2_placeOf : MethodName := ⟨RX2, "placeOf", "(J)I"⟩
abbrev cX2_valueOf : ByteArray := prog_4_method_4_code
def yX2_valueOf : MethodName := ⟨RX2, "valueOf", "(J)J"⟩
abbrev cX2_put : ByteArray := prog_4_method_5_code
def yX2_put : MethodName := ⟨RX2, "put", "(JJ)V"⟩
def RX3 : String := "HistoryCourt$Model"
def TX3 : u_T := fun k => match k with
  | _ => ("", "", "", false)
def tyX3 : Nat → FieldType := fun k => match k with
  | _ => .int
abbrev wsX30 : List Cond := u_ws RX3 TX3 0
theorem nmX3 : ∀ a, a < 0 → ∀ b, b < 0 → a ≠ b → (TX3 a).2.1 ≠ (TX3 b).2.1 := by decide +kernel
theorem tyX3_ok : ∀ k, k < 0 → parseFieldDescriptor (TX3 k).2.2.1 = some (tyX3 k) := by decide +kernel
abbrev cX3_isKind : ByteArray := prog_5_method_2_code
def yX3_isKind : MethodName := ⟨RX3, "isKind", "(I)Z"⟩
abbrev cX3_allows : ByteArray := prog_5_method_3_code
def yX3_allows : MethodName := ⟨RX3, "allows", "(III)Z"⟩
abbrev cX3_reply : ByteArray := prog_5_method_4_code
def yX3_reply : MethodName := ⟨RX3, "reply", "(LHistoryCourt$History;IJ)I"⟩
abbrev cX3_after : ByteArray := prog_5_method_5_code
def yX3_after : MethodName := ⟨RX3, "after", "(LHistoryCourt$History;IJ)J"⟩
abbrev cX3_cellReply : ByteArray := prog_5_method_6_code
def yX3_cellReply : MethodName := ⟨RX3, "cellReply", "(III)I"⟩
abbrev cX3_cellAfter : ByteArray := prog_5_method_7_code
def yX3_cellAfter : MethodName := ⟨RX3, "cellAfter", "(LHistoryCourt$History;IJ)J"⟩
abbrev cX3_lengthOf : ByteArray := prog_5_method_8_code
def yX3_lengthOf : MethodName := ⟨RX3, "lengthOf", "(J)I"⟩
abbrev cX3_taken : ByteArray := prog_5_method_9_code
def yX3_taken : MethodName := ⟨RX3, "taken", "(LHistoryCourt$History;J)I"⟩
abbrev cX3_putBehind : ByteArray := prog_5_method_10_code
def yX3_putBehind : MethodName := ⟨RX3, "putBehind", "(IJ)J"⟩
abbrev cX3_setReply : ByteArray := prog_5_method_11_code
def yX3_setReply : MethodName := ⟨RX3, "setReply", "(IZ)I"⟩
abbrev cX3_setAfter : ByteArray := prog_5_method_12_code
def yX3_setAfter : MethodName := ⟨RX3, "setAfter", "(IJJ)J"⟩
abbrev cX3_valueAt : ByteArray := prog_5_method_13_code
def yX3_valueAt : MethodName := ⟨RX3, "valueAt", "(LHistoryCourt$History;JI)I"⟩
abbrev cX3_mapAfter : ByteArray := prog_5_method_14_code
def yX3_mapAfter : MethodName := ⟨RX3, "mapAfter", "(LHistoryCourt$History;IJ)J"⟩
def RX4 : String := "HistoryCourt$Search"
def TX4 : u_T := fun k => match k with
  | 0 => ("HistoryCourt$Search", "history", "LHistoryCourt$History;", false)
  | 1 => ("HistoryCourt$Search", "part", "I", false)
  | 2 => ("HistoryCourt$Search", "due", "I", false)
  | 3 => ("HistoryCourt$Search", "aheadOf", "[I", true)
  | 4 => ("HistoryCourt$Search", "oneIsEnough", "Z", false)
  | _ => ("HistoryCourt$Search", "memo", "LHistoryCourt$Memo;", true)
def tyX4 : Nat → FieldType := fun k => match k with
  | 0 => .object "HistoryCourt$History"
  | 1 => .int
  | 2 => .int
  | 3 => .array .int
  | 4 => .boolean
  | _ => .object "HistoryCourt$Memo"
abbrev wsX40 : List Cond := u_ws RX4 TX4 6
theorem nmX4 : ∀ a, a < 6 → ∀ b, b < 6 → a ≠ b → (TX4 a).2.1 ≠ (TX4 b).2.1 := by decide +kernel
theorem tyX4_ok : ∀ k, k < 6 → parseFieldDescriptor (TX4 k).2.2.1 = some (tyX4 k) := by decide +kernel
abbrev cX4_init : ByteArray := prog_6_method_1_code
def yX4_init : MethodName := ⟨RX4, "<init>", "()V"⟩
abbrev cX4_takes : ByteArray := prog_6_method_2_code
def yX4_takes : MethodName := ⟨RX4, "takes", "(LHistoryCourt$History;II)Z"⟩
abbrev cX4_count : ByteArray := prog_6_method_3_code
def yX4_count : MethodName := ⟨RX4, "count", "(LHistoryCourt$History;I)J"⟩
abbrev cX4_firstAt : ByteArray := prog_6_method_4_code
def yX4_firstAt : MethodName := ⟨RX4, "firstAt", "(LHistoryCourt$History;II)I"⟩
abbrev cX4_leastPart : ByteArray := prog_6_method_5_code
def yX4_leastPart : MethodName := ⟨RX4, "leastPart", "(LHistoryCourt$History;I)I"⟩
abbrev cX4_collect : ByteArray := prog_6_method_6_code
def yX4_collect : MethodName := ⟨RX4, "collect", "(LHistoryCourt$History;IILHistoryCourt$Answers;)V"⟩
abbrev cX4_firstFault : ByteArray := prog_6_method_7_code
def yX4_firstFault : MethodName := ⟨RX4, "firstFault", "(LHistoryCourt$History;I[II)I"⟩
abbrev cX4_open : ByteArray := prog_6_method_8_code
def yX4_open : MethodName := ⟨RX4, "open", "(LHistoryCourt$History;IIZ)V"⟩
abbrev cX4_isWhole : ByteArray := prog_6_method_9_code
def yX4_isWhole : MethodName := ⟨RX4, "isWhole", "(I)Z"⟩
abbrev cX4_fits : ByteArray := prog_6_method_10_code
def yX4_fits : MethodName := ⟨RX4, "fits", "(IIJ)Z"⟩
abbrev cX4_keyOf : ByteArray := prog_6_method_11_code
def yX4_keyOf : MethodName := ⟨RX4, "keyOf", "(IJ)J"⟩
abbrev cX4_waysFrom : ByteArray := prog_6_method_12_code
def yX4_waysFrom : MethodName := ⟨RX4, "waysFrom", "(IIJ)J"⟩
abbrev cX4_firstThatLeadsOn : ByteArray := prog_6_method_13_code
def yX4_firstThatLeadsOn : MethodName := ⟨RX4, "firstThatLeadsOn", "(IIJ)I"⟩
abbrev cX4_collectFrom : ByteArray := prog_6_method_14_code
def yX4_collectFrom : MethodName := ⟨RX4, "collectFrom", "(IIJILHistoryCourt$Answers;)V"⟩
def RX5 : String := "HistoryCourt$Table"
def TX5 : u_T := fun k => match k with
  | 0 => ("HistoryCourt$Table", "answers", "[I", true)
  | 1 => ("HistoryCourt$Table", "nexts", "[I", true)
  | _ => ("HistoryCourt$Table", "isUsed", "Z", false)
def tyX5 : Nat → FieldType := fun k => match k with
  | 0 => .array .int
  | 1 => .array .int
  | _ => .boolean
abbrev wsX50 : List Cond := u_ws RX5 TX5 3
theorem nmX5 : ∀ a, a < 3 → ∀ b, b < 3 → a ≠ b → (TX5 a).2.1 ≠ (TX5 b).2.1 := by decide +kernel
theorem tyX5_ok : ∀ k, k < 3 → parseFieldDescriptor (TX5 k).2.2.1 = some (tyX5 k) := by decide +kernel
abbrev cX5_init : ByteArray := prog_7_method_1_code
def yX5_init : MethodName := ⟨RX5, "<init>", "()V"⟩
abbrev cX5_has : ByteArray := prog_7_method_2_code
def yX5_has : MethodName := ⟨RX5, "has", "(JI)Z"⟩
abbrev cX5_placeOf : ByteArray := prog_7_method_3_code
def yX5_placeOf : MethodName := ⟨RX5, "placeOf", "(JI)I"⟩
abbrev cX5_tell : ByteArray := prog_7_method_4_code
def yX5_tell : MethodName := ⟨RX5, "tell", "(IIII)V"⟩
abbrev cX5_answerIn : ByteArray := prog_7_method_5_code
def yX5_answerIn : MethodName := ⟨RX5, "answerIn", "(JI)I"⟩
abbrev cX5_nextIn : ByteArray := prog_7_method_6_code
def yX5_nextIn : MethodName := ⟨RX5, "nextIn", "(JI)I"⟩
def RX6 : String := "HistoryCourt"
def TX6 : u_T := fun k => match k with
  | 0 => ("HistoryCourt", "tables", "[LHistoryCourt$Table;", true)
  | 1 => ("HistoryCourt", "tableCount", "I", false)
  | 2 => ("HistoryCourt", "histories", "[LHistoryCourt$History;", true)
  | 3 => ("HistoryCourt", "historyCount", "I", false)
  | 4 => ("HistoryCourt", "search", "LHistoryCourt$Search;", true)
  | 5 => ("HistoryCourt", "fillings", "LHistoryCourt$Answers;", true)
  | 6 => ("HistoryCourt", "leastPart", "I", false)
  | 7 => ("HistoryCourt", "said", "[I", true)
  | 8 => ("HistoryCourt", "saidCount", "I", false)
  | _ => ("HistoryCourt", "status", "I", false)
def tyX6 : Nat → FieldType := fun k => match k with
  | 0 => .array (.object "HistoryCourt$Table")
  | 1 => .int
  | 2 => .array (.object "HistoryCourt$History")
  | 3 => .int
  | 4 => .object "HistoryCourt$Search"
  | 5 => .object "HistoryCourt$Answers"
  | 6 => .int
  | 7 => .array .int
  | 8 => .int
  | _ => .int
abbrev wsX60 : List Cond := u_ws RX6 TX6 10
theorem nmX6 : ∀ a, a < 10 → ∀ b, b < 10 → a ≠ b → (TX6 a).2.1 ≠ (TX6 b).2.1 := by decide +kernel
theorem tyX6_ok : ∀ k, k < 10 → parseFieldDescriptor (TX6 k).2.2.1 = some (tyX6 k) := by decide +kernel
abbrev cX6_init : ByteArray := prog_1_method_1_code
def yX6_init : MethodName := ⟨RX6, "<init>", "()V"⟩
abbrev cX6_machine : ByteArray := prog_1_method_2_code
def yX6_machine : MethodName := ⟨RX6, "machine", "()I"⟩
abbrev cX6_row : ByteArray := prog_1_method_3_code
def yX6_row : MethodName := ⟨RX6, "row", "(IIIII)I"⟩
abbrev cX6_history : ByteArray := prog_1_method_4_code
def yX6_history : MethodName := ⟨RX6, "history", "(II)I"⟩
abbrev cX6_copy : ByteArray := prog_1_method_5_code
def yX6_copy : MethodName := ⟨RX6, "copy", "(I)I"⟩
abbrev cX6_begin : ByteArray := prog_1_method_6_code
def yX6_begin : MethodName := ⟨RX6, "begin", "(IIIII)I"⟩
abbrev cX6_answer : ByteArray := prog_1_method_7_code
def yX6_answer : MethodName := ⟨RX6, "answer", "(III)I"⟩
abbrev cX6_alter : ByteArray := prog_1_method_8_code
def yX6_alter : MethodName := ⟨RX6, "alter", "(III)I"⟩
abbrev cX6_status : ByteArray := prog_1_method_9_code
def yX6_status : MethodName := ⟨RX6, "status", "()I"⟩
abbrev cX6_answered : ByteArray := prog_1_method_10_code
def yX6_answered : MethodName := ⟨RX6, "answered", "(II)I"⟩
abbrev cX6_call : ByteArray := prog_1_method_11_code
def yX6_call : MethodName := ⟨RX6, "call", "(III)I"⟩
abbrev cX6_about : ByteArray := prog_1_method_12_code
def yX6_about : MethodName := ⟨RX6, "about", "(II)I"⟩
abbrev cX6_ahead : ByteArray := prog_1_method_13_code
def yX6_ahead : MethodName := ⟨RX6, "ahead", "(IIII)I"⟩
abbrev cX6_judge : ByteArray := prog_1_method_14_code
def yX6_judge : MethodName := ⟨RX6, "judge", "(II)I"⟩
abbrev cX6_first : ByteArray := prog_1_method_15_code
def yX6_first : MethodName := ⟨RX6, "first", "(III)I"⟩
abbrev cX6_orders : ByteArray := prog_1_method_16_code
def yX6_orders : MethodName := ⟨RX6, "orders", "(II)J"⟩
abbrev cX6_least : ByteArray := prog_1_method_17_code
def yX6_least : MethodName := ⟨RX6, "least", "(II)I"⟩
abbrev cX6_part : ByteArray := prog_1_method_18_code
def yX6_part : MethodName := ⟨RX6, "part", "(I)I"⟩
abbrev cX6_fills : ByteArray := prog_1_method_19_code
def yX6_fills : MethodName := ⟨RX6, "fills", "(III)I"⟩
abbrev cX6_fill : ByteArray := prog_1_method_20_code
def yX6_fill : MethodName := ⟨RX6, "fill", "(I)I"⟩
abbrev cX6_apart : ByteArray := prog_1_method_21_code
def yX6_apart : MethodName := ⟨RX6, "apart", "(III)I"⟩
abbrev cX6_rules : ByteArray := prog_1_method_22_code
def yX6_rules : MethodName := ⟨RX6, "rules", "(I)I"⟩
abbrev cX6_say : ByteArray := prog_1_method_23_code
def yX6_say : MethodName := ⟨RX6, "say", "(I)I"⟩
abbrev cX6_check : ByteArray := prog_1_method_24_code
def yX6_check : MethodName := ⟨RX6, "check", "(II)I"⟩
abbrev cX6_tableOf : ByteArray := prog_1_method_25_code
def yX6_tableOf : MethodName := ⟨RX6, "tableOf", "(I)LHistoryCourt$Table;"⟩
abbrev cX6_historyOf : ByteArray := prog_1_method_26_code
def yX6_historyOf : MethodName := ⟨RX6, "historyOf", "(I)LHistoryCourt$History;"⟩
abbrev cX6_keep : ByteArray := prog_1_method_27_code
def yX6_keep : MethodName := ⟨RX6, "keep", "(LHistoryCourt$History;)I"⟩
abbrev cX6_isRule : ByteArray := prog_1_method_28_code
def yX6_isRule : MethodName := ⟨RX6, "isRule", "(I)Z"⟩
abbrev cX6_holds : ByteArray := prog_1_method_29_code
def yX6_holds : MethodName := ⟨RX6, "holds", "(II)Z"⟩
def RX7 : String := "HistoryCourtModel"
def TX7 : u_T := fun k => match k with
  | 0 => ("HistoryCourtModel", "thrown", "I", false)
  | 1 => ("HistoryCourtModel", "answers", "[I", true)
  | 2 => ("HistoryCourtModel", "nexts", "[I", true)
  | 3 => ("HistoryCourtModel", "machines", "I", false)
  | 4 => ("HistoryCourtModel", "histories", "I", false)
  | 5 => ("HistoryCourtModel", "kind", "[I", true)
  | 6 => ("HistoryCourtModel", "machineOf", "[I", true)
  | 7 => ("HistoryCourtModel", "calls", "[I", true)
  | 8 => ("HistoryCourtModel", "ticks", "[I", true)
  | 9 => ("HistoryCourtModel", "caller", "[I", true)
  | 10 => ("HistoryCourtModel", "act", "[I", true)
  | 11 => ("HistoryCourtModel", "argA", "[I", true)
  | 12 => ("HistoryCourtModel", "argB", "[I", true)
  | 13 => ("HistoryCourtModel", "begun", "[I", true)
  | 14 => ("HistoryCourtModel", "ended", "[I", true)
  | 15 => ("HistoryCourtModel", "gave", "[I", true)
  | 16 => ("HistoryCourtModel", "status", "I", false)
  | 17 => ("HistoryCourtModel", "thing", "[I", true)
  | 18 => ("HistoryCourtModel", "order", "[I", true)
  | 19 => ("HistoryCourtModel", "told", "[I", true)
  | 20 => ("HistoryCourtModel", "behind", "[I", true)
  | 21 => ("HistoryCourtModel", "found", "I", false)
  | 22 => ("HistoryCourtModel", "many", "J", false)
  | 23 => ("HistoryCourtModel", "asks", "I", false)
  | 24 => ("HistoryCourtModel", "asked", "I", false)
  | 25 => ("HistoryCourtModel", "fills", "[I", true)
  | 26 => ("HistoryCourtModel", "filled", "I", false)
  | 27 => ("HistoryCourtModel", "partOf", "I", false)
  | 28 => ("HistoryCourtModel", "said", "[I", true)
  | _ => ("HistoryCourtModel", "saids", "I", false)
def tyX7 : Nat → FieldType := fun k => match k with
  | 0 => .int
  | 1 => .array .int
  | 2 => .array .int
  | 3 => .int
  | 4 => .int
  | 5 => .array .int
  | 6 => .array .int
  | 7 => .array .int
  | 8 => .array .int
  | 9 => .array .int
  | 10 => .array .int
  | 11 => .array .int
  | 12 => .array .int
  | 13 => .array .int
  | 14 => .array .int
  | 15 => .array .int
  | 16 => .int
  | 17 => .array .int
  | 18 => .array .int
  | 19 => .array .int
  | 20 => .array .int
  | 21 => .int
  | 22 => .long
  | 23 => .int
  | 24 => .int
  | 25 => .array .int
  | 26 => .int
  | 27 => .int
  | 28 => .array .int
  | _ => .int
abbrev wsX70 : List Cond := u_ws RX7 TX7 30
theorem nmX7 : ∀ a, a < 30 → ∀ b, b < 30 → a ≠ b → (TX7 a).2.1 ≠ (TX7 b).2.1 := by decide +kernel
theorem tyX7_ok : ∀ k, k < 30 → parseFieldDescriptor (TX7 k).2.2.1 = some (tyX7 k) := by decide +kernel
abbrev cX7_init : ByteArray := prog_9_method_1_code
def yX7_init : MethodName := ⟨RX7, "<init>", "()V"⟩
abbrev cX7_in : ByteArray := prog_9_method_3_code
def yX7_in : MethodName := ⟨RX7, "in", "(III)Z"⟩
abbrev cX7_machine : ByteArray := prog_9_method_4_code
def yX7_machine : MethodName := ⟨RX7, "machine", "()I"⟩
abbrev cX7_row : ByteArray := prog_9_method_5_code
def yX7_row : MethodName := ⟨RX7, "row", "(IIIII)I"⟩
abbrev cX7_isHistory : ByteArray := prog_9_method_6_code
def yX7_isHistory : MethodName := ⟨RX7, "isHistory", "(I)Z"⟩
abbrev cX7_isCall : ByteArray := prog_9_method_7_code
def yX7_isCall : MethodName := ⟨RX7, "isCall", "(II)Z"⟩
abbrev cX7_isOpen : ByteArray := prog_9_method_8_code
def yX7_isOpen : MethodName := ⟨RX7, "isOpen", "(II)Z"⟩
abbrev cX7_isRule : ByteArray := prog_9_method_9_code
def yX7_isRule : MethodName := ⟨RX7, "isRule", "(I)Z"⟩
abbrev cX7_history : ByteArray := prog_9_method_10_code
def yX7_history : MethodName := ⟨RX7, "history", "(II)I"⟩
abbrev cX7_copy : ByteArray := prog_9_method_11_code
def yX7_copy : MethodName := ⟨RX7, "copy", "(I)I"⟩
abbrev cX7_actsOf : ByteArray := prog_9_method_12_code
def yX7_actsOf : MethodName := ⟨RX7, "actsOf", "(I)I"⟩
abbrev cX7_begin : ByteArray := prog_9_method_13_code
def yX7_begin : MethodName := ⟨RX7, "begin", "(IIIII)I"⟩
abbrev cX7_answer : ByteArray := prog_9_method_14_code
def yX7_answer : MethodName := ⟨RX7, "answer", "(III)I"⟩
abbrev cX7_alter : ByteArray := prog_9_method_15_code
def yX7_alter : MethodName := ⟨RX7, "alter", "(III)I"⟩
abbrev cX7_status : ByteArray := prog_9_method_16_code
def yX7_status : MethodName := ⟨RX7, "status", "()I"⟩
abbrev cX7_answered : ByteArray := prog_9_method_17_code
def yX7_answered : MethodName := ⟨RX7, "answered", "(II)I"⟩
abbrev cX7_call : ByteArray := prog_9_method_18_code
def yX7_call : MethodName := ⟨RX7, "call", "(III)I"⟩
abbrev cX7_about : ByteArray := prog_9_method_19_code
def yX7_about : MethodName := ⟨RX7, "about", "(II)I"⟩
abbrev cX7_isQuiet : ByteArray := prog_9_method_20_code
def yX7_isQuiet : MethodName := ⟨RX7, "isQuiet", "(III)Z"⟩
abbrev cX7_isAhead : ByteArray := prog_9_method_21_code
def yX7_isAhead : MethodName := ⟨RX7, "isAhead", "(IIIII)Z"⟩
abbrev cX7_all : ByteArray := prog_9_method_22_code
def yX7_all : MethodName := ⟨RX7, "all", "(I)I"⟩
abbrev cX7_ahead : ByteArray := prog_9_method_23_code
def yX7_ahead : MethodName := ⟨RX7, "ahead", "(IIII)I"⟩
abbrev cX7_begins : ByteArray := prog_9_method_24_code
def yX7_begins : MethodName := ⟨RX7, "begins", "()V"⟩
abbrev cX7_comes : ByteArray := prog_9_method_25_code
def yX7_comes : MethodName := ⟨RX7, "comes", "(III)I"⟩
abbrev cX7_cell : ByteArray := prog_9_method_26_code
def yX7_cell : MethodName := ⟨RX7, "cell", "(IIIII)I"⟩
abbrev cX7_line : ByteArray := prog_9_method_27_code
def yX7_line : MethodName := ⟨RX7, "line", "(IZII)I"⟩
abbrev cX7_prepare : ByteArray := prog_9_method_28_code
def yX7_prepare : MethodName := ⟨RX7, "prepare", "(III)V"⟩
abbrev cX7_answeredOf : ByteArray := prog_9_method_29_code
def yX7_answeredOf : MethodName := ⟨RX7, "answeredOf", "(II)I"⟩
abbrev cX7_goes : ByteArray := prog_9_method_30_code
def yX7_goes : MethodName := ⟨RX7, "goes", "(IIIII)Z"⟩
abbrev cX7_fill : ByteArray := prog_9_method_31_code
def yX7_fill : MethodName := ⟨RX7, "fill", "([II)V"⟩
abbrev cX7_isTaken : ByteArray := prog_9_method_32_code
def yX7_isTaken : MethodName := ⟨RX7, "isTaken", "(III)Z"⟩
abbrev cX7_judge : ByteArray := prog_9_method_33_code
def yX7_judge : MethodName := ⟨RX7, "judge", "(II)I"⟩
abbrev cX7_first : ByteArray := prog_9_method_34_code
def yX7_first : MethodName := ⟨RX7, "first", "(III)I"⟩
abbrev cX7_orders : ByteArray := prog_9_method_35_code
def yX7_orders : MethodName := ⟨RX7, "orders", "(II)J"⟩
abbrev cX7_least : ByteArray := prog_9_method_36_code
def yX7_least : MethodName := ⟨RX7, "least", "(II)I"⟩
abbrev cX7_part : ByteArray := prog_9_method_37_code
def yX7_part : MethodName := ⟨RX7, "part", "(I)I"⟩
abbrev cX7_fills : ByteArray := prog_9_method_38_code
def yX7_fills : MethodName := ⟨RX7, "fills", "(III)I"⟩
abbrev cX7_fill_ : ByteArray := prog_9_method_39_code
def yX7_fill_ : MethodName := ⟨RX7, "fill", "(I)I"⟩
abbrev cX7_apart : ByteArray := prog_9_method_40_code
def yX7_apart : MethodName := ⟨RX7, "apart", "(III)I"⟩
abbrev cX7_rules : ByteArray := prog_9_method_41_code
def yX7_rules : MethodName := ⟨RX7, "rules", "(I)I"⟩
abbrev cX7_say : ByteArray := prog_9_method_42_code
def yX7_say : MethodName := ⟨RX7, "say", "(I)I"⟩
abbrev cX7_check : ByteArray := prog_9_method_43_code
def yX7_check : MethodName := ⟨RX7, "check", "(II)I"⟩
def RJ6 : String := "java/lang/Integer"
def TJ6 : u_T := fun k => match k with
  | _ => ("", "", "", false)
def tyJ6 : Nat → FieldType := fun k => match k with
  | _ => .int
abbrev wsJ60 : List Cond := u_ws RJ6 TJ6 0
theorem nmJ6 : ∀ a, a < 0 → ∀ b, b < 0 → a ≠ b → (TJ6 a).2.1 ≠ (TJ6 b).2.1 := by decide +kernel
theorem tyJ6_ok : ∀ k, k < 0 → parseFieldDescriptor (TJ6 k).2.2.1 = some (tyJ6 k) := by decide +kernel
abbrev cJ6_numberOfLeadingZeros_0f7a4 : ByteArray := prog_10_method_47_code
def yJ6_numberOfLeadingZeros_0f7a4 : MethodName := ⟨RJ6, "numberOfLeadingZeros", "(I)I"⟩
abbrev cJ6_bitCount_0f7a4 : ByteArray := prog_10_method_49_code
def yJ6_bitCount_0f7a4 : MethodName := ⟨RJ6, "bitCount", "(I)I"⟩
def RJ13 : String := "java/lang/Long"
def TJ13 : u_T := fun k => match k with
  | _ => ("", "", "", false)
def tyJ13 : Nat → FieldType := fun k => match k with
  | _ => .int
abbrev wsJ130 : List Cond := u_ws RJ13 TJ13 0
theorem nmJ13 : ∀ a, a < 0 → ∀ b, b < 0 → a ≠ b → (TJ13 a).2.1 ≠ (TJ13 b).2.1 := by decide +kernel
theorem tyJ13_ok : ∀ k, k < 0 → parseFieldDescriptor (TJ13 k).2.2.1 = some (tyJ13 k) := by decide +kernel
abbrev cJ13_numberOfLeadingZeros_95d88 : ByteArray := prog_11_method_48_code
def yJ13_numberOfLeadingZeros_95d88 : MethodName := ⟨RJ13, "numberOfLeadingZeros", "(J)I"⟩
def RJ10 : String := "java/lang/System"
def TJ10 : u_T := fun k => match k with
  | _ => ("", "", "", false)
def tyJ10 : Nat → FieldType := fun k => match k with
  | _ => .int
abbrev wsJ100 : List Cond := u_ws RJ10 TJ10 0
theorem nmJ10 : ∀ a, a < 0 → ∀ b, b < 0 → a ≠ b → (TJ10 a).2.1 ≠ (TJ10 b).2.1 := by decide +kernel
theorem tyJ10_ok : ∀ k, k < 0 → parseFieldDescriptor (TJ10 k).2.2.1 = some (tyJ10 k) := by decide +kernel
def RL : String := "HistoryCourtLaw"
abbrev cL_law : ByteArray := code
def yL_law : MethodName := ⟨RL, "law", "([I)Z"⟩
abbrev vwCl : List vw_C := [(RX0, TX0, 2), (RX1, TX1, 11), (RX2, TX2, 4), (RX4, TX4, 6), (RX5, TX5, 3), (RX6, TX6, 10), (RX7, TX7, 30)]
def lw_g : List Cond := lw_tbl.filter goodWord
theorem lw_gs : ∀ w ∈ lw_g, w ∈ lw_tbl := fun _ h => (List.mem_filter.mp h).1
theorem lw_gg : ∀ w ∈ lw_g, goodWord w = true := fun _ h => (List.mem_filter.mp h).2
theorem tw_m1 {i : Nat} {w : Cond} (h : tables_1_1[i]? = some w) (g : goodWord w = true) : w ∈ lw_g := List.mem_filter.mpr ⟨List.mem_append_right _ (List.mem_append_left _ (List.mem_of_getElem? h)), g⟩
theorem tw_m2 {i : Nat} {w : Cond} (h : tables_1_2[i]? = some w) (g : goodWord w = true) : w ∈ lw_g := List.mem_filter.mpr ⟨List.mem_append_right _ (List.mem_append_right _ (List.mem_append_left _ (List.mem_of_getElem? h))), g⟩
theorem tw_m3 {i : Nat} {w : Cond} (h : tables_1_3[i]? = some w) (g : goodWord w = true) : w ∈ lw_g := List.mem_filter.mpr ⟨List.mem_append_right _ (List.mem_append_right _ (List.mem_append_right _ (List.mem_append_left _ (List.mem_of_getElem? h)))), g⟩
theorem tw_m4 {i : Nat} {w : Cond} (h : tables_1_4[i]? = some w) (g : goodWord w = true) : w ∈ lw_g := List.mem_filter.mpr ⟨List.mem_append_right _ (List.mem_append_right _ (List.mem_append_right _ (List.mem_append_right _ (List.mem_of_getElem? h)))), g⟩
theorem tw_0 : (Jvm.Cond.initialized "HistoryCourtLaw") ∈ lw_g := tw_m1 (i := 0) rfl rfl
theorem tw_1 : (Jvm.Cond.initialized "HistoryCourt") ∈ lw_g := tw_m1 (i := 1) rfl rfl
theorem tw_2 : (Jvm.Cond.initialized "HistoryCourt$Search") ∈ lw_g := tw_m1 (i := 2) rfl rfl
theorem tw_3 : (Jvm.Cond.initialized "HistoryCourt$History") ∈ lw_g := tw_m1 (i := 3) rfl rfl
theorem tw_4 : (Jvm.Cond.initialized "HistoryCourt$Memo") ∈ lw_g := tw_m1 (i := 4) rfl rfl
theorem tw_5 : (Jvm.Cond.initialized "HistoryCourt$Answers") ∈ lw_g := tw_m1 (i := 5) rfl rfl
theorem tw_6 : (Jvm.Cond.initialized "HistoryCourtModel") ∈ lw_g := tw_m1 (i := 6) rfl rfl
theorem tw_7 : (Jvm.Cond.initialized "HistoryCourt$Table") ∈ lw_g := tw_m1 (i := 7) rfl rfl
theorem tw_8 : (Jvm.Cond.initialized "HistoryCourt$Model") ∈ lw_g := tw_m1 (i := 8) rfl rfl
theorem tw_9 : (Jvm.Cond.initialized "java/lang/System") ∈ lw_g := tw_m1 (i := 9) rfl rfl
theorem tw_10 : (Jvm.Cond.initialized "java/lang/Integer") ∈ lw_g := tw_m1 (i := 10) rfl rfl
theorem tw_11 : (Jvm.Cond.initialized "java/lang/Long") ∈ lw_g := tw_m1 (i := 11) rfl rfl
theorem tw_12 : (Jvm.Cond.classLink "HistoryCourtLaw" (7 : Nat) "HistoryCourt") ∈ lw_g := tw_m1 (i := 12) rfl rfl
theorem tw_13 : (Jvm.Cond.instantiable "HistoryCourt" (10 : Nat)) ∈ lw_g := tw_m1 (i := 13) rfl rfl
theorem tw_14 : (Jvm.Cond.methodLink "HistoryCourtLaw" (9 : Nat) ({ cls := "HistoryCourt", name := "<init>", desc := "()V" } : Jvm.MethodName)) ∈ lw_g := tw_m1 (i := 14) rfl rfl
theorem tw_15 : (Jvm.Cond.instanceMethod ({ cls := "HistoryCourt", name := "<init>", desc := "()V" } : Jvm.MethodName)) ∈ lw_g := tw_m1 (i := 15) rfl rfl
theorem tw_16 : (Jvm.Cond.code ({ cls := "HistoryCourt", name := "<init>", desc := "()V" } : Jvm.MethodName) prog_1_method_1_code (1 : Nat) (Option.none : Option Jvm.ClassFile.FieldType)) ∈ lw_g := tw_m1 (i := 16) rfl rfl
theorem tw_17 : (Jvm.Cond.methodLink "HistoryCourt" (1 : Nat) ({ cls := "java/lang/Object", name := "<init>", desc := "()V" } : Jvm.MethodName)) ∈ lw_g := tw_m1 (i := 17) rfl rfl
theorem tw_18 : (Jvm.Cond.instanceMethod ({ cls := "java/lang/Object", name := "<init>", desc := "()V" } : Jvm.MethodName)) ∈ lw_g := tw_m1 (i := 18) rfl rfl
theorem tw_19 : (Jvm.Cond.code ({ cls := "java/lang/Object", name := "<init>", desc := "()V" } : Jvm.MethodName) object_method_1_code (1 : Nat) (Option.none : Option Jvm.ClassFile.FieldType)) ∈ lw_g := tw_m1 (i := 19) rfl rfl
theorem tw_20 : (Jvm.Cond.classLink "HistoryCourt" (9 : Nat) "HistoryCourt$Table") ∈ lw_g := tw_m1 (i := 20) rfl rfl
theorem tw_22 : (Jvm.Cond.classLink "HistoryCourt" (15 : Nat) "HistoryCourt$History") ∈ lw_g := tw_m1 (i := 22) rfl rfl
theorem tw_24 : (Jvm.Cond.classLink "HistoryCourt" (21 : Nat) "HistoryCourt$Search") ∈ lw_g := tw_m1 (i := 24) rfl rfl
theorem tw_25 : (Jvm.Cond.instantiable "HistoryCourt$Search" (6 : Nat)) ∈ lw_g := tw_m1 (i := 25) rfl rfl
theorem tw_27 : (Jvm.Cond.instanceMethod ({ cls := "HistoryCourt$Search", name := "<init>", desc := "()V" } : Jvm.MethodName)) ∈ lw_g := tw_m1 (i := 27) rfl rfl
theorem tw_28 : (Jvm.Cond.code ({ cls := "HistoryCourt$Search", name := "<init>", desc := "()V" } : Jvm.MethodName) prog_6_method_1_code (1 : Nat) (Option.none : Option Jvm.ClassFile.FieldType)) ∈ lw_g := tw_m1 (i := 28) rfl rfl
theorem tw_29 : (Jvm.Cond.methodLink "HistoryCourt$Search" (3 : Nat) ({ cls := "java/lang/Object", name := "<init>", desc := "()V" } : Jvm.MethodName)) ∈ lw_g := tw_m1 (i := 29) rfl rfl
theorem tw_30 : (Jvm.Cond.classLink "HistoryCourt$Search" (9 : Nat) "HistoryCourt$History") ∈ lw_g := tw_m1 (i := 30) rfl rfl
theorem tw_31 : (Jvm.Cond.instantiable "HistoryCourt$History" (11 : Nat)) ∈ lw_g := tw_m1 (i := 31) rfl rfl
theorem tw_32 : (Jvm.Cond.methodLink "HistoryCourt$Search" (13 : Nat) ({ cls := "HistoryCourt$History", name := "<init>", desc := "(ILHistoryCourt$Table;)V" } : Jvm.MethodName)) ∈ lw_g := tw_m1 (i := 32) rfl rfl
theorem tw_33 : (Jvm.Cond.instanceMethod ({ cls := "HistoryCourt$History", name := "<init>", desc := "(ILHistoryCourt$Table;)V" } : Jvm.MethodName)) ∈ lw_g := tw_m1 (i := 33) rfl rfl
theorem tw_34 : (Jvm.Cond.code ({ cls := "HistoryCourt$History", name := "<init>", desc := "(ILHistoryCourt$Table;)V" } : Jvm.MethodName) prog_3_method_1_code (3 : Nat) (Option.none : Option Jvm.ClassFile.FieldType)) ∈ lw_g := tw_m1 (i := 34) rfl rfl
theorem tw_35 : (Jvm.Cond.methodLink "HistoryCourt$History" (3 : Nat) ({ cls := "java/lang/Object", name := "<init>", desc := "()V" } : Jvm.MethodName)) ∈ lw_g := tw_m1 (i := 35) rfl rfl
theorem tw_36 : (Jvm.Cond.fieldLink "HistoryCourt$History" (33 : Nat) "HistoryCourt$History" "kind" "I") ∈ lw_g := tw_m1 (i := 36) rfl rfl
theorem tw_37 : (Jvm.Cond.fieldLink "HistoryCourt$Model" (19 : Nat) "HistoryCourt$History" "kind" "I") ∈ lw_g := tw_m1 (i := 37) rfl rfl
theorem tw_38 : (Jvm.Cond.fieldLink "HistoryCourt" (84 : Nat) "HistoryCourt$History" "kind" "I") ∈ lw_g := tw_m1 (i := 38) rfl rfl
theorem tw_39 : (Jvm.Cond.fieldLink "HistoryCourt$History" (37 : Nat) "HistoryCourt$History" "table" "LHistoryCourt$Table;") ∈ lw_g := tw_m1 (i := 39) rfl rfl
theorem tw_40 : (Jvm.Cond.fieldLink "HistoryCourt$Model" (54 : Nat) "HistoryCourt$History" "table" "LHistoryCourt$Table;") ∈ lw_g := tw_m1 (i := 40) rfl rfl
theorem tw_41 : (Jvm.Cond.fieldLink "HistoryCourt$History" (44 : Nat) "HistoryCourt$History" "calls" "I") ∈ lw_g := tw_m1 (i := 41) rfl rfl
theorem tw_42 : (Jvm.Cond.fieldLink "HistoryCourt$Search" (61 : Nat) "HistoryCourt$History" "calls" "I") ∈ lw_g := tw_m1 (i := 42) rfl rfl
theorem tw_43 : (Jvm.Cond.fieldLink "HistoryCourt" (94 : Nat) "HistoryCourt$History" "calls" "I") ∈ lw_g := tw_m1 (i := 43) rfl rfl
theorem tw_44 : (Jvm.Cond.fieldLink "HistoryCourt$History" (47 : Nat) "HistoryCourt$History" "ticks" "I") ∈ lw_g := tw_m1 (i := 44) rfl rfl
theorem tw_45 : (Jvm.Cond.fieldLink "HistoryCourt" (142 : Nat) "HistoryCourt$History" "ticks" "I") ∈ lw_g := tw_m1 (i := 45) rfl rfl
theorem tw_46 : (Jvm.Cond.fieldLink "HistoryCourt$History" (9 : Nat) "HistoryCourt$History" "caller" "[I") ∈ lw_g := tw_m1 (i := 46) rfl rfl
theorem tw_47 : (Jvm.Cond.fieldLink "HistoryCourt" (120 : Nat) "HistoryCourt$History" "caller" "[I") ∈ lw_g := tw_m1 (i := 47) rfl rfl
theorem tw_48 : (Jvm.Cond.fieldLink "HistoryCourt$History" (15 : Nat) "HistoryCourt$History" "act" "[I") ∈ lw_g := tw_m1 (i := 48) rfl rfl
theorem tw_49 : (Jvm.Cond.fieldLink "HistoryCourt$Model" (25 : Nat) "HistoryCourt$History" "act" "[I") ∈ lw_g := tw_m1 (i := 49) rfl rfl
theorem tw_50 : (Jvm.Cond.fieldLink "HistoryCourt" (123 : Nat) "HistoryCourt$History" "act" "[I") ∈ lw_g := tw_m1 (i := 50) rfl rfl
theorem tw_51 : (Jvm.Cond.fieldLink "HistoryCourt$History" (18 : Nat) "HistoryCourt$History" "a" "[I") ∈ lw_g := tw_m1 (i := 51) rfl rfl
theorem tw_52 : (Jvm.Cond.fieldLink "HistoryCourt$Model" (28 : Nat) "HistoryCourt$History" "a" "[I") ∈ lw_g := tw_m1 (i := 52) rfl rfl
theorem tw_53 : (Jvm.Cond.fieldLink "HistoryCourt$History" (21 : Nat) "HistoryCourt$History" "b" "[I") ∈ lw_g := tw_m1 (i := 53) rfl rfl
theorem tw_54 : (Jvm.Cond.fieldLink "HistoryCourt$Model" (51 : Nat) "HistoryCourt$History" "b" "[I") ∈ lw_g := tw_m1 (i := 54) rfl rfl
theorem tw_55 : (Jvm.Cond.fieldLink "HistoryCourt$History" (24 : Nat) "HistoryCourt$History" "begun" "[I") ∈ lw_g := tw_m1 (i := 55) rfl rfl
theorem tw_56 : (Jvm.Cond.fieldLink "HistoryCourt" (126 : Nat) "HistoryCourt$History" "begun" "[I") ∈ lw_g := tw_m1 (i := 56) rfl rfl
theorem tw_57 : (Jvm.Cond.fieldLink "HistoryCourt$History" (27 : Nat) "HistoryCourt$History" "ended" "[I") ∈ lw_g := tw_m1 (i := 57) rfl rfl
theorem tw_58 : (Jvm.Cond.fieldLink "HistoryCourt" (129 : Nat) "HistoryCourt$History" "ended" "[I") ∈ lw_g := tw_m1 (i := 58) rfl rfl
theorem tw_59 : (Jvm.Cond.fieldLink "HistoryCourt$History" (30 : Nat) "HistoryCourt$History" "value" "[I") ∈ lw_g := tw_m1 (i := 59) rfl rfl
theorem tw_60 : (Jvm.Cond.fieldLink "HistoryCourt" (117 : Nat) "HistoryCourt$History" "value" "[I") ∈ lw_g := tw_m1 (i := 60) rfl rfl
theorem tw_61 : (Jvm.Cond.fieldLink "HistoryCourt$Search" (116 : Nat) "HistoryCourt$History" "value" "[I") ∈ lw_g := tw_m1 (i := 61) rfl rfl
theorem tw_84 : (Jvm.Cond.superclass "HistoryCourt$History" "java/lang/Object") ∈ lw_g := tw_m1 (i := 84) rfl rfl
theorem tw_85 : (Jvm.Cond.arrayClass Jvm.ClassFile.FieldType.int) ∈ lw_g := tw_m1 (i := 85) rfl rfl
theorem tw_86 : (Jvm.Cond.classLink "HistoryCourt$Search" (26 : Nat) "HistoryCourt$Memo") ∈ lw_g := tw_m1 (i := 86) rfl rfl
theorem tw_87 : (Jvm.Cond.instantiable "HistoryCourt$Memo" (4 : Nat)) ∈ lw_g := tw_m1 (i := 87) rfl rfl
theorem tw_89 : (Jvm.Cond.instanceMethod ({ cls := "HistoryCourt$Memo", name := "<init>", desc := "()V" } : Jvm.MethodName)) ∈ lw_g := tw_m1 (i := 89) rfl rfl
theorem tw_90 : (Jvm.Cond.code ({ cls := "HistoryCourt$Memo", name := "<init>", desc := "()V" } : Jvm.MethodName) prog_4_method_1_code (1 : Nat) (Option.none : Option Jvm.ClassFile.FieldType)) ∈ lw_g := tw_m1 (i := 90) rfl rfl
theorem tw_91 : (Jvm.Cond.methodLink "HistoryCourt$Memo" (3 : Nat) ({ cls := "java/lang/Object", name := "<init>", desc := "()V" } : Jvm.MethodName)) ∈ lw_g := tw_m1 (i := 91) rfl rfl
theorem tw_92 : (Jvm.Cond.fieldLink "HistoryCourt$Memo" (11 : Nat) "HistoryCourt$Memo" "keys" "[J") ∈ lw_g := tw_m1 (i := 92) rfl rfl
theorem tw_93 : (Jvm.Cond.fieldLink "HistoryCourt$Memo" (15 : Nat) "HistoryCourt$Memo" "values" "[J") ∈ lw_g := tw_m1 (i := 93) rfl rfl
theorem tw_94 : (Jvm.Cond.fieldLink "HistoryCourt$Memo" (18 : Nat) "HistoryCourt$Memo" "ages" "[I") ∈ lw_g := tw_m1 (i := 94) rfl rfl
theorem tw_95 : (Jvm.Cond.fieldLink "HistoryCourt$Memo" (22 : Nat) "HistoryCourt$Memo" "age" "I") ∈ lw_g := tw_m1 (i := 95) rfl rfl
theorem tw_104 : (Jvm.Cond.superclass "HistoryCourt$Memo" "java/lang/Object") ∈ lw_g := tw_m1 (i := 104) rfl rfl
theorem tw_105 : (Jvm.Cond.arrayClass Jvm.ClassFile.FieldType.long) ∈ lw_g := tw_m1 (i := 105) rfl rfl
theorem tw_106 : (Jvm.Cond.fieldLink "HistoryCourt$Search" (16 : Nat) "HistoryCourt$Search" "history" "LHistoryCourt$History;") ∈ lw_g := tw_m1 (i := 106) rfl rfl
theorem tw_107 : (Jvm.Cond.fieldLink "HistoryCourt$Search" (78 : Nat) "HistoryCourt$Search" "part" "I") ∈ lw_g := tw_m1 (i := 107) rfl rfl
theorem tw_108 : (Jvm.Cond.fieldLink "HistoryCourt$Search" (84 : Nat) "HistoryCourt$Search" "due" "I") ∈ lw_g := tw_m1 (i := 108) rfl rfl
theorem tw_109 : (Jvm.Cond.fieldLink "HistoryCourt$Search" (22 : Nat) "HistoryCourt$Search" "aheadOf" "[I") ∈ lw_g := tw_m1 (i := 109) rfl rfl
theorem tw_110 : (Jvm.Cond.fieldLink "HistoryCourt$Search" (87 : Nat) "HistoryCourt$Search" "oneIsEnough" "Z") ∈ lw_g := tw_m1 (i := 110) rfl rfl
theorem tw_111 : (Jvm.Cond.fieldLink "HistoryCourt$Search" (29 : Nat) "HistoryCourt$Search" "memo" "LHistoryCourt$Memo;") ∈ lw_g := tw_m1 (i := 111) rfl rfl
theorem tw_124 : (Jvm.Cond.superclass "HistoryCourt$Search" "java/lang/Object") ∈ lw_g := tw_m1 (i := 124) rfl rfl
theorem tw_125 : (Jvm.Cond.classLink "HistoryCourt" (28 : Nat) "HistoryCourt$Answers") ∈ lw_g := tw_m1 (i := 125) rfl rfl
theorem tw_126 : (Jvm.Cond.instantiable "HistoryCourt$Answers" (2 : Nat)) ∈ lw_g := tw_m1 (i := 126) rfl rfl
theorem tw_128 : (Jvm.Cond.instanceMethod ({ cls := "HistoryCourt$Answers", name := "<init>", desc := "()V" } : Jvm.MethodName)) ∈ lw_g := tw_m1 (i := 128) rfl rfl
theorem tw_129 : (Jvm.Cond.code ({ cls := "HistoryCourt$Answers", name := "<init>", desc := "()V" } : Jvm.MethodName) prog_2_method_1_code (1 : Nat) (Option.none : Option Jvm.ClassFile.FieldType)) ∈ lw_g := tw_m1 (i := 129) rfl rfl
theorem tw_130 : (Jvm.Cond.methodLink "HistoryCourt$Answers" (1 : Nat) ({ cls := "java/lang/Object", name := "<init>", desc := "()V" } : Jvm.MethodName)) ∈ lw_g := tw_m1 (i := 130) rfl rfl
theorem tw_131 : (Jvm.Cond.fieldLink "HistoryCourt$Answers" (9 : Nat) "HistoryCourt$Answers" "values" "[I") ∈ lw_g := tw_m1 (i := 131) rfl rfl
theorem tw_132 : (Jvm.Cond.fieldLink "HistoryCourt" (188 : Nat) "HistoryCourt$Answers" "values" "[I") ∈ lw_g := tw_m1 (i := 132) rfl rfl
theorem tw_133 : (Jvm.Cond.fieldLink "HistoryCourt$Answers" (13 : Nat) "HistoryCourt$Answers" "count" "I") ∈ lw_g := tw_m1 (i := 133) rfl rfl
theorem tw_134 : (Jvm.Cond.fieldLink "HistoryCourt$Search" (65 : Nat) "HistoryCourt$Answers" "count" "I") ∈ lw_g := tw_m1 (i := 134) rfl rfl
theorem tw_135 : (Jvm.Cond.fieldLink "HistoryCourt" (186 : Nat) "HistoryCourt$Answers" "count" "I") ∈ lw_g := tw_m1 (i := 135) rfl rfl
theorem tw_140 : (Jvm.Cond.superclass "HistoryCourt$Answers" "java/lang/Object") ∈ lw_g := tw_m1 (i := 140) rfl rfl
theorem tw_141 : (Jvm.Cond.fieldLink "HistoryCourt" (11 : Nat) "HistoryCourt" "tables" "[LHistoryCourt$Table;") ∈ lw_g := tw_m1 (i := 141) rfl rfl
theorem tw_142 : (Jvm.Cond.fieldLink "HistoryCourt" (39 : Nat) "HistoryCourt" "tableCount" "I") ∈ lw_g := tw_m1 (i := 142) rfl rfl
theorem tw_143 : (Jvm.Cond.fieldLink "HistoryCourt" (17 : Nat) "HistoryCourt" "histories" "[LHistoryCourt$History;") ∈ lw_g := tw_m1 (i := 143) rfl rfl
theorem tw_144 : (Jvm.Cond.fieldLink "HistoryCourt" (66 : Nat) "HistoryCourt" "historyCount" "I") ∈ lw_g := tw_m1 (i := 144) rfl rfl
theorem tw_145 : (Jvm.Cond.fieldLink "HistoryCourt" (24 : Nat) "HistoryCourt" "search" "LHistoryCourt$Search;") ∈ lw_g := tw_m1 (i := 145) rfl rfl
theorem tw_146 : (Jvm.Cond.fieldLink "HistoryCourt" (31 : Nat) "HistoryCourt" "fillings" "LHistoryCourt$Answers;") ∈ lw_g := tw_m1 (i := 146) rfl rfl
theorem tw_147 : (Jvm.Cond.fieldLink "HistoryCourt" (176 : Nat) "HistoryCourt" "leastPart" "I") ∈ lw_g := tw_m1 (i := 147) rfl rfl
theorem tw_148 : (Jvm.Cond.fieldLink "HistoryCourt" (35 : Nat) "HistoryCourt" "said" "[I") ∈ lw_g := tw_m1 (i := 148) rfl rfl
theorem tw_149 : (Jvm.Cond.fieldLink "HistoryCourt" (194 : Nat) "HistoryCourt" "saidCount" "I") ∈ lw_g := tw_m1 (i := 149) rfl rfl
theorem tw_150 : (Jvm.Cond.fieldLink "HistoryCourt" (114 : Nat) "HistoryCourt" "status" "I") ∈ lw_g := tw_m1 (i := 150) rfl rfl
theorem tw_171 : (Jvm.Cond.superclass "HistoryCourt" "java/lang/Object") ∈ lw_g := tw_m1 (i := 171) rfl rfl
theorem tw_172 : (Jvm.Cond.methodLink "HistoryCourtLaw" (13 : Nat) ({ cls := "HistoryCourt", name := "machine", desc := "()I" } : Jvm.MethodName)) ∈ lw_g := tw_m1 (i := 172) rfl rfl
theorem tw_173 : (Jvm.Cond.instanceMethod ({ cls := "HistoryCourt", name := "machine", desc := "()I" } : Jvm.MethodName)) ∈ lw_g := tw_m1 (i := 173) rfl rfl
theorem tw_174 : (Jvm.Cond.selects "HistoryCourt" ({ cls := "HistoryCourt", name := "machine", desc := "()I" } : Jvm.MethodName) ({ cls := "HistoryCourt", name := "machine", desc := "()I" } : Jvm.MethodName)) ∈ lw_g := tw_m1 (i := 174) rfl rfl
theorem tw_175 : (Jvm.Cond.code ({ cls := "HistoryCourt", name := "machine", desc := "()I" } : Jvm.MethodName) prog_1_method_2_code (1 : Nat) (Option.some Jvm.ClassFile.FieldType.int)) ∈ lw_g := tw_m1 (i := 175) rfl rfl
theorem tw_176 : (Jvm.Cond.instantiable "HistoryCourt$Table" (3 : Nat)) ∈ lw_g := tw_m1 (i := 176) rfl rfl
theorem tw_178 : (Jvm.Cond.instanceMethod ({ cls := "HistoryCourt$Table", name := "<init>", desc := "()V" } : Jvm.MethodName)) ∈ lw_g := tw_m1 (i := 178) rfl rfl
theorem tw_179 : (Jvm.Cond.code ({ cls := "HistoryCourt$Table", name := "<init>", desc := "()V" } : Jvm.MethodName) prog_7_method_1_code (1 : Nat) (Option.none : Option Jvm.ClassFile.FieldType)) ∈ lw_g := tw_m1 (i := 179) rfl rfl
theorem tw_180 : (Jvm.Cond.methodLink "HistoryCourt$Table" (1 : Nat) ({ cls := "java/lang/Object", name := "<init>", desc := "()V" } : Jvm.MethodName)) ∈ lw_g := tw_m1 (i := 180) rfl rfl
theorem tw_181 : (Jvm.Cond.fieldLink "HistoryCourt$Table" (9 : Nat) "HistoryCourt$Table" "answers" "[I") ∈ lw_g := tw_m1 (i := 181) rfl rfl
theorem tw_182 : (Jvm.Cond.fieldLink "HistoryCourt$Table" (13 : Nat) "HistoryCourt$Table" "nexts" "[I") ∈ lw_g := tw_m1 (i := 182) rfl rfl
theorem tw_183 : (Jvm.Cond.fieldLink "HistoryCourt" (52 : Nat) "HistoryCourt$Table" "isUsed" "Z") ∈ lw_g := tw_m1 (i := 183) rfl rfl
theorem tw_190 : (Jvm.Cond.superclass "HistoryCourt$Table" "java/lang/Object") ∈ lw_g := tw_m1 (i := 190) rfl rfl
theorem tw_191 : (Jvm.Cond.methodLink "HistoryCourtLaw" (18 : Nat) ({ cls := "HistoryCourt", name := "row", desc := "(IIIII)I" } : Jvm.MethodName)) ∈ lw_g := tw_m1 (i := 191) rfl rfl
theorem tw_192 : (Jvm.Cond.instanceMethod ({ cls := "HistoryCourt", name := "row", desc := "(IIIII)I" } : Jvm.MethodName)) ∈ lw_g := tw_m1 (i := 192) rfl rfl
theorem tw_193 : (Jvm.Cond.selects "HistoryCourt" ({ cls := "HistoryCourt", name := "row", desc := "(IIIII)I" } : Jvm.MethodName) ({ cls := "HistoryCourt", name := "row", desc := "(IIIII)I" } : Jvm.MethodName)) ∈ lw_g := tw_m1 (i := 193) rfl rfl
theorem tw_194 : (Jvm.Cond.code ({ cls := "HistoryCourt", name := "row", desc := "(IIIII)I" } : Jvm.MethodName) prog_1_method_3_code (7 : Nat) (Option.some Jvm.ClassFile.FieldType.int)) ∈ lw_g := tw_m1 (i := 194) rfl rfl
theorem tw_195 : (Jvm.Cond.methodLink "HistoryCourt" (44 : Nat) ({ cls := "HistoryCourt", name := "tableOf", desc := "(I)LHistoryCourt$Table;" } : Jvm.MethodName)) ∈ lw_g := tw_m1 (i := 195) rfl rfl
theorem tw_197 : (Jvm.Cond.instanceMethod ({ cls := "HistoryCourt", name := "tableOf", desc := "(I)LHistoryCourt$Table;" } : Jvm.MethodName)) ∈ lw_g := tw_m1 (i := 197) rfl rfl
theorem tw_198 : (Jvm.Cond.code ({ cls := "HistoryCourt", name := "tableOf", desc := "(I)LHistoryCourt$Table;" } : Jvm.MethodName) prog_1_method_25_code (2 : Nat) (Option.some (Jvm.ClassFile.FieldType.object "HistoryCourt$Table"))) ∈ lw_g := tw_m1 (i := 198) rfl rfl
theorem tw_199 : (Jvm.Cond.methodLink "HistoryCourt" (48 : Nat) ({ cls := "HistoryCourt$Table", name := "has", desc := "(JI)Z" } : Jvm.MethodName)) ∈ lw_g := tw_m1 (i := 199) rfl rfl
theorem tw_200 : (Jvm.Cond.static ({ cls := "HistoryCourt$Table", name := "has", desc := "(JI)Z" } : Jvm.MethodName)) ∈ lw_g := tw_m1 (i := 200) rfl rfl
theorem tw_201 : (Jvm.Cond.code ({ cls := "HistoryCourt$Table", name := "has", desc := "(JI)Z" } : Jvm.MethodName) prog_7_method_2_code (3 : Nat) (Option.some Jvm.ClassFile.FieldType.boolean)) ∈ lw_g := tw_m1 (i := 201) rfl rfl
theorem tw_202 : (Jvm.Cond.constantLong "HistoryCourt$Table" (16 : Nat) (8 : Int64)) ∈ lw_g := tw_m1 (i := 202) rfl rfl
theorem tw_203 : (Jvm.Cond.methodLink "HistoryCourt" (56 : Nat) ({ cls := "HistoryCourt$Table", name := "tell", desc := "(IIII)V" } : Jvm.MethodName)) ∈ lw_g := tw_m1 (i := 203) rfl rfl
theorem tw_204 : (Jvm.Cond.instanceMethod ({ cls := "HistoryCourt$Table", name := "tell", desc := "(IIII)V" } : Jvm.MethodName)) ∈ lw_g := tw_m1 (i := 204) rfl rfl
theorem tw_205 : (Jvm.Cond.selects "HistoryCourt$Table" ({ cls := "HistoryCourt$Table", name := "tell", desc := "(IIII)V" } : Jvm.MethodName) ({ cls := "HistoryCourt$Table", name := "tell", desc := "(IIII)V" } : Jvm.MethodName)) ∈ lw_g := tw_m1 (i := 205) rfl rfl
theorem tw_206 : (Jvm.Cond.code ({ cls := "HistoryCourt$Table", name := "tell", desc := "(IIII)V" } : Jvm.MethodName) prog_7_method_4_code (5 : Nat) (Option.none : Option Jvm.ClassFile.FieldType)) ∈ lw_g := tw_m1 (i := 206) rfl rfl
theorem tw_207 : (Jvm.Cond.methodLink "HistoryCourt$Table" (18 : Nat) ({ cls := "HistoryCourt$Table", name := "has", desc := "(JI)Z" } : Jvm.MethodName)) ∈ lw_g := tw_m1 (i := 207) rfl rfl
theorem tw_208 : (Jvm.Cond.methodLink "HistoryCourt$Table" (22 : Nat) ({ cls := "HistoryCourt$Table", name := "placeOf", desc := "(JI)I" } : Jvm.MethodName)) ∈ lw_g := tw_m1 (i := 208) rfl rfl
theorem tw_209 : (Jvm.Cond.static ({ cls := "HistoryCourt$Table", name := "placeOf", desc := "(JI)I" } : Jvm.MethodName)) ∈ lw_g := tw_m1 (i := 209) rfl rfl
theorem tw_210 : (Jvm.Cond.code ({ cls := "HistoryCourt$Table", name := "placeOf", desc := "(JI)I" } : Jvm.MethodName) prog_7_method_3_code (3 : Nat) (Option.some Jvm.ClassFile.FieldType.int)) ∈ lw_g := tw_m1 (i := 210) rfl rfl
theorem tw_211 : (Jvm.Cond.methodLink "HistoryCourtLaw" (23 : Nat) ({ cls := "HistoryCourt", name := "history", desc := "(II)I" } : Jvm.MethodName)) ∈ lw_g := tw_m1 (i := 211) rfl rfl
theorem tw_212 : (Jvm.Cond.instanceMethod ({ cls := "HistoryCourt", name := "history", desc := "(II)I" } : Jvm.MethodName)) ∈ lw_g := tw_m1 (i := 212) rfl rfl
theorem tw_213 : (Jvm.Cond.selects "HistoryCourt" ({ cls := "HistoryCourt", name := "history", desc := "(II)I" } : Jvm.MethodName) ({ cls := "HistoryCourt", name := "history", desc := "(II)I" } : Jvm.MethodName)) ∈ lw_g := tw_m1 (i := 213) rfl rfl
theorem tw_214 : (Jvm.Cond.code ({ cls := "HistoryCourt", name := "history", desc := "(II)I" } : Jvm.MethodName) prog_1_method_4_code (5 : Nat) (Option.some Jvm.ClassFile.FieldType.int)) ∈ lw_g := tw_m1 (i := 214) rfl rfl
theorem tw_215 : (Jvm.Cond.methodLink "HistoryCourt" (62 : Nat) ({ cls := "HistoryCourt$Model", name := "isKind", desc := "(I)Z" } : Jvm.MethodName)) ∈ lw_g := tw_m1 (i := 215) rfl rfl
theorem tw_216 : (Jvm.Cond.static ({ cls := "HistoryCourt$Model", name := "isKind", desc := "(I)Z" } : Jvm.MethodName)) ∈ lw_g := tw_m1 (i := 216) rfl rfl
theorem tw_217 : (Jvm.Cond.code ({ cls := "HistoryCourt$Model", name := "isKind", desc := "(I)Z" } : Jvm.MethodName) prog_5_method_2_code (1 : Nat) (Option.some Jvm.ClassFile.FieldType.boolean)) ∈ lw_g := tw_m1 (i := 217) rfl rfl
theorem tw_218 : (Jvm.Cond.methodLink "HistoryCourt" (69 : Nat) ({ cls := "HistoryCourt$History", name := "<init>", desc := "(ILHistoryCourt$Table;)V" } : Jvm.MethodName)) ∈ lw_g := tw_m1 (i := 218) rfl rfl
theorem tw_219 : (Jvm.Cond.methodLink "HistoryCourt" (72 : Nat) ({ cls := "HistoryCourt", name := "keep", desc := "(LHistoryCourt$History;)I" } : Jvm.MethodName)) ∈ lw_g := tw_m1 (i := 219) rfl rfl
theorem tw_221 : (Jvm.Cond.instanceMethod ({ cls := "HistoryCourt", name := "keep", desc := "(LHistoryCourt$History;)I" } : Jvm.MethodName)) ∈ lw_g := tw_m1 (i := 221) rfl rfl
theorem tw_222 : (Jvm.Cond.code ({ cls := "HistoryCourt", name := "keep", desc := "(LHistoryCourt$History;)I" } : Jvm.MethodName) prog_1_method_27_code (2 : Nat) (Option.some Jvm.ClassFile.FieldType.int)) ∈ lw_g := tw_m1 (i := 222) rfl rfl
theorem tw_223 : (Jvm.Cond.methodLink "HistoryCourtLaw" (28 : Nat) ({ cls := "HistoryCourt", name := "copy", desc := "(I)I" } : Jvm.MethodName)) ∈ lw_g := tw_m1 (i := 223) rfl rfl
theorem tw_224 : (Jvm.Cond.instanceMethod ({ cls := "HistoryCourt", name := "copy", desc := "(I)I" } : Jvm.MethodName)) ∈ lw_g := tw_m1 (i := 224) rfl rfl
theorem tw_225 : (Jvm.Cond.selects "HistoryCourt" ({ cls := "HistoryCourt", name := "copy", desc := "(I)I" } : Jvm.MethodName) ({ cls := "HistoryCourt", name := "copy", desc := "(I)I" } : Jvm.MethodName)) ∈ lw_g := tw_m1 (i := 225) rfl rfl
theorem tw_226 : (Jvm.Cond.code ({ cls := "HistoryCourt", name := "copy", desc := "(I)I" } : Jvm.MethodName) prog_1_method_5_code (3 : Nat) (Option.some Jvm.ClassFile.FieldType.int)) ∈ lw_g := tw_m1 (i := 226) rfl rfl
theorem tw_227 : (Jvm.Cond.methodLink "HistoryCourt" (76 : Nat) ({ cls := "HistoryCourt", name := "historyOf", desc := "(I)LHistoryCourt$History;" } : Jvm.MethodName)) ∈ lw_g := tw_m1 (i := 227) rfl rfl
theorem tw_229 : (Jvm.Cond.instanceMethod ({ cls := "HistoryCourt", name := "historyOf", desc := "(I)LHistoryCourt$History;" } : Jvm.MethodName)) ∈ lw_g := tw_m1 (i := 229) rfl rfl
theorem tw_230 : (Jvm.Cond.code ({ cls := "HistoryCourt", name := "historyOf", desc := "(I)LHistoryCourt$History;" } : Jvm.MethodName) prog_1_method_26_code (2 : Nat) (Option.some (Jvm.ClassFile.FieldType.object "HistoryCourt$History"))) ∈ lw_g := tw_m1 (i := 230) rfl rfl
theorem tw_231 : (Jvm.Cond.methodLink "HistoryCourt" (80 : Nat) ({ cls := "HistoryCourt$History", name := "twin", desc := "()LHistoryCourt$History;" } : Jvm.MethodName)) ∈ lw_g := tw_m1 (i := 231) rfl rfl
theorem tw_232 : (Jvm.Cond.instanceMethod ({ cls := "HistoryCourt$History", name := "twin", desc := "()LHistoryCourt$History;" } : Jvm.MethodName)) ∈ lw_g := tw_m1 (i := 232) rfl rfl
theorem tw_233 : (Jvm.Cond.selects "HistoryCourt$History" ({ cls := "HistoryCourt$History", name := "twin", desc := "()LHistoryCourt$History;" } : Jvm.MethodName) ({ cls := "HistoryCourt$History", name := "twin", desc := "()LHistoryCourt$History;" } : Jvm.MethodName)) ∈ lw_g := tw_m1 (i := 233) rfl rfl
theorem tw_234 : (Jvm.Cond.code ({ cls := "HistoryCourt$History", name := "twin", desc := "()LHistoryCourt$History;" } : Jvm.MethodName) prog_3_method_2_code (2 : Nat) (Option.some (Jvm.ClassFile.FieldType.object "HistoryCourt$History"))) ∈ lw_g := tw_m1 (i := 234) rfl rfl
theorem tw_235 : (Jvm.Cond.classLink "HistoryCourt$History" (10 : Nat) "HistoryCourt$History") ∈ lw_g := tw_m1 (i := 235) rfl rfl
theorem tw_236 : (Jvm.Cond.methodLink "HistoryCourt$History" (41 : Nat) ({ cls := "HistoryCourt$History", name := "<init>", desc := "(ILHistoryCourt$Table;)V" } : Jvm.MethodName)) ∈ lw_g := tw_m1 (i := 236) rfl rfl
theorem tw_237 : (Jvm.Cond.methodLink "HistoryCourt$History" (50 : Nat) ({ cls := "java/lang/System", name := "arraycopy", desc := "(Ljava/lang/Object;ILjava/lang/Object;II)V" } : Jvm.MethodName)) ∈ lw_g := tw_m1 (i := 237) rfl rfl
theorem tw_238 : (Jvm.Cond.static ({ cls := "java/lang/System", name := "arraycopy", desc := "(Ljava/lang/Object;ILjava/lang/Object;II)V" } : Jvm.MethodName)) ∈ lw_g := tw_m1 (i := 238) rfl rfl
theorem tw_239 : (Jvm.Cond.native ({ cls := "java/lang/System", name := "arraycopy", desc := "(Ljava/lang/Object;ILjava/lang/Object;II)V" } : Jvm.MethodName)) ∈ lw_g := tw_m1 (i := 239) rfl rfl
theorem tw_240 : (Jvm.Cond.methodLink "HistoryCourtLaw" (33 : Nat) ({ cls := "HistoryCourt", name := "begin", desc := "(IIIII)I" } : Jvm.MethodName)) ∈ lw_g := tw_m2 (i := 0) rfl rfl
theorem tw_241 : (Jvm.Cond.instanceMethod ({ cls := "HistoryCourt", name := "begin", desc := "(IIIII)I" } : Jvm.MethodName)) ∈ lw_g := tw_m2 (i := 1) rfl rfl
theorem tw_242 : (Jvm.Cond.selects "HistoryCourt" ({ cls := "HistoryCourt", name := "begin", desc := "(IIIII)I" } : Jvm.MethodName) ({ cls := "HistoryCourt", name := "begin", desc := "(IIIII)I" } : Jvm.MethodName)) ∈ lw_g := tw_m2 (i := 2) rfl rfl
theorem tw_243 : (Jvm.Cond.code ({ cls := "HistoryCourt", name := "begin", desc := "(IIIII)I" } : Jvm.MethodName) prog_1_method_6_code (7 : Nat) (Option.some Jvm.ClassFile.FieldType.int)) ∈ lw_g := tw_m2 (i := 3) rfl rfl
theorem tw_244 : (Jvm.Cond.methodLink "HistoryCourt" (87 : Nat) ({ cls := "HistoryCourt$Model", name := "allows", desc := "(III)Z" } : Jvm.MethodName)) ∈ lw_g := tw_m2 (i := 4) rfl rfl
theorem tw_245 : (Jvm.Cond.static ({ cls := "HistoryCourt$Model", name := "allows", desc := "(III)Z" } : Jvm.MethodName)) ∈ lw_g := tw_m2 (i := 5) rfl rfl
theorem tw_246 : (Jvm.Cond.code ({ cls := "HistoryCourt$Model", name := "allows", desc := "(III)Z" } : Jvm.MethodName) prog_5_method_3_code (3 : Nat) (Option.some Jvm.ClassFile.FieldType.boolean)) ∈ lw_g := tw_m2 (i := 6) rfl rfl
theorem tw_247 : (Jvm.Cond.methodLink "HistoryCourt$Model" (11 : Nat) ({ cls := "HistoryCourt$Model", name := "isKind", desc := "(I)Z" } : Jvm.MethodName)) ∈ lw_g := tw_m2 (i := 7) rfl rfl
theorem tw_248 : (Jvm.Cond.fieldLink "HistoryCourt$Model" (15 : Nat) "HistoryCourt$Model" "ACTS" "[I") ∈ lw_g := tw_m2 (i := 8) rfl rfl
theorem tw_250 : (Jvm.Cond.methodLink "HistoryCourt" (91 : Nat) ({ cls := "HistoryCourt$History", name := "isWaiting", desc := "(I)Z" } : Jvm.MethodName)) ∈ lw_g := tw_m2 (i := 10) rfl rfl
theorem tw_251 : (Jvm.Cond.instanceMethod ({ cls := "HistoryCourt$History", name := "isWaiting", desc := "(I)Z" } : Jvm.MethodName)) ∈ lw_g := tw_m2 (i := 11) rfl rfl
theorem tw_252 : (Jvm.Cond.selects "HistoryCourt$History" ({ cls := "HistoryCourt$History", name := "isWaiting", desc := "(I)Z" } : Jvm.MethodName) ({ cls := "HistoryCourt$History", name := "isWaiting", desc := "(I)Z" } : Jvm.MethodName)) ∈ lw_g := tw_m2 (i := 12) rfl rfl
theorem tw_253 : (Jvm.Cond.code ({ cls := "HistoryCourt$History", name := "isWaiting", desc := "(I)Z" } : Jvm.MethodName) prog_3_method_5_code (3 : Nat) (Option.some Jvm.ClassFile.FieldType.boolean)) ∈ lw_g := tw_m2 (i := 13) rfl rfl
theorem tw_254 : (Jvm.Cond.methodLink "HistoryCourt" (97 : Nat) ({ cls := "HistoryCourt$History", name := "start", desc := "(IIII)I" } : Jvm.MethodName)) ∈ lw_g := tw_m2 (i := 14) rfl rfl
theorem tw_255 : (Jvm.Cond.instanceMethod ({ cls := "HistoryCourt$History", name := "start", desc := "(IIII)I" } : Jvm.MethodName)) ∈ lw_g := tw_m2 (i := 15) rfl rfl
theorem tw_256 : (Jvm.Cond.selects "HistoryCourt$History" ({ cls := "HistoryCourt$History", name := "start", desc := "(IIII)I" } : Jvm.MethodName) ({ cls := "HistoryCourt$History", name := "start", desc := "(IIII)I" } : Jvm.MethodName)) ∈ lw_g := tw_m2 (i := 16) rfl rfl
theorem tw_257 : (Jvm.Cond.code ({ cls := "HistoryCourt$History", name := "start", desc := "(IIII)I" } : Jvm.MethodName) prog_3_method_6_code (5 : Nat) (Option.some Jvm.ClassFile.FieldType.int)) ∈ lw_g := tw_m2 (i := 17) rfl rfl
theorem tw_258 : (Jvm.Cond.methodLink "HistoryCourtLaw" (37 : Nat) ({ cls := "HistoryCourt", name := "answer", desc := "(III)I" } : Jvm.MethodName)) ∈ lw_g := tw_m2 (i := 18) rfl rfl
theorem tw_259 : (Jvm.Cond.instanceMethod ({ cls := "HistoryCourt", name := "answer", desc := "(III)I" } : Jvm.MethodName)) ∈ lw_g := tw_m2 (i := 19) rfl rfl
theorem tw_260 : (Jvm.Cond.selects "HistoryCourt" ({ cls := "HistoryCourt", name := "answer", desc := "(III)I" } : Jvm.MethodName) ({ cls := "HistoryCourt", name := "answer", desc := "(III)I" } : Jvm.MethodName)) ∈ lw_g := tw_m2 (i := 20) rfl rfl
theorem tw_261 : (Jvm.Cond.code ({ cls := "HistoryCourt", name := "answer", desc := "(III)I" } : Jvm.MethodName) prog_1_method_7_code (5 : Nat) (Option.some Jvm.ClassFile.FieldType.int)) ∈ lw_g := tw_m2 (i := 21) rfl rfl
theorem tw_262 : (Jvm.Cond.methodLink "HistoryCourt" (101 : Nat) ({ cls := "HistoryCourt$History", name := "hasCall", desc := "(I)Z" } : Jvm.MethodName)) ∈ lw_g := tw_m2 (i := 22) rfl rfl
theorem tw_263 : (Jvm.Cond.instanceMethod ({ cls := "HistoryCourt$History", name := "hasCall", desc := "(I)Z" } : Jvm.MethodName)) ∈ lw_g := tw_m2 (i := 23) rfl rfl
theorem tw_264 : (Jvm.Cond.selects "HistoryCourt$History" ({ cls := "HistoryCourt$History", name := "hasCall", desc := "(I)Z" } : Jvm.MethodName) ({ cls := "HistoryCourt$History", name := "hasCall", desc := "(I)Z" } : Jvm.MethodName)) ∈ lw_g := tw_m2 (i := 24) rfl rfl
theorem tw_265 : (Jvm.Cond.code ({ cls := "HistoryCourt$History", name := "hasCall", desc := "(I)Z" } : Jvm.MethodName) prog_3_method_3_code (2 : Nat) (Option.some Jvm.ClassFile.FieldType.boolean)) ∈ lw_g := tw_m2 (i := 25) rfl rfl
theorem tw_266 : (Jvm.Cond.methodLink "HistoryCourt" (104 : Nat) ({ cls := "HistoryCourt$History", name := "isOpen", desc := "(I)Z" } : Jvm.MethodName)) ∈ lw_g := tw_m2 (i := 26) rfl rfl
theorem tw_267 : (Jvm.Cond.instanceMethod ({ cls := "HistoryCourt$History", name := "isOpen", desc := "(I)Z" } : Jvm.MethodName)) ∈ lw_g := tw_m2 (i := 27) rfl rfl
theorem tw_268 : (Jvm.Cond.selects "HistoryCourt$History" ({ cls := "HistoryCourt$History", name := "isOpen", desc := "(I)Z" } : Jvm.MethodName) ({ cls := "HistoryCourt$History", name := "isOpen", desc := "(I)Z" } : Jvm.MethodName)) ∈ lw_g := tw_m2 (i := 28) rfl rfl
theorem tw_269 : (Jvm.Cond.code ({ cls := "HistoryCourt$History", name := "isOpen", desc := "(I)Z" } : Jvm.MethodName) prog_3_method_4_code (2 : Nat) (Option.some Jvm.ClassFile.FieldType.boolean)) ∈ lw_g := tw_m2 (i := 29) rfl rfl
theorem tw_270 : (Jvm.Cond.methodLink "HistoryCourt$History" (56 : Nat) ({ cls := "HistoryCourt$History", name := "hasCall", desc := "(I)Z" } : Jvm.MethodName)) ∈ lw_g := tw_m2 (i := 30) rfl rfl
theorem tw_271 : (Jvm.Cond.methodLink "HistoryCourt" (107 : Nat) ({ cls := "HistoryCourt$History", name := "end", desc := "(II)I" } : Jvm.MethodName)) ∈ lw_g := tw_m2 (i := 31) rfl rfl
theorem tw_272 : (Jvm.Cond.instanceMethod ({ cls := "HistoryCourt$History", name := "end", desc := "(II)I" } : Jvm.MethodName)) ∈ lw_g := tw_m2 (i := 32) rfl rfl
theorem tw_273 : (Jvm.Cond.selects "HistoryCourt$History" ({ cls := "HistoryCourt$History", name := "end", desc := "(II)I" } : Jvm.MethodName) ({ cls := "HistoryCourt$History", name := "end", desc := "(II)I" } : Jvm.MethodName)) ∈ lw_g := tw_m2 (i := 33) rfl rfl
theorem tw_274 : (Jvm.Cond.code ({ cls := "HistoryCourt$History", name := "end", desc := "(II)I" } : Jvm.MethodName) prog_3_method_7_code (3 : Nat) (Option.some Jvm.ClassFile.FieldType.int)) ∈ lw_g := tw_m2 (i := 34) rfl rfl
theorem tw_275 : (Jvm.Cond.methodLink "HistoryCourtLaw" (42 : Nat) ({ cls := "HistoryCourt", name := "alter", desc := "(III)I" } : Jvm.MethodName)) ∈ lw_g := tw_m2 (i := 35) rfl rfl
theorem tw_276 : (Jvm.Cond.instanceMethod ({ cls := "HistoryCourt", name := "alter", desc := "(III)I" } : Jvm.MethodName)) ∈ lw_g := tw_m2 (i := 36) rfl rfl
theorem tw_277 : (Jvm.Cond.selects "HistoryCourt" ({ cls := "HistoryCourt", name := "alter", desc := "(III)I" } : Jvm.MethodName) ({ cls := "HistoryCourt", name := "alter", desc := "(III)I" } : Jvm.MethodName)) ∈ lw_g := tw_m2 (i := 37) rfl rfl
theorem tw_278 : (Jvm.Cond.code ({ cls := "HistoryCourt", name := "alter", desc := "(III)I" } : Jvm.MethodName) prog_1_method_8_code (6 : Nat) (Option.some Jvm.ClassFile.FieldType.int)) ∈ lw_g := tw_m2 (i := 38) rfl rfl
theorem tw_279 : (Jvm.Cond.methodLink "HistoryCourt" (111 : Nat) ({ cls := "HistoryCourt", name := "answered", desc := "(II)I" } : Jvm.MethodName)) ∈ lw_g := tw_m2 (i := 39) rfl rfl
theorem tw_280 : (Jvm.Cond.instanceMethod ({ cls := "HistoryCourt", name := "answered", desc := "(II)I" } : Jvm.MethodName)) ∈ lw_g := tw_m2 (i := 40) rfl rfl
theorem tw_281 : (Jvm.Cond.selects "HistoryCourt" ({ cls := "HistoryCourt", name := "answered", desc := "(II)I" } : Jvm.MethodName) ({ cls := "HistoryCourt", name := "answered", desc := "(II)I" } : Jvm.MethodName)) ∈ lw_g := tw_m2 (i := 41) rfl rfl
theorem tw_282 : (Jvm.Cond.code ({ cls := "HistoryCourt", name := "answered", desc := "(II)I" } : Jvm.MethodName) prog_1_method_10_code (4 : Nat) (Option.some Jvm.ClassFile.FieldType.int)) ∈ lw_g := tw_m2 (i := 42) rfl rfl
theorem tw_283 : (Jvm.Cond.methodLink "HistoryCourtLaw" (46 : Nat) ({ cls := "HistoryCourt", name := "status", desc := "()I" } : Jvm.MethodName)) ∈ lw_g := tw_m2 (i := 43) rfl rfl
theorem tw_284 : (Jvm.Cond.instanceMethod ({ cls := "HistoryCourt", name := "status", desc := "()I" } : Jvm.MethodName)) ∈ lw_g := tw_m2 (i := 44) rfl rfl
theorem tw_285 : (Jvm.Cond.selects "HistoryCourt" ({ cls := "HistoryCourt", name := "status", desc := "()I" } : Jvm.MethodName) ({ cls := "HistoryCourt", name := "status", desc := "()I" } : Jvm.MethodName)) ∈ lw_g := tw_m2 (i := 45) rfl rfl
theorem tw_286 : (Jvm.Cond.code ({ cls := "HistoryCourt", name := "status", desc := "()I" } : Jvm.MethodName) prog_1_method_9_code (1 : Nat) (Option.some Jvm.ClassFile.FieldType.int)) ∈ lw_g := tw_m2 (i := 46) rfl rfl
theorem tw_287 : (Jvm.Cond.methodLink "HistoryCourtLaw" (50 : Nat) ({ cls := "HistoryCourt", name := "answered", desc := "(II)I" } : Jvm.MethodName)) ∈ lw_g := tw_m2 (i := 47) rfl rfl
theorem tw_288 : (Jvm.Cond.methodLink "HistoryCourtLaw" (54 : Nat) ({ cls := "HistoryCourt", name := "call", desc := "(III)I" } : Jvm.MethodName)) ∈ lw_g := tw_m2 (i := 48) rfl rfl
theorem tw_289 : (Jvm.Cond.instanceMethod ({ cls := "HistoryCourt", name := "call", desc := "(III)I" } : Jvm.MethodName)) ∈ lw_g := tw_m2 (i := 49) rfl rfl
theorem tw_290 : (Jvm.Cond.selects "HistoryCourt" ({ cls := "HistoryCourt", name := "call", desc := "(III)I" } : Jvm.MethodName) ({ cls := "HistoryCourt", name := "call", desc := "(III)I" } : Jvm.MethodName)) ∈ lw_g := tw_m2 (i := 50) rfl rfl
theorem tw_291 : (Jvm.Cond.code ({ cls := "HistoryCourt", name := "call", desc := "(III)I" } : Jvm.MethodName) prog_1_method_11_code (5 : Nat) (Option.some Jvm.ClassFile.FieldType.int)) ∈ lw_g := tw_m2 (i := 51) rfl rfl
theorem tw_292 : (Jvm.Cond.methodLink "HistoryCourtLaw" (58 : Nat) ({ cls := "HistoryCourt", name := "about", desc := "(II)I" } : Jvm.MethodName)) ∈ lw_g := tw_m2 (i := 52) rfl rfl
theorem tw_293 : (Jvm.Cond.instanceMethod ({ cls := "HistoryCourt", name := "about", desc := "(II)I" } : Jvm.MethodName)) ∈ lw_g := tw_m2 (i := 53) rfl rfl
theorem tw_294 : (Jvm.Cond.selects "HistoryCourt" ({ cls := "HistoryCourt", name := "about", desc := "(II)I" } : Jvm.MethodName) ({ cls := "HistoryCourt", name := "about", desc := "(II)I" } : Jvm.MethodName)) ∈ lw_g := tw_m2 (i := 54) rfl rfl
theorem tw_295 : (Jvm.Cond.code ({ cls := "HistoryCourt", name := "about", desc := "(II)I" } : Jvm.MethodName) prog_1_method_12_code (4 : Nat) (Option.some Jvm.ClassFile.FieldType.int)) ∈ lw_g := tw_m2 (i := 55) rfl rfl
theorem tw_296 : (Jvm.Cond.methodLink "HistoryCourt" (132 : Nat) ({ cls := "HistoryCourt$History", name := "endedCalls", desc := "()I" } : Jvm.MethodName)) ∈ lw_g := tw_m2 (i := 56) rfl rfl
theorem tw_297 : (Jvm.Cond.instanceMethod ({ cls := "HistoryCourt$History", name := "endedCalls", desc := "()I" } : Jvm.MethodName)) ∈ lw_g := tw_m2 (i := 57) rfl rfl
theorem tw_298 : (Jvm.Cond.selects "HistoryCourt$History" ({ cls := "HistoryCourt$History", name := "endedCalls", desc := "()I" } : Jvm.MethodName) ({ cls := "HistoryCourt$History", name := "endedCalls", desc := "()I" } : Jvm.MethodName)) ∈ lw_g := tw_m2 (i := 58) rfl rfl
theorem tw_299 : (Jvm.Cond.code ({ cls := "HistoryCourt$History", name := "endedCalls", desc := "()I" } : Jvm.MethodName) prog_3_method_9_code (3 : Nat) (Option.some Jvm.ClassFile.FieldType.int)) ∈ lw_g := tw_m2 (i := 59) rfl rfl
theorem tw_300 : (Jvm.Cond.methodLink "HistoryCourt" (136 : Nat) ({ cls := "java/lang/Integer", name := "bitCount", desc := "(I)I" } : Jvm.MethodName)) ∈ lw_g := tw_m2 (i := 60) rfl rfl
theorem tw_301 : (Jvm.Cond.static ({ cls := "java/lang/Integer", name := "bitCount", desc := "(I)I" } : Jvm.MethodName)) ∈ lw_g := tw_m2 (i := 61) rfl rfl
theorem tw_302 : (Jvm.Cond.code ({ cls := "java/lang/Integer", name := "bitCount", desc := "(I)I" } : Jvm.MethodName) prog_10_method_49_code (1 : Nat) (Option.some Jvm.ClassFile.FieldType.int)) ∈ lw_g := tw_m2 (i := 62) rfl rfl
theorem tw_303 : (Jvm.Cond.constant "java/lang/Integer" (265 : Nat) (1431655765 : Int32)) ∈ lw_g := tw_m2 (i := 63) rfl rfl
theorem tw_304 : (Jvm.Cond.constant "java/lang/Integer" (266 : Nat) (858993459 : Int32)) ∈ lw_g := tw_m2 (i := 64) rfl rfl
theorem tw_305 : (Jvm.Cond.constant "java/lang/Integer" (267 : Nat) (252645135 : Int32)) ∈ lw_g := tw_m2 (i := 65) rfl rfl
theorem tw_306 : (Jvm.Cond.methodLink "HistoryCourtLaw" (62 : Nat) ({ cls := "HistoryCourt", name := "ahead", desc := "(IIII)I" } : Jvm.MethodName)) ∈ lw_g := tw_m2 (i := 66) rfl rfl
theorem tw_307 : (Jvm.Cond.instanceMethod ({ cls := "HistoryCourt", name := "ahead", desc := "(IIII)I" } : Jvm.MethodName)) ∈ lw_g := tw_m2 (i := 67) rfl rfl
theorem tw_308 : (Jvm.Cond.selects "HistoryCourt" ({ cls := "HistoryCourt", name := "ahead", desc := "(IIII)I" } : Jvm.MethodName) ({ cls := "HistoryCourt", name := "ahead", desc := "(IIII)I" } : Jvm.MethodName)) ∈ lw_g := tw_m2 (i := 68) rfl rfl
theorem tw_309 : (Jvm.Cond.code ({ cls := "HistoryCourt", name := "ahead", desc := "(IIII)I" } : Jvm.MethodName) prog_1_method_13_code (6 : Nat) (Option.some Jvm.ClassFile.FieldType.int)) ∈ lw_g := tw_m2 (i := 69) rfl rfl
theorem tw_310 : (Jvm.Cond.methodLink "HistoryCourt" (145 : Nat) ({ cls := "HistoryCourt", name := "isRule", desc := "(I)Z" } : Jvm.MethodName)) ∈ lw_g := tw_m2 (i := 70) rfl rfl
theorem tw_311 : (Jvm.Cond.static ({ cls := "HistoryCourt", name := "isRule", desc := "(I)Z" } : Jvm.MethodName)) ∈ lw_g := tw_m2 (i := 71) rfl rfl
theorem tw_312 : (Jvm.Cond.code ({ cls := "HistoryCourt", name := "isRule", desc := "(I)Z" } : Jvm.MethodName) prog_1_method_28_code (1 : Nat) (Option.some Jvm.ClassFile.FieldType.boolean)) ∈ lw_g := tw_m2 (i := 72) rfl rfl
theorem tw_313 : (Jvm.Cond.methodLink "HistoryCourt" (148 : Nat) ({ cls := "HistoryCourt$History", name := "allCalls", desc := "()I" } : Jvm.MethodName)) ∈ lw_g := tw_m2 (i := 73) rfl rfl
theorem tw_314 : (Jvm.Cond.instanceMethod ({ cls := "HistoryCourt$History", name := "allCalls", desc := "()I" } : Jvm.MethodName)) ∈ lw_g := tw_m2 (i := 74) rfl rfl
theorem tw_315 : (Jvm.Cond.selects "HistoryCourt$History" ({ cls := "HistoryCourt$History", name := "allCalls", desc := "()I" } : Jvm.MethodName) ({ cls := "HistoryCourt$History", name := "allCalls", desc := "()I" } : Jvm.MethodName)) ∈ lw_g := tw_m2 (i := 75) rfl rfl
theorem tw_316 : (Jvm.Cond.code ({ cls := "HistoryCourt$History", name := "allCalls", desc := "()I" } : Jvm.MethodName) prog_3_method_8_code (1 : Nat) (Option.some Jvm.ClassFile.FieldType.int)) ∈ lw_g := tw_m2 (i := 76) rfl rfl
theorem tw_317 : (Jvm.Cond.methodLink "HistoryCourt" (151 : Nat) ({ cls := "HistoryCourt$History", name := "quietTicks", desc := "(I)I" } : Jvm.MethodName)) ∈ lw_g := tw_m2 (i := 77) rfl rfl
theorem tw_318 : (Jvm.Cond.instanceMethod ({ cls := "HistoryCourt$History", name := "quietTicks", desc := "(I)I" } : Jvm.MethodName)) ∈ lw_g := tw_m2 (i := 78) rfl rfl
theorem tw_319 : (Jvm.Cond.selects "HistoryCourt$History" ({ cls := "HistoryCourt$History", name := "quietTicks", desc := "(I)I" } : Jvm.MethodName) ({ cls := "HistoryCourt$History", name := "quietTicks", desc := "(I)I" } : Jvm.MethodName)) ∈ lw_g := tw_m2 (i := 79) rfl rfl
theorem tw_320 : (Jvm.Cond.code ({ cls := "HistoryCourt$History", name := "quietTicks", desc := "(I)I" } : Jvm.MethodName) prog_3_method_11_code (4 : Nat) (Option.some Jvm.ClassFile.FieldType.int)) ∈ lw_g := tw_m2 (i := 80) rfl rfl
theorem tw_321 : (Jvm.Cond.methodLink "HistoryCourt$History" (60 : Nat) ({ cls := "HistoryCourt$History", name := "isQuiet", desc := "(II)Z" } : Jvm.MethodName)) ∈ lw_g := tw_m2 (i := 81) rfl rfl
theorem tw_323 : (Jvm.Cond.instanceMethod ({ cls := "HistoryCourt$History", name := "isQuiet", desc := "(II)Z" } : Jvm.MethodName)) ∈ lw_g := tw_m2 (i := 83) rfl rfl
theorem tw_324 : (Jvm.Cond.code ({ cls := "HistoryCourt$History", name := "isQuiet", desc := "(II)Z" } : Jvm.MethodName) prog_3_method_12_code (5 : Nat) (Option.some Jvm.ClassFile.FieldType.boolean)) ∈ lw_g := tw_m2 (i := 84) rfl rfl
theorem tw_326 : (Jvm.Cond.static ({ cls := "HistoryCourt", name := "holds", desc := "(II)Z" } : Jvm.MethodName)) ∈ lw_g := tw_m2 (i := 86) rfl rfl
theorem tw_327 : (Jvm.Cond.code ({ cls := "HistoryCourt", name := "holds", desc := "(II)Z" } : Jvm.MethodName) prog_1_method_29_code (2 : Nat) (Option.some Jvm.ClassFile.FieldType.boolean)) ∈ lw_g := tw_m2 (i := 87) rfl rfl
theorem tw_328 : (Jvm.Cond.methodLink "HistoryCourt" (154 : Nat) ({ cls := "HistoryCourt$History", name := "isAhead", desc := "(IIII)Z" } : Jvm.MethodName)) ∈ lw_g := tw_m2 (i := 88) rfl rfl
theorem tw_329 : (Jvm.Cond.instanceMethod ({ cls := "HistoryCourt$History", name := "isAhead", desc := "(IIII)Z" } : Jvm.MethodName)) ∈ lw_g := tw_m2 (i := 89) rfl rfl
theorem tw_330 : (Jvm.Cond.selects "HistoryCourt$History" ({ cls := "HistoryCourt$History", name := "isAhead", desc := "(IIII)Z" } : Jvm.MethodName) ({ cls := "HistoryCourt$History", name := "isAhead", desc := "(IIII)Z" } : Jvm.MethodName)) ∈ lw_g := tw_m2 (i := 90) rfl rfl
theorem tw_331 : (Jvm.Cond.code ({ cls := "HistoryCourt$History", name := "isAhead", desc := "(IIII)Z" } : Jvm.MethodName) prog_3_method_13_code (6 : Nat) (Option.some Jvm.ClassFile.FieldType.boolean)) ∈ lw_g := tw_m2 (i := 91) rfl rfl
theorem tw_332 : (Jvm.Cond.methodLink "HistoryCourt$History" (67 : Nat) ({ cls := "HistoryCourt$History", name := "isOpen", desc := "(I)Z" } : Jvm.MethodName)) ∈ lw_g := tw_m2 (i := 92) rfl rfl
theorem tw_333 : (Jvm.Cond.methodLink "HistoryCourtLaw" (67 : Nat) ({ cls := "HistoryCourt", name := "judge", desc := "(II)I" } : Jvm.MethodName)) ∈ lw_g := tw_m2 (i := 93) rfl rfl
theorem tw_334 : (Jvm.Cond.instanceMethod ({ cls := "HistoryCourt", name := "judge", desc := "(II)I" } : Jvm.MethodName)) ∈ lw_g := tw_m2 (i := 94) rfl rfl
theorem tw_335 : (Jvm.Cond.selects "HistoryCourt" ({ cls := "HistoryCourt", name := "judge", desc := "(II)I" } : Jvm.MethodName) ({ cls := "HistoryCourt", name := "judge", desc := "(II)I" } : Jvm.MethodName)) ∈ lw_g := tw_m2 (i := 95) rfl rfl
theorem tw_336 : (Jvm.Cond.code ({ cls := "HistoryCourt", name := "judge", desc := "(II)I" } : Jvm.MethodName) prog_1_method_14_code (4 : Nat) (Option.some Jvm.ClassFile.FieldType.int)) ∈ lw_g := tw_m2 (i := 96) rfl rfl
theorem tw_337 : (Jvm.Cond.methodLink "HistoryCourt" (158 : Nat) ({ cls := "HistoryCourt$Search", name := "takes", desc := "(LHistoryCourt$History;II)Z" } : Jvm.MethodName)) ∈ lw_g := tw_m2 (i := 97) rfl rfl
theorem tw_338 : (Jvm.Cond.instanceMethod ({ cls := "HistoryCourt$Search", name := "takes", desc := "(LHistoryCourt$History;II)Z" } : Jvm.MethodName)) ∈ lw_g := tw_m2 (i := 98) rfl rfl
theorem tw_339 : (Jvm.Cond.selects "HistoryCourt$Search" ({ cls := "HistoryCourt$Search", name := "takes", desc := "(LHistoryCourt$History;II)Z" } : Jvm.MethodName) ({ cls := "HistoryCourt$Search", name := "takes", desc := "(LHistoryCourt$History;II)Z" } : Jvm.MethodName)) ∈ lw_g := tw_m2 (i := 99) rfl rfl
theorem tw_340 : (Jvm.Cond.code ({ cls := "HistoryCourt$Search", name := "takes", desc := "(LHistoryCourt$History;II)Z" } : Jvm.MethodName) prog_6_method_2_code (4 : Nat) (Option.some Jvm.ClassFile.FieldType.boolean)) ∈ lw_g := tw_m2 (i := 100) rfl rfl
theorem tw_341 : (Jvm.Cond.methodLink "HistoryCourt$Search" (33 : Nat) ({ cls := "HistoryCourt$Search", name := "open", desc := "(LHistoryCourt$History;IIZ)V" } : Jvm.MethodName)) ∈ lw_g := tw_m2 (i := 101) rfl rfl
theorem tw_343 : (Jvm.Cond.instanceMethod ({ cls := "HistoryCourt$Search", name := "open", desc := "(LHistoryCourt$History;IIZ)V" } : Jvm.MethodName)) ∈ lw_g := tw_m2 (i := 103) rfl rfl
theorem tw_344 : (Jvm.Cond.code ({ cls := "HistoryCourt$Search", name := "open", desc := "(LHistoryCourt$History;IIZ)V" } : Jvm.MethodName) prog_6_method_8_code (8 : Nat) (Option.none : Option Jvm.ClassFile.FieldType)) ∈ lw_g := tw_m2 (i := 104) rfl rfl
theorem tw_345 : (Jvm.Cond.methodLink "HistoryCourt$Search" (81 : Nat) ({ cls := "HistoryCourt$History", name := "endedCalls", desc := "()I" } : Jvm.MethodName)) ∈ lw_g := tw_m2 (i := 105) rfl rfl
theorem tw_346 : (Jvm.Cond.methodLink "HistoryCourt$Search" (91 : Nat) ({ cls := "HistoryCourt$Memo", name := "forget", desc := "()V" } : Jvm.MethodName)) ∈ lw_g := tw_m2 (i := 106) rfl rfl
theorem tw_347 : (Jvm.Cond.instanceMethod ({ cls := "HistoryCourt$Memo", name := "forget", desc := "()V" } : Jvm.MethodName)) ∈ lw_g := tw_m2 (i := 107) rfl rfl
theorem tw_348 : (Jvm.Cond.selects "HistoryCourt$Memo" ({ cls := "HistoryCourt$Memo", name := "forget", desc := "()V" } : Jvm.MethodName) ({ cls := "HistoryCourt$Memo", name := "forget", desc := "()V" } : Jvm.MethodName)) ∈ lw_g := tw_m2 (i := 108) rfl rfl
theorem tw_349 : (Jvm.Cond.code ({ cls := "HistoryCourt$Memo", name := "forget", desc := "()V" } : Jvm.MethodName) prog_4_method_2_code (1 : Nat) (Option.none : Option Jvm.ClassFile.FieldType)) ∈ lw_g := tw_m2 (i := 109) rfl rfl
theorem tw_350 : (Jvm.Cond.methodLink "HistoryCourt$Search" (94 : Nat) ({ cls := "HistoryCourt$History", name := "quietTicks", desc := "(I)I" } : Jvm.MethodName)) ∈ lw_g := tw_m2 (i := 110) rfl rfl
theorem tw_352 : (Jvm.Cond.methodLink "HistoryCourt$Search" (102 : Nat) ({ cls := "HistoryCourt$History", name := "isAhead", desc := "(IIII)Z" } : Jvm.MethodName)) ∈ lw_g := tw_m2 (i := 112) rfl rfl
theorem tw_353 : (Jvm.Cond.methodLink "HistoryCourt$Search" (37 : Nat) ({ cls := "HistoryCourt$Search", name := "waysFrom", desc := "(IIJ)J" } : Jvm.MethodName)) ∈ lw_g := tw_m2 (i := 113) rfl rfl
theorem tw_355 : (Jvm.Cond.instanceMethod ({ cls := "HistoryCourt$Search", name := "waysFrom", desc := "(IIJ)J" } : Jvm.MethodName)) ∈ lw_g := tw_m2 (i := 115) rfl rfl
theorem tw_356 : (Jvm.Cond.code ({ cls := "HistoryCourt$Search", name := "waysFrom", desc := "(IIJ)J" } : Jvm.MethodName) prog_6_method_12_code (12 : Nat) (Option.some Jvm.ClassFile.FieldType.long)) ∈ lw_g := tw_m2 (i := 116) rfl rfl
theorem tw_357 : (Jvm.Cond.methodLink "HistoryCourt$Search" (119 : Nat) ({ cls := "HistoryCourt$Search", name := "keyOf", desc := "(IJ)J" } : Jvm.MethodName)) ∈ lw_g := tw_m2 (i := 117) rfl rfl
theorem tw_358 : (Jvm.Cond.static ({ cls := "HistoryCourt$Search", name := "keyOf", desc := "(IJ)J" } : Jvm.MethodName)) ∈ lw_g := tw_m2 (i := 118) rfl rfl
theorem tw_359 : (Jvm.Cond.code ({ cls := "HistoryCourt$Search", name := "keyOf", desc := "(IJ)J" } : Jvm.MethodName) prog_6_method_11_code (3 : Nat) (Option.some Jvm.ClassFile.FieldType.long)) ∈ lw_g := tw_m2 (i := 119) rfl rfl
theorem tw_360 : (Jvm.Cond.methodLink "HistoryCourt$Search" (123 : Nat) ({ cls := "HistoryCourt$Memo", name := "valueOf", desc := "(J)J" } : Jvm.MethodName)) ∈ lw_g := tw_m2 (i := 120) rfl rfl
theorem tw_361 : (Jvm.Cond.instanceMethod ({ cls := "HistoryCourt$Memo", name := "valueOf", desc := "(J)J" } : Jvm.MethodName)) ∈ lw_g := tw_m2 (i := 121) rfl rfl
theorem tw_362 : (Jvm.Cond.selects "HistoryCourt$Memo" ({ cls := "HistoryCourt$Memo", name := "valueOf", desc := "(J)J" } : Jvm.MethodName) ({ cls := "HistoryCourt$Memo", name := "valueOf", desc := "(J)J" } : Jvm.MethodName)) ∈ lw_g := tw_m2 (i := 122) rfl rfl
theorem tw_363 : (Jvm.Cond.code ({ cls := "HistoryCourt$Memo", name := "valueOf", desc := "(J)J" } : Jvm.MethodName) prog_4_method_4_code (4 : Nat) (Option.some Jvm.ClassFile.FieldType.long)) ∈ lw_g := tw_m2 (i := 123) rfl rfl
theorem tw_364 : (Jvm.Cond.methodLink "HistoryCourt$Memo" (28 : Nat) ({ cls := "HistoryCourt$Memo", name := "placeOf", desc := "(J)I" } : Jvm.MethodName)) ∈ lw_g := tw_m2 (i := 124) rfl rfl
theorem tw_365 : (Jvm.Cond.static ({ cls := "HistoryCourt$Memo", name := "placeOf", desc := "(J)I" } : Jvm.MethodName)) ∈ lw_g := tw_m2 (i := 125) rfl rfl
theorem tw_366 : (Jvm.Cond.code ({ cls := "HistoryCourt$Memo", name := "placeOf", desc := "(J)I" } : Jvm.MethodName) prog_4_method_3_code (2 : Nat) (Option.some Jvm.ClassFile.FieldType.int)) ∈ lw_g := tw_m2 (i := 126) rfl rfl
theorem tw_367 : (Jvm.Cond.constantLong "HistoryCourt$Memo" (26 : Nat) (-7046029254386353131 : Int64)) ∈ lw_g := tw_m2 (i := 127) rfl rfl
theorem tw_368 : (Jvm.Cond.constantLong "HistoryCourt$Memo" (32 : Nat) (-1 : Int64)) ∈ lw_g := tw_m2 (i := 128) rfl rfl
theorem tw_369 : (Jvm.Cond.constantLong "HistoryCourt$Search" (127 : Nat) (-1 : Int64)) ∈ lw_g := tw_m2 (i := 129) rfl rfl
theorem tw_370 : (Jvm.Cond.methodLink "HistoryCourt$Search" (45 : Nat) ({ cls := "HistoryCourt$Search", name := "isWhole", desc := "(I)Z" } : Jvm.MethodName)) ∈ lw_g := tw_m2 (i := 130) rfl rfl
theorem tw_372 : (Jvm.Cond.instanceMethod ({ cls := "HistoryCourt$Search", name := "isWhole", desc := "(I)Z" } : Jvm.MethodName)) ∈ lw_g := tw_m2 (i := 132) rfl rfl
theorem tw_373 : (Jvm.Cond.code ({ cls := "HistoryCourt$Search", name := "isWhole", desc := "(I)Z" } : Jvm.MethodName) prog_6_method_9_code (2 : Nat) (Option.some Jvm.ClassFile.FieldType.boolean)) ∈ lw_g := tw_m2 (i := 133) rfl rfl
theorem tw_374 : (Jvm.Cond.methodLink "HistoryCourt$Search" (74 : Nat) ({ cls := "HistoryCourt$Search", name := "fits", desc := "(IIJ)Z" } : Jvm.MethodName)) ∈ lw_g := tw_m2 (i := 134) rfl rfl
theorem tw_376 : (Jvm.Cond.instanceMethod ({ cls := "HistoryCourt$Search", name := "fits", desc := "(IIJ)Z" } : Jvm.MethodName)) ∈ lw_g := tw_m2 (i := 136) rfl rfl
theorem tw_377 : (Jvm.Cond.code ({ cls := "HistoryCourt$Search", name := "fits", desc := "(IIJ)Z" } : Jvm.MethodName) prog_6_method_10_code (5 : Nat) (Option.some Jvm.ClassFile.FieldType.boolean)) ∈ lw_g := tw_m2 (i := 137) rfl rfl
theorem tw_378 : (Jvm.Cond.methodLink "HistoryCourt$Search" (106 : Nat) ({ cls := "HistoryCourt$History", name := "hasCall", desc := "(I)Z" } : Jvm.MethodName)) ∈ lw_g := tw_m2 (i := 138) rfl rfl
theorem tw_379 : (Jvm.Cond.methodLink "HistoryCourt$Search" (109 : Nat) ({ cls := "HistoryCourt$History", name := "isOpen", desc := "(I)Z" } : Jvm.MethodName)) ∈ lw_g := tw_m2 (i := 139) rfl rfl
theorem tw_380 : (Jvm.Cond.methodLink "HistoryCourt$Search" (112 : Nat) ({ cls := "HistoryCourt$Model", name := "reply", desc := "(LHistoryCourt$History;IJ)I" } : Jvm.MethodName)) ∈ lw_g := tw_m2 (i := 140) rfl rfl
theorem tw_381 : (Jvm.Cond.static ({ cls := "HistoryCourt$Model", name := "reply", desc := "(LHistoryCourt$History;IJ)I" } : Jvm.MethodName)) ∈ lw_g := tw_m2 (i := 141) rfl rfl
theorem tw_382 : (Jvm.Cond.code ({ cls := "HistoryCourt$Model", name := "reply", desc := "(LHistoryCourt$History;IJ)I" } : Jvm.MethodName) prog_5_method_4_code (4 : Nat) (Option.some Jvm.ClassFile.FieldType.int)) ∈ lw_g := tw_m2 (i := 142) rfl rfl
theorem tw_383 : (Jvm.Cond.methodLink "HistoryCourt$Model" (31 : Nat) ({ cls := "HistoryCourt$Model", name := "cellReply", desc := "(III)I" } : Jvm.MethodName)) ∈ lw_g := tw_m2 (i := 143) rfl rfl
theorem tw_384 : (Jvm.Cond.static ({ cls := "HistoryCourt$Model", name := "cellReply", desc := "(III)I" } : Jvm.MethodName)) ∈ lw_g := tw_m2 (i := 144) rfl rfl
theorem tw_385 : (Jvm.Cond.code ({ cls := "HistoryCourt$Model", name := "cellReply", desc := "(III)I" } : Jvm.MethodName) prog_5_method_6_code (3 : Nat) (Option.some Jvm.ClassFile.FieldType.int)) ∈ lw_g := tw_m2 (i := 145) rfl rfl
theorem tw_386 : (Jvm.Cond.methodLink "HistoryCourt$Model" (35 : Nat) ({ cls := "HistoryCourt$Model", name := "lengthOf", desc := "(J)I" } : Jvm.MethodName)) ∈ lw_g := tw_m2 (i := 146) rfl rfl
theorem tw_387 : (Jvm.Cond.static ({ cls := "HistoryCourt$Model", name := "lengthOf", desc := "(J)I" } : Jvm.MethodName)) ∈ lw_g := tw_m2 (i := 147) rfl rfl
theorem tw_388 : (Jvm.Cond.code ({ cls := "HistoryCourt$Model", name := "lengthOf", desc := "(J)I" } : Jvm.MethodName) prog_5_method_8_code (3 : Nat) (Option.some Jvm.ClassFile.FieldType.int)) ∈ lw_g := tw_m2 (i := 148) rfl rfl
theorem tw_389 : (Jvm.Cond.methodLink "HistoryCourt$Model" (82 : Nat) ({ cls := "java/lang/Long", name := "numberOfLeadingZeros", desc := "(J)I" } : Jvm.MethodName)) ∈ lw_g := tw_m2 (i := 149) rfl rfl
theorem tw_390 : (Jvm.Cond.static ({ cls := "java/lang/Long", name := "numberOfLeadingZeros", desc := "(J)I" } : Jvm.MethodName)) ∈ lw_g := tw_m2 (i := 150) rfl rfl
theorem tw_391 : (Jvm.Cond.code ({ cls := "java/lang/Long", name := "numberOfLeadingZeros", desc := "(J)I" } : Jvm.MethodName) prog_11_method_48_code (3 : Nat) (Option.some Jvm.ClassFile.FieldType.int)) ∈ lw_g := tw_m2 (i := 151) rfl rfl
theorem tw_392 : (Jvm.Cond.methodLink "java/lang/Long" (308 : Nat) ({ cls := "java/lang/Integer", name := "numberOfLeadingZeros", desc := "(I)I" } : Jvm.MethodName)) ∈ lw_g := tw_m2 (i := 152) rfl rfl
theorem tw_393 : (Jvm.Cond.static ({ cls := "java/lang/Integer", name := "numberOfLeadingZeros", desc := "(I)I" } : Jvm.MethodName)) ∈ lw_g := tw_m2 (i := 153) rfl rfl
theorem tw_394 : (Jvm.Cond.code ({ cls := "java/lang/Integer", name := "numberOfLeadingZeros", desc := "(I)I" } : Jvm.MethodName) prog_10_method_47_code (2 : Nat) (Option.some Jvm.ClassFile.FieldType.int)) ∈ lw_g := tw_m2 (i := 154) rfl rfl
theorem tw_395 : (Jvm.Cond.constant "java/lang/Integer" (264 : Nat) (65536 : Int32)) ∈ lw_g := tw_m2 (i := 155) rfl rfl
theorem tw_396 : (Jvm.Cond.methodLink "HistoryCourt$Model" (39 : Nat) ({ cls := "HistoryCourt$Model", name := "taken", desc := "(LHistoryCourt$History;J)I" } : Jvm.MethodName)) ∈ lw_g := tw_m2 (i := 156) rfl rfl
theorem tw_397 : (Jvm.Cond.static ({ cls := "HistoryCourt$Model", name := "taken", desc := "(LHistoryCourt$History;J)I" } : Jvm.MethodName)) ∈ lw_g := tw_m2 (i := 157) rfl rfl
theorem tw_398 : (Jvm.Cond.code ({ cls := "HistoryCourt$Model", name := "taken", desc := "(LHistoryCourt$History;J)I" } : Jvm.MethodName) prog_5_method_9_code (4 : Nat) (Option.some Jvm.ClassFile.FieldType.int)) ∈ lw_g := tw_m2 (i := 158) rfl rfl
theorem tw_399 : (Jvm.Cond.constantLong "HistoryCourt$Model" (87 : Nat) (15 : Int64)) ∈ lw_g := tw_m2 (i := 159) rfl rfl
theorem tw_400 : (Jvm.Cond.methodLink "HistoryCourt$Model" (89 : Nat) ({ cls := "HistoryCourt$History", name := "hasCall", desc := "(I)Z" } : Jvm.MethodName)) ∈ lw_g := tw_m2 (i := 160) rfl rfl
theorem tw_401 : (Jvm.Cond.methodLink "HistoryCourt$Model" (43 : Nat) ({ cls := "HistoryCourt$Model", name := "setReply", desc := "(IZ)I" } : Jvm.MethodName)) ∈ lw_g := tw_m2 (i := 161) rfl rfl
theorem tw_402 : (Jvm.Cond.static ({ cls := "HistoryCourt$Model", name := "setReply", desc := "(IZ)I" } : Jvm.MethodName)) ∈ lw_g := tw_m2 (i := 162) rfl rfl
theorem tw_403 : (Jvm.Cond.code ({ cls := "HistoryCourt$Model", name := "setReply", desc := "(IZ)I" } : Jvm.MethodName) prog_5_method_11_code (2 : Nat) (Option.some Jvm.ClassFile.FieldType.int)) ∈ lw_g := tw_m2 (i := 163) rfl rfl
theorem tw_404 : (Jvm.Cond.methodLink "HistoryCourt$Model" (47 : Nat) ({ cls := "HistoryCourt$Model", name := "valueAt", desc := "(LHistoryCourt$History;JI)I" } : Jvm.MethodName)) ∈ lw_g := tw_m2 (i := 164) rfl rfl
theorem tw_405 : (Jvm.Cond.static ({ cls := "HistoryCourt$Model", name := "valueAt", desc := "(LHistoryCourt$History;JI)I" } : Jvm.MethodName)) ∈ lw_g := tw_m2 (i := 165) rfl rfl
theorem tw_406 : (Jvm.Cond.code ({ cls := "HistoryCourt$Model", name := "valueAt", desc := "(LHistoryCourt$History;JI)I" } : Jvm.MethodName) prog_5_method_13_code (5 : Nat) (Option.some Jvm.ClassFile.FieldType.int)) ∈ lw_g := tw_m2 (i := 166) rfl rfl
theorem tw_407 : (Jvm.Cond.methodLink "HistoryCourt$Model" (58 : Nat) ({ cls := "HistoryCourt$Table", name := "answerIn", desc := "(JI)I" } : Jvm.MethodName)) ∈ lw_g := tw_m2 (i := 167) rfl rfl
theorem tw_408 : (Jvm.Cond.instanceMethod ({ cls := "HistoryCourt$Table", name := "answerIn", desc := "(JI)I" } : Jvm.MethodName)) ∈ lw_g := tw_m2 (i := 168) rfl rfl
theorem tw_409 : (Jvm.Cond.selects "HistoryCourt$Table" ({ cls := "HistoryCourt$Table", name := "answerIn", desc := "(JI)I" } : Jvm.MethodName) ({ cls := "HistoryCourt$Table", name := "answerIn", desc := "(JI)I" } : Jvm.MethodName)) ∈ lw_g := tw_m2 (i := 169) rfl rfl
theorem tw_410 : (Jvm.Cond.code ({ cls := "HistoryCourt$Table", name := "answerIn", desc := "(JI)I" } : Jvm.MethodName) prog_7_method_5_code (4 : Nat) (Option.some Jvm.ClassFile.FieldType.int)) ∈ lw_g := tw_m2 (i := 170) rfl rfl
theorem tw_411 : (Jvm.Cond.methodLink "HistoryCourt$Search" (53 : Nat) ({ cls := "HistoryCourt$Model", name := "after", desc := "(LHistoryCourt$History;IJ)J" } : Jvm.MethodName)) ∈ lw_g := tw_m2 (i := 171) rfl rfl
theorem tw_412 : (Jvm.Cond.static ({ cls := "HistoryCourt$Model", name := "after", desc := "(LHistoryCourt$History;IJ)J" } : Jvm.MethodName)) ∈ lw_g := tw_m2 (i := 172) rfl rfl
theorem tw_413 : (Jvm.Cond.code ({ cls := "HistoryCourt$Model", name := "after", desc := "(LHistoryCourt$History;IJ)J" } : Jvm.MethodName) prog_5_method_5_code (4 : Nat) (Option.some Jvm.ClassFile.FieldType.long)) ∈ lw_g := tw_m2 (i := 173) rfl rfl
theorem tw_414 : (Jvm.Cond.methodLink "HistoryCourt$Model" (64 : Nat) ({ cls := "HistoryCourt$Model", name := "cellAfter", desc := "(LHistoryCourt$History;IJ)J" } : Jvm.MethodName)) ∈ lw_g := tw_m2 (i := 174) rfl rfl
theorem tw_415 : (Jvm.Cond.static ({ cls := "HistoryCourt$Model", name := "cellAfter", desc := "(LHistoryCourt$History;IJ)J" } : Jvm.MethodName)) ∈ lw_g := tw_m2 (i := 175) rfl rfl
theorem tw_416 : (Jvm.Cond.code ({ cls := "HistoryCourt$Model", name := "cellAfter", desc := "(LHistoryCourt$History;IJ)J" } : Jvm.MethodName) prog_5_method_7_code (4 : Nat) (Option.some Jvm.ClassFile.FieldType.long)) ∈ lw_g := tw_m2 (i := 176) rfl rfl
theorem tw_417 : (Jvm.Cond.methodLink "HistoryCourt$Model" (68 : Nat) ({ cls := "HistoryCourt$Model", name := "putBehind", desc := "(IJ)J" } : Jvm.MethodName)) ∈ lw_g := tw_m2 (i := 177) rfl rfl
theorem tw_418 : (Jvm.Cond.static ({ cls := "HistoryCourt$Model", name := "putBehind", desc := "(IJ)J" } : Jvm.MethodName)) ∈ lw_g := tw_m2 (i := 178) rfl rfl
theorem tw_419 : (Jvm.Cond.code ({ cls := "HistoryCourt$Model", name := "putBehind", desc := "(IJ)J" } : Jvm.MethodName) prog_5_method_10_code (3 : Nat) (Option.some Jvm.ClassFile.FieldType.long)) ∈ lw_g := tw_m2 (i := 179) rfl rfl
theorem tw_420 : (Jvm.Cond.methodLink "HistoryCourt$Model" (72 : Nat) ({ cls := "HistoryCourt$Model", name := "setAfter", desc := "(IJJ)J" } : Jvm.MethodName)) ∈ lw_g := tw_m2 (i := 180) rfl rfl
theorem tw_421 : (Jvm.Cond.static ({ cls := "HistoryCourt$Model", name := "setAfter", desc := "(IJJ)J" } : Jvm.MethodName)) ∈ lw_g := tw_m2 (i := 181) rfl rfl
theorem tw_422 : (Jvm.Cond.code ({ cls := "HistoryCourt$Model", name := "setAfter", desc := "(IJJ)J" } : Jvm.MethodName) prog_5_method_12_code (5 : Nat) (Option.some Jvm.ClassFile.FieldType.long)) ∈ lw_g := tw_m2 (i := 182) rfl rfl
theorem tw_423 : (Jvm.Cond.constantLong "HistoryCourt$Model" (92 : Nat) (-1 : Int64)) ∈ lw_g := tw_m2 (i := 183) rfl rfl
theorem tw_424 : (Jvm.Cond.methodLink "HistoryCourt$Model" (76 : Nat) ({ cls := "HistoryCourt$Model", name := "mapAfter", desc := "(LHistoryCourt$History;IJ)J" } : Jvm.MethodName)) ∈ lw_g := tw_m2 (i := 184) rfl rfl
theorem tw_425 : (Jvm.Cond.static ({ cls := "HistoryCourt$Model", name := "mapAfter", desc := "(LHistoryCourt$History;IJ)J" } : Jvm.MethodName)) ∈ lw_g := tw_m2 (i := 185) rfl rfl
theorem tw_426 : (Jvm.Cond.code ({ cls := "HistoryCourt$Model", name := "mapAfter", desc := "(LHistoryCourt$History;IJ)J" } : Jvm.MethodName) prog_5_method_14_code (6 : Nat) (Option.some Jvm.ClassFile.FieldType.long)) ∈ lw_g := tw_m2 (i := 186) rfl rfl
theorem tw_427 : (Jvm.Cond.methodLink "HistoryCourt$Model" (79 : Nat) ({ cls := "HistoryCourt$Table", name := "nextIn", desc := "(JI)I" } : Jvm.MethodName)) ∈ lw_g := tw_m2 (i := 187) rfl rfl
theorem tw_428 : (Jvm.Cond.instanceMethod ({ cls := "HistoryCourt$Table", name := "nextIn", desc := "(JI)I" } : Jvm.MethodName)) ∈ lw_g := tw_m2 (i := 188) rfl rfl
theorem tw_429 : (Jvm.Cond.selects "HistoryCourt$Table" ({ cls := "HistoryCourt$Table", name := "nextIn", desc := "(JI)I" } : Jvm.MethodName) ({ cls := "HistoryCourt$Table", name := "nextIn", desc := "(JI)I" } : Jvm.MethodName)) ∈ lw_g := tw_m2 (i := 189) rfl rfl
theorem tw_430 : (Jvm.Cond.code ({ cls := "HistoryCourt$Table", name := "nextIn", desc := "(JI)I" } : Jvm.MethodName) prog_7_method_6_code (4 : Nat) (Option.some Jvm.ClassFile.FieldType.int)) ∈ lw_g := tw_m2 (i := 190) rfl rfl
theorem tw_431 : (Jvm.Cond.methodLink "HistoryCourt$Search" (129 : Nat) ({ cls := "HistoryCourt$Memo", name := "put", desc := "(JJ)V" } : Jvm.MethodName)) ∈ lw_g := tw_m2 (i := 191) rfl rfl
theorem tw_432 : (Jvm.Cond.instanceMethod ({ cls := "HistoryCourt$Memo", name := "put", desc := "(JJ)V" } : Jvm.MethodName)) ∈ lw_g := tw_m2 (i := 192) rfl rfl
theorem tw_433 : (Jvm.Cond.selects "HistoryCourt$Memo" ({ cls := "HistoryCourt$Memo", name := "put", desc := "(JJ)V" } : Jvm.MethodName) ({ cls := "HistoryCourt$Memo", name := "put", desc := "(JJ)V" } : Jvm.MethodName)) ∈ lw_g := tw_m2 (i := 193) rfl rfl
theorem tw_434 : (Jvm.Cond.code ({ cls := "HistoryCourt$Memo", name := "put", desc := "(JJ)V" } : Jvm.MethodName) prog_4_method_5_code (6 : Nat) (Option.none : Option Jvm.ClassFile.FieldType)) ∈ lw_g := tw_m2 (i := 194) rfl rfl
theorem tw_435 : (Jvm.Cond.methodLink "HistoryCourtLaw" (71 : Nat) ({ cls := "HistoryCourt", name := "first", desc := "(III)I" } : Jvm.MethodName)) ∈ lw_g := tw_m2 (i := 195) rfl rfl
theorem tw_436 : (Jvm.Cond.instanceMethod ({ cls := "HistoryCourt", name := "first", desc := "(III)I" } : Jvm.MethodName)) ∈ lw_g := tw_m2 (i := 196) rfl rfl
theorem tw_437 : (Jvm.Cond.selects "HistoryCourt" ({ cls := "HistoryCourt", name := "first", desc := "(III)I" } : Jvm.MethodName) ({ cls := "HistoryCourt", name := "first", desc := "(III)I" } : Jvm.MethodName)) ∈ lw_g := tw_m2 (i := 197) rfl rfl
theorem tw_438 : (Jvm.Cond.code ({ cls := "HistoryCourt", name := "first", desc := "(III)I" } : Jvm.MethodName) prog_1_method_15_code (5 : Nat) (Option.some Jvm.ClassFile.FieldType.int)) ∈ lw_g := tw_m2 (i := 198) rfl rfl
theorem tw_439 : (Jvm.Cond.methodLink "HistoryCourt" (162 : Nat) ({ cls := "HistoryCourt$Search", name := "firstAt", desc := "(LHistoryCourt$History;II)I" } : Jvm.MethodName)) ∈ lw_g := tw_m2 (i := 199) rfl rfl
theorem tw_440 : (Jvm.Cond.instanceMethod ({ cls := "HistoryCourt$Search", name := "firstAt", desc := "(LHistoryCourt$History;II)I" } : Jvm.MethodName)) ∈ lw_g := tw_m2 (i := 200) rfl rfl
theorem tw_441 : (Jvm.Cond.selects "HistoryCourt$Search" ({ cls := "HistoryCourt$Search", name := "firstAt", desc := "(LHistoryCourt$History;II)I" } : Jvm.MethodName) ({ cls := "HistoryCourt$Search", name := "firstAt", desc := "(LHistoryCourt$History;II)I" } : Jvm.MethodName)) ∈ lw_g := tw_m2 (i := 201) rfl rfl
theorem tw_442 : (Jvm.Cond.code ({ cls := "HistoryCourt$Search", name := "firstAt", desc := "(LHistoryCourt$History;II)I" } : Jvm.MethodName) prog_6_method_4_code (9 : Nat) (Option.some Jvm.ClassFile.FieldType.int)) ∈ lw_g := tw_m2 (i := 202) rfl rfl
theorem tw_443 : (Jvm.Cond.methodLink "HistoryCourt$Search" (41 : Nat) ({ cls := "HistoryCourt$History", name := "allCalls", desc := "()I" } : Jvm.MethodName)) ∈ lw_g := tw_m2 (i := 203) rfl rfl
theorem tw_444 : (Jvm.Cond.methodLink "HistoryCourt$Search" (49 : Nat) ({ cls := "HistoryCourt$Search", name := "firstThatLeadsOn", desc := "(IIJ)I" } : Jvm.MethodName)) ∈ lw_g := tw_m2 (i := 204) rfl rfl
theorem tw_446 : (Jvm.Cond.instanceMethod ({ cls := "HistoryCourt$Search", name := "firstThatLeadsOn", desc := "(IIJ)I" } : Jvm.MethodName)) ∈ lw_g := tw_m2 (i := 206) rfl rfl
theorem tw_447 : (Jvm.Cond.code ({ cls := "HistoryCourt$Search", name := "firstThatLeadsOn", desc := "(IIJ)I" } : Jvm.MethodName) prog_6_method_13_code (6 : Nat) (Option.some Jvm.ClassFile.FieldType.int)) ∈ lw_g := tw_m2 (i := 207) rfl rfl
theorem tw_448 : (Jvm.Cond.methodLink "HistoryCourtLaw" (75 : Nat) ({ cls := "HistoryCourt", name := "orders", desc := "(II)J" } : Jvm.MethodName)) ∈ lw_g := tw_m2 (i := 208) rfl rfl
theorem tw_449 : (Jvm.Cond.instanceMethod ({ cls := "HistoryCourt", name := "orders", desc := "(II)J" } : Jvm.MethodName)) ∈ lw_g := tw_m2 (i := 209) rfl rfl
theorem tw_450 : (Jvm.Cond.selects "HistoryCourt" ({ cls := "HistoryCourt", name := "orders", desc := "(II)J" } : Jvm.MethodName) ({ cls := "HistoryCourt", name := "orders", desc := "(II)J" } : Jvm.MethodName)) ∈ lw_g := tw_m2 (i := 210) rfl rfl
theorem tw_451 : (Jvm.Cond.code ({ cls := "HistoryCourt", name := "orders", desc := "(II)J" } : Jvm.MethodName) prog_1_method_16_code (4 : Nat) (Option.some Jvm.ClassFile.FieldType.long)) ∈ lw_g := tw_m2 (i := 211) rfl rfl
theorem tw_452 : (Jvm.Cond.constantLong "HistoryCourt" (166 : Nat) (-1 : Int64)) ∈ lw_g := tw_m2 (i := 212) rfl rfl
theorem tw_453 : (Jvm.Cond.methodLink "HistoryCourt" (168 : Nat) ({ cls := "HistoryCourt$Search", name := "count", desc := "(LHistoryCourt$History;I)J" } : Jvm.MethodName)) ∈ lw_g := tw_m2 (i := 213) rfl rfl
theorem tw_454 : (Jvm.Cond.instanceMethod ({ cls := "HistoryCourt$Search", name := "count", desc := "(LHistoryCourt$History;I)J" } : Jvm.MethodName)) ∈ lw_g := tw_m2 (i := 214) rfl rfl
theorem tw_455 : (Jvm.Cond.selects "HistoryCourt$Search" ({ cls := "HistoryCourt$Search", name := "count", desc := "(LHistoryCourt$History;I)J" } : Jvm.MethodName) ({ cls := "HistoryCourt$Search", name := "count", desc := "(LHistoryCourt$History;I)J" } : Jvm.MethodName)) ∈ lw_g := tw_m2 (i := 215) rfl rfl
theorem tw_456 : (Jvm.Cond.code ({ cls := "HistoryCourt$Search", name := "count", desc := "(LHistoryCourt$History;I)J" } : Jvm.MethodName) prog_6_method_3_code (3 : Nat) (Option.some Jvm.ClassFile.FieldType.long)) ∈ lw_g := tw_m2 (i := 216) rfl rfl
theorem tw_457 : (Jvm.Cond.methodLink "HistoryCourtLaw" (80 : Nat) ({ cls := "HistoryCourt", name := "least", desc := "(II)I" } : Jvm.MethodName)) ∈ lw_g := tw_m2 (i := 217) rfl rfl
theorem tw_458 : (Jvm.Cond.instanceMethod ({ cls := "HistoryCourt", name := "least", desc := "(II)I" } : Jvm.MethodName)) ∈ lw_g := tw_m2 (i := 218) rfl rfl
theorem tw_459 : (Jvm.Cond.selects "HistoryCourt" ({ cls := "HistoryCourt", name := "least", desc := "(II)I" } : Jvm.MethodName) ({ cls := "HistoryCourt", name := "least", desc := "(II)I" } : Jvm.MethodName)) ∈ lw_g := tw_m2 (i := 219) rfl rfl
theorem tw_460 : (Jvm.Cond.code ({ cls := "HistoryCourt", name := "least", desc := "(II)I" } : Jvm.MethodName) prog_1_method_17_code (4 : Nat) (Option.some Jvm.ClassFile.FieldType.int)) ∈ lw_g := tw_m2 (i := 220) rfl rfl
theorem tw_461 : (Jvm.Cond.methodLink "HistoryCourt" (172 : Nat) ({ cls := "HistoryCourt$Search", name := "leastPart", desc := "(LHistoryCourt$History;I)I" } : Jvm.MethodName)) ∈ lw_g := tw_m2 (i := 221) rfl rfl
theorem tw_462 : (Jvm.Cond.instanceMethod ({ cls := "HistoryCourt$Search", name := "leastPart", desc := "(LHistoryCourt$History;I)I" } : Jvm.MethodName)) ∈ lw_g := tw_m2 (i := 222) rfl rfl
theorem tw_463 : (Jvm.Cond.selects "HistoryCourt$Search" ({ cls := "HistoryCourt$Search", name := "leastPart", desc := "(LHistoryCourt$History;I)I" } : Jvm.MethodName) ({ cls := "HistoryCourt$Search", name := "leastPart", desc := "(LHistoryCourt$History;I)I" } : Jvm.MethodName)) ∈ lw_g := tw_m2 (i := 223) rfl rfl
theorem tw_464 : (Jvm.Cond.code ({ cls := "HistoryCourt$Search", name := "leastPart", desc := "(LHistoryCourt$History;I)I" } : Jvm.MethodName) prog_6_method_5_code (8 : Nat) (Option.some Jvm.ClassFile.FieldType.int)) ∈ lw_g := tw_m2 (i := 224) rfl rfl
theorem tw_465 : (Jvm.Cond.methodLink "HistoryCourt$Search" (57 : Nat) ({ cls := "HistoryCourt$Search", name := "takes", desc := "(LHistoryCourt$History;II)Z" } : Jvm.MethodName)) ∈ lw_g := tw_m2 (i := 225) rfl rfl
theorem tw_466 : (Jvm.Cond.methodLink "HistoryCourtLaw" (84 : Nat) ({ cls := "HistoryCourt", name := "part", desc := "(I)I" } : Jvm.MethodName)) ∈ lw_g := tw_m2 (i := 226) rfl rfl
theorem tw_467 : (Jvm.Cond.instanceMethod ({ cls := "HistoryCourt", name := "part", desc := "(I)I" } : Jvm.MethodName)) ∈ lw_g := tw_m2 (i := 227) rfl rfl
theorem tw_468 : (Jvm.Cond.selects "HistoryCourt" ({ cls := "HistoryCourt", name := "part", desc := "(I)I" } : Jvm.MethodName) ({ cls := "HistoryCourt", name := "part", desc := "(I)I" } : Jvm.MethodName)) ∈ lw_g := tw_m2 (i := 228) rfl rfl
theorem tw_469 : (Jvm.Cond.code ({ cls := "HistoryCourt", name := "part", desc := "(I)I" } : Jvm.MethodName) prog_1_method_18_code (4 : Nat) (Option.some Jvm.ClassFile.FieldType.int)) ∈ lw_g := tw_m2 (i := 229) rfl rfl
theorem tw_470 : (Jvm.Cond.methodLink "HistoryCourt" (178 : Nat) ({ cls := "HistoryCourt", name := "holds", desc := "(II)Z" } : Jvm.MethodName)) ∈ lw_g := tw_m2 (i := 230) rfl rfl
theorem tw_471 : (Jvm.Cond.methodLink "HistoryCourtLaw" (88 : Nat) ({ cls := "HistoryCourt", name := "fills", desc := "(III)I" } : Jvm.MethodName)) ∈ lw_g := tw_m2 (i := 231) rfl rfl
theorem tw_472 : (Jvm.Cond.instanceMethod ({ cls := "HistoryCourt", name := "fills", desc := "(III)I" } : Jvm.MethodName)) ∈ lw_g := tw_m2 (i := 232) rfl rfl
theorem tw_473 : (Jvm.Cond.selects "HistoryCourt" ({ cls := "HistoryCourt", name := "fills", desc := "(III)I" } : Jvm.MethodName) ({ cls := "HistoryCourt", name := "fills", desc := "(III)I" } : Jvm.MethodName)) ∈ lw_g := tw_m2 (i := 233) rfl rfl
theorem tw_474 : (Jvm.Cond.code ({ cls := "HistoryCourt", name := "fills", desc := "(III)I" } : Jvm.MethodName) prog_1_method_19_code (5 : Nat) (Option.some Jvm.ClassFile.FieldType.int)) ∈ lw_g := tw_m2 (i := 234) rfl rfl
theorem tw_475 : (Jvm.Cond.methodLink "HistoryCourt" (182 : Nat) ({ cls := "HistoryCourt$Search", name := "collect", desc := "(LHistoryCourt$History;IILHistoryCourt$Answers;)V" } : Jvm.MethodName)) ∈ lw_g := tw_m2 (i := 235) rfl rfl
theorem tw_476 : (Jvm.Cond.instanceMethod ({ cls := "HistoryCourt$Search", name := "collect", desc := "(LHistoryCourt$History;IILHistoryCourt$Answers;)V" } : Jvm.MethodName)) ∈ lw_g := tw_m2 (i := 236) rfl rfl
theorem tw_477 : (Jvm.Cond.selects "HistoryCourt$Search" ({ cls := "HistoryCourt$Search", name := "collect", desc := "(LHistoryCourt$History;IILHistoryCourt$Answers;)V" } : Jvm.MethodName) ({ cls := "HistoryCourt$Search", name := "collect", desc := "(LHistoryCourt$History;IILHistoryCourt$Answers;)V" } : Jvm.MethodName)) ∈ lw_g := tw_m2 (i := 237) rfl rfl
theorem tw_478 : (Jvm.Cond.code ({ cls := "HistoryCourt$Search", name := "collect", desc := "(LHistoryCourt$History;IILHistoryCourt$Answers;)V" } : Jvm.MethodName) prog_6_method_6_code (5 : Nat) (Option.none : Option Jvm.ClassFile.FieldType)) ∈ lw_g := tw_m2 (i := 238) rfl rfl
theorem tw_479 : (Jvm.Cond.methodLink "HistoryCourt$Search" (70 : Nat) ({ cls := "HistoryCourt$Search", name := "collectFrom", desc := "(IIJILHistoryCourt$Answers;)V" } : Jvm.MethodName)) ∈ lw_g := tw_m2 (i := 239) rfl rfl
theorem tw_481 : (Jvm.Cond.instanceMethod ({ cls := "HistoryCourt$Search", name := "collectFrom", desc := "(IIJILHistoryCourt$Answers;)V" } : Jvm.MethodName)) ∈ lw_g := tw_m3 (i := 1) rfl rfl
theorem tw_482 : (Jvm.Cond.code ({ cls := "HistoryCourt$Search", name := "collectFrom", desc := "(IIJILHistoryCourt$Answers;)V" } : Jvm.MethodName) prog_6_method_14_code (13 : Nat) (Option.none : Option Jvm.ClassFile.FieldType)) ∈ lw_g := tw_m3 (i := 2) rfl rfl
theorem tw_483 : (Jvm.Cond.methodLink "HistoryCourt$Search" (133 : Nat) ({ cls := "HistoryCourt$Answers", name := "add", desc := "(I)V" } : Jvm.MethodName)) ∈ lw_g := tw_m3 (i := 3) rfl rfl
theorem tw_484 : (Jvm.Cond.instanceMethod ({ cls := "HistoryCourt$Answers", name := "add", desc := "(I)V" } : Jvm.MethodName)) ∈ lw_g := tw_m3 (i := 4) rfl rfl
theorem tw_485 : (Jvm.Cond.selects "HistoryCourt$Answers" ({ cls := "HistoryCourt$Answers", name := "add", desc := "(I)V" } : Jvm.MethodName) ({ cls := "HistoryCourt$Answers", name := "add", desc := "(I)V" } : Jvm.MethodName)) ∈ lw_g := tw_m3 (i := 5) rfl rfl
theorem tw_486 : (Jvm.Cond.code ({ cls := "HistoryCourt$Answers", name := "add", desc := "(I)V" } : Jvm.MethodName) prog_2_method_2_code (4 : Nat) (Option.none : Option Jvm.ClassFile.FieldType)) ∈ lw_g := tw_m3 (i := 6) rfl rfl
theorem tw_487 : (Jvm.Cond.methodLink "HistoryCourtLaw" (92 : Nat) ({ cls := "HistoryCourt", name := "fill", desc := "(I)I" } : Jvm.MethodName)) ∈ lw_g := tw_m3 (i := 7) rfl rfl
theorem tw_488 : (Jvm.Cond.instanceMethod ({ cls := "HistoryCourt", name := "fill", desc := "(I)I" } : Jvm.MethodName)) ∈ lw_g := tw_m3 (i := 8) rfl rfl
theorem tw_489 : (Jvm.Cond.selects "HistoryCourt" ({ cls := "HistoryCourt", name := "fill", desc := "(I)I" } : Jvm.MethodName) ({ cls := "HistoryCourt", name := "fill", desc := "(I)I" } : Jvm.MethodName)) ∈ lw_g := tw_m3 (i := 9) rfl rfl
theorem tw_490 : (Jvm.Cond.code ({ cls := "HistoryCourt", name := "fill", desc := "(I)I" } : Jvm.MethodName) prog_1_method_20_code (2 : Nat) (Option.some Jvm.ClassFile.FieldType.int)) ∈ lw_g := tw_m3 (i := 10) rfl rfl
theorem tw_491 : (Jvm.Cond.methodLink "HistoryCourtLaw" (96 : Nat) ({ cls := "HistoryCourt", name := "apart", desc := "(III)I" } : Jvm.MethodName)) ∈ lw_g := tw_m3 (i := 11) rfl rfl
theorem tw_492 : (Jvm.Cond.instanceMethod ({ cls := "HistoryCourt", name := "apart", desc := "(III)I" } : Jvm.MethodName)) ∈ lw_g := tw_m3 (i := 12) rfl rfl
theorem tw_493 : (Jvm.Cond.selects "HistoryCourt" ({ cls := "HistoryCourt", name := "apart", desc := "(III)I" } : Jvm.MethodName) ({ cls := "HistoryCourt", name := "apart", desc := "(III)I" } : Jvm.MethodName)) ∈ lw_g := tw_m3 (i := 13) rfl rfl
theorem tw_494 : (Jvm.Cond.code ({ cls := "HistoryCourt", name := "apart", desc := "(III)I" } : Jvm.MethodName) prog_1_method_21_code (6 : Nat) (Option.some Jvm.ClassFile.FieldType.int)) ∈ lw_g := tw_m3 (i := 14) rfl rfl
theorem tw_495 : (Jvm.Cond.methodLink "HistoryCourt" (191 : Nat) ({ cls := "HistoryCourt$History", name := "callsWith", desc := "(I)I" } : Jvm.MethodName)) ∈ lw_g := tw_m3 (i := 15) rfl rfl
theorem tw_496 : (Jvm.Cond.instanceMethod ({ cls := "HistoryCourt$History", name := "callsWith", desc := "(I)I" } : Jvm.MethodName)) ∈ lw_g := tw_m3 (i := 16) rfl rfl
theorem tw_497 : (Jvm.Cond.selects "HistoryCourt$History" ({ cls := "HistoryCourt$History", name := "callsWith", desc := "(I)I" } : Jvm.MethodName) ({ cls := "HistoryCourt$History", name := "callsWith", desc := "(I)I" } : Jvm.MethodName)) ∈ lw_g := tw_m3 (i := 17) rfl rfl
theorem tw_498 : (Jvm.Cond.code ({ cls := "HistoryCourt$History", name := "callsWith", desc := "(I)I" } : Jvm.MethodName) prog_3_method_10_code (4 : Nat) (Option.some Jvm.ClassFile.FieldType.int)) ∈ lw_g := tw_m3 (i := 18) rfl rfl
theorem tw_499 : (Jvm.Cond.methodLink "HistoryCourtLaw" (100 : Nat) ({ cls := "HistoryCourt", name := "rules", desc := "(I)I" } : Jvm.MethodName)) ∈ lw_g := tw_m3 (i := 19) rfl rfl
theorem tw_500 : (Jvm.Cond.instanceMethod ({ cls := "HistoryCourt", name := "rules", desc := "(I)I" } : Jvm.MethodName)) ∈ lw_g := tw_m3 (i := 20) rfl rfl
theorem tw_501 : (Jvm.Cond.selects "HistoryCourt" ({ cls := "HistoryCourt", name := "rules", desc := "(I)I" } : Jvm.MethodName) ({ cls := "HistoryCourt", name := "rules", desc := "(I)I" } : Jvm.MethodName)) ∈ lw_g := tw_m3 (i := 21) rfl rfl
theorem tw_502 : (Jvm.Cond.code ({ cls := "HistoryCourt", name := "rules", desc := "(I)I" } : Jvm.MethodName) prog_1_method_22_code (5 : Nat) (Option.some Jvm.ClassFile.FieldType.int)) ∈ lw_g := tw_m3 (i := 22) rfl rfl
theorem tw_503 : (Jvm.Cond.methodLink "HistoryCourtLaw" (104 : Nat) ({ cls := "HistoryCourt", name := "say", desc := "(I)I" } : Jvm.MethodName)) ∈ lw_g := tw_m3 (i := 23) rfl rfl
theorem tw_504 : (Jvm.Cond.instanceMethod ({ cls := "HistoryCourt", name := "say", desc := "(I)I" } : Jvm.MethodName)) ∈ lw_g := tw_m3 (i := 24) rfl rfl
theorem tw_505 : (Jvm.Cond.selects "HistoryCourt" ({ cls := "HistoryCourt", name := "say", desc := "(I)I" } : Jvm.MethodName) ({ cls := "HistoryCourt", name := "say", desc := "(I)I" } : Jvm.MethodName)) ∈ lw_g := tw_m3 (i := 25) rfl rfl
theorem tw_506 : (Jvm.Cond.code ({ cls := "HistoryCourt", name := "say", desc := "(I)I" } : Jvm.MethodName) prog_1_method_23_code (2 : Nat) (Option.some Jvm.ClassFile.FieldType.int)) ∈ lw_g := tw_m3 (i := 26) rfl rfl
theorem tw_507 : (Jvm.Cond.methodLink "HistoryCourtLaw" (108 : Nat) ({ cls := "HistoryCourt", name := "check", desc := "(II)I" } : Jvm.MethodName)) ∈ lw_g := tw_m3 (i := 27) rfl rfl
theorem tw_508 : (Jvm.Cond.instanceMethod ({ cls := "HistoryCourt", name := "check", desc := "(II)I" } : Jvm.MethodName)) ∈ lw_g := tw_m3 (i := 28) rfl rfl
theorem tw_509 : (Jvm.Cond.selects "HistoryCourt" ({ cls := "HistoryCourt", name := "check", desc := "(II)I" } : Jvm.MethodName) ({ cls := "HistoryCourt", name := "check", desc := "(II)I" } : Jvm.MethodName)) ∈ lw_g := tw_m3 (i := 29) rfl rfl
theorem tw_510 : (Jvm.Cond.code ({ cls := "HistoryCourt", name := "check", desc := "(II)I" } : Jvm.MethodName) prog_1_method_24_code (5 : Nat) (Option.some Jvm.ClassFile.FieldType.int)) ∈ lw_g := tw_m3 (i := 30) rfl rfl
theorem tw_511 : (Jvm.Cond.methodLink "HistoryCourt" (197 : Nat) ({ cls := "HistoryCourt$Search", name := "firstFault", desc := "(LHistoryCourt$History;I[II)I" } : Jvm.MethodName)) ∈ lw_g := tw_m3 (i := 31) rfl rfl
theorem tw_512 : (Jvm.Cond.instanceMethod ({ cls := "HistoryCourt$Search", name := "firstFault", desc := "(LHistoryCourt$History;I[II)I" } : Jvm.MethodName)) ∈ lw_g := tw_m3 (i := 32) rfl rfl
theorem tw_513 : (Jvm.Cond.selects "HistoryCourt$Search" ({ cls := "HistoryCourt$Search", name := "firstFault", desc := "(LHistoryCourt$History;I[II)I" } : Jvm.MethodName) ({ cls := "HistoryCourt$Search", name := "firstFault", desc := "(LHistoryCourt$History;I[II)I" } : Jvm.MethodName)) ∈ lw_g := tw_m3 (i := 33) rfl rfl
theorem tw_514 : (Jvm.Cond.code ({ cls := "HistoryCourt$Search", name := "firstFault", desc := "(LHistoryCourt$History;I[II)I" } : Jvm.MethodName) prog_6_method_7_code (10 : Nat) (Option.some Jvm.ClassFile.FieldType.int)) ∈ lw_g := tw_m3 (i := 34) rfl rfl
theorem tw_515 : (Jvm.Cond.classLink "HistoryCourtLaw" (10 : Nat) "HistoryCourtModel") ∈ lw_g := tw_m3 (i := 35) rfl rfl
theorem tw_516 : (Jvm.Cond.instantiable "HistoryCourtModel" (30 : Nat)) ∈ lw_g := tw_m3 (i := 36) rfl rfl
theorem tw_517 : (Jvm.Cond.methodLink "HistoryCourtLaw" (12 : Nat) ({ cls := "HistoryCourtModel", name := "<init>", desc := "()V" } : Jvm.MethodName)) ∈ lw_g := tw_m3 (i := 37) rfl rfl
theorem tw_518 : (Jvm.Cond.instanceMethod ({ cls := "HistoryCourtModel", name := "<init>", desc := "()V" } : Jvm.MethodName)) ∈ lw_g := tw_m3 (i := 38) rfl rfl
theorem tw_519 : (Jvm.Cond.code ({ cls := "HistoryCourtModel", name := "<init>", desc := "()V" } : Jvm.MethodName) prog_9_method_1_code (1 : Nat) (Option.none : Option Jvm.ClassFile.FieldType)) ∈ lw_g := tw_m3 (i := 39) rfl rfl
theorem tw_520 : (Jvm.Cond.methodLink "HistoryCourtModel" (1 : Nat) ({ cls := "java/lang/Object", name := "<init>", desc := "()V" } : Jvm.MethodName)) ∈ lw_g := tw_m3 (i := 40) rfl rfl
theorem tw_521 : (Jvm.Cond.fieldLink "HistoryCourtModel" (7 : Nat) "HistoryCourtModel" "answers" "[I") ∈ lw_g := tw_m3 (i := 41) rfl rfl
theorem tw_522 : (Jvm.Cond.fieldLink "HistoryCourtModel" (13 : Nat) "HistoryCourtModel" "nexts" "[I") ∈ lw_g := tw_m3 (i := 42) rfl rfl
theorem tw_523 : (Jvm.Cond.fieldLink "HistoryCourtModel" (71 : Nat) "HistoryCourtModel" "machines" "I") ∈ lw_g := tw_m3 (i := 43) rfl rfl
theorem tw_524 : (Jvm.Cond.fieldLink "HistoryCourtModel" (78 : Nat) "HistoryCourtModel" "histories" "I") ∈ lw_g := tw_m3 (i := 44) rfl rfl
theorem tw_525 : (Jvm.Cond.fieldLink "HistoryCourtModel" (16 : Nat) "HistoryCourtModel" "kind" "[I") ∈ lw_g := tw_m3 (i := 45) rfl rfl
theorem tw_526 : (Jvm.Cond.fieldLink "HistoryCourtModel" (19 : Nat) "HistoryCourtModel" "machineOf" "[I") ∈ lw_g := tw_m3 (i := 46) rfl rfl
theorem tw_527 : (Jvm.Cond.fieldLink "HistoryCourtModel" (22 : Nat) "HistoryCourtModel" "calls" "[I") ∈ lw_g := tw_m3 (i := 47) rfl rfl
theorem tw_528 : (Jvm.Cond.fieldLink "HistoryCourtModel" (25 : Nat) "HistoryCourtModel" "ticks" "[I") ∈ lw_g := tw_m3 (i := 48) rfl rfl
theorem tw_529 : (Jvm.Cond.fieldLink "HistoryCourtModel" (28 : Nat) "HistoryCourtModel" "caller" "[I") ∈ lw_g := tw_m3 (i := 49) rfl rfl
theorem tw_530 : (Jvm.Cond.fieldLink "HistoryCourtModel" (31 : Nat) "HistoryCourtModel" "act" "[I") ∈ lw_g := tw_m3 (i := 50) rfl rfl
theorem tw_531 : (Jvm.Cond.fieldLink "HistoryCourtModel" (34 : Nat) "HistoryCourtModel" "argA" "[I") ∈ lw_g := tw_m3 (i := 51) rfl rfl
theorem tw_532 : (Jvm.Cond.fieldLink "HistoryCourtModel" (37 : Nat) "HistoryCourtModel" "argB" "[I") ∈ lw_g := tw_m3 (i := 52) rfl rfl
theorem tw_533 : (Jvm.Cond.fieldLink "HistoryCourtModel" (40 : Nat) "HistoryCourtModel" "begun" "[I") ∈ lw_g := tw_m3 (i := 53) rfl rfl
theorem tw_534 : (Jvm.Cond.fieldLink "HistoryCourtModel" (43 : Nat) "HistoryCourtModel" "ended" "[I") ∈ lw_g := tw_m3 (i := 54) rfl rfl
theorem tw_535 : (Jvm.Cond.fieldLink "HistoryCourtModel" (46 : Nat) "HistoryCourtModel" "gave" "[I") ∈ lw_g := tw_m3 (i := 55) rfl rfl
theorem tw_536 : (Jvm.Cond.fieldLink "HistoryCourtModel" (96 : Nat) "HistoryCourtModel" "status" "I") ∈ lw_g := tw_m3 (i := 56) rfl rfl
theorem tw_537 : (Jvm.Cond.fieldLink "HistoryCourtModel" (49 : Nat) "HistoryCourtModel" "thing" "[I") ∈ lw_g := tw_m3 (i := 57) rfl rfl
theorem tw_538 : (Jvm.Cond.fieldLink "HistoryCourtModel" (52 : Nat) "HistoryCourtModel" "order" "[I") ∈ lw_g := tw_m3 (i := 58) rfl rfl
theorem tw_539 : (Jvm.Cond.fieldLink "HistoryCourtModel" (55 : Nat) "HistoryCourtModel" "told" "[I") ∈ lw_g := tw_m3 (i := 59) rfl rfl
theorem tw_540 : (Jvm.Cond.fieldLink "HistoryCourtModel" (58 : Nat) "HistoryCourtModel" "behind" "[I") ∈ lw_g := tw_m3 (i := 60) rfl rfl
theorem tw_541 : (Jvm.Cond.fieldLink "HistoryCourtModel" (130 : Nat) "HistoryCourtModel" "found" "I") ∈ lw_g := tw_m3 (i := 61) rfl rfl
theorem tw_542 : (Jvm.Cond.fieldLink "HistoryCourtModel" (123 : Nat) "HistoryCourtModel" "many" "J") ∈ lw_g := tw_m3 (i := 62) rfl rfl
theorem tw_543 : (Jvm.Cond.fieldLink "HistoryCourtModel" (127 : Nat) "HistoryCourtModel" "asks" "I") ∈ lw_g := tw_m3 (i := 63) rfl rfl
theorem tw_544 : (Jvm.Cond.fieldLink "HistoryCourtModel" (133 : Nat) "HistoryCourtModel" "asked" "I") ∈ lw_g := tw_m3 (i := 64) rfl rfl
theorem tw_545 : (Jvm.Cond.fieldLink "HistoryCourtModel" (61 : Nat) "HistoryCourtModel" "fills" "[I") ∈ lw_g := tw_m3 (i := 65) rfl rfl
theorem tw_546 : (Jvm.Cond.fieldLink "HistoryCourtModel" (147 : Nat) "HistoryCourtModel" "filled" "I") ∈ lw_g := tw_m3 (i := 66) rfl rfl
theorem tw_547 : (Jvm.Cond.fieldLink "HistoryCourtModel" (163 : Nat) "HistoryCourtModel" "partOf" "I") ∈ lw_g := tw_m3 (i := 67) rfl rfl
theorem tw_548 : (Jvm.Cond.fieldLink "HistoryCourtModel" (64 : Nat) "HistoryCourtModel" "said" "[I") ∈ lw_g := tw_m3 (i := 68) rfl rfl
theorem tw_549 : (Jvm.Cond.fieldLink "HistoryCourtModel" (166 : Nat) "HistoryCourtModel" "saids" "I") ∈ lw_g := tw_m3 (i := 69) rfl rfl
theorem tw_610 : (Jvm.Cond.superclass "HistoryCourtModel" "java/lang/Object") ∈ lw_g := tw_m3 (i := 130) rfl rfl
theorem tw_611 : (Jvm.Cond.methodLink "HistoryCourtLaw" (17 : Nat) ({ cls := "HistoryCourtModel", name := "machine", desc := "()I" } : Jvm.MethodName)) ∈ lw_g := tw_m3 (i := 131) rfl rfl
theorem tw_612 : (Jvm.Cond.instanceMethod ({ cls := "HistoryCourtModel", name := "machine", desc := "()I" } : Jvm.MethodName)) ∈ lw_g := tw_m3 (i := 132) rfl rfl
theorem tw_613 : (Jvm.Cond.selects "HistoryCourtModel" ({ cls := "HistoryCourtModel", name := "machine", desc := "()I" } : Jvm.MethodName) ({ cls := "HistoryCourtModel", name := "machine", desc := "()I" } : Jvm.MethodName)) ∈ lw_g := tw_m3 (i := 133) rfl rfl
theorem tw_614 : (Jvm.Cond.code ({ cls := "HistoryCourtModel", name := "machine", desc := "()I" } : Jvm.MethodName) prog_9_method_4_code (1 : Nat) (Option.some Jvm.ClassFile.FieldType.int)) ∈ lw_g := tw_m3 (i := 134) rfl rfl
theorem tw_615 : (Jvm.Cond.methodLink "HistoryCourtLaw" (22 : Nat) ({ cls := "HistoryCourtModel", name := "row", desc := "(IIIII)I" } : Jvm.MethodName)) ∈ lw_g := tw_m3 (i := 135) rfl rfl
theorem tw_616 : (Jvm.Cond.instanceMethod ({ cls := "HistoryCourtModel", name := "row", desc := "(IIIII)I" } : Jvm.MethodName)) ∈ lw_g := tw_m3 (i := 136) rfl rfl
theorem tw_617 : (Jvm.Cond.selects "HistoryCourtModel" ({ cls := "HistoryCourtModel", name := "row", desc := "(IIIII)I" } : Jvm.MethodName) ({ cls := "HistoryCourtModel", name := "row", desc := "(IIIII)I" } : Jvm.MethodName)) ∈ lw_g := tw_m3 (i := 137) rfl rfl
theorem tw_618 : (Jvm.Cond.code ({ cls := "HistoryCourtModel", name := "row", desc := "(IIIII)I" } : Jvm.MethodName) prog_9_method_5_code (7 : Nat) (Option.some Jvm.ClassFile.FieldType.int)) ∈ lw_g := tw_m3 (i := 138) rfl rfl
theorem tw_619 : (Jvm.Cond.methodLink "HistoryCourtModel" (74 : Nat) ({ cls := "HistoryCourtModel", name := "in", desc := "(III)Z" } : Jvm.MethodName)) ∈ lw_g := tw_m3 (i := 139) rfl rfl
theorem tw_620 : (Jvm.Cond.static ({ cls := "HistoryCourtModel", name := "in", desc := "(III)Z" } : Jvm.MethodName)) ∈ lw_g := tw_m3 (i := 140) rfl rfl
theorem tw_621 : (Jvm.Cond.code ({ cls := "HistoryCourtModel", name := "in", desc := "(III)Z" } : Jvm.MethodName) prog_9_method_3_code (3 : Nat) (Option.some Jvm.ClassFile.FieldType.boolean)) ∈ lw_g := tw_m3 (i := 141) rfl rfl
theorem tw_622 : (Jvm.Cond.methodLink "HistoryCourtLaw" (27 : Nat) ({ cls := "HistoryCourtModel", name := "history", desc := "(II)I" } : Jvm.MethodName)) ∈ lw_g := tw_m3 (i := 142) rfl rfl
theorem tw_623 : (Jvm.Cond.instanceMethod ({ cls := "HistoryCourtModel", name := "history", desc := "(II)I" } : Jvm.MethodName)) ∈ lw_g := tw_m3 (i := 143) rfl rfl
theorem tw_624 : (Jvm.Cond.selects "HistoryCourtModel" ({ cls := "HistoryCourtModel", name := "history", desc := "(II)I" } : Jvm.MethodName) ({ cls := "HistoryCourtModel", name := "history", desc := "(II)I" } : Jvm.MethodName)) ∈ lw_g := tw_m3 (i := 144) rfl rfl
theorem tw_625 : (Jvm.Cond.code ({ cls := "HistoryCourtModel", name := "history", desc := "(II)I" } : Jvm.MethodName) prog_9_method_10_code (3 : Nat) (Option.some Jvm.ClassFile.FieldType.int)) ∈ lw_g := tw_m3 (i := 145) rfl rfl
theorem tw_626 : (Jvm.Cond.methodLink "HistoryCourtLaw" (32 : Nat) ({ cls := "HistoryCourtModel", name := "copy", desc := "(I)I" } : Jvm.MethodName)) ∈ lw_g := tw_m3 (i := 146) rfl rfl
theorem tw_627 : (Jvm.Cond.instanceMethod ({ cls := "HistoryCourtModel", name := "copy", desc := "(I)I" } : Jvm.MethodName)) ∈ lw_g := tw_m3 (i := 147) rfl rfl
theorem tw_628 : (Jvm.Cond.selects "HistoryCourtModel" ({ cls := "HistoryCourtModel", name := "copy", desc := "(I)I" } : Jvm.MethodName) ({ cls := "HistoryCourtModel", name := "copy", desc := "(I)I" } : Jvm.MethodName)) ∈ lw_g := tw_m3 (i := 148) rfl rfl
theorem tw_629 : (Jvm.Cond.code ({ cls := "HistoryCourtModel", name := "copy", desc := "(I)I" } : Jvm.MethodName) prog_9_method_11_code (4 : Nat) (Option.some Jvm.ClassFile.FieldType.int)) ∈ lw_g := tw_m3 (i := 149) rfl rfl
theorem tw_630 : (Jvm.Cond.methodLink "HistoryCourtModel" (81 : Nat) ({ cls := "HistoryCourtModel", name := "isHistory", desc := "(I)Z" } : Jvm.MethodName)) ∈ lw_g := tw_m3 (i := 150) rfl rfl
theorem tw_632 : (Jvm.Cond.instanceMethod ({ cls := "HistoryCourtModel", name := "isHistory", desc := "(I)Z" } : Jvm.MethodName)) ∈ lw_g := tw_m3 (i := 152) rfl rfl
theorem tw_633 : (Jvm.Cond.code ({ cls := "HistoryCourtModel", name := "isHistory", desc := "(I)Z" } : Jvm.MethodName) prog_9_method_6_code (2 : Nat) (Option.some Jvm.ClassFile.FieldType.boolean)) ∈ lw_g := tw_m3 (i := 153) rfl rfl
theorem tw_634 : (Jvm.Cond.methodLink "HistoryCourtLaw" (36 : Nat) ({ cls := "HistoryCourtModel", name := "begin", desc := "(IIIII)I" } : Jvm.MethodName)) ∈ lw_g := tw_m3 (i := 154) rfl rfl
theorem tw_635 : (Jvm.Cond.instanceMethod ({ cls := "HistoryCourtModel", name := "begin", desc := "(IIIII)I" } : Jvm.MethodName)) ∈ lw_g := tw_m3 (i := 155) rfl rfl
theorem tw_636 : (Jvm.Cond.selects "HistoryCourtModel" ({ cls := "HistoryCourtModel", name := "begin", desc := "(IIIII)I" } : Jvm.MethodName) ({ cls := "HistoryCourtModel", name := "begin", desc := "(IIIII)I" } : Jvm.MethodName)) ∈ lw_g := tw_m3 (i := 156) rfl rfl
theorem tw_637 : (Jvm.Cond.code ({ cls := "HistoryCourtModel", name := "begin", desc := "(IIIII)I" } : Jvm.MethodName) prog_9_method_13_code (8 : Nat) (Option.some Jvm.ClassFile.FieldType.int)) ∈ lw_g := tw_m3 (i := 157) rfl rfl
theorem tw_638 : (Jvm.Cond.methodLink "HistoryCourtModel" (85 : Nat) ({ cls := "HistoryCourtModel", name := "actsOf", desc := "(I)I" } : Jvm.MethodName)) ∈ lw_g := tw_m3 (i := 158) rfl rfl
theorem tw_639 : (Jvm.Cond.static ({ cls := "HistoryCourtModel", name := "actsOf", desc := "(I)I" } : Jvm.MethodName)) ∈ lw_g := tw_m3 (i := 159) rfl rfl
theorem tw_640 : (Jvm.Cond.code ({ cls := "HistoryCourtModel", name := "actsOf", desc := "(I)I" } : Jvm.MethodName) prog_9_method_12_code (1 : Nat) (Option.some Jvm.ClassFile.FieldType.int)) ∈ lw_g := tw_m3 (i := 160) rfl rfl
theorem tw_641 : (Jvm.Cond.methodLink "HistoryCourtModel" (89 : Nat) ({ cls := "HistoryCourtModel", name := "isOpen", desc := "(II)Z" } : Jvm.MethodName)) ∈ lw_g := tw_m3 (i := 161) rfl rfl
theorem tw_643 : (Jvm.Cond.instanceMethod ({ cls := "HistoryCourtModel", name := "isOpen", desc := "(II)Z" } : Jvm.MethodName)) ∈ lw_g := tw_m3 (i := 163) rfl rfl
theorem tw_644 : (Jvm.Cond.code ({ cls := "HistoryCourtModel", name := "isOpen", desc := "(II)Z" } : Jvm.MethodName) prog_9_method_8_code (3 : Nat) (Option.some Jvm.ClassFile.FieldType.boolean)) ∈ lw_g := tw_m3 (i := 164) rfl rfl
theorem tw_645 : (Jvm.Cond.methodLink "HistoryCourtLaw" (41 : Nat) ({ cls := "HistoryCourtModel", name := "answer", desc := "(III)I" } : Jvm.MethodName)) ∈ lw_g := tw_m3 (i := 165) rfl rfl
theorem tw_646 : (Jvm.Cond.instanceMethod ({ cls := "HistoryCourtModel", name := "answer", desc := "(III)I" } : Jvm.MethodName)) ∈ lw_g := tw_m3 (i := 166) rfl rfl
theorem tw_647 : (Jvm.Cond.selects "HistoryCourtModel" ({ cls := "HistoryCourtModel", name := "answer", desc := "(III)I" } : Jvm.MethodName) ({ cls := "HistoryCourtModel", name := "answer", desc := "(III)I" } : Jvm.MethodName)) ∈ lw_g := tw_m3 (i := 167) rfl rfl
theorem tw_648 : (Jvm.Cond.code ({ cls := "HistoryCourtModel", name := "answer", desc := "(III)I" } : Jvm.MethodName) prog_9_method_14_code (4 : Nat) (Option.some Jvm.ClassFile.FieldType.int)) ∈ lw_g := tw_m3 (i := 168) rfl rfl
theorem tw_649 : (Jvm.Cond.methodLink "HistoryCourtModel" (93 : Nat) ({ cls := "HistoryCourtModel", name := "isCall", desc := "(II)Z" } : Jvm.MethodName)) ∈ lw_g := tw_m3 (i := 169) rfl rfl
theorem tw_651 : (Jvm.Cond.instanceMethod ({ cls := "HistoryCourtModel", name := "isCall", desc := "(II)Z" } : Jvm.MethodName)) ∈ lw_g := tw_m3 (i := 171) rfl rfl
theorem tw_652 : (Jvm.Cond.code ({ cls := "HistoryCourtModel", name := "isCall", desc := "(II)Z" } : Jvm.MethodName) prog_9_method_7_code (3 : Nat) (Option.some Jvm.ClassFile.FieldType.boolean)) ∈ lw_g := tw_m3 (i := 172) rfl rfl
theorem tw_653 : (Jvm.Cond.methodLink "HistoryCourtLaw" (45 : Nat) ({ cls := "HistoryCourtModel", name := "alter", desc := "(III)I" } : Jvm.MethodName)) ∈ lw_g := tw_m3 (i := 173) rfl rfl
theorem tw_654 : (Jvm.Cond.instanceMethod ({ cls := "HistoryCourtModel", name := "alter", desc := "(III)I" } : Jvm.MethodName)) ∈ lw_g := tw_m3 (i := 174) rfl rfl
theorem tw_655 : (Jvm.Cond.selects "HistoryCourtModel" ({ cls := "HistoryCourtModel", name := "alter", desc := "(III)I" } : Jvm.MethodName) ({ cls := "HistoryCourtModel", name := "alter", desc := "(III)I" } : Jvm.MethodName)) ∈ lw_g := tw_m3 (i := 175) rfl rfl
theorem tw_656 : (Jvm.Cond.code ({ cls := "HistoryCourtModel", name := "alter", desc := "(III)I" } : Jvm.MethodName) prog_9_method_15_code (5 : Nat) (Option.some Jvm.ClassFile.FieldType.int)) ∈ lw_g := tw_m3 (i := 176) rfl rfl
theorem tw_657 : (Jvm.Cond.methodLink "HistoryCourtLaw" (49 : Nat) ({ cls := "HistoryCourtModel", name := "status", desc := "()I" } : Jvm.MethodName)) ∈ lw_g := tw_m3 (i := 177) rfl rfl
theorem tw_658 : (Jvm.Cond.instanceMethod ({ cls := "HistoryCourtModel", name := "status", desc := "()I" } : Jvm.MethodName)) ∈ lw_g := tw_m3 (i := 178) rfl rfl
theorem tw_659 : (Jvm.Cond.selects "HistoryCourtModel" ({ cls := "HistoryCourtModel", name := "status", desc := "()I" } : Jvm.MethodName) ({ cls := "HistoryCourtModel", name := "status", desc := "()I" } : Jvm.MethodName)) ∈ lw_g := tw_m3 (i := 179) rfl rfl
theorem tw_660 : (Jvm.Cond.code ({ cls := "HistoryCourtModel", name := "status", desc := "()I" } : Jvm.MethodName) prog_9_method_16_code (1 : Nat) (Option.some Jvm.ClassFile.FieldType.int)) ∈ lw_g := tw_m3 (i := 180) rfl rfl
theorem tw_661 : (Jvm.Cond.methodLink "HistoryCourtLaw" (53 : Nat) ({ cls := "HistoryCourtModel", name := "answered", desc := "(II)I" } : Jvm.MethodName)) ∈ lw_g := tw_m3 (i := 181) rfl rfl
theorem tw_662 : (Jvm.Cond.instanceMethod ({ cls := "HistoryCourtModel", name := "answered", desc := "(II)I" } : Jvm.MethodName)) ∈ lw_g := tw_m3 (i := 182) rfl rfl
theorem tw_663 : (Jvm.Cond.selects "HistoryCourtModel" ({ cls := "HistoryCourtModel", name := "answered", desc := "(II)I" } : Jvm.MethodName) ({ cls := "HistoryCourtModel", name := "answered", desc := "(II)I" } : Jvm.MethodName)) ∈ lw_g := tw_m3 (i := 183) rfl rfl
theorem tw_664 : (Jvm.Cond.code ({ cls := "HistoryCourtModel", name := "answered", desc := "(II)I" } : Jvm.MethodName) prog_9_method_17_code (3 : Nat) (Option.some Jvm.ClassFile.FieldType.int)) ∈ lw_g := tw_m3 (i := 184) rfl rfl
theorem tw_665 : (Jvm.Cond.methodLink "HistoryCourtLaw" (57 : Nat) ({ cls := "HistoryCourtModel", name := "call", desc := "(III)I" } : Jvm.MethodName)) ∈ lw_g := tw_m3 (i := 185) rfl rfl
theorem tw_666 : (Jvm.Cond.instanceMethod ({ cls := "HistoryCourtModel", name := "call", desc := "(III)I" } : Jvm.MethodName)) ∈ lw_g := tw_m3 (i := 186) rfl rfl
theorem tw_667 : (Jvm.Cond.selects "HistoryCourtModel" ({ cls := "HistoryCourtModel", name := "call", desc := "(III)I" } : Jvm.MethodName) ({ cls := "HistoryCourtModel", name := "call", desc := "(III)I" } : Jvm.MethodName)) ∈ lw_g := tw_m3 (i := 187) rfl rfl
theorem tw_668 : (Jvm.Cond.code ({ cls := "HistoryCourtModel", name := "call", desc := "(III)I" } : Jvm.MethodName) prog_9_method_18_code (4 : Nat) (Option.some Jvm.ClassFile.FieldType.int)) ∈ lw_g := tw_m3 (i := 188) rfl rfl
theorem tw_669 : (Jvm.Cond.methodLink "HistoryCourtLaw" (61 : Nat) ({ cls := "HistoryCourtModel", name := "about", desc := "(II)I" } : Jvm.MethodName)) ∈ lw_g := tw_m3 (i := 189) rfl rfl
theorem tw_670 : (Jvm.Cond.instanceMethod ({ cls := "HistoryCourtModel", name := "about", desc := "(II)I" } : Jvm.MethodName)) ∈ lw_g := tw_m3 (i := 190) rfl rfl
theorem tw_671 : (Jvm.Cond.selects "HistoryCourtModel" ({ cls := "HistoryCourtModel", name := "about", desc := "(II)I" } : Jvm.MethodName) ({ cls := "HistoryCourtModel", name := "about", desc := "(II)I" } : Jvm.MethodName)) ∈ lw_g := tw_m3 (i := 191) rfl rfl
theorem tw_672 : (Jvm.Cond.code ({ cls := "HistoryCourtModel", name := "about", desc := "(II)I" } : Jvm.MethodName) prog_9_method_19_code (5 : Nat) (Option.some Jvm.ClassFile.FieldType.int)) ∈ lw_g := tw_m3 (i := 192) rfl rfl
theorem tw_673 : (Jvm.Cond.methodLink "HistoryCourtLaw" (66 : Nat) ({ cls := "HistoryCourtModel", name := "ahead", desc := "(IIII)I" } : Jvm.MethodName)) ∈ lw_g := tw_m3 (i := 193) rfl rfl
theorem tw_674 : (Jvm.Cond.instanceMethod ({ cls := "HistoryCourtModel", name := "ahead", desc := "(IIII)I" } : Jvm.MethodName)) ∈ lw_g := tw_m3 (i := 194) rfl rfl
theorem tw_675 : (Jvm.Cond.selects "HistoryCourtModel" ({ cls := "HistoryCourtModel", name := "ahead", desc := "(IIII)I" } : Jvm.MethodName) ({ cls := "HistoryCourtModel", name := "ahead", desc := "(IIII)I" } : Jvm.MethodName)) ∈ lw_g := tw_m3 (i := 195) rfl rfl
theorem tw_676 : (Jvm.Cond.code ({ cls := "HistoryCourtModel", name := "ahead", desc := "(IIII)I" } : Jvm.MethodName) prog_9_method_23_code (5 : Nat) (Option.some Jvm.ClassFile.FieldType.int)) ∈ lw_g := tw_m3 (i := 196) rfl rfl
theorem tw_677 : (Jvm.Cond.methodLink "HistoryCourtModel" (102 : Nat) ({ cls := "HistoryCourtModel", name := "isRule", desc := "(I)Z" } : Jvm.MethodName)) ∈ lw_g := tw_m3 (i := 197) rfl rfl
theorem tw_678 : (Jvm.Cond.static ({ cls := "HistoryCourtModel", name := "isRule", desc := "(I)Z" } : Jvm.MethodName)) ∈ lw_g := tw_m3 (i := 198) rfl rfl
theorem tw_679 : (Jvm.Cond.code ({ cls := "HistoryCourtModel", name := "isRule", desc := "(I)Z" } : Jvm.MethodName) prog_9_method_9_code (1 : Nat) (Option.some Jvm.ClassFile.FieldType.boolean)) ∈ lw_g := tw_m3 (i := 199) rfl rfl
theorem tw_680 : (Jvm.Cond.methodLink "HistoryCourtModel" (105 : Nat) ({ cls := "HistoryCourtModel", name := "all", desc := "(I)I" } : Jvm.MethodName)) ∈ lw_g := tw_m3 (i := 200) rfl rfl
theorem tw_682 : (Jvm.Cond.instanceMethod ({ cls := "HistoryCourtModel", name := "all", desc := "(I)I" } : Jvm.MethodName)) ∈ lw_g := tw_m3 (i := 202) rfl rfl
theorem tw_683 : (Jvm.Cond.code ({ cls := "HistoryCourtModel", name := "all", desc := "(I)I" } : Jvm.MethodName) prog_9_method_22_code (2 : Nat) (Option.some Jvm.ClassFile.FieldType.int)) ∈ lw_g := tw_m3 (i := 203) rfl rfl
theorem tw_684 : (Jvm.Cond.methodLink "HistoryCourtModel" (108 : Nat) ({ cls := "HistoryCourtModel", name := "isAhead", desc := "(IIIII)Z" } : Jvm.MethodName)) ∈ lw_g := tw_m3 (i := 204) rfl rfl
theorem tw_686 : (Jvm.Cond.instanceMethod ({ cls := "HistoryCourtModel", name := "isAhead", desc := "(IIIII)Z" } : Jvm.MethodName)) ∈ lw_g := tw_m3 (i := 206) rfl rfl
theorem tw_687 : (Jvm.Cond.code ({ cls := "HistoryCourtModel", name := "isAhead", desc := "(IIIII)Z" } : Jvm.MethodName) prog_9_method_21_code (9 : Nat) (Option.some Jvm.ClassFile.FieldType.boolean)) ∈ lw_g := tw_m3 (i := 207) rfl rfl
theorem tw_688 : (Jvm.Cond.methodLink "HistoryCourtModel" (99 : Nat) ({ cls := "HistoryCourtModel", name := "isQuiet", desc := "(III)Z" } : Jvm.MethodName)) ∈ lw_g := tw_m3 (i := 208) rfl rfl
theorem tw_690 : (Jvm.Cond.instanceMethod ({ cls := "HistoryCourtModel", name := "isQuiet", desc := "(III)Z" } : Jvm.MethodName)) ∈ lw_g := tw_m3 (i := 210) rfl rfl
theorem tw_691 : (Jvm.Cond.code ({ cls := "HistoryCourtModel", name := "isQuiet", desc := "(III)Z" } : Jvm.MethodName) prog_9_method_20_code (6 : Nat) (Option.some Jvm.ClassFile.FieldType.boolean)) ∈ lw_g := tw_m3 (i := 211) rfl rfl
theorem tw_692 : (Jvm.Cond.methodLink "HistoryCourtLaw" (70 : Nat) ({ cls := "HistoryCourtModel", name := "judge", desc := "(II)I" } : Jvm.MethodName)) ∈ lw_g := tw_m3 (i := 212) rfl rfl
theorem tw_693 : (Jvm.Cond.instanceMethod ({ cls := "HistoryCourtModel", name := "judge", desc := "(II)I" } : Jvm.MethodName)) ∈ lw_g := tw_m3 (i := 213) rfl rfl
theorem tw_694 : (Jvm.Cond.selects "HistoryCourtModel" ({ cls := "HistoryCourtModel", name := "judge", desc := "(II)I" } : Jvm.MethodName) ({ cls := "HistoryCourtModel", name := "judge", desc := "(II)I" } : Jvm.MethodName)) ∈ lw_g := tw_m3 (i := 214) rfl rfl
theorem tw_695 : (Jvm.Cond.code ({ cls := "HistoryCourtModel", name := "judge", desc := "(II)I" } : Jvm.MethodName) prog_9_method_33_code (3 : Nat) (Option.some Jvm.ClassFile.FieldType.int)) ∈ lw_g := tw_m3 (i := 215) rfl rfl
theorem tw_696 : (Jvm.Cond.methodLink "HistoryCourtModel" (158 : Nat) ({ cls := "HistoryCourtModel", name := "isTaken", desc := "(III)Z" } : Jvm.MethodName)) ∈ lw_g := tw_m3 (i := 216) rfl rfl
theorem tw_698 : (Jvm.Cond.instanceMethod ({ cls := "HistoryCourtModel", name := "isTaken", desc := "(III)Z" } : Jvm.MethodName)) ∈ lw_g := tw_m3 (i := 218) rfl rfl
theorem tw_699 : (Jvm.Cond.code ({ cls := "HistoryCourtModel", name := "isTaken", desc := "(III)Z" } : Jvm.MethodName) prog_9_method_32_code (4 : Nat) (Option.some Jvm.ClassFile.FieldType.boolean)) ∈ lw_g := tw_m3 (i := 219) rfl rfl
theorem tw_700 : (Jvm.Cond.methodLink "HistoryCourtModel" (150 : Nat) ({ cls := "HistoryCourtModel", name := "prepare", desc := "(III)V" } : Jvm.MethodName)) ∈ lw_g := tw_m3 (i := 220) rfl rfl
theorem tw_702 : (Jvm.Cond.instanceMethod ({ cls := "HistoryCourtModel", name := "prepare", desc := "(III)V" } : Jvm.MethodName)) ∈ lw_g := tw_m3 (i := 222) rfl rfl
theorem tw_703 : (Jvm.Cond.code ({ cls := "HistoryCourtModel", name := "prepare", desc := "(III)V" } : Jvm.MethodName) prog_9_method_28_code (6 : Nat) (Option.none : Option Jvm.ClassFile.FieldType)) ∈ lw_g := tw_m3 (i := 223) rfl rfl
theorem tw_704 : (Jvm.Cond.methodLink "HistoryCourtModel" (120 : Nat) ({ cls := "HistoryCourtModel", name := "begins", desc := "()V" } : Jvm.MethodName)) ∈ lw_g := tw_m3 (i := 224) rfl rfl
theorem tw_706 : (Jvm.Cond.instanceMethod ({ cls := "HistoryCourtModel", name := "begins", desc := "()V" } : Jvm.MethodName)) ∈ lw_g := tw_m3 (i := 226) rfl rfl
theorem tw_707 : (Jvm.Cond.code ({ cls := "HistoryCourtModel", name := "begins", desc := "()V" } : Jvm.MethodName) prog_9_method_24_code (2 : Nat) (Option.none : Option Jvm.ClassFile.FieldType)) ∈ lw_g := tw_m3 (i := 227) rfl rfl
theorem tw_708 : (Jvm.Cond.methodLink "HistoryCourtModel" (154 : Nat) ({ cls := "HistoryCourtModel", name := "answeredOf", desc := "(II)I" } : Jvm.MethodName)) ∈ lw_g := tw_m3 (i := 228) rfl rfl
theorem tw_710 : (Jvm.Cond.instanceMethod ({ cls := "HistoryCourtModel", name := "answeredOf", desc := "(II)I" } : Jvm.MethodName)) ∈ lw_g := tw_m3 (i := 230) rfl rfl
theorem tw_711 : (Jvm.Cond.code ({ cls := "HistoryCourtModel", name := "answeredOf", desc := "(II)I" } : Jvm.MethodName) prog_9_method_29_code (5 : Nat) (Option.some Jvm.ClassFile.FieldType.int)) ∈ lw_g := tw_m3 (i := 231) rfl rfl
theorem tw_712 : (Jvm.Cond.methodLink "HistoryCourtModel" (144 : Nat) ({ cls := "HistoryCourtModel", name := "goes", desc := "(IIIII)Z" } : Jvm.MethodName)) ∈ lw_g := tw_m3 (i := 232) rfl rfl
theorem tw_714 : (Jvm.Cond.instanceMethod ({ cls := "HistoryCourtModel", name := "goes", desc := "(IIIII)Z" } : Jvm.MethodName)) ∈ lw_g := tw_m3 (i := 234) rfl rfl
theorem tw_715 : (Jvm.Cond.code ({ cls := "HistoryCourtModel", name := "goes", desc := "(IIIII)Z" } : Jvm.MethodName) prog_9_method_30_code (8 : Nat) (Option.some Jvm.ClassFile.FieldType.boolean)) ∈ lw_g := tw_m3 (i := 235) rfl rfl
theorem tw_716 : (Jvm.Cond.methodLink "HistoryCourtModel" (136 : Nat) ({ cls := "HistoryCourtModel", name := "fill", desc := "([II)V" } : Jvm.MethodName)) ∈ lw_g := tw_m3 (i := 236) rfl rfl
theorem tw_718 : (Jvm.Cond.instanceMethod ({ cls := "HistoryCourtModel", name := "fill", desc := "([II)V" } : Jvm.MethodName)) ∈ lw_g := tw_m3 (i := 238) rfl rfl
theorem tw_719 : (Jvm.Cond.code ({ cls := "HistoryCourtModel", name := "fill", desc := "([II)V" } : Jvm.MethodName) prog_9_method_31_code (7 : Nat) (Option.none : Option Jvm.ClassFile.FieldType)) ∈ lw_g := tw_m3 (i := 239) rfl rfl
theorem tw_720 : (Jvm.Cond.methodLink "HistoryCourtModel" (140 : Nat) ({ cls := "HistoryCourtModel", name := "comes", desc := "(III)I" } : Jvm.MethodName)) ∈ lw_g := tw_m4 (i := 0) rfl rfl
theorem tw_722 : (Jvm.Cond.instanceMethod ({ cls := "HistoryCourtModel", name := "comes", desc := "(III)I" } : Jvm.MethodName)) ∈ lw_g := tw_m4 (i := 2) rfl rfl
theorem tw_723 : (Jvm.Cond.code ({ cls := "HistoryCourtModel", name := "comes", desc := "(III)I" } : Jvm.MethodName) prog_9_method_25_code (11 : Nat) (Option.some Jvm.ClassFile.FieldType.int)) ∈ lw_g := tw_m4 (i := 3) rfl rfl
theorem tw_724 : (Jvm.Cond.methodLink "HistoryCourtModel" (112 : Nat) ({ cls := "HistoryCourtModel", name := "cell", desc := "(IIIII)I" } : Jvm.MethodName)) ∈ lw_g := tw_m4 (i := 4) rfl rfl
theorem tw_726 : (Jvm.Cond.instanceMethod ({ cls := "HistoryCourtModel", name := "cell", desc := "(IIIII)I" } : Jvm.MethodName)) ∈ lw_g := tw_m4 (i := 6) rfl rfl
theorem tw_727 : (Jvm.Cond.code ({ cls := "HistoryCourtModel", name := "cell", desc := "(IIIII)I" } : Jvm.MethodName) prog_9_method_26_code (6 : Nat) (Option.some Jvm.ClassFile.FieldType.int)) ∈ lw_g := tw_m4 (i := 7) rfl rfl
theorem tw_728 : (Jvm.Cond.methodLink "HistoryCourtModel" (116 : Nat) ({ cls := "HistoryCourtModel", name := "line", desc := "(IZII)I" } : Jvm.MethodName)) ∈ lw_g := tw_m4 (i := 8) rfl rfl
theorem tw_730 : (Jvm.Cond.instanceMethod ({ cls := "HistoryCourtModel", name := "line", desc := "(IZII)I" } : Jvm.MethodName)) ∈ lw_g := tw_m4 (i := 10) rfl rfl
theorem tw_731 : (Jvm.Cond.code ({ cls := "HistoryCourtModel", name := "line", desc := "(IZII)I" } : Jvm.MethodName) prog_9_method_27_code (8 : Nat) (Option.some Jvm.ClassFile.FieldType.int)) ∈ lw_g := tw_m4 (i := 11) rfl rfl
theorem tw_732 : (Jvm.Cond.methodLink "HistoryCourtLaw" (74 : Nat) ({ cls := "HistoryCourtModel", name := "first", desc := "(III)I" } : Jvm.MethodName)) ∈ lw_g := tw_m4 (i := 12) rfl rfl
theorem tw_733 : (Jvm.Cond.instanceMethod ({ cls := "HistoryCourtModel", name := "first", desc := "(III)I" } : Jvm.MethodName)) ∈ lw_g := tw_m4 (i := 13) rfl rfl
theorem tw_734 : (Jvm.Cond.selects "HistoryCourtModel" ({ cls := "HistoryCourtModel", name := "first", desc := "(III)I" } : Jvm.MethodName) ({ cls := "HistoryCourtModel", name := "first", desc := "(III)I" } : Jvm.MethodName)) ∈ lw_g := tw_m4 (i := 14) rfl rfl
theorem tw_735 : (Jvm.Cond.code ({ cls := "HistoryCourtModel", name := "first", desc := "(III)I" } : Jvm.MethodName) prog_9_method_34_code (4 : Nat) (Option.some Jvm.ClassFile.FieldType.int)) ∈ lw_g := tw_m4 (i := 15) rfl rfl
theorem tw_736 : (Jvm.Cond.methodLink "HistoryCourtLaw" (79 : Nat) ({ cls := "HistoryCourtModel", name := "orders", desc := "(II)J" } : Jvm.MethodName)) ∈ lw_g := tw_m4 (i := 16) rfl rfl
theorem tw_737 : (Jvm.Cond.instanceMethod ({ cls := "HistoryCourtModel", name := "orders", desc := "(II)J" } : Jvm.MethodName)) ∈ lw_g := tw_m4 (i := 17) rfl rfl
theorem tw_738 : (Jvm.Cond.selects "HistoryCourtModel" ({ cls := "HistoryCourtModel", name := "orders", desc := "(II)J" } : Jvm.MethodName) ({ cls := "HistoryCourtModel", name := "orders", desc := "(II)J" } : Jvm.MethodName)) ∈ lw_g := tw_m4 (i := 18) rfl rfl
theorem tw_739 : (Jvm.Cond.code ({ cls := "HistoryCourtModel", name := "orders", desc := "(II)J" } : Jvm.MethodName) prog_9_method_35_code (4 : Nat) (Option.some Jvm.ClassFile.FieldType.long)) ∈ lw_g := tw_m4 (i := 19) rfl rfl
theorem tw_740 : (Jvm.Cond.constantLong "HistoryCourtModel" (161 : Nat) (-1 : Int64)) ∈ lw_g := tw_m4 (i := 20) rfl rfl
theorem tw_741 : (Jvm.Cond.methodLink "HistoryCourtLaw" (83 : Nat) ({ cls := "HistoryCourtModel", name := "least", desc := "(II)I" } : Jvm.MethodName)) ∈ lw_g := tw_m4 (i := 21) rfl rfl
theorem tw_742 : (Jvm.Cond.instanceMethod ({ cls := "HistoryCourtModel", name := "least", desc := "(II)I" } : Jvm.MethodName)) ∈ lw_g := tw_m4 (i := 22) rfl rfl
theorem tw_743 : (Jvm.Cond.selects "HistoryCourtModel" ({ cls := "HistoryCourtModel", name := "least", desc := "(II)I" } : Jvm.MethodName) ({ cls := "HistoryCourtModel", name := "least", desc := "(II)I" } : Jvm.MethodName)) ∈ lw_g := tw_m4 (i := 23) rfl rfl
theorem tw_744 : (Jvm.Cond.code ({ cls := "HistoryCourtModel", name := "least", desc := "(II)I" } : Jvm.MethodName) prog_9_method_36_code (7 : Nat) (Option.some Jvm.ClassFile.FieldType.int)) ∈ lw_g := tw_m4 (i := 24) rfl rfl
theorem tw_745 : (Jvm.Cond.methodLink "HistoryCourtLaw" (87 : Nat) ({ cls := "HistoryCourtModel", name := "part", desc := "(I)I" } : Jvm.MethodName)) ∈ lw_g := tw_m4 (i := 25) rfl rfl
theorem tw_746 : (Jvm.Cond.instanceMethod ({ cls := "HistoryCourtModel", name := "part", desc := "(I)I" } : Jvm.MethodName)) ∈ lw_g := tw_m4 (i := 26) rfl rfl
theorem tw_747 : (Jvm.Cond.selects "HistoryCourtModel" ({ cls := "HistoryCourtModel", name := "part", desc := "(I)I" } : Jvm.MethodName) ({ cls := "HistoryCourtModel", name := "part", desc := "(I)I" } : Jvm.MethodName)) ∈ lw_g := tw_m4 (i := 27) rfl rfl
theorem tw_748 : (Jvm.Cond.code ({ cls := "HistoryCourtModel", name := "part", desc := "(I)I" } : Jvm.MethodName) prog_9_method_37_code (4 : Nat) (Option.some Jvm.ClassFile.FieldType.int)) ∈ lw_g := tw_m4 (i := 28) rfl rfl
theorem tw_749 : (Jvm.Cond.methodLink "HistoryCourtLaw" (91 : Nat) ({ cls := "HistoryCourtModel", name := "fills", desc := "(III)I" } : Jvm.MethodName)) ∈ lw_g := tw_m4 (i := 29) rfl rfl
theorem tw_750 : (Jvm.Cond.instanceMethod ({ cls := "HistoryCourtModel", name := "fills", desc := "(III)I" } : Jvm.MethodName)) ∈ lw_g := tw_m4 (i := 30) rfl rfl
theorem tw_751 : (Jvm.Cond.selects "HistoryCourtModel" ({ cls := "HistoryCourtModel", name := "fills", desc := "(III)I" } : Jvm.MethodName) ({ cls := "HistoryCourtModel", name := "fills", desc := "(III)I" } : Jvm.MethodName)) ∈ lw_g := tw_m4 (i := 31) rfl rfl
theorem tw_752 : (Jvm.Cond.code ({ cls := "HistoryCourtModel", name := "fills", desc := "(III)I" } : Jvm.MethodName) prog_9_method_38_code (5 : Nat) (Option.some Jvm.ClassFile.FieldType.int)) ∈ lw_g := tw_m4 (i := 32) rfl rfl
theorem tw_753 : (Jvm.Cond.methodLink "HistoryCourtLaw" (95 : Nat) ({ cls := "HistoryCourtModel", name := "fill", desc := "(I)I" } : Jvm.MethodName)) ∈ lw_g := tw_m4 (i := 33) rfl rfl
theorem tw_754 : (Jvm.Cond.instanceMethod ({ cls := "HistoryCourtModel", name := "fill", desc := "(I)I" } : Jvm.MethodName)) ∈ lw_g := tw_m4 (i := 34) rfl rfl
theorem tw_755 : (Jvm.Cond.selects "HistoryCourtModel" ({ cls := "HistoryCourtModel", name := "fill", desc := "(I)I" } : Jvm.MethodName) ({ cls := "HistoryCourtModel", name := "fill", desc := "(I)I" } : Jvm.MethodName)) ∈ lw_g := tw_m4 (i := 35) rfl rfl
theorem tw_756 : (Jvm.Cond.code ({ cls := "HistoryCourtModel", name := "fill", desc := "(I)I" } : Jvm.MethodName) prog_9_method_39_code (2 : Nat) (Option.some Jvm.ClassFile.FieldType.int)) ∈ lw_g := tw_m4 (i := 36) rfl rfl
theorem tw_757 : (Jvm.Cond.methodLink "HistoryCourtLaw" (99 : Nat) ({ cls := "HistoryCourtModel", name := "apart", desc := "(III)I" } : Jvm.MethodName)) ∈ lw_g := tw_m4 (i := 37) rfl rfl
theorem tw_758 : (Jvm.Cond.instanceMethod ({ cls := "HistoryCourtModel", name := "apart", desc := "(III)I" } : Jvm.MethodName)) ∈ lw_g := tw_m4 (i := 38) rfl rfl
theorem tw_759 : (Jvm.Cond.selects "HistoryCourtModel" ({ cls := "HistoryCourtModel", name := "apart", desc := "(III)I" } : Jvm.MethodName) ({ cls := "HistoryCourtModel", name := "apart", desc := "(III)I" } : Jvm.MethodName)) ∈ lw_g := tw_m4 (i := 39) rfl rfl
theorem tw_760 : (Jvm.Cond.code ({ cls := "HistoryCourtModel", name := "apart", desc := "(III)I" } : Jvm.MethodName) prog_9_method_40_code (6 : Nat) (Option.some Jvm.ClassFile.FieldType.int)) ∈ lw_g := tw_m4 (i := 40) rfl rfl
theorem tw_761 : (Jvm.Cond.methodLink "HistoryCourtLaw" (103 : Nat) ({ cls := "HistoryCourtModel", name := "rules", desc := "(I)I" } : Jvm.MethodName)) ∈ lw_g := tw_m4 (i := 41) rfl rfl
theorem tw_762 : (Jvm.Cond.instanceMethod ({ cls := "HistoryCourtModel", name := "rules", desc := "(I)I" } : Jvm.MethodName)) ∈ lw_g := tw_m4 (i := 42) rfl rfl
theorem tw_763 : (Jvm.Cond.selects "HistoryCourtModel" ({ cls := "HistoryCourtModel", name := "rules", desc := "(I)I" } : Jvm.MethodName) ({ cls := "HistoryCourtModel", name := "rules", desc := "(I)I" } : Jvm.MethodName)) ∈ lw_g := tw_m4 (i := 43) rfl rfl
theorem tw_764 : (Jvm.Cond.code ({ cls := "HistoryCourtModel", name := "rules", desc := "(I)I" } : Jvm.MethodName) prog_9_method_41_code (4 : Nat) (Option.some Jvm.ClassFile.FieldType.int)) ∈ lw_g := tw_m4 (i := 44) rfl rfl
theorem tw_765 : (Jvm.Cond.methodLink "HistoryCourtLaw" (107 : Nat) ({ cls := "HistoryCourtModel", name := "say", desc := "(I)I" } : Jvm.MethodName)) ∈ lw_g := tw_m4 (i := 45) rfl rfl
theorem tw_766 : (Jvm.Cond.instanceMethod ({ cls := "HistoryCourtModel", name := "say", desc := "(I)I" } : Jvm.MethodName)) ∈ lw_g := tw_m4 (i := 46) rfl rfl
theorem tw_767 : (Jvm.Cond.selects "HistoryCourtModel" ({ cls := "HistoryCourtModel", name := "say", desc := "(I)I" } : Jvm.MethodName) ({ cls := "HistoryCourtModel", name := "say", desc := "(I)I" } : Jvm.MethodName)) ∈ lw_g := tw_m4 (i := 47) rfl rfl
theorem tw_768 : (Jvm.Cond.code ({ cls := "HistoryCourtModel", name := "say", desc := "(I)I" } : Jvm.MethodName) prog_9_method_42_code (2 : Nat) (Option.some Jvm.ClassFile.FieldType.int)) ∈ lw_g := tw_m4 (i := 48) rfl rfl
theorem tw_769 : (Jvm.Cond.methodLink "HistoryCourtLaw" (111 : Nat) ({ cls := "HistoryCourtModel", name := "check", desc := "(II)I" } : Jvm.MethodName)) ∈ lw_g := tw_m4 (i := 49) rfl rfl
theorem tw_770 : (Jvm.Cond.instanceMethod ({ cls := "HistoryCourtModel", name := "check", desc := "(II)I" } : Jvm.MethodName)) ∈ lw_g := tw_m4 (i := 50) rfl rfl
theorem tw_771 : (Jvm.Cond.selects "HistoryCourtModel" ({ cls := "HistoryCourtModel", name := "check", desc := "(II)I" } : Jvm.MethodName) ({ cls := "HistoryCourtModel", name := "check", desc := "(II)I" } : Jvm.MethodName)) ∈ lw_g := tw_m4 (i := 51) rfl rfl
theorem tw_772 : (Jvm.Cond.code ({ cls := "HistoryCourtModel", name := "check", desc := "(II)I" } : Jvm.MethodName) prog_9_method_43_code (8 : Nat) (Option.some Jvm.ClassFile.FieldType.int)) ∈ lw_g := tw_m4 (i := 52) rfl rfl
theorem tp_0 : Cond.selects "HistoryCourt" ⟨"HistoryCourt", "tableOf", "(I)LHistoryCourt$Table;"⟩ ⟨"HistoryCourt", "tableOf", "(I)LHistoryCourt$Table;"⟩ ∈ lw_g := List.mem_filter.mpr ⟨List.mem_append_left _ (List.mem_of_getElem? (i := 0) rfl), rfl⟩
theorem tp_1 : Cond.selects "HistoryCourt" ⟨"HistoryCourt", "keep", "(LHistoryCourt$History;)I"⟩ ⟨"HistoryCourt", "keep", "(LHistoryCourt$History;)I"⟩ ∈ lw_g := List.mem_filter.mpr ⟨List.mem_append_left _ (List.mem_of_getElem? (i := 1) rfl), rfl⟩
theorem tp_2 : Cond.selects "HistoryCourt" ⟨"HistoryCourt", "historyOf", "(I)LHistoryCourt$History;"⟩ ⟨"HistoryCourt", "historyOf", "(I)LHistoryCourt$History;"⟩ ∈ lw_g := List.mem_filter.mpr ⟨List.mem_append_left _ (List.mem_of_getElem? (i := 2) rfl), rfl⟩
theorem tp_3 : Cond.selects "HistoryCourt$History" ⟨"HistoryCourt$History", "isQuiet", "(II)Z"⟩ ⟨"HistoryCourt$History", "isQuiet", "(II)Z"⟩ ∈ lw_g := List.mem_filter.mpr ⟨List.mem_append_left _ (List.mem_of_getElem? (i := 3) rfl), rfl⟩
theorem tp_4 : Cond.selects "HistoryCourt$Search" ⟨"HistoryCourt$Search", "open", "(LHistoryCourt$History;IIZ)V"⟩ ⟨"HistoryCourt$Search", "open", "(LHistoryCourt$History;IIZ)V"⟩ ∈ lw_g := List.mem_filter.mpr ⟨List.mem_append_left _ (List.mem_of_getElem? (i := 4) rfl), rfl⟩
theorem tp_5 : Cond.selects "HistoryCourt$Search" ⟨"HistoryCourt$Search", "waysFrom", "(IIJ)J"⟩ ⟨"HistoryCourt$Search", "waysFrom", "(IIJ)J"⟩ ∈ lw_g := List.mem_filter.mpr ⟨List.mem_append_left _ (List.mem_of_getElem? (i := 5) rfl), rfl⟩
theorem tp_6 : Cond.selects "HistoryCourt$Search" ⟨"HistoryCourt$Search", "isWhole", "(I)Z"⟩ ⟨"HistoryCourt$Search", "isWhole", "(I)Z"⟩ ∈ lw_g := List.mem_filter.mpr ⟨List.mem_append_left _ (List.mem_of_getElem? (i := 6) rfl), rfl⟩
theorem tp_7 : Cond.selects "HistoryCourt$Search" ⟨"HistoryCourt$Search", "fits", "(IIJ)Z"⟩ ⟨"HistoryCourt$Search", "fits", "(IIJ)Z"⟩ ∈ lw_g := List.mem_filter.mpr ⟨List.mem_append_left _ (List.mem_of_getElem? (i := 7) rfl), rfl⟩
theorem tp_8 : Cond.selects "HistoryCourt$Search" ⟨"HistoryCourt$Search", "firstThatLeadsOn", "(IIJ)I"⟩ ⟨"HistoryCourt$Search", "firstThatLeadsOn", "(IIJ)I"⟩ ∈ lw_g := List.mem_filter.mpr ⟨List.mem_append_left _ (List.mem_of_getElem? (i := 8) rfl), rfl⟩
theorem tp_9 : Cond.selects "HistoryCourt$Search" ⟨"HistoryCourt$Search", "collectFrom", "(IIJILHistoryCourt$Answers;)V"⟩ ⟨"HistoryCourt$Search", "collectFrom", "(IIJILHistoryCourt$Answers;)V"⟩ ∈ lw_g := List.mem_filter.mpr ⟨List.mem_append_left _ (List.mem_of_getElem? (i := 9) rfl), rfl⟩
theorem tp_10 : Cond.selects "HistoryCourtModel" ⟨"HistoryCourtModel", "isHistory", "(I)Z"⟩ ⟨"HistoryCourtModel", "isHistory", "(I)Z"⟩ ∈ lw_g := List.mem_filter.mpr ⟨List.mem_append_left _ (List.mem_of_getElem? (i := 10) rfl), rfl⟩
theorem tp_11 : Cond.selects "HistoryCourtModel" ⟨"HistoryCourtModel", "isOpen", "(II)Z"⟩ ⟨"HistoryCourtModel", "isOpen", "(II)Z"⟩ ∈ lw_g := List.mem_filter.mpr ⟨List.mem_append_left _ (List.mem_of_getElem? (i := 11) rfl), rfl⟩
theorem tp_12 : Cond.selects "HistoryCourtModel" ⟨"HistoryCourtModel", "isCall", "(II)Z"⟩ ⟨"HistoryCourtModel", "isCall", "(II)Z"⟩ ∈ lw_g := List.mem_filter.mpr ⟨List.mem_append_left _ (List.mem_of_getElem? (i := 12) rfl), rfl⟩
theorem tp_13 : Cond.selects "HistoryCourtModel" ⟨"HistoryCourtModel", "all", "(I)I"⟩ ⟨"HistoryCourtModel", "all", "(I)I"⟩ ∈ lw_g := List.mem_filter.mpr ⟨List.mem_append_left _ (List.mem_of_getElem? (i := 13) rfl), rfl⟩
theorem tp_14 : Cond.selects "HistoryCourtModel" ⟨"HistoryCourtModel", "isAhead", "(IIIII)Z"⟩ ⟨"HistoryCourtModel", "isAhead", "(IIIII)Z"⟩ ∈ lw_g := List.mem_filter.mpr ⟨List.mem_append_left _ (List.mem_of_getElem? (i := 14) rfl), rfl⟩
theorem tp_15 : Cond.selects "HistoryCourtModel" ⟨"HistoryCourtModel", "isQuiet", "(III)Z"⟩ ⟨"HistoryCourtModel", "isQuiet", "(III)Z"⟩ ∈ lw_g := List.mem_filter.mpr ⟨List.mem_append_left _ (List.mem_of_getElem? (i := 15) rfl), rfl⟩
theorem tp_16 : Cond.selects "HistoryCourtModel" ⟨"HistoryCourtModel", "isTaken", "(III)Z"⟩ ⟨"HistoryCourtModel", "isTaken", "(III)Z"⟩ ∈ lw_g := List.mem_filter.mpr ⟨List.mem_append_left _ (List.mem_of_getElem? (i := 16) rfl), rfl⟩
theorem tp_17 : Cond.selects "HistoryCourtModel" ⟨"HistoryCourtModel", "prepare", "(III)V"⟩ ⟨"HistoryCourtModel", "prepare", "(III)V"⟩ ∈ lw_g := List.mem_filter.mpr ⟨List.mem_append_left _ (List.mem_of_getElem? (i := 17) rfl), rfl⟩
theorem tp_18 : Cond.selects "HistoryCourtModel" ⟨"HistoryCourtModel", "begins", "()V"⟩ ⟨"HistoryCourtModel", "begins", "()V"⟩ ∈ lw_g := List.mem_filter.mpr ⟨List.mem_append_left _ (List.mem_of_getElem? (i := 18) rfl), rfl⟩
theorem tp_19 : Cond.selects "HistoryCourtModel" ⟨"HistoryCourtModel", "answeredOf", "(II)I"⟩ ⟨"HistoryCourtModel", "answeredOf", "(II)I"⟩ ∈ lw_g := List.mem_filter.mpr ⟨List.mem_append_left _ (List.mem_of_getElem? (i := 19) rfl), rfl⟩
theorem tp_20 : Cond.selects "HistoryCourtModel" ⟨"HistoryCourtModel", "goes", "(IIIII)Z"⟩ ⟨"HistoryCourtModel", "goes", "(IIIII)Z"⟩ ∈ lw_g := List.mem_filter.mpr ⟨List.mem_append_left _ (List.mem_of_getElem? (i := 20) rfl), rfl⟩
theorem tp_21 : Cond.selects "HistoryCourtModel" ⟨"HistoryCourtModel", "fill", "([II)V"⟩ ⟨"HistoryCourtModel", "fill", "([II)V"⟩ ∈ lw_g := List.mem_filter.mpr ⟨List.mem_append_left _ (List.mem_of_getElem? (i := 21) rfl), rfl⟩
theorem tp_22 : Cond.selects "HistoryCourtModel" ⟨"HistoryCourtModel", "comes", "(III)I"⟩ ⟨"HistoryCourtModel", "comes", "(III)I"⟩ ∈ lw_g := List.mem_filter.mpr ⟨List.mem_append_left _ (List.mem_of_getElem? (i := 22) rfl), rfl⟩
theorem tp_23 : Cond.selects "HistoryCourtModel" ⟨"HistoryCourtModel", "cell", "(IIIII)I"⟩ ⟨"HistoryCourtModel", "cell", "(IIIII)I"⟩ ∈ lw_g := List.mem_filter.mpr ⟨List.mem_append_left _ (List.mem_of_getElem? (i := 23) rfl), rfl⟩
theorem tp_24 : Cond.selects "HistoryCourtModel" ⟨"HistoryCourtModel", "line", "(IZII)I"⟩ ⟨"HistoryCourtModel", "line", "(IZII)I"⟩ ∈ lw_g := List.mem_filter.mpr ⟨List.mem_append_left _ (List.mem_of_getElem? (i := 24) rfl), rfl⟩
theorem inX0 : ∀ w ∈ wsX00, w ∈ lw_g := by decide +kernel
theorem inX1 : ∀ w ∈ wsX10, w ∈ lw_g := by decide +kernel
theorem inX2 : ∀ w ∈ wsX20, w ∈ lw_g := by decide +kernel
theorem inX4 : ∀ w ∈ wsX40, w ∈ lw_g := by decide +kernel
theorem inX5 : ∀ w ∈ wsX50, w ∈ lw_g := by decide +kernel
theorem inX6 : ∀ w ∈ wsX60, w ∈ lw_g := by decide +kernel
theorem inX7 : ∀ w ∈ wsX70, w ∈ lw_g := by decide +kernel
