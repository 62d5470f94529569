-- PART A of the kit's skeleton (starting text), then the names and fields as TURN prints them
/-- a private method of a class that the tables say can be made, by its rows of tables_1 -/
def lw_okq (q : MethodName × Nat) : Prop := (q.1.cls ≠ "java/lang/invoke/MethodHandle" ∧ q.1.cls ≠ "java/lang/invoke/VarHandle") ∧ Cond.instantiable q.1.cls q.2 ∈ tables_1 ∧ Cond.privateMethod q.1 ∈ tables_1 ∧ Cond.instanceMethod q.1 ∈ tables_1
theorem lw_p0 : lw_okq (⟨"SpreadingDeletes$History", "dropOldest", "()V"⟩, 2) := ⟨⟨by decide +kernel, by decide +kernel⟩, List.mem_of_getElem? (i := 82) (by decide +kernel), List.mem_of_getElem? (i := 226) (by decide +kernel), List.mem_of_getElem? (i := 227) (by decide +kernel)⟩
theorem lw_p1 : lw_okq (⟨"SpreadingDeletes$State", "isMissing", "(III)Z"⟩, 13) := ⟨⟨by decide +kernel, by decide +kernel⟩, List.mem_of_getElem? (i := 18) (by decide +kernel), List.mem_of_getElem? (i := 369) (by decide +kernel), List.mem_of_getElem? (i := 370) (by decide +kernel)⟩
theorem lw_p2 : lw_okq (⟨"SpreadingDeletes$State", "hasNoParent", "(IIII)Z"⟩, 13) := ⟨⟨by decide +kernel, by decide +kernel⟩, List.mem_of_getElem? (i := 18) (by decide +kernel), List.mem_of_getElem? (i := 377) (by decide +kernel), List.mem_of_getElem? (i := 378) (by decide +kernel)⟩
theorem lw_p3 : lw_okq (⟨"SpreadingDeletes$Deletion", "gather", "(LSpreadingDeletes$State;I)V"⟩, 9) := ⟨⟨by decide +kernel, by decide +kernel⟩, List.mem_of_getElem? (i := 138) (by decide +kernel), List.mem_of_getElem? (i := 401) (by decide +kernel), List.mem_of_getElem? (i := 402) (by decide +kernel)⟩
theorem lw_p4 : lw_okq (⟨"SpreadingDeletes$Deletion", "begin", "(I)V"⟩, 9) := ⟨⟨by decide +kernel, by decide +kernel⟩, List.mem_of_getElem? (i := 138) (by decide +kernel), List.mem_of_getElem? (i := 408) (by decide +kernel), List.mem_of_getElem? (i := 409) (by decide +kernel)⟩
theorem lw_p5 : lw_okq (⟨"SpreadingDeletes$Deletion", "nextChild", "(LSpreadingDeletes$State;)I"⟩, 9) := ⟨⟨by decide +kernel, by decide +kernel⟩, List.mem_of_getElem? (i := 138) (by decide +kernel), List.mem_of_getElem? (i := 412) (by decide +kernel), List.mem_of_getElem? (i := 413) (by decide +kernel)⟩
theorem lw_p6 : lw_okq (⟨"SpreadingDeletes$Deletion", "isMarked", "(I)Z"⟩, 9) := ⟨⟨by decide +kernel, by decide +kernel⟩, List.mem_of_getElem? (i := 138) (by decide +kernel), List.mem_of_getElem? (i := 426) (by decide +kernel), List.mem_of_getElem? (i := 427) (by decide +kernel)⟩
theorem lw_p7 : lw_okq (⟨"SpreadingDeletes$Deletion", "end", "()V"⟩, 9) := ⟨⟨by decide +kernel, by decide +kernel⟩, List.mem_of_getElem? (i := 138) (by decide +kernel), List.mem_of_getElem? (i := 430) (by decide +kernel), List.mem_of_getElem? (i := 431) (by decide +kernel)⟩
theorem lw_p8 : lw_okq (⟨"SpreadingDeletes$Deletion", "judge", "(LSpreadingDeletes$State;)V"⟩, 9) := ⟨⟨by decide +kernel, by decide +kernel⟩, List.mem_of_getElem? (i := 138) (by decide +kernel), List.mem_of_getElem? (i := 434) (by decide +kernel), List.mem_of_getElem? (i := 435) (by decide +kernel)⟩
theorem lw_p9 : lw_okq (⟨"SpreadingDeletes$Deletion", "losesParent", "(LSpreadingDeletes$State;II)Z"⟩, 9) := ⟨⟨by decide +kernel, by decide +kernel⟩, List.mem_of_getElem? (i := 138) (by decide +kernel), List.mem_of_getElem? (i := 438) (by decide +kernel), List.mem_of_getElem? (i := 439) (by decide +kernel)⟩
theorem lw_p10 : lw_okq (⟨"SpreadingDeletes$Deletion", "refusalAt", "(LSpreadingDeletes$State;II)I"⟩, 9) := ⟨⟨by decide +kernel, by decide +kernel⟩, List.mem_of_getElem? (i := 138) (by decide +kernel), List.mem_of_getElem? (i := 442) (by decide +kernel), List.mem_of_getElem? (i := 443) (by decide +kernel)⟩
theorem lw_p11 : lw_okq (⟨"SpreadingDeletes$Deletion", "changeValues", "(LSpreadingDeletes$State;I)V"⟩, 9) := ⟨⟨by decide +kernel, by decide +kernel⟩, List.mem_of_getElem? (i := 138) (by decide +kernel), List.mem_of_getElem? (i := 453) (by decide +kernel), List.mem_of_getElem? (i := 454) (by decide +kernel)⟩
theorem lw_p12 : lw_okq (⟨"SpreadingDeletes$State", "moveRow", "(II)V"⟩, 13) := ⟨⟨by decide +kernel, by decide +kernel⟩, List.mem_of_getElem? (i := 18) (by decide +kernel), List.mem_of_getElem? (i := 462) (by decide +kernel), List.mem_of_getElem? (i := 463) (by decide +kernel)⟩
theorem lw_p13 : lw_okq (⟨"SpreadingDeletes$State", "fits", "(III)Z"⟩, 13) := ⟨⟨by decide +kernel, by decide +kernel⟩, List.mem_of_getElem? (i := 18) (by decide +kernel), List.mem_of_getElem? (i := 479) (by decide +kernel), List.mem_of_getElem? (i := 480) (by decide +kernel)⟩
theorem lw_p14 : lw_okq (⟨"SpreadingDeletes$Climb", "reachParents", "(LSpreadingDeletes$State;I)V"⟩, 3) := ⟨⟨by decide +kernel, by decide +kernel⟩, List.mem_of_getElem? (i := 177) (by decide +kernel), List.mem_of_getElem? (i := 535) (by decide +kernel), List.mem_of_getElem? (i := 536) (by decide +kernel)⟩
theorem lw_p15 : lw_okq (⟨"SpreadingDeletes$Climb", "reach", "(I)V"⟩, 3) := ⟨⟨by decide +kernel, by decide +kernel⟩, List.mem_of_getElem? (i := 177) (by decide +kernel), List.mem_of_getElem? (i := 544) (by decide +kernel), List.mem_of_getElem? (i := 545) (by decide +kernel)⟩
def lw_privs_1 : List (MethodName × Nat) := [(⟨"SpreadingDeletes$History", "dropOldest", "()V"⟩, 2), (⟨"SpreadingDeletes$State", "isMissing", "(III)Z"⟩, 13), (⟨"SpreadingDeletes$State", "hasNoParent", "(IIII)Z"⟩, 13), (⟨"SpreadingDeletes$Deletion", "gather", "(LSpreadingDeletes$State;I)V"⟩, 9), (⟨"SpreadingDeletes$Deletion", "begin", "(I)V"⟩, 9), (⟨"SpreadingDeletes$Deletion", "nextChild", "(LSpreadingDeletes$State;)I"⟩, 9), (⟨"SpreadingDeletes$Deletion", "isMarked", "(I)Z"⟩, 9), (⟨"SpreadingDeletes$Deletion", "end", "()V"⟩, 9), (⟨"SpreadingDeletes$Deletion", "judge", "(LSpreadingDeletes$State;)V"⟩, 9), (⟨"SpreadingDeletes$Deletion", "losesParent", "(LSpreadingDeletes$State;II)Z"⟩, 9), (⟨"SpreadingDeletes$Deletion", "refusalAt", "(LSpreadingDeletes$State;II)I"⟩, 9), (⟨"SpreadingDeletes$Deletion", "changeValues", "(LSpreadingDeletes$State;I)V"⟩, 9), (⟨"SpreadingDeletes$State", "moveRow", "(II)V"⟩, 13), (⟨"SpreadingDeletes$State", "fits", "(III)Z"⟩, 13), (⟨"SpreadingDeletes$Climb", "reachParents", "(LSpreadingDeletes$State;I)V"⟩, 3), (⟨"SpreadingDeletes$Climb", "reach", "(I)V"⟩, 3)]
theorem lw_r1 : ∀ q ∈ lw_privs_1, lw_okq q := List.forall_mem_cons.mpr ⟨lw_p0, List.forall_mem_cons.mpr ⟨lw_p1, List.forall_mem_cons.mpr ⟨lw_p2, List.forall_mem_cons.mpr ⟨lw_p3, List.forall_mem_cons.mpr ⟨lw_p4, List.forall_mem_cons.mpr ⟨lw_p5, List.forall_mem_cons.mpr ⟨lw_p6, List.forall_mem_cons.mpr ⟨lw_p7, List.forall_mem_cons.mpr ⟨lw_p8, List.forall_mem_cons.mpr ⟨lw_p9, List.forall_mem_cons.mpr ⟨lw_p10, List.forall_mem_cons.mpr ⟨lw_p11, List.forall_mem_cons.mpr ⟨lw_p12, List.forall_mem_cons.mpr ⟨lw_p13, List.forall_mem_cons.mpr ⟨lw_p14, List.forall_mem_cons.mpr ⟨lw_p15, fun _ h => absurd h List.not_mem_nil⟩⟩⟩⟩⟩⟩⟩⟩⟩⟩⟩⟩⟩⟩⟩⟩
def lw_privs : List (MethodName × Nat) := lw_privs_1
def lw_tbl : List Cond := k2_sels lw_privs ++ tables_1
theorem lw_privs_ok : ∀ q ∈ lw_privs, lw_okq q := lw_r1
def RX0 : String := "SpreadingDeletes$Climb"
def TX0 : u_T := fun k => match k with
  | 0 => ("SpreadingDeletes$Climb", "marks", "[I", true)
  | 1 => ("SpreadingDeletes$Climb", "reached", "[I", true)
  | _ => ("SpreadingDeletes$Climb", "count", "I", false)
def tyX0 : Nat → FieldType := fun k => match k with
  | 0 => .array .int
  | 1 => .array .int
  | _ => .int
abbrev wsX00 : List Cond := u_ws RX0 TX0 3
theorem nmX0 : ∀ a, a < 3 → ∀ b, b < 3 → a ≠ b → (TX0 a).2.1 ≠ (TX0 b).2.1 := by decide +kernel
theorem tyX0_ok : ∀ k, k < 3 → parseFieldDescriptor (TX0 k).2.2.1 = some (tyX0 k) := by decide +kernel
def RX1 : String := "SpreadingDeletes$Deletion"
def TX1 : u_T := fun k => match k with
  | 0 => ("SpreadingDeletes$Deletion", "order", "[I", true)
  | 1 => ("SpreadingDeletes$Deletion", "count", "I", false)
  | 2 => ("SpreadingDeletes$Deletion", "refusal", "I", false)
  | 3 => ("SpreadingDeletes$Deletion", "blocker", "I", false)
  | 4 => ("SpreadingDeletes$Deletion", "changes", "I", false)
  | 5 => ("SpreadingDeletes$Deletion", "marks", "[I", true)
  | 6 => ("SpreadingDeletes$Deletion", "open", "[I", true)
  | 7 => ("SpreadingDeletes$Deletion", "places", "[I", true)
  | _ => ("SpreadingDeletes$Deletion", "depth", "I", false)
def tyX1 : Nat → FieldType := fun k => match k with
  | 0 => .array .int
  | 1 => .int
  | 2 => .int
  | 3 => .int
  | 4 => .int
  | 5 => .array .int
  | 6 => .array .int
  | 7 => .array .int
  | _ => .int
abbrev wsX10 : List Cond := u_ws RX1 TX1 9
theorem nmX1 : ∀ a, a < 9 → ∀ b, b < 9 → a ≠ b → (TX1 a).2.1 ≠ (TX1 b).2.1 := by decide +kernel
theorem tyX1_ok : ∀ k, k < 9 → parseFieldDescriptor (TX1 k).2.2.1 = some (tyX1 k) := by decide +kernel
def RX2 : String := "SpreadingDeletes$History"
def TX2 : u_T := fun k => match k with
  | 0 => ("SpreadingDeletes$History", "states", "[LSpreadingDeletes$State;", true)
  | _ => ("SpreadingDeletes$History", "count", "I", false)
def tyX2 : Nat → FieldType := fun k => match k with
  | 0 => .array (.object "SpreadingDeletes$State")
  | _ => .int
abbrev wsX20 : List Cond := u_ws RX2 TX2 2
theorem nmX2 : ∀ a, a < 2 → ∀ b, b < 2 → a ≠ b → (TX2 a).2.1 ≠ (TX2 b).2.1 := by decide +kernel
theorem tyX2_ok : ∀ k, k < 2 → parseFieldDescriptor (TX2 k).2.2.1 = some (tyX2 k) := by decide +kernel
def RX3 : String := "SpreadingDeletes$Script"
def TX3 : u_T := fun k => match k with
  | 0 => ("SpreadingDeletes$Script", "characters", "[C", true)
  | 1 => ("SpreadingDeletes$Script", "length", "I", false)
  | 2 => ("SpreadingDeletes$Script", "kind", "I", false)
  | 3 => ("SpreadingDeletes$Script", "table", "I", false)
  | 4 => ("SpreadingDeletes$Script", "key", "I", false)
  | 5 => ("SpreadingDeletes$Script", "column", "I", false)
  | 6 => ("SpreadingDeletes$Script", "first", "I", false)
  | 7 => ("SpreadingDeletes$Script", "second", "I", false)
  | 8 => ("SpreadingDeletes$Script", "place", "I", false)
  | _ => ("SpreadingDeletes$Script", "number", "I", false)
def tyX3 : Nat → FieldType := fun k => match k with
  | 0 => .array .char
  | 1 => .int
  | 2 => .int
  | 3 => .int
  | 4 => .int
  | 5 => .int
  | 6 => .int
  | 7 => .int
  | 8 => .int
  | _ => .int
abbrev wsX30 : List Cond := u_ws RX3 TX3 10
theorem nmX3 : ∀ a, a < 10 → ∀ b, b < 10 → a ≠ b → (TX3 a).2.1 ≠ (TX3 b).2.1 := by decide +kernel
theorem tyX3_ok : ∀ k, k < 10 → parseFieldDescriptor (TX3 k).2.2.1 = some (tyX3 k) := by decide +kernel
def RX4 : String := "SpreadingDeletes$State"
def TX4 : u_T := fun k => match k with
  | 0 => ("SpreadingDeletes$State", "tables", "I", false)
  | 1 => ("SpreadingDeletes$State", "references", "I", false)
  | 2 => ("SpreadingDeletes$State", "rowCounts", "[I", true)
  | 3 => ("SpreadingDeletes$State", "columnCounts", "[I", true)
  | 4 => ("SpreadingDeletes$State", "columnReferences", "[I", true)
  | 5 => ("SpreadingDeletes$State", "facts", "[I", true)
  | 6 => ("SpreadingDeletes$State", "keys", "[I", true)
  | 7 => ("SpreadingDeletes$State", "values", "[I", true)
  | 8 => ("SpreadingDeletes$State", "latest", "[I", true)
  | 9 => ("SpreadingDeletes$State", "latestCount", "I", false)
  | 10 => ("SpreadingDeletes$State", "insertedSoFar", "I", false)
  | 11 => ("SpreadingDeletes$State", "deletedSoFar", "I", false)
  | _ => ("SpreadingDeletes$State", "changedSoFar", "I", false)
def tyX4 : Nat → FieldType := fun k => match k with
  | 0 => .int
  | 1 => .int
  | 2 => .array .int
  | 3 => .array .int
  | 4 => .array .int
  | 5 => .array .int
  | 6 => .array .int
  | 7 => .array .int
  | 8 => .array .int
  | 9 => .int
  | 10 => .int
  | 11 => .int
  | _ => .int
abbrev wsX40 : List Cond := u_ws RX4 TX4 13
theorem nmX4 : ∀ a, a < 13 → ∀ b, b < 13 → a ≠ b → (TX4 a).2.1 ≠ (TX4 b).2.1 := by decide +kernel
theorem tyX4_ok : ∀ k, k < 13 → parseFieldDescriptor (TX4 k).2.2.1 = some (tyX4 k) := by decide +kernel
def RX5 : String := "SpreadingDeletes"
def TX5 : u_T := fun k => match k with
  | 0 => ("SpreadingDeletes", "now", "LSpreadingDeletes$State;", true)
  | 1 => ("SpreadingDeletes", "before", "LSpreadingDeletes$State;", true)
  | 2 => ("SpreadingDeletes", "snapshot", "LSpreadingDeletes$State;", true)
  | 3 => ("SpreadingDeletes", "snapshotTaken", "Z", false)
  | 4 => ("SpreadingDeletes", "history", "LSpreadingDeletes$History;", true)
  | 5 => ("SpreadingDeletes", "script", "LSpreadingDeletes$Script;", true)
  | 6 => ("SpreadingDeletes", "deletion", "LSpreadingDeletes$Deletion;", true)
  | _ => ("SpreadingDeletes", "climb", "LSpreadingDeletes$Climb;", true)
def tyX5 : Nat → FieldType := fun k => match k with
  | 0 => .object "SpreadingDeletes$State"
  | 1 => .object "SpreadingDeletes$State"
  | 2 => .object "SpreadingDeletes$State"
  | 3 => .boolean
  | 4 => .object "SpreadingDeletes$History"
  | 5 => .object "SpreadingDeletes$Script"
  | 6 => .object "SpreadingDeletes$Deletion"
  | _ => .object "SpreadingDeletes$Climb"
abbrev wsX50 : List Cond := u_ws RX5 TX5 8
theorem nmX5 : ∀ a, a < 8 → ∀ b, b < 8 → a ≠ b → (TX5 a).2.1 ≠ (TX5 b).2.1 := by decide +kernel
theorem tyX5_ok : ∀ k, k < 8 → parseFieldDescriptor (TX5 k).2.2.1 = some (tyX5 k) := by decide +kernel
def RJ7 : String := "java/util/Arrays"
def RL : String := "SpreadingDeletesLaw"
abbrev RX6 : String := RX5
abbrev TX6 : u_T := TX5
abbrev tyX6 := tyX5
abbrev cX0_init : ByteArray := prog_2_method_1_code
def yX0_init : MethodName := ⟨RX0, "<init>", "()V"⟩
abbrev cX0_leadsBack : ByteArray := prog_2_method_2_code
def yX0_leadsBack : MethodName := ⟨RX0, "leadsBack", "(LSpreadingDeletes$State;I)Z"⟩
abbrev cX0_reachParents : ByteArray := prog_2_method_3_code
def yX0_reachParents : MethodName := ⟨RX0, "reachParents", "(LSpreadingDeletes$State;I)V"⟩
abbrev cX0_reach : ByteArray := prog_2_method_4_code
def yX0_reach : MethodName := ⟨RX0, "reach", "(I)V"⟩
abbrev cX1_init : ByteArray := prog_3_method_1_code
def yX1_init : MethodName := ⟨RX1, "<init>", "()V"⟩
abbrev cX1_plan : ByteArray := prog_3_method_2_code
def yX1_plan : MethodName := ⟨RX1, "plan", "(LSpreadingDeletes$State;II)I"⟩
abbrev cX1_gather : ByteArray := prog_3_method_3_code
def yX1_gather : MethodName := ⟨RX1, "gather", "(LSpreadingDeletes$State;I)V"⟩
abbrev cX1_begin : ByteArray := prog_3_method_4_code
def yX1_begin : MethodName := ⟨RX1, "begin", "(I)V"⟩
abbrev cX1_end : ByteArray := prog_3_method_5_code
def yX1_end : MethodName := ⟨RX1, "end", "()V"⟩
abbrev cX1_nextChild : ByteArray := prog_3_method_6_code
def yX1_nextChild : MethodName := ⟨RX1, "nextChild", "(LSpreadingDeletes$State;)I"⟩
abbrev cX1_judge : ByteArray := prog_3_method_7_code
def yX1_judge : MethodName := ⟨RX1, "judge", "(LSpreadingDeletes$State;)V"⟩
abbrev cX1_losesParent : ByteArray := prog_3_method_8_code
def yX1_losesParent : MethodName := ⟨RX1, "losesParent", "(LSpreadingDeletes$State;II)Z"⟩
abbrev cX1_isMarked : ByteArray := prog_3_method_9_code
def yX1_isMarked : MethodName := ⟨RX1, "isMarked", "(I)Z"⟩
abbrev cX1_refusalAt : ByteArray := prog_3_method_10_code
def yX1_refusalAt : MethodName := ⟨RX1, "refusalAt", "(LSpreadingDeletes$State;II)I"⟩
abbrev cX1_newValue : ByteArray := prog_3_method_11_code
def yX1_newValue : MethodName := ⟨RX1, "newValue", "(LSpreadingDeletes$State;I)I"⟩
abbrev cX1_carryOut : ByteArray := prog_3_method_12_code
def yX1_carryOut : MethodName := ⟨RX1, "carryOut", "(LSpreadingDeletes$State;)I"⟩
abbrev cX1_changeValues : ByteArray := prog_3_method_13_code
def yX1_changeValues : MethodName := ⟨RX1, "changeValues", "(LSpreadingDeletes$State;I)V"⟩
abbrev cX2_init : ByteArray := prog_4_method_1_code
def yX2_init : MethodName := ⟨RX2, "<init>", "()V"⟩
abbrev cX2_remember : ByteArray := prog_4_method_2_code
def yX2_remember : MethodName := ⟨RX2, "remember", "(LSpreadingDeletes$State;)V"⟩
abbrev cX2_dropOldest : ByteArray := prog_4_method_3_code
def yX2_dropOldest : MethodName := ⟨RX2, "dropOldest", "()V"⟩
abbrev cX2_bringBack : ByteArray := prog_4_method_4_code
def yX2_bringBack : MethodName := ⟨RX2, "bringBack", "(LSpreadingDeletes$State;)I"⟩
abbrev cX3_init : ByteArray := prog_5_method_1_code
def yX3_init : MethodName := ⟨RX3, "<init>", "()V"⟩
abbrev cX4_init : ByteArray := prog_6_method_1_code
def yX4_init : MethodName := ⟨RX4, "<init>", "()V"⟩
abbrev cX4_copyFrom : ByteArray := prog_6_method_2_code
def yX4_copyFrom : MethodName := ⟨RX4, "copyFrom", "(LSpreadingDeletes$State;)V"⟩
abbrev cX4_hasTable : ByteArray := prog_6_method_3_code
def yX4_hasTable : MethodName := ⟨RX4, "hasTable", "(I)Z"⟩
abbrev cX4_hasReference : ByteArray := prog_6_method_4_code
def yX4_hasReference : MethodName := ⟨RX4, "hasReference", "(I)Z"⟩
abbrev cX4_hasColumn : ByteArray := prog_6_method_5_code
def yX4_hasColumn : MethodName := ⟨RX4, "hasColumn", "(II)Z"⟩
abbrev cX4_hasRow : ByteArray := prog_6_method_6_code
def yX4_hasRow : MethodName := ⟨RX4, "hasRow", "(II)Z"⟩
abbrev cX4_slotOf : ByteArray := prog_6_method_7_code
def yX4_slotOf : MethodName := ⟨RX4, "slotOf", "(II)I"⟩
abbrev cX4_valueAt : ByteArray := prog_6_method_8_code
def yX4_valueAt : MethodName := ⟨RX4, "valueAt", "(II)I"⟩
abbrev cX4_fact : ByteArray := prog_6_method_9_code
def yX4_fact : MethodName := ⟨RX4, "fact", "(II)I"⟩
abbrev cX4_referenceOf : ByteArray := prog_6_method_10_code
def yX4_referenceOf : MethodName := ⟨RX4, "referenceOf", "(II)I"⟩
abbrev cX4_childAt : ByteArray := prog_6_method_11_code
def yX4_childAt : MethodName := ⟨RX4, "childAt", "(II)I"⟩
abbrev cX4_parentAt : ByteArray := prog_6_method_12_code
def yX4_parentAt : MethodName := ⟨RX4, "parentAt", "(II)I"⟩
abbrev cX4_countRows : ByteArray := prog_6_method_13_code
def yX4_countRows : MethodName := ⟨RX4, "countRows", "()I"⟩
abbrev cX4_countNulls : ByteArray := prog_6_method_14_code
def yX4_countNulls : MethodName := ⟨RX4, "countNulls", "()I"⟩
abbrev cX4_countChildren : ByteArray := prog_6_method_15_code
def yX4_countChildren : MethodName := ⟨RX4, "countChildren", "(II)I"⟩
abbrev cX4_appendTable : ByteArray := prog_6_method_16_code
def yX4_appendTable : MethodName := ⟨RX4, "appendTable", "()I"⟩
abbrev cX4_appendReference : ByteArray := prog_6_method_17_code
def yX4_appendReference : MethodName := ⟨RX4, "appendReference", "(IIIZI)I"⟩
abbrev cX4_checkInsert : ByteArray := prog_6_method_18_code
def yX4_checkInsert : MethodName := ⟨RX4, "checkInsert", "(IIII)I"⟩
abbrev cX4_checkUpdate : ByteArray := prog_6_method_19_code
def yX4_checkUpdate : MethodName := ⟨RX4, "checkUpdate", "(IIII)I"⟩
abbrev cX4_fits : ByteArray := prog_6_method_20_code
def yX4_fits : MethodName := ⟨RX4, "fits", "(III)Z"⟩
abbrev cX4_isMissing : ByteArray := prog_6_method_21_code
def yX4_isMissing : MethodName := ⟨RX4, "isMissing", "(III)Z"⟩
abbrev cX4_hasNoParent : ByteArray := prog_6_method_22_code
def yX4_hasNoParent : MethodName := ⟨RX4, "hasNoParent", "(IIII)Z"⟩
abbrev cX4_addRow : ByteArray := prog_6_method_23_code
def yX4_addRow : MethodName := ⟨RX4, "addRow", "(IIII)I"⟩
abbrev cX4_changeValue : ByteArray := prog_6_method_24_code
def yX4_changeValue : MethodName := ⟨RX4, "changeValue", "(IIII)I"⟩
abbrev cX4_removeRow : ByteArray := prog_6_method_25_code
def yX4_removeRow : MethodName := ⟨RX4, "removeRow", "(I)V"⟩
abbrev cX4_moveRow : ByteArray := prog_6_method_26_code
def yX4_moveRow : MethodName := ⟨RX4, "moveRow", "(II)V"⟩
abbrev cX5_init : ByteArray := prog_1_method_1_code
def yX5_init : MethodName := ⟨RX5, "<init>", "()V"⟩
abbrev cX5_addTable : ByteArray := prog_1_method_2_code
def yX5_addTable : MethodName := ⟨RX5, "addTable", "()I"⟩
abbrev cX5_addReference : ByteArray := prog_1_method_3_code
def yX5_addReference : MethodName := ⟨RX5, "addReference", "(IIIZI)I"⟩
abbrev cX5_setRule : ByteArray := prog_1_method_4_code
def yX5_setRule : MethodName := ⟨RX5, "setRule", "(II)I"⟩
abbrev cX5_insert : ByteArray := prog_1_method_5_code
def yX5_insert : MethodName := ⟨RX5, "insert", "(IIII)I"⟩
abbrev cX5_update : ByteArray := prog_1_method_6_code
def yX5_update : MethodName := ⟨RX5, "update", "(IIII)I"⟩
abbrev cX5_delete : ByteArray := prog_1_method_7_code
def yX5_delete : MethodName := ⟨RX5, "delete", "(II)I"⟩
abbrev cX5_undo : ByteArray := prog_1_method_11_code
def yX5_undo : MethodName := ⟨RX5, "undo", "()I"⟩
abbrev cX5_keep : ByteArray := prog_1_method_12_code
def yX5_keep : MethodName := ⟨RX5, "keep", "()I"⟩
abbrev cX5_restore : ByteArray := prog_1_method_13_code
def yX5_restore : MethodName := ⟨RX5, "restore", "()I"⟩
abbrev cX5_rows : ByteArray := prog_1_method_14_code
def yX5_rows : MethodName := ⟨RX5, "rows", "(I)I"⟩
abbrev cX5_keyAt : ByteArray := prog_1_method_15_code
def yX5_keyAt : MethodName := ⟨RX5, "keyAt", "(II)I"⟩
abbrev cX5_value : ByteArray := prog_1_method_16_code
def yX5_value : MethodName := ⟨RX5, "value", "(III)I"⟩
abbrev cX5_children : ByteArray := prog_1_method_17_code
def yX5_children : MethodName := ⟨RX5, "children", "(II)I"⟩
abbrev cX5_reference : ByteArray := prog_1_method_18_code
def yX5_reference : MethodName := ⟨RX5, "reference", "(II)I"⟩
abbrev cX5_deleted : ByteArray := prog_1_method_19_code
def yX5_deleted : MethodName := ⟨RX5, "deleted", "(I)I"⟩
abbrev cX5_total : ByteArray := prog_1_method_20_code
def yX5_total : MethodName := ⟨RX5, "total", "(I)I"⟩
abbrev cX5_gathered : ByteArray := prog_1_method_21_code
def yX5_gathered : MethodName := ⟨RX5, "gathered", "(III)I"⟩
abbrev cX5_reason : ByteArray := prog_1_method_22_code
def yX5_reason : MethodName := ⟨RX5, "reason", "(II)I"⟩
abbrev cX5_blocking : ByteArray := prog_1_method_23_code
def yX5_blocking : MethodName := ⟨RX5, "blocking", "(II)I"⟩
abbrev cX5_wouldChange : ByteArray := prog_1_method_24_code
def yX5_wouldChange : MethodName := ⟨RX5, "wouldChange", "(II)I"⟩
abbrev cX5_isInRing : ByteArray := prog_1_method_25_code
def yX5_isInRing : MethodName := ⟨RX5, "isInRing", "(II)I"⟩
abbrev cX5_deletable : ByteArray := prog_1_method_26_code
def yX5_deletable : MethodName := ⟨RX5, "deletable", "(I)I"⟩
abbrev cX5_isRule : ByteArray := prog_1_method_28_code
def yX5_isRule : MethodName := ⟨RX5, "isRule", "(I)Z"⟩
abbrev cX5_isKey : ByteArray := prog_1_method_29_code
def yX5_isKey : MethodName := ⟨RX5, "isKey", "(I)Z"⟩
abbrev cX5_isValue : ByteArray := prog_1_method_30_code
def yX5_isValue : MethodName := ⟨RX5, "isValue", "(I)Z"⟩
abbrev cX5_rowNumber : ByteArray := prog_1_method_31_code
def yX5_rowNumber : MethodName := ⟨RX5, "rowNumber", "(II)I"⟩
abbrev cJ7_fill_53178 : ByteArray := prog_10_method_103_code
def yJ7_fill_53178 : MethodName := ⟨RJ7, "fill", "([II)V"⟩
abbrev cL_cell : ByteArray := method_2_code
def yL_cell : MethodName := ⟨RL, "cell", "([II)I"⟩
abbrev cL_up : ByteArray := method_3_code
def yL_up : MethodName := ⟨RL, "up", "(II)I"⟩
abbrev cL_told : ByteArray := method_4_code
def yL_told : MethodName := ⟨RL, "told", "(LSpreadingDeletes;)J"⟩
abbrev cL_act : ByteArray := method_5_code
def yL_act : MethodName := ⟨RL, "act", "(LSpreadingDeletes;II)I"⟩
abbrev cL_columns : ByteArray := method_6_code
def yL_columns : MethodName := ⟨RL, "columns", "(LSpreadingDeletes;I)I"⟩
abbrev cL_isRow : ByteArray := method_7_code
def yL_isRow : MethodName := ⟨RL, "isRow", "(LSpreadingDeletes;II)Z"⟩
abbrev cL_holds : ByteArray := method_8_code
def yL_holds : MethodName := ⟨RL, "holds", "(LSpreadingDeletes;)Z"⟩
abbrev cL_isRing : ByteArray := method_9_code
def yL_isRing : MethodName := ⟨RL, "isRing", "(LSpreadingDeletes;II)Z"⟩
abbrev cL_isAhead : ByteArray := method_10_code
def yL_isAhead : MethodName := ⟨RL, "isAhead", "(LSpreadingDeletes;II)Z"⟩
abbrev cL_law : ByteArray := code
def yL_law : MethodName := ⟨RL, "law", "([I)Z"⟩
abbrev classes : List vw_C := [(RX0, TX0, 3), (RX1, TX1, 9), (RX2, TX2, 2), (RX3, TX3, 10), (RX4, TX4, 13), (RX5, TX5, 8), (RX6, TX6, 8)]
theorem goodIn_r_ {big : List Cond} (ws : List Cond) (ps : List Nat) (hp : ws = ps.filterMap (fun i => big[i]?)) (h : ws.all goodWord = true) : GoodIn big ws := by
  intro w hw
  have h1 := List.all_eq_true.mp h w hw
  rw [hp] at hw
  obtain ⟨i, -, hi⟩ := List.mem_filterMap.mp hw
  exact ⟨List.mem_of_getElem? hi, good_of_word h1⟩
/-- the words that stay true under warmer tables -/
def lw_u : List Cond := lw_tbl.filter goodWord
theorem lw_u_good : lw_u.all goodWord = true := List.all_eq_true.mpr fun w hw => (List.mem_filter.mp hw).2
theorem lw_u_in : ∀ w ∈ lw_u, w ∈ lw_tbl := fun w hw => (List.mem_filter.mp hw).1
theorem lw_u_goodIn : GoodIn lw_u lw_u := fun w hw => ⟨hw, good_of_word (List.all_eq_true.mp lw_u_good w hw)⟩

set_option maxRecDepth 20000 in
theorem inX0 : ∀ w ∈ wsX00, w ∈ lw_u := fun w h => List.mem_filter.mpr ⟨(goodIn_r_ wsX00 [201, 203, 205] (by decide +kernel) (by decide +kernel) w h).1, List.all_eq_true.mp (show List.all wsX00 goodWord = true by decide +kernel) w h⟩
set_option maxRecDepth 20000 in
theorem inX1 : ∀ w ∈ wsX10, w ∈ lw_u := fun w h => List.mem_filter.mpr ⟨(goodIn_r_ wsX10 [173, 175, 177, 179, 181, 183, 185, 187, 189] (by decide +kernel) (by decide +kernel) w h).1, List.all_eq_true.mp (show List.all wsX10 goodWord = true by decide +kernel) w h⟩
set_option maxRecDepth 20000 in
theorem inX2 : ∀ w ∈ wsX20, w ∈ lw_u := fun w h => List.mem_filter.mpr ⟨(goodIn_r_ wsX20 [109, 111] (by decide +kernel) (by decide +kernel) w h).1, List.all_eq_true.mp (show List.all wsX20 goodWord = true by decide +kernel) w h⟩
set_option maxRecDepth 20000 in
theorem inX3 : ∀ w ∈ wsX30, w ∈ lw_u := fun w h => List.mem_filter.mpr ⟨(goodIn_r_ wsX30 [131, 133, 135, 137, 139, 141, 143, 145, 147, 149] (by decide +kernel) (by decide +kernel) w h).1, List.all_eq_true.mp (show List.all wsX30 goodWord = true by decide +kernel) w h⟩
set_option maxRecDepth 20000 in
theorem inX4 : ∀ w ∈ wsX40, w ∈ lw_u := fun w h => List.mem_filter.mpr ⟨(goodIn_r_ wsX40 [69, 71, 73, 75, 77, 79, 81, 83, 85, 87, 89, 91, 93] (by decide +kernel) (by decide +kernel) w h).1, List.all_eq_true.mp (show List.all wsX40 goodWord = true by decide +kernel) w h⟩
set_option maxRecDepth 20000 in
theorem inX5 : ∀ w ∈ wsX50, w ∈ lw_u := fun w h => List.mem_filter.mpr ⟨(goodIn_r_ wsX50 [216, 218, 220, 222, 224, 226, 228, 230] (by decide +kernel) (by decide +kernel) w h).1, List.all_eq_true.mp (show List.all wsX50 goodWord = true by decide +kernel) w h⟩
theorem tyX6_ok : ∀ k, k < 8 → parseFieldDescriptor (TX6 k).2.2.1 = some (tyX6 k) := tyX5_ok
theorem nmX6 : ∀ a, a < 8 → ∀ b, b < 8 → a ≠ b → (TX6 a).2.1 ≠ (TX6 b).2.1 := nmX5
theorem inX6 : ∀ w ∈ wsX50, w ∈ lw_u := inX5
