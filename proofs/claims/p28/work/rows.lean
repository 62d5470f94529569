section
-- PART A of the kit's skeleton (starting text), then the names and fields as TURN prints them
/-- a private method of a class that the tables say can be made, by its rows of tables_1 -/
def lw_okq (q : MethodName × Nat) : Prop := (q.1.cls ≠ "java/lang/invoke/MethodHandle" ∧ q.1.cls ≠ "java/lang/invoke/VarHandle") ∧ Cond.instantiable q.1.cls q.2 ∈ tables_1 ∧ Cond.privateMethod q.1 ∈ tables_1 ∧ Cond.instanceMethod q.1 ∈ tables_1
theorem lw_p0 : lw_okq (⟨"SpreadingDeletes$History", "dropOldest", "()V"⟩, 2) := ⟨⟨by decide +kernel, by decide +kernel⟩, List.mem_of_getElem? (i := 82) (by decide +kernel), List.mem_of_getElem? (i := 226) (by decide +kernel), List.mem_of_getElem? (i := 227) (by decide +kernel)⟩
theorem lw_p1 : lw_okq (⟨"SpreadingDeletes$State", "isMissing", "(III)Z"⟩, 13) := ⟨⟨by decide +kernel, by decide +kernel⟩, List.mem_of_getElem? (i := 18) (by decide +kernel), List.mem_of_getElem? (i := 369) (by decide +kernel), List.mem_of_getElem? (i := 370) (by decide +kernel)⟩
theorem lw_p2 : lw_okq (⟨"SpreadingDeletes$State", "hasNoParent", "(IIII)Z"⟩, 13) := ⟨⟨by decide +kernel, by decide +kernel⟩, List.mem_of_getElem? (i := 18) (by decide +kernel), List.mem_of_getElem? (i := 377) (by decide +kernel), List.mem_of_getElem? (i := 378) (by decide +kernel)⟩
theorem lw_p3 : lw_okq (⟨"SpreadingDeletes$Deletion", "gather", "(LSpreadingDeletes$State;I)V"⟩, 9) := ⟨⟨by decide +kernel, by decide +kernel⟩, List.mem_of_getElem? (i := 138) (by decide +kernel), List.mem_of_getElem? (i := 401) (by decide +kernel), List.mem_of_getElem? (i := 402) (by decide +kernel)⟩
theorem lw_p4 : lw_okq (⟨"SpreadingDeletes$Deletion", "begin", "(I)V"⟩, 9) := ⟨⟨by decide +kernel, by decide +kernel⟩, List.mem_of_getElem? (i := 138) (by decide +kernel), List.mem_of_getElem? (i := 408) (by decide +kernel), List.mem_of_getElem? (i := 409) (by decide +kernel)⟩
theorem lw_p5 : lw_okq (⟨"SpreadingDeletes$Deletion", "nextChild", "(LSpreadingDeletes$State;)I"⟩, 9) := ⟨⟨by decide +kernel, by decide +kernel⟩, List.mem_of_getElem? (i := 138) (by decide +kernel), List.mem_of_getElem? (i := 412) (by decide +kernel), List.mem_of_getElem? (i := 413) (by decide +kernel)⟩
theorem lw_p6 : lw_okq (⟨"SpreadingDeletes$Deletion", "isMarked", "(I)Z"⟩, 9) := ⟨⟨by decide +kernel, by decide +kernel⟩, List.mem_of_getElem? (i := 138) (by decide +kernel), List.mem_of_getElem? (i := 426) (by decide +kernel), List.mem_of_getElem? (i := 427) (by decide +kernel)⟩
theorem lw_p7 : lw_okq (⟨"SpreadingDeletes$Deletion", "end", "()V"⟩, 9) := ⟨⟨by decide +kernel, by decide +kernel⟩, List.mem_of_getElem? (i := 138) (by decide +kernel), List.mem_of_getElem? (i := 430) (by decide +kernel), List.mem_of_getElem? (i := 431) (by decide +kernel)⟩
theorem lw_p8 : lw_okq (⟨"SpreadingDeletes$Deletion", "judge", "(LSpreadingDeletes$State;)V"⟩, 9) := ⟨⟨by decide +kernel, by decide +kernel⟩, List.mem_of_getElem? (i := 138) (by decide +kernel), List.mem_of_getElem? (i := 434) (by decide +kernel), List.mem_of_getElem? (i := 435) (by decide +kernel)⟩
theorem lw_p9 : lw_okq (⟨"SpreadingDeletes$Deletion", "losesParent", "(LSpreadingDeletes$State;II)Z"⟩, 9) := ⟨⟨by decide +kernel, by decide +kernel⟩, List.mem_of_getElem? (i := 138) (by decide +kernel), List.mem_of_getElem? (i := 438) (by decide +kernel), List.mem_of_getElem? (i := 439) (by decide +kernel)⟩
theorem lw_p10 : lw_okq (⟨"SpreadingDeletes$Deletion", "refusalAt", "(LSpreadingDeletes$State;II)I"⟩, 9) := ⟨⟨by decide +kernel, by decide +kernel⟩, List.mem_of_getElem? (i := 138) (by decide +kernel), List.mem_of_getElem? (i := 442) (by decide +kernel), List.mem_of_getElem? (i := 443) (by decide +kernel)⟩
theorem lw_p11 : lw_okq (⟨"SpreadingDeletes$Deletion", "changeValues", "(LSpreadingDeletes$State;I)V"⟩, 9) := ⟨⟨by decide +kernel, by decide +kernel⟩, List.mem_of_getElem? (i := 138) (by decide +kernel), List.mem_of_getElem? (i := 453) (by decide +kernel), List.mem_of_getElem? (i := 454) (by decide +kernel)⟩
theorem lw_p12 : lw_okq (⟨"SpreadingDeletes$State", "moveRow", "(II)V"⟩, 13) := ⟨⟨by decide +kernel, by decide +kernel⟩, List.mem_of_getElem? (i := 18) (by decide +kernel), List.mem_of_getElem? (i := 462) (by decide +kernel), List.mem_of_getElem? (i := 463) (by decide +kernel)⟩
theorem lw_p13 : lw_okq (⟨"SpreadingDeletes$State", "fits", "(III)Z"⟩, 13) := ⟨⟨by decide +kernel, by decide +kernel⟩, List.mem_of_getElem? (i := 18) (by decide +kernel), List.mem_of_getElem? (i := 479) (by decide +kernel), List.mem_of_getElem? (i := 480) (by decide +kernel)⟩
theorem lw_p14 : lw_okq (⟨"SpreadingDeletes$Climb", "reachParents", "(LSpreadingDeletes$State;I)V"⟩, 3) := ⟨⟨by decide +kernel, by decide +kernel⟩, List.mem_of_getElem? (i := 177) (by decide +kernel), List.mem_of_getElem? (i := 535) (by decide +kernel), List.mem_of_getElem? (i := 536) (by decide +kernel)⟩
theorem lw_p15 : lw_okq (⟨"SpreadingDeletes$Climb", "reach", "(I)V"⟩, 3) := ⟨⟨by decide +kernel, by decide +kernel⟩, List.mem_of_getElem? (i := 177) (by decide +kernel), List.mem_of_getElem? (i := 544) (by decide +kernel), List.mem_of_getElem? (i := 545) (by decide +kernel)⟩
def lw_privs_1 : List (MethodName × Nat) := [(⟨"SpreadingDeletes$History", "dropOldest", "()V"⟩, 2), (⟨"SpreadingDeletes$State", "isMissing", "(III)Z"⟩, 13), (⟨"SpreadingDeletes$State", "hasNoParent", "(IIII)Z"⟩, 13), (⟨"SpreadingDeletes$Deletion", "gather", "(LSpreadingDeletes$State;I)V"⟩, 9), (⟨"SpreadingDeletes$Deletion", "begin", "(I)V"⟩, 9), (⟨"SpreadingDeletes$Deletion", "nextChild", "(LSpreadingDeletes$State;)I"⟩, 9), (⟨"SpreadingDeletes$Deletion", "isMarked", "(I)Z"⟩, 9), (⟨"SpreadingDeletes$Deletion", "end", "()V"⟩, 9), (⟨"SpreadingDeletes$Deletion", "judge", "(LSpreadingDeletes$State;)V"⟩, 9), (⟨"SpreadingDeletes$Deletion", "losesParent", "(LSpreadingDeletes$State;II)Z"⟩, 9), (⟨"SpreadingDeletes$Deletion", "refusalAt", "(LSpreadingDeletes$State;II)I"⟩, 9), (⟨"SpreadingDeletes$Deletion", "changeValues", "(LSpreadingDeletes$State;I)V"⟩, 9), (⟨"SpreadingDeletes$State", "moveRow", "(II)V"⟩, 13), (⟨"SpreadingDeletes$State", "fits", "(III)Z"⟩, 13), (⟨"SpreadingDeletes$Climb", "reachParents", "(LSpreadingDeletes$State;I)V"⟩, 3), (⟨"SpreadingDeletes$Climb", "reach", "(I)V"⟩, 3)]
theorem lw_r1 : ∀ q ∈ lw_privs_1, lw_okq q := List.forall_mem_cons.mpr ⟨lw_p0, List.forall_mem_cons.mpr ⟨lw_p1, List.forall_mem_cons.mpr ⟨lw_p2, List.forall_mem_cons.mpr ⟨lw_p3, List.forall_mem_cons.mpr ⟨lw_p4, List.forall_mem_cons.mpr ⟨lw_p5, List.forall_mem_cons.mpr ⟨lw_p6, List.forall_mem_cons.mpr ⟨lw_p7, List.forall_mem_cons.mpr ⟨lw_p8, List.forall_mem_cons.mpr ⟨lw_p9, List.forall_mem_cons.mpr ⟨lw_p10, List.forall_mem_cons.mpr ⟨lw_p11, List.forall_mem_cons.mpr ⟨lw_p12, List.forall_mem_cons.mpr ⟨lw_p13, List.forall_mem_cons.mpr ⟨lw_p14, List.forall_mem_cons.mpr ⟨lw_p15, fun _ h => absurd h List.not_mem_nil⟩⟩⟩⟩⟩⟩⟩⟩⟩⟩⟩⟩⟩⟩⟩⟩
def lw_privs : List (MethodName × Nat) := lw_privs_1
def lw_tbl : List Cond := k2_sels lw_privs ++ tables_1
theorem lw_privs_ok : ∀ q ∈ lw_privs, lw_okq q := lw_r1
def RX0 : String := "SpreadingDeletes$Climb"
def TX0 : u_T := fun k => match k with
  | 0 => ("SpreadingDeletes$Climb", "marks", "[I", true)
  | 1 => ("SpreadingDeletes$Climb", "reached", "[I", true)
  | _ => ("SpreadingDeletes$Climb", "count", "I", false)
def tyX0 : Nat → FieldType := fun k => match k with
  | 0 => .array .int
  | 1 => .array .int
  | _ => .int
abbrev wsX00 : List Cond := u_ws RX0 TX0 3
theorem nmX0 : ∀ a, a < 3 → ∀ b, b < 3 → a ≠ b → (TX0 a).2.1 ≠ (TX0 b).2.1 := by decide +kernel
theorem tyX0_ok : ∀ k, k < 3 → parseFieldDescriptor (TX0 k).2.2.1 = some (tyX0 k) := by decide +kernel
def RX1 : String := "SpreadingDeletes$Deletion"
def TX1 : u_T := fun k => match k with
  | 0 => ("SpreadingDeletes$Deletion", "order", "[I", true)
  | 1 => ("SpreadingDeletes$Deletion", "count", "I", false)
  | 2 => ("SpreadingDeletes$Deletion", "refusal", "I", false)
  | 3 => ("SpreadingDeletes$Deletion", "blocker", "I", false)
  | 4 => ("SpreadingDeletes$Deletion", "changes", "I", false)
  | 5 => ("SpreadingDeletes$Deletion", "marks", "[I", true)
  | 6 => ("SpreadingDeletes$Deletion", "open", "[I", true)
  | 7 => ("SpreadingDeletes$Deletion", "places", "[I", true)
  | _ => ("SpreadingDeletes$Deletion", "depth", "I", false)
def tyX1 : Nat → FieldType := fun k => match k with
  | 0 => .array .int
  | 1 => .int
  | 2 => .int
  | 3 => .int
  | 4 => .int
  | 5 => .array .int
  | 6 => .array .int
  | 7 => .array .int
  | _ => .int
abbrev wsX10 : List Cond := u_ws RX1 TX1 9
theorem nmX1 : ∀ a, a < 9 → ∀ b, b < 9 → a ≠ b → (TX1 a).2.1 ≠ (TX1 b).2.1 := by decide +kernel
theorem tyX1_ok : ∀ k, k < 9 → parseFieldDescriptor (TX1 k).2.2.1 = some (tyX1 k) := by decide +kernel
def RX2 : String := "SpreadingDeletes$History"
def TX2 : u_T := fun k => match k with
  | 0 => ("SpreadingDeletes$History", "states", "[LSpreadingDeletes$State;", true)
  | _ => ("SpreadingDeletes$History", "count", "I", false)
def tyX2 : Nat → FieldType := fun k => match k with
  | 0 => .array (.object "SpreadingDeletes$State")
  | _ => .int
abbrev wsX20 : List Cond := u_ws RX2 TX2 2
theorem nmX2 : ∀ a, a < 2 → ∀ b, b < 2 → a ≠ b → (TX2 a).2.1 ≠ (TX2 b).2.1 := by decide +kernel
theorem tyX2_ok : ∀ k, k < 2 → parseFieldDescriptor (TX2 k).2.2.1 = some (tyX2 k) := by decide +kernel
def RX3 : String := "SpreadingDeletes$Script"
def TX3 : u_T := fun k => match k with
  | 0 => ("SpreadingDeletes$Script", "characters", "[C", true)
  | 1 => ("SpreadingDeletes$Script", "length", "I", false)
  | 2 => ("SpreadingDeletes$Script", "kind", "I", false)
  | 3 => ("SpreadingDeletes$Script", "table", "I", false)
  | 4 => ("SpreadingDeletes$Script", "key", "I", false)
  | 5 => ("SpreadingDeletes$Script", "column", "I", false)
  | 6 => ("SpreadingDeletes$Script", "first", "I", false)
  | 7 => ("SpreadingDeletes$Script", "second", "I", false)
  | 8 => ("SpreadingDeletes$Script", "place", "I", false)
  | _ => ("SpreadingDeletes$Script", "number", "I", false)
def tyX3 : Nat → FieldType := fun k => match k with
  | 0 => .array .char
  | 1 => .int
  | 2 => .int
  | 3 => .int
  | 4 => .int
  | 5 => .int
  | 6 => .int
  | 7 => .int
  | 8 => .int
  | _ => .int
abbrev wsX30 : List Cond := u_ws RX3 TX3 10
theorem nmX3 : ∀ a, a < 10 → ∀ b, b < 10 → a ≠ b → (TX3 a).2.1 ≠ (TX3 b).2.1 := by decide +kernel
theorem tyX3_ok : ∀ k, k < 10 → parseFieldDescriptor (TX3 k).2.2.1 = some (tyX3 k) := by decide +kernel
def RX4 : String := "SpreadingDeletes$State"
def TX4 : u_T := fun k => match k with
  | 0 => ("SpreadingDeletes$State", "tables", "I", false)
  | 1 => ("SpreadingDeletes$State", "references", "I", false)
  | 2 => ("SpreadingDeletes$State", "rowCounts", "[I", true)
  | 3 => ("SpreadingDeletes$State", "columnCounts", "[I", true)
  | 4 => ("SpreadingDeletes$State", "columnReferences", "[I", true)
  | 5 => ("SpreadingDeletes$State", "facts", "[I", true)
  | 6 => ("SpreadingDeletes$State", "keys", "[I", true)
  | 7 => ("SpreadingDeletes$State", "values", "[I", true)
  | 8 => ("SpreadingDeletes$State", "latest", "[I", true)
  | 9 => ("SpreadingDeletes$State", "latestCount", "I", false)
  | 10 => ("SpreadingDeletes$State", "insertedSoFar", "I", false)
  | 11 => ("SpreadingDeletes$State", "deletedSoFar", "I", false)
  | _ => ("SpreadingDeletes$State", "changedSoFar", "I", false)
def tyX4 : Nat → FieldType := fun k => match k with
  | 0 => .int
  | 1 => .int
  | 2 => .array .int
  | 3 => .array .int
  | 4 => .array .int
  | 5 => .array .int
  | 6 => .array .int
  | 7 => .array .int
  | 8 => .array .int
  | 9 => .int
  | 10 => .int
  | 11 => .int
  | _ => .int
abbrev wsX40 : List Cond := u_ws RX4 TX4 13
theorem nmX4 : ∀ a, a < 13 → ∀ b, b < 13 → a ≠ b → (TX4 a).2.1 ≠ (TX4 b).2.1 := by decide +kernel
theorem tyX4_ok : ∀ k, k < 13 → parseFieldDescriptor (TX4 k).2.2.1 = some (tyX4 k) := by decide +kernel
def RX5 : String := "SpreadingDeletes"
def TX5 : u_T := fun k => match k with
  | 0 => ("SpreadingDeletes", "now", "LSpreadingDeletes$State;", true)
  | 1 => ("SpreadingDeletes", "before", "LSpreadingDeletes$State;", true)
  | 2 => ("SpreadingDeletes", "snapshot", "LSpreadingDeletes$State;", true)
  | 3 => ("SpreadingDeletes", "snapshotTaken", "Z", false)
  | 4 => ("SpreadingDeletes", "history", "LSpreadingDeletes$History;", true)
  | 5 => ("SpreadingDeletes", "script", "LSpreadingDeletes$Script;", true)
  | 6 => ("SpreadingDeletes", "deletion", "LSpreadingDeletes$Deletion;", true)
  | _ => ("SpreadingDeletes", "climb", "LSpreadingDeletes$Climb;", true)
def tyX5 : Nat → FieldType := fun k => match k with
  | 0 => .object "SpreadingDeletes$State"
  | 1 => .object "SpreadingDeletes$State"
  | 2 => .object "SpreadingDeletes$State"
  | 3 => .boolean
  | 4 => .object "SpreadingDeletes$History"
  | 5 => .object "SpreadingDeletes$Script"
  | 6 => .object "SpreadingDeletes$Deletion"
  | _ => .object "SpreadingDeletes$Climb"
abbrev wsX50 : List Cond := u_ws RX5 TX5 8
theorem nmX5 : ∀ a, a < 8 → ∀ b, b < 8 → a ≠ b → (TX5 a).2.1 ≠ (TX5 b).2.1 := by decide +kernel
theorem tyX5_ok : ∀ k, k < 8 → parseFieldDescriptor (TX5 k).2.2.1 = some (tyX5 k) := by decide +kernel
def RJ7 : String := "java/util/Arrays"
def RL : String := "SpreadingDeletesLaw"
abbrev RX6 : String := RX5
abbrev TX6 : u_T := TX5
abbrev tyX6 := tyX5
abbrev cX0_init : ByteArray := prog_2_method_1_code
def yX0_init : MethodName := ⟨RX0, "<init>", "()V"⟩
abbrev cX0_leadsBack : ByteArray := prog_2_method_2_code
def yX0_leadsBack : MethodName := ⟨RX0, "leadsBack", "(LSpreadingDeletes$State;I)Z"⟩
abbrev cX0_reachParents : ByteArray := prog_2_method_3_code
def yX0_reachParents : MethodName := ⟨RX0, "reachParents", "(LSpreadingDeletes$State;I)V"⟩
abbrev cX0_reach : ByteArray := prog_2_method_4_code
def yX0_reach : MethodName := ⟨RX0, "reach", "(I)V"⟩
abbrev cX1_init : ByteArray := prog_3_method_1_code
def yX1_init : MethodName := ⟨RX1, "<init>", "()V"⟩
abbrev cX1_plan : ByteArray := prog_3_method_2_code
def yX1_plan : MethodName := ⟨RX1, "plan", "(LSpreadingDeletes$State;II)I"⟩
abbrev cX1_gather : ByteArray := prog_3_method_3_code
def yX1_gather : MethodName := ⟨RX1, "gather", "(LSpreadingDeletes$State;I)V"⟩
abbrev cX1_begin : ByteArray := prog_3_method_4_code
def yX1_begin : MethodName := ⟨RX1, "begin", "(I)V"⟩
abbrev cX1_end : ByteArray := prog_3_method_5_code
def yX1_end : MethodName := ⟨RX1, "end", "()V"⟩
abbrev cX1_nextChild : ByteArray := prog_3_method_6_code
def yX1_nextChild : MethodName := ⟨RX1, "nextChild", "(LSpreadingDeletes$State;)I"⟩
abbrev cX1_judge : ByteArray := prog_3_method_7_code
def yX1_judge : MethodName := ⟨RX1, "judge", "(LSpreadingDeletes$State;)V"⟩
abbrev cX1_losesParent : ByteArray := prog_3_method_8_code
def yX1_losesParent : MethodName := ⟨RX1, "losesParent", "(LSpreadingDeletes$State;II)Z"⟩
abbrev cX1_isMarked : ByteArray := prog_3_method_9_code
def yX1_isMarked : MethodName := ⟨RX1, "isMarked", "(I)Z"⟩
abbrev cX1_refusalAt : ByteArray := prog_3_method_10_code
def yX1_refusalAt : MethodName := ⟨RX1, "refusalAt", "(LSpreadingDeletes$State;II)I"⟩
abbrev cX1_newValue : ByteArray := prog_3_method_11_code
def yX1_newValue : MethodName := ⟨RX1, "newValue", "(LSpreadingDeletes$State;I)I"⟩
abbrev cX1_carryOut : ByteArray := prog_3_method_12_code
def yX1_carryOut : MethodName := ⟨RX1, "carryOut", "(LSpreadingDeletes$State;)I"⟩
abbrev cX1_changeValues : ByteArray := prog_3_method_13_code
def yX1_changeValues : MethodName := ⟨RX1, "changeValues", "(LSpreadingDeletes$State;I)V"⟩
abbrev cX2_init : ByteArray := prog_4_method_1_code
def yX2_init : MethodName := ⟨RX2, "<init>", "()V"⟩
abbrev cX2_remember : ByteArray := prog_4_method_2_code
def yX2_remember : MethodName := ⟨RX2, "remember", "(LSpreadingDeletes$State;)V"⟩
abbrev cX2_dropOldest : ByteArray := prog_4_method_3_code
def yX2_dropOldest : MethodName := ⟨RX2, "dropOldest", "()V"⟩
abbrev cX2_bringBack : ByteArray := prog_4_method_4_code
def yX2_bringBack : MethodName := ⟨RX2, "bringBack", "(LSpreadingDeletes$State;)I"⟩
abbrev cX3_init : ByteArray := prog_5_method_1_code
def yX3_init : MethodName := ⟨RX3, "<init>", "()V"⟩
abbrev cX4_init : ByteArray := prog_6_method_1_code
def yX4_init : MethodName := ⟨RX4, "<init>", "()V"⟩
abbrev cX4_copyFrom : ByteArray := prog_6_method_2_code
def yX4_copyFrom : MethodName := ⟨RX4, "copyFrom", "(LSpreadingDeletes$State;)V"⟩
abbrev cX4_hasTable : ByteArray := prog_6_method_3_code
def yX4_hasTable : MethodName := ⟨RX4, "hasTable", "(I)Z"⟩
abbrev cX4_hasReference : ByteArray := prog_6_method_4_code
def yX4_hasReference : MethodName := ⟨RX4, "hasReference", "(I)Z"⟩
abbrev cX4_hasColumn : ByteArray := prog_6_method_5_code
def yX4_hasColumn : MethodName := ⟨RX4, "hasColumn", "(II)Z"⟩
abbrev cX4_hasRow : ByteArray := prog_6_method_6_code
def yX4_hasRow : MethodName := ⟨RX4, "hasRow", "(II)Z"⟩
abbrev cX4_slotOf : ByteArray := prog_6_method_7_code
def yX4_slotOf : MethodName := ⟨RX4, "slotOf", "(II)I"⟩
abbrev cX4_valueAt : ByteArray := prog_6_method_8_code
def yX4_valueAt : MethodName := ⟨RX4, "valueAt", "(II)I"⟩
abbrev cX4_fact : ByteArray := prog_6_method_9_code
def yX4_fact : MethodName := ⟨RX4, "fact", "(II)I"⟩
abbrev cX4_referenceOf : ByteArray := prog_6_method_10_code
def yX4_referenceOf : MethodName := ⟨RX4, "referenceOf", "(II)I"⟩
abbrev cX4_childAt : ByteArray := prog_6_method_11_code
def yX4_childAt : MethodName := ⟨RX4, "childAt", "(II)I"⟩
abbrev cX4_parentAt : ByteArray := prog_6_method_12_code
def yX4_parentAt : MethodName := ⟨RX4, "parentAt", "(II)I"⟩
abbrev cX4_countRows : ByteArray := prog_6_method_13_code
def yX4_countRows : MethodName := ⟨RX4, "countRows", "()I"⟩
abbrev cX4_countNulls : ByteArray := prog_6_method_14_code
def yX4_countNulls : MethodName := ⟨RX4, "countNulls", "()I"⟩
abbrev cX4_countChildren : ByteArray := prog_6_method_15_code
def yX4_countChildren : MethodName := ⟨RX4, "countChildren", "(II)I"⟩
abbrev cX4_appendTable : ByteArray := prog_6_method_16_code
def yX4_appendTable : MethodName := ⟨RX4, "appendTable", "()I"⟩
abbrev cX4_appendReference : ByteArray := prog_6_method_17_code
def yX4_appendReference : MethodName := ⟨RX4, "appendReference", "(IIIZI)I"⟩
abbrev cX4_checkInsert : ByteArray := prog_6_method_18_code
def yX4_checkInsert : MethodName := ⟨RX4, "checkInsert", "(IIII)I"⟩
abbrev cX4_checkUpdate : ByteArray := prog_6_method_19_code
def yX4_checkUpdate : MethodName := ⟨RX4, "checkUpdate", "(IIII)I"⟩
abbrev cX4_fits : ByteArray := prog_6_method_20_code
def yX4_fits : MethodName := ⟨RX4, "fits", "(III)Z"⟩
abbrev cX4_isMissing : ByteArray := prog_6_method_21_code
def yX4_isMissing : MethodName := ⟨RX4, "isMissing", "(III)Z"⟩
abbrev cX4_hasNoParent : ByteArray := prog_6_method_22_code
def yX4_hasNoParent : MethodName := ⟨RX4, "hasNoParent", "(IIII)Z"⟩
abbrev cX4_addRow : ByteArray := prog_6_method_23_code
def yX4_addRow : MethodName := ⟨RX4, "addRow", "(IIII)I"⟩
abbrev cX4_changeValue : ByteArray := prog_6_method_24_code
def yX4_changeValue : MethodName := ⟨RX4, "changeValue", "(IIII)I"⟩
abbrev cX4_removeRow : ByteArray := prog_6_method_25_code
def yX4_removeRow : MethodName := ⟨RX4, "removeRow", "(I)V"⟩
abbrev cX4_moveRow : ByteArray := prog_6_method_26_code
def yX4_moveRow : MethodName := ⟨RX4, "moveRow", "(II)V"⟩
abbrev cX5_init : ByteArray := prog_1_method_1_code
def yX5_init : MethodName := ⟨RX5, "<init>", "()V"⟩
abbrev cX5_addTable : ByteArray := prog_1_method_2_code
def yX5_addTable : MethodName := ⟨RX5, "addTable", "()I"⟩
abbrev cX5_addReference : ByteArray := prog_1_method_3_code
def yX5_addReference : MethodName := ⟨RX5, "addReference", "(IIIZI)I"⟩
abbrev cX5_setRule : ByteArray := prog_1_method_4_code
def yX5_setRule : MethodName := ⟨RX5, "setRule", "(II)I"⟩
abbrev cX5_insert : ByteArray := prog_1_method_5_code
def yX5_insert : MethodName := ⟨RX5, "insert", "(IIII)I"⟩
abbrev cX5_update : ByteArray := prog_1_method_6_code
def yX5_update : MethodName := ⟨RX5, "update", "(IIII)I"⟩
abbrev cX5_delete : ByteArray := prog_1_method_7_code
def yX5_delete : MethodName := ⟨RX5, "delete", "(II)I"⟩
abbrev cX5_undo : ByteArray := prog_1_method_11_code
def yX5_undo : MethodName := ⟨RX5, "undo", "()I"⟩
abbrev cX5_keep : ByteArray := prog_1_method_12_code
def yX5_keep : MethodName := ⟨RX5, "keep", "()I"⟩
abbrev cX5_restore : ByteArray := prog_1_method_13_code
def yX5_restore : MethodName := ⟨RX5, "restore", "()I"⟩
abbrev cX5_rows : ByteArray := prog_1_method_14_code
def yX5_rows : MethodName := ⟨RX5, "rows", "(I)I"⟩
abbrev cX5_keyAt : ByteArray := prog_1_method_15_code
def yX5_keyAt : MethodName := ⟨RX5, "keyAt", "(II)I"⟩
abbrev cX5_value : ByteArray := prog_1_method_16_code
def yX5_value : MethodName := ⟨RX5, "value", "(III)I"⟩
abbrev cX5_children : ByteArray := prog_1_method_17_code
def yX5_children : MethodName := ⟨RX5, "children", "(II)I"⟩
abbrev cX5_reference : ByteArray := prog_1_method_18_code
def yX5_reference : MethodName := ⟨RX5, "reference", "(II)I"⟩
abbrev cX5_deleted : ByteArray := prog_1_method_19_code
def yX5_deleted : MethodName := ⟨RX5, "deleted", "(I)I"⟩
abbrev cX5_total : ByteArray := prog_1_method_20_code
def yX5_total : MethodName := ⟨RX5, "total", "(I)I"⟩
abbrev cX5_gathered : ByteArray := prog_1_method_21_code
def yX5_gathered : MethodName := ⟨RX5, "gathered", "(III)I"⟩
abbrev cX5_reason : ByteArray := prog_1_method_22_code
def yX5_reason : MethodName := ⟨RX5, "reason", "(II)I"⟩
abbrev cX5_blocking : ByteArray := prog_1_method_23_code
def yX5_blocking : MethodName := ⟨RX5, "blocking", "(II)I"⟩
abbrev cX5_wouldChange : ByteArray := prog_1_method_24_code
def yX5_wouldChange : MethodName := ⟨RX5, "wouldChange", "(II)I"⟩
abbrev cX5_isInRing : ByteArray := prog_1_method_25_code
def yX5_isInRing : MethodName := ⟨RX5, "isInRing", "(II)I"⟩
abbrev cX5_deletable : ByteArray := prog_1_method_26_code
def yX5_deletable : MethodName := ⟨RX5, "deletable", "(I)I"⟩
abbrev cX5_isRule : ByteArray := prog_1_method_28_code
def yX5_isRule : MethodName := ⟨RX5, "isRule", "(I)Z"⟩
abbrev cX5_isKey : ByteArray := prog_1_method_29_code
def yX5_isKey : MethodName := ⟨RX5, "isKey", "(I)Z"⟩
abbrev cX5_isValue : ByteArray := prog_1_method_30_code
def yX5_isValue : MethodName := ⟨RX5, "isValue", "(I)Z"⟩
abbrev cX5_rowNumber : ByteArray := prog_1_method_31_code
def yX5_rowNumber : MethodName := ⟨RX5, "rowNumber", "(II)I"⟩
abbrev cJ7_fill_53178 : ByteArray := prog_10_method_103_code
def yJ7_fill_53178 : MethodName := ⟨RJ7, "fill", "([II)V"⟩
abbrev cL_cell : ByteArray := method_2_code
def yL_cell : MethodName := ⟨RL, "cell", "([II)I"⟩
abbrev cL_up : ByteArray := method_3_code
def yL_up : MethodName := ⟨RL, "up", "(II)I"⟩
abbrev cL_told : ByteArray := method_4_code
def yL_told : MethodName := ⟨RL, "told", "(LSpreadingDeletes;)J"⟩
abbrev cL_act : ByteArray := method_5_code
def yL_act : MethodName := ⟨RL, "act", "(LSpreadingDeletes;II)I"⟩
abbrev cL_columns : ByteArray := method_6_code
def yL_columns : MethodName := ⟨RL, "columns", "(LSpreadingDeletes;I)I"⟩
abbrev cL_isRow : ByteArray := method_7_code
def yL_isRow : MethodName := ⟨RL, "isRow", "(LSpreadingDeletes;II)Z"⟩
abbrev cL_holds : ByteArray := method_8_code
def yL_holds : MethodName := ⟨RL, "holds", "(LSpreadingDeletes;)Z"⟩
abbrev cL_isRing : ByteArray := method_9_code
def yL_isRing : MethodName := ⟨RL, "isRing", "(LSpreadingDeletes;II)Z"⟩
abbrev cL_isAhead : ByteArray := method_10_code
def yL_isAhead : MethodName := ⟨RL, "isAhead", "(LSpreadingDeletes;II)Z"⟩
abbrev cL_law : ByteArray := code
def yL_law : MethodName := ⟨RL, "law", "([I)Z"⟩
abbrev classes : List vw_C := [(RX0, TX0, 3), (RX1, TX1, 9), (RX2, TX2, 2), (RX3, TX3, 10), (RX4, TX4, 13), (RX5, TX5, 8), (RX6, TX6, 8)]
theorem goodIn_r_ {big : List Cond} (ws : List Cond) (ps : List Nat) (hp : ws = ps.filterMap (fun i => big[i]?)) (h : ws.all goodWord = true) : GoodIn big ws := by
  intro w hw
  have h1 := List.all_eq_true.mp h w hw
  rw [hp] at hw
  obtain ⟨i, -, hi⟩ := List.mem_filterMap.mp hw
  exact ⟨List.mem_of_getElem? hi, good_of_word h1⟩
/-- the words that stay true under warmer tables -/
def lw_u : List Cond := lw_tbl.filter goodWord
theorem lw_u_good : lw_u.all goodWord = true := List.all_eq_true.mpr fun w hw => (List.mem_filter.mp hw).2
theorem lw_u_in : ∀ w ∈ lw_u, w ∈ lw_tbl := fun w hw => (List.mem_filter.mp hw).1
theorem lw_u_goodIn : GoodIn lw_u lw_u := fun w hw => ⟨hw, good_of_word (List.all_eq_true.mp lw_u_good w hw)⟩

set_option maxRecDepth 20000 in
theorem inX0 : ∀ w ∈ wsX00, w ∈ lw_u := fun w h => List.mem_filter.mpr ⟨(goodIn_r_ wsX00 [201, 203, 205] (by decide +kernel) (by decide +kernel) w h).1, List.all_eq_true.mp (show List.all wsX00 goodWord = true by decide +kernel) w h⟩
set_option maxRecDepth 20000 in
theorem inX1 : ∀ w ∈ wsX10, w ∈ lw_u := fun w h => List.mem_filter.mpr ⟨(goodIn_r_ wsX10 [173, 175, 177, 179, 181, 183, 185, 187, 189] (by decide +kernel) (by decide +kernel) w h).1, List.all_eq_true.mp (show List.all wsX10 goodWord = true by decide +kernel) w h⟩
set_option maxRecDepth 20000 in
theorem inX2 : ∀ w ∈ wsX20, w ∈ lw_u := fun w h => List.mem_filter.mpr ⟨(goodIn_r_ wsX20 [109, 111] (by decide +kernel) (by decide +kernel) w h).1, List.all_eq_true.mp (show List.all wsX20 goodWord = true by decide +kernel) w h⟩
set_option maxRecDepth 20000 in
theorem inX3 : ∀ w ∈ wsX30, w ∈ lw_u := fun w h => List.mem_filter.mpr ⟨(goodIn_r_ wsX30 [131, 133, 135, 137, 139, 141, 143, 145, 147, 149] (by decide +kernel) (by decide +kernel) w h).1, List.all_eq_true.mp (show List.all wsX30 goodWord = true by decide +kernel) w h⟩
set_option maxRecDepth 20000 in
theorem inX4 : ∀ w ∈ wsX40, w ∈ lw_u := fun w h => List.mem_filter.mpr ⟨(goodIn_r_ wsX40 [69, 71, 73, 75, 77, 79, 81, 83, 85, 87, 89, 91, 93] (by decide +kernel) (by decide +kernel) w h).1, List.all_eq_true.mp (show List.all wsX40 goodWord = true by decide +kernel) w h⟩
set_option maxRecDepth 20000 in
theorem inX5 : ∀ w ∈ wsX50, w ∈ lw_u := fun w h => List.mem_filter.mpr ⟨(goodIn_r_ wsX50 [216, 218, 220, 222, 224, 226, 228, 230] (by decide +kernel) (by decide +kernel) w h).1, List.all_eq_true.mp (show List.all wsX50 goodWord = true by decide +kernel) w h⟩
theorem tyX6_ok : ∀ k, k < 8 → parseFieldDescriptor (TX6 k).2.2.1 = some (tyX6 k) := tyX5_ok
theorem nmX6 : ∀ a, a < 8 → ∀ b, b < 8 → a ≠ b → (TX6 a).2.1 ≠ (TX6 b).2.1 := nmX5
theorem inX6 : ∀ w ∈ wsX50, w ∈ lw_u := inX5
end
section
-- A SMALL MACHINE over the bytecode: values, memory, one step, a run. Ints are mathematical ints (wrapped after each operation); objects are numbered in the order in which they are made.
abbrev mm_V : Type := Int ⊕ Option Nat
abbrev mm_L : Type := List (Option mm_V)
/-- memory: the shapes (kind, number of fields or elements), ints, references -/
abbrev mm_S : Type := List (Nat × Nat) × (Nat → Nat → Int) × (Nat → Nat → Option Nat)
/-- a frame: place, locals, operand stack, memory, cells and slots made so far by this call -/
abbrev mm_C : Type := Nat × mm_L × List mm_V × mm_S × Nat × Nat
/-- what a step leads to: the next place; a call (method, arguments, what stands when it is back); an end -/
abbrev mm_O : Type := mm_C ⊕ ((Nat × List mm_V × mm_C) ⊕ (Option mm_V × mm_S))
/-- a method: name, bytes, locals, result, own class, arguments with the receiver, is it a constructor, is its result boolean, frames, local words, cells, slots -/
abbrev mm_I : Type := MethodName × ByteArray × Nat × Option FieldType × Nat × Nat × Bool × Bool × Nat × Nat × Nat × Nat
def mm_y (I : mm_I) : MethodName := I.1
def mm_bytes (I : mm_I) : ByteArray := I.2.1
def mm_maxL (I : mm_I) : Nat := I.2.2.1
def mm_ret (I : mm_I) : Option FieldType := I.2.2.2.1
def mm_own (I : mm_I) : Nat := I.2.2.2.2.1
def mm_nargs (I : mm_I) : Nat := I.2.2.2.2.2.1
def mm_ctor (I : mm_I) : Bool := I.2.2.2.2.2.2.1
def mm_bool (I : mm_I) : Bool := I.2.2.2.2.2.2.2.1
def mm_rf (I : mm_I) : Nat := I.2.2.2.2.2.2.2.2.1
def mm_rl (I : mm_I) : Nat := I.2.2.2.2.2.2.2.2.2.1
def mm_mc (I : mm_I) : Nat := I.2.2.2.2.2.2.2.2.2.2.1
def mm_ms (I : mm_I) : Nat := I.2.2.2.2.2.2.2.2.2.2.2
/-- the code of a method, in chunks of 32 bytes: place, instruction, length, target -/
abbrev mm_K : Type := List (List (Nat × Instr × Nat × Nat))
def mm_lk : List (Nat × Instr × Nat × Nat) → Nat → Option (Instr × Nat × Nat)
  | [], _ => none
  | q :: r, pc => bif q.1 == pc then some q.2 else mm_lk r pc
def mm_at (K : mm_K) (pc : Nat) : Option (Instr × Nat × Nat) := mm_lk (K.getD (pc / 32) []) pc
/-- links by their number: fields (index, class, field, kind: 0 int, 1 boolean, 2 reference, final, place), methods (index, kind, callee, places), classes (index, class, places) -/
abbrev mm_FL : Type := List (Nat × Nat × Nat × Nat × Bool × Nat)
abbrev mm_ML : Type := List (Nat × Nat × Nat × List Nat)
abbrev mm_NL : Type := List (Nat × Nat × List Nat)
def mm_ff : mm_FL → Nat → Option (Nat × Nat × Nat × Bool × Nat)
  | [], _ => none
  | q :: r, i => bif q.1 == i then some q.2 else mm_ff r i
def mm_fm : mm_ML → Nat → Option (Nat × Nat × List Nat)
  | [], _ => none
  | q :: r, i => bif q.1 == i then some q.2 else mm_fm r i
def mm_fn : mm_NL → Nat → Option (Nat × List Nat)
  | [], _ => none
  | q :: r, i => bif q.1 == i then some q.2 else mm_fn r i
/-- the tables of all methods -/
abbrev mm_T : Type := List (mm_I × mm_K) × List mm_FL × List mm_ML × List mm_NL
def mm_w (z : Int) : Int := (Int32.ofInt z).toInt
def mm_up (f : Nat → Nat → Int) (a k : Nat) (v : Int) : Nat → Nat → Int := fun b j => if b = a then (if j = k then v else f b j) else f b j
def mm_upr (f : Nat → Nat → Option Nat) (a k : Nat) (v : Nat) : Nat → Nat → Option Nat := fun b j => if b = a then (if j = k then some v else f b j) else f b j
def mm_cpy (f : Nat → Nat → Int) (a sp d dp n : Nat) : Nat → Nat → Int := fun b j => if b = d then (if dp ≤ j ∧ j < dp + n then f a (sp + (j - dp)) else f b j) else f b j
def mm_ld (ls : mm_L) (i : Nat) : Option mm_V := match ls[i]? with
  | some v => v
  | none => none
def mm_nx (pc : Nat) (ls : mm_L) (st : List mm_V) (S : mm_S) (cu su : Nat) : Option mm_O := some (.inl (pc, ls, st, S, cu, su))
def mm_br (c : ClassFile.Cond) (x y : Int) (t f : Nat) : Nat := match c with
  | .eq => if x = y then t else f
  | .ne => if x = y then f else t
  | .lt => if x < y then t else f
  | .ge => if x < y then f else t
  | .gt => if y < x then t else f
  | .le => if y < x then f else t
def mm_kind (S : mm_S) (a : Nat) : Option (Nat × Nat) := S.1[a]?
/-- an index into an array of a kind -/
def mm_el (S : mm_S) (kd a : Nat) (i : Int) : Bool := match S.1[a]? with
  | some (k, n) => k == kd && decide (0 ≤ i) && decide (i < n)
  | none => false
def mm_isc (S : mm_S) (ci a : Nat) : Bool := match S.1[a]? with
  | some (k, _) => k == ci
  | none => false
/-- the law's two ints out of its constants -/
def mm_ck (o i : Nat) : Option Int := bif o == 7 && i == 7 then some 1812433253 else bif o == 7 && i == 8 then some 2147483647 else none
def mm_step (Ts : mm_T) (X : Nat × (Nat → Int)) (I : mm_I) (ins : Instr) (len tgt : Nat) : mm_C → Option mm_O
  | (pc, ls, st, S, cu, su) =>
  match ins with
  | .iconst i => mm_nx (pc + len) ls (.inl i :: st) S cu su
  | .bipush i => mm_nx (pc + len) ls (.inl i :: st) S cu su
  | .sipush i => mm_nx (pc + len) ls (.inl i :: st) S cu su
  | .iload i => match mm_ld ls i with
    | some (.inl z) => mm_nx (pc + len) ls (.inl z :: st) S cu su
    | _ => none
  | .iload_n i => match mm_ld ls i.val with
    | some (.inl z) => mm_nx (pc + len) ls (.inl z :: st) S cu su
    | _ => none
  | .aload_n i => match mm_ld ls i.val with
    | some (.inr a) => mm_nx (pc + len) ls (.inr a :: st) S cu su
    | _ => none
  | .istore i => match st with
    | .inl z :: r => mm_nx (pc + len) (ls.set i (some (.inl z))) r S cu su
    | _ => none
  | .istore_n i => match st with
    | .inl z :: r => mm_nx (pc + len) (ls.set i.val (some (.inl z))) r S cu su
    | _ => none
  | .astore_n i => match st with
    | .inr (some a) :: r => mm_nx (pc + len) (ls.set i.val (some (.inr (some a)))) r S cu su
    | _ => none
  | .iinc i c => match mm_ld ls i with
    | some (.inl z) => mm_nx (pc + len) (ls.set i (some (.inl (mm_w (z + c))))) st S cu su
    | _ => none
  | .iadd => match st with
    | .inl y :: .inl x :: r => mm_nx (pc + len) ls (.inl (mm_w (x + y)) :: r) S cu su
    | _ => none
  | .isub => match st with
    | .inl y :: .inl x :: r => mm_nx (pc + len) ls (.inl (mm_w (x - y)) :: r) S cu su
    | _ => none
  | .imul => match st with
    | .inl y :: .inl x :: r => mm_nx (pc + len) ls (.inl (mm_w (x * y)) :: r) S cu su
    | _ => none
  | .idiv => match st with
    | .inl y :: .inl x :: r => if 0 < y then mm_nx (pc + len) ls (.inl (x.tdiv y) :: r) S cu su else none
    | _ => none
  | .irem => match st with
    | .inl y :: .inl x :: r => if 0 < y then mm_nx (pc + len) ls (.inl (x.tmod y) :: r) S cu su else none
    | _ => none
  | .iand => match st with
    | .inl y :: .inl x :: r => mm_nx (pc + len) ls (.inl (Int32.ofInt x &&& Int32.ofInt y).toInt :: r) S cu su
    | _ => none
  | .ishr => match st with
    | .inl y :: .inl x :: r => mm_nx (pc + len) ls (.inl (Int32.ofInt x >>> (Int32.ofInt y &&& 31)).toInt :: r) S cu su
    | _ => none
  | .ldc i => match mm_ck (mm_own I) i with
    | some z => mm_nx (pc + len) ls (.inl z :: st) S cu su
    | none => none
  | .i2c => match st with
    | .inl x :: r => mm_nx (pc + len) ls (.inl (x % 65536) :: r) S cu su
    | _ => none
  | .dup => match st with
    | v :: r => mm_nx (pc + len) ls (v :: v :: r) S cu su
    | _ => none
  | .dup2 => match st with
    | v :: u :: r => mm_nx (pc + len) ls (v :: u :: v :: u :: r) S cu su
    | _ => none
  | .pop => match st with
    | _ :: r => mm_nx (pc + len) ls r S cu su
    | _ => none
  | .ifCond c _ => match st with
    | .inl x :: r => mm_nx (mm_br c x 0 tgt (pc + len)) ls r S cu su
    | _ => none
  | .if_icmp c _ => match st with
    | .inl y :: .inl x :: r => mm_nx (mm_br c x y tgt (pc + len)) ls r S cu su
    | _ => none
  | .goto _ => mm_nx tgt ls st S cu su
  | .getfield i => match st with
    | .inr (some a) :: r => match mm_ff (Ts.2.1.getD (mm_own I) []) i with
      | some (ci, k, kd, _, _) => bif mm_isc S ci a then (if kd = 2 then (match S.2.2 a k with
          | some x => mm_nx (pc + len) ls (.inr (some x) :: r) S cu su
          | none => none) else mm_nx (pc + len) ls (.inl (S.2.1 a k) :: r) S cu su) else none
      | none => none
    | _ => none
  | .putfield i => match st with
    | .inl z :: .inr (some a) :: r => match mm_ff (Ts.2.1.getD (mm_own I) []) i with
      | some (ci, k, kd, fin, _) => bif (mm_isc S ci a && (!fin || (mm_ctor I && mm_own I == ci))) then
          (if kd = 2 then none else if kd = 0 ∨ z = 0 ∨ z = 1 then mm_nx (pc + len) ls r (S.1, mm_up S.2.1 a k z, S.2.2) cu su else none) else none
      | none => none
    | .inr (some x) :: .inr (some a) :: r => match mm_ff (Ts.2.1.getD (mm_own I) []) i with
      | some (ci, k, kd, fin, _) => bif (mm_isc S ci a && (!fin || (mm_ctor I && mm_own I == ci))) then
          (if kd = 2 then mm_nx (pc + len) ls r (S.1, S.2.1, mm_upr S.2.2 a k x) cu su else none) else none
      | none => none
    | _ => none
  | .arraylength => match st with
    | .inr (some a) :: r => match S.1[a]? with
      | some (kd, n) => bif Nat.ble 10 kd then mm_nx (pc + len) ls (.inl n :: r) S cu su else none
      | none => none
    | .inr none :: r => mm_nx (pc + len) ls (.inl X.1 :: r) S cu su
    | _ => none
  | .iaload => match st with
    | .inl i :: .inr (some a) :: r => if mm_el S 10 a i = true then mm_nx (pc + len) ls (.inl (S.2.1 a i.toNat) :: r) S cu su else none
    | .inl i :: .inr none :: r => if 0 ≤ i ∧ i < X.1 then mm_nx (pc + len) ls (.inl (X.2 i.toNat) :: r) S cu su else none
    | _ => none
  | .caload => match st with
    | .inl i :: .inr (some a) :: r => if mm_el S 12 a i = true then mm_nx (pc + len) ls (.inl (S.2.1 a i.toNat) :: r) S cu su else none
    | _ => none
  | .aaload => match st with
    | .inl i :: .inr (some a) :: r => if mm_el S 13 a i = true then (match S.2.2 a i.toNat with
        | some x => mm_nx (pc + len) ls (.inr (some x) :: r) S cu su
        | none => none) else none
    | _ => none
  | .iastore => match st with
    | .inl z :: .inl i :: .inr (some a) :: r => if mm_el S 10 a i = true then mm_nx (pc + len) ls r (S.1, mm_up S.2.1 a i.toNat z, S.2.2) cu su else none
    | _ => none
  | .castore => match st with
    | .inl z :: .inl i :: .inr (some a) :: r => if mm_el S 12 a i = true ∧ 0 ≤ z ∧ z < 65536 then mm_nx (pc + len) ls r (S.1, mm_up S.2.1 a i.toNat z, S.2.2) cu su else none
    | _ => none
  | .aastore => match st with
    | .inr (some x) :: .inl i :: .inr (some a) :: r => if mm_el S 13 a i = true ∧ mm_isc S 4 x = true then mm_nx (pc + len) ls r (S.1, S.2.1, mm_upr S.2.2 a i.toNat x) cu su else none
    | _ => none
  | .new i => match mm_fn (Ts.2.2.2.getD (mm_own I) []) i with
    | some (ci, _) => match classes[ci]? with
      | some q => if cu + 1 ≤ mm_mc I ∧ su + q.2.2 ≤ mm_ms I then mm_nx (pc + len) ls (.inr (some S.1.length) :: st) (S.1 ++ [(ci, q.2.2)], S.2.1, S.2.2) (cu + 1) (su + q.2.2) else none
      | none => none
    | none => none
  | .newarray t => match st with
    | .inl n :: r => if 0 ≤ n ∧ n ≤ 10000 ∧ cu + 1 ≤ mm_mc I ∧ su + n.toNat ≤ mm_ms I then (match t with
        | .int => mm_nx (pc + len) ls (.inr (some S.1.length) :: r) (S.1 ++ [(10, n.toNat)], S.2.1, S.2.2) (cu + 1) (su + n.toNat)
        | .char => mm_nx (pc + len) ls (.inr (some S.1.length) :: r) (S.1 ++ [(12, n.toNat)], S.2.1, S.2.2) (cu + 1) (su + n.toNat)
        | _ => none) else none
    | _ => none
  | .anewarray i => match st with
    | .inl n :: r => match mm_fn (Ts.2.2.2.getD (mm_own I) []) i with
      | some (ci, _) => if ci = 4 ∧ 0 ≤ n ∧ n ≤ 10000 ∧ cu + 1 ≤ mm_mc I ∧ su + n.toNat ≤ mm_ms I then
          mm_nx (pc + len) ls (.inr (some S.1.length) :: r) (S.1 ++ [(13, n.toNat)], S.2.1, S.2.2) (cu + 1) (su + n.toNat) else none
      | none => none
    | _ => none
  | .invokevirtual i => match mm_fm (Ts.2.2.1.getD (mm_own I) []) i with
    | some (kd, m, _) => match Ts.1[m]? with
      | some e => match st.drop (mm_nargs e.1 - 1) with
        | .inr (some a) :: r => bif (kd == 0 && mm_isc S (mm_own e.1) a && Nat.ble r.length 8 && Nat.ble (cu + mm_mc e.1) (mm_mc I) && Nat.ble (su + mm_ms e.1) (mm_ms I)) then
            some (.inr (.inl (m, .inr (some a) :: (st.take (mm_nargs e.1 - 1)).reverse, (pc + len, ls, r, S, cu + mm_mc e.1, su + mm_ms e.1)))) else none
        | _ => none
      | none => none
    | none => none
  | .invokespecial i => match mm_fm (Ts.2.2.1.getD (mm_own I) []) i with
    | some (kd, m, _) => match st with
      | .inr (some a) :: r => bif kd == 4 then (bif Nat.ble r.length 8 then mm_nx (pc + len) ls r S cu su else none) else match Ts.1[m]? with
        | some e => bif (kd == 1 && Nat.ble r.length 8 && mm_nargs e.1 == 1 && Nat.ble (cu + mm_mc e.1) (mm_mc I) && Nat.ble (su + mm_ms e.1) (mm_ms I)) then
            some (.inr (.inl (m, [.inr (some a)], (pc + len, ls, r, S, cu + mm_mc e.1, su + mm_ms e.1)))) else none
        | none => none
      | _ => none
    | none => none
  | .invokestatic i => match mm_fm (Ts.2.2.1.getD (mm_own I) []) i with
    | some (kd, m, _) => bif kd == 5 then (match st with
        | .inl n :: .inl dp :: .inr (some d) :: .inl sp :: .inr (some a) :: r =>
          match S.1[a]?, S.1[d]? with
          | some (k0, n0), some (k1, n1) => if k0 = 10 ∧ k1 = 10 ∧ r.length ≤ 8 ∧ 0 ≤ sp ∧ 0 ≤ dp ∧ 0 ≤ n ∧ sp.toNat + n.toNat ≤ n0 ∧ dp.toNat + n.toNat ≤ n1 then
              mm_nx (pc + len) ls r (S.1, mm_cpy S.2.1 a sp.toNat d dp.toNat n.toNat, S.2.2) cu su else none
          | _, _ => none
        | _ => none) else match Ts.1[m]? with
      | some e => bif ((kd == 2 || kd == 3) && Nat.ble (mm_nargs e.1) st.length && Nat.ble (st.drop (mm_nargs e.1)).length 8 && Nat.ble (cu + mm_mc e.1) (mm_mc I) && Nat.ble (su + mm_ms e.1) (mm_ms I)) then
            some (.inr (.inl (m, (st.take (mm_nargs e.1)).reverse, (pc + len, ls, st.drop (mm_nargs e.1), S, cu + mm_mc e.1, su + mm_ms e.1)))) else none
      | none => none
    | none => none
  | .ireturn => match st with
    | [.inl z] => if cu = mm_mc I ∧ (mm_bool I = false ∨ z = 0 ∨ z = 1) then some (.inr (.inr (some (.inl z), S))) else none
    | _ => none
  | .return_ => match st with
    | [] => if cu = mm_mc I then some (.inr (.inr (none, S))) else none
    | _ => none
  | .tableswitch d lo hi os => match st with
    | .inl x :: r => if x < lo ∨ hi < x then mm_nx ((pc : Int) + d).toNat ls r S cu su else (match os[(x - lo).toNat]? with
        | some o => mm_nx ((pc : Int) + o).toNat ls r S cu su
        | none => none)
    | _ => none
  | .lookupswitch d ps => match st with
    | .inl x :: r => mm_nx ((pc : Int) + Op.lookupswitch.offset ps.toList d x).toNat ls r S cu su
    | _ => none
  | _ => none
def mm_entry (I : mm_I) (as : List mm_V) : mm_L := as.map some ++ List.replicate (mm_maxL I - as.length) none
def mm_run (Ts : mm_T) (X : Nat × (Nat → Int)) : Nat → Nat → mm_C → Option (Option mm_V × mm_S)
  | 0, _, _ => none
  | n + 1, m, c => match Ts.1[m]? with
    | none => none
    | some e => match mm_at e.2 c.1 with
      | none => none
      | some (ins, len, tgt) => match mm_step Ts X e.1 ins len tgt c with
        | none => none
        | some (.inl c') => mm_run Ts X n m c'
        | some (.inr (.inr r)) => some r
        | some (.inr (.inl (m', as, pc, ls, st, S, cu, su))) => match Ts.1[m']? with
          | none => none
          | some e' => match mm_run Ts X n m' (0, mm_entry e'.1 as, [], S, 0, 0) with
            | none => none
            | some (v, S') => mm_run Ts X n m (pc, ls, v.toList ++ st, S', cu, su)
end
section
-- THE TABLES of the small machine: methods, their code, their links; each row is checked against the bytes and the Statement's words
def mk_X0_init : mm_K := [[(0, .aload_n 0, 1, 0), (1, .invokespecial 3, 3, 0), (4, .aload_n 0, 1, 0), (5, .sipush 600, 3, 0), (8, .newarray .int, 2, 0), (10, .putfield 9, 3, 0), (13, .aload_n 0, 1, 0), (14, .bipush 120, 2, 0), (16, .newarray .int, 2, 0), (18, .putfield 15, 3, 0), (21, .aload_n 0, 1, 0), (22, .iconst 0, 1, 0), (23, .putfield 18, 3, 0), (26, .return_, 1, 0)]]
def mi_X0_init : mm_I := (yX0_init, cX0_init, 1, none, 0, 1, true, false, 1, 20, 2, 720)
def mk_X0_leadsBack : mm_K := [[(0, .aload_n 0, 1, 0), (1, .getfield 9, 3, 0), (4, .iconst 0, 1, 0), (5, .invokestatic 22, 3, 0), (8, .aload_n 0, 1, 0), (9, .iconst 0, 1, 0), (10, .putfield 18, 3, 0), (13, .aload_n 0, 1, 0), (14, .aload_n 1, 1, 0), (15, .iload_n 2, 1, 0), (16, .invokevirtual 28, 3, 0), (19, .iconst 0, 1, 0), (20, .istore_n 3, 1, 0), (21, .iload_n 3, 1, 0), (22, .bipush 120, 2, 0), (24, .if_icmp .ge 28, 3, 52), (27, .iload_n 3, 1, 0), (28, .aload_n 0, 1, 0), (29, .getfield 18, 3, 0)],
  [(32, .if_icmp .ge 20, 3, 52), (35, .aload_n 0, 1, 0), (36, .aload_n 1, 1, 0), (37, .aload_n 0, 1, 0), (38, .getfield 15, 3, 0), (41, .iload_n 3, 1, 0), (42, .iaload, 1, 0), (43, .invokevirtual 28, 3, 0), (46, .iinc 3 1, 3, 0), (49, .goto (-28), 3, 21), (52, .aload_n 0, 1, 0), (53, .getfield 9, 3, 0), (56, .iload_n 2, 1, 0), (57, .iaload, 1, 0), (58, .ifCond .eq 7, 3, 65), (61, .iconst 1, 1, 0), (62, .goto 4, 3, 66)],
  [(65, .iconst 0, 1, 0), (66, .ireturn, 1, 0)]]
def mi_X0_leadsBack : mm_I := (yX0_leadsBack, cX0_leadsBack, 4, (some .boolean), 0, 3, false, true, 3, 73, 0, 0)
def mk_X0_reachParents : mm_K := [[(0, .iload_n 2, 1, 0), (1, .bipush 100, 2, 0), (3, .idiv, 1, 0), (4, .istore_n 3, 1, 0), (5, .aload_n 1, 1, 0), (6, .iload_n 3, 1, 0), (7, .iload_n 2, 1, 0), (8, .bipush 100, 2, 0), (10, .irem, 1, 0), (11, .invokevirtual 32, 3, 0), (14, .istore 4, 2, 0), (16, .iload 4, 2, 0), (18, .iconst (-1), 1, 0), (19, .if_icmp .ne 4, 3, 23), (22, .return_, 1, 0), (23, .iconst 0, 1, 0), (24, .istore 5, 2, 0), (26, .iload 5, 2, 0), (28, .aload_n 1, 1, 0), (29, .getfield 38, 3, 0)],
  [(32, .iload_n 3, 1, 0), (33, .iaload, 1, 0), (34, .if_icmp .ge 50, 3, 84), (37, .aload_n 1, 1, 0), (38, .iload 4, 2, 0), (40, .iload 5, 2, 0), (42, .invokevirtual 41, 3, 0), (45, .istore 6, 2, 0), (47, .iload 6, 2, 0), (49, .iconst (-1), 1, 0), (50, .if_icmp .eq 28, 3, 78), (53, .aload_n 1, 1, 0), (54, .aload_n 1, 1, 0), (55, .iload_n 3, 1, 0), (56, .iload 5, 2, 0), (58, .invokevirtual 44, 3, 0), (61, .iconst 1, 1, 0), (62, .invokevirtual 47, 3, 0)],
  [(65, .istore 7, 2, 0), (67, .aload_n 0, 1, 0), (68, .iload 7, 2, 0), (70, .iload 6, 2, 0), (72, .invokestatic 50, 3, 0), (75, .invokevirtual 53, 3, 0), (78, .iinc 5 1, 3, 0), (81, .goto (-55), 3, 26), (84, .return_, 1, 0)]]
def mi_X0_reachParents : mm_I := (yX0_reachParents, cX0_reachParents, 8, none, 0, 3, false, false, 2, 46, 0, 0)
def mk_X0_reach : mm_K := [[(0, .aload_n 0, 1, 0), (1, .getfield 9, 3, 0), (4, .iload_n 1, 1, 0), (5, .iaload, 1, 0), (6, .ifCond .ne 39, 3, 45), (9, .aload_n 0, 1, 0), (10, .getfield 18, 3, 0), (13, .bipush 120, 2, 0), (15, .if_icmp .ge 30, 3, 45), (18, .aload_n 0, 1, 0), (19, .getfield 9, 3, 0), (22, .iload_n 1, 1, 0), (23, .iconst 1, 1, 0), (24, .iastore, 1, 0), (25, .aload_n 0, 1, 0), (26, .getfield 15, 3, 0), (29, .aload_n 0, 1, 0), (30, .getfield 18, 3, 0)],
  [(33, .iload_n 1, 1, 0), (34, .iastore, 1, 0), (35, .aload_n 0, 1, 0), (36, .dup, 1, 0), (37, .getfield 18, 3, 0), (40, .iconst 1, 1, 0), (41, .iadd, 1, 0), (42, .putfield 18, 3, 0), (45, .return_, 1, 0)]]
def mi_X0_reach : mm_I := (yX0_reach, cX0_reach, 2, none, 0, 2, false, false, 0, 0, 0, 0)
def mk_X1_init : mm_K := [[(0, .aload_n 0, 1, 0), (1, .invokespecial 3, 3, 0), (4, .aload_n 0, 1, 0), (5, .bipush 120, 2, 0), (7, .newarray .int, 2, 0), (9, .putfield 9, 3, 0), (12, .aload_n 0, 1, 0), (13, .iconst 0, 1, 0), (14, .putfield 15, 3, 0), (17, .aload_n 0, 1, 0), (18, .iconst 0, 1, 0), (19, .putfield 19, 3, 0), (22, .aload_n 0, 1, 0), (23, .bipush (-9), 2, 0), (25, .putfield 22, 3, 0), (28, .aload_n 0, 1, 0), (29, .iconst 0, 1, 0), (30, .putfield 25, 3, 0)],
  [(33, .aload_n 0, 1, 0), (34, .sipush 600, 3, 0), (37, .newarray .int, 2, 0), (39, .putfield 28, 3, 0), (42, .aload_n 0, 1, 0), (43, .bipush 120, 2, 0), (45, .newarray .int, 2, 0), (47, .putfield 31, 3, 0), (50, .aload_n 0, 1, 0), (51, .bipush 120, 2, 0), (53, .newarray .int, 2, 0), (55, .putfield 34, 3, 0), (58, .aload_n 0, 1, 0), (59, .iconst 0, 1, 0), (60, .putfield 37, 3, 0), (63, .return_, 1, 0)]]
def mi_X1_init : mm_I := (yX1_init, cX1_init, 1, none, 1, 1, true, false, 1, 20, 4, 960)
def mk_X1_plan : mm_K := [[(0, .aload_n 1, 1, 0), (1, .iload_n 2, 1, 0), (2, .iload_n 3, 1, 0), (3, .invokevirtual 40, 3, 0), (6, .iconst (-1), 1, 0), (7, .if_icmp .ne 6, 3, 13), (10, .bipush (-2), 2, 0), (12, .ireturn, 1, 0), (13, .aload_n 0, 1, 0), (14, .aload_n 1, 1, 0), (15, .iload_n 2, 1, 0), (16, .iload_n 3, 1, 0), (17, .invokestatic 46, 3, 0), (20, .invokevirtual 49, 3, 0), (23, .aload_n 0, 1, 0), (24, .aload_n 1, 1, 0), (25, .invokevirtual 53, 3, 0), (28, .aload_n 0, 1, 0), (29, .getfield 19, 3, 0)],
  [(32, .ifCond .ne 7, 3, 39), (35, .iconst 0, 1, 0), (36, .goto 5, 3, 41), (39, .bipush (-8), 2, 0), (41, .ireturn, 1, 0)]]
def mi_X1_plan : mm_I := (yX1_plan, cX1_plan, 4, (some .int), 1, 4, false, false, 4, 98, 0, 0)
def mk_X1_gather : mm_K := [[(0, .aload_n 0, 1, 0), (1, .getfield 28, 3, 0), (4, .iconst 0, 1, 0), (5, .invokestatic 57, 3, 0), (8, .aload_n 0, 1, 0), (9, .iconst 0, 1, 0), (10, .putfield 15, 3, 0), (13, .aload_n 0, 1, 0), (14, .iconst 0, 1, 0), (15, .putfield 37, 3, 0), (18, .aload_n 0, 1, 0), (19, .iload_n 2, 1, 0), (20, .invokevirtual 63, 3, 0), (23, .iconst 0, 1, 0), (24, .istore_n 3, 1, 0), (25, .iload_n 3, 1, 0), (26, .sipush 240, 3, 0), (29, .if_icmp .ge 42, 3, 71)],
  [(32, .aload_n 0, 1, 0), (33, .getfield 37, 3, 0), (36, .ifCond .le 35, 3, 71), (39, .aload_n 0, 1, 0), (40, .aload_n 1, 1, 0), (41, .invokevirtual 67, 3, 0), (44, .istore 4, 2, 0), (46, .iload 4, 2, 0), (48, .iconst (-1), 1, 0), (49, .if_icmp .ne 10, 3, 59), (52, .aload_n 0, 1, 0), (53, .invokevirtual 71, 3, 0), (56, .goto 9, 3, 65), (59, .aload_n 0, 1, 0), (60, .iload 4, 2, 0), (62, .invokevirtual 63, 3, 0)],
  [(65, .iinc 3 1, 3, 0), (68, .goto (-43), 3, 25), (71, .return_, 1, 0)]]
def mi_X1_gather : mm_I := (yX1_gather, cX1_gather, 5, none, 1, 3, false, false, 3, 73, 0, 0)
def mk_X1_begin : mm_K := [[(0, .aload_n 0, 1, 0), (1, .getfield 37, 3, 0), (4, .bipush 120, 2, 0), (6, .if_icmp .lt 4, 3, 10), (9, .return_, 1, 0), (10, .aload_n 0, 1, 0), (11, .getfield 28, 3, 0), (14, .iload_n 1, 1, 0), (15, .iconst 1, 1, 0), (16, .iastore, 1, 0), (17, .aload_n 0, 1, 0), (18, .getfield 31, 3, 0), (21, .aload_n 0, 1, 0), (22, .getfield 37, 3, 0), (25, .iload_n 1, 1, 0), (26, .iastore, 1, 0), (27, .aload_n 0, 1, 0), (28, .getfield 34, 3, 0), (31, .aload_n 0, 1, 0)],
  [(32, .getfield 37, 3, 0), (35, .iconst 0, 1, 0), (36, .iastore, 1, 0), (37, .aload_n 0, 1, 0), (38, .dup, 1, 0), (39, .getfield 37, 3, 0), (42, .iconst 1, 1, 0), (43, .iadd, 1, 0), (44, .putfield 37, 3, 0), (47, .return_, 1, 0)]]
def mi_X1_begin : mm_I := (yX1_begin, cX1_begin, 2, none, 1, 2, false, false, 0, 0, 0, 0)
def mk_X1_end : mm_K := [[(0, .aload_n 0, 1, 0), (1, .dup, 1, 0), (2, .getfield 37, 3, 0), (5, .iconst 1, 1, 0), (6, .isub, 1, 0), (7, .putfield 37, 3, 0), (10, .aload_n 0, 1, 0), (11, .getfield 9, 3, 0), (14, .aload_n 0, 1, 0), (15, .getfield 15, 3, 0), (18, .aload_n 0, 1, 0), (19, .getfield 31, 3, 0), (22, .aload_n 0, 1, 0), (23, .getfield 37, 3, 0), (26, .iaload, 1, 0), (27, .iastore, 1, 0), (28, .aload_n 0, 1, 0), (29, .dup, 1, 0), (30, .getfield 15, 3, 0)],
  [(33, .iconst 1, 1, 0), (34, .iadd, 1, 0), (35, .putfield 15, 3, 0), (38, .return_, 1, 0)]]
def mi_X1_end : mm_I := (yX1_end, cX1_end, 1, none, 1, 1, false, false, 0, 0, 0, 0)
def mk_X1_nextChild : mm_K := [[(0, .aload_n 0, 1, 0), (1, .getfield 31, 3, 0), (4, .aload_n 0, 1, 0), (5, .getfield 37, 3, 0), (8, .iconst 1, 1, 0), (9, .isub, 1, 0), (10, .iaload, 1, 0), (11, .istore_n 2, 1, 0), (12, .aload_n 1, 1, 0), (13, .getfield 74, 3, 0), (16, .bipush 20, 2, 0), (18, .imul, 1, 0), (19, .istore_n 3, 1, 0), (20, .aload_n 0, 1, 0), (21, .getfield 34, 3, 0), (24, .aload_n 0, 1, 0), (25, .getfield 37, 3, 0), (28, .iconst 1, 1, 0), (29, .isub, 1, 0), (30, .iaload, 1, 0), (31, .istore 4, 2, 0)],
  [(33, .iload 4, 2, 0), (35, .iload_n 3, 1, 0), (36, .if_icmp .ge 83, 3, 119), (39, .iload 4, 2, 0), (41, .bipush 20, 2, 0), (43, .idiv, 1, 0), (44, .istore 5, 2, 0), (46, .iload 4, 2, 0), (48, .bipush 20, 2, 0), (50, .irem, 1, 0), (51, .istore 6, 2, 0), (53, .aload_n 1, 1, 0), (54, .iload 5, 2, 0), (56, .iconst 3, 1, 0), (57, .invokevirtual 77, 3, 0), (60, .iconst 2, 1, 0), (61, .if_icmp .ne 52, 3, 113)],
  [(64, .aload_n 1, 1, 0), (65, .iload 5, 2, 0), (67, .iload 6, 2, 0), (69, .invokevirtual 80, 3, 0), (72, .iload_n 2, 1, 0), (73, .if_icmp .ne 40, 3, 113), (76, .aload_n 1, 1, 0), (77, .iload 5, 2, 0), (79, .iload 6, 2, 0), (81, .invokevirtual 83, 3, 0), (84, .istore 7, 2, 0), (86, .aload_n 0, 1, 0), (87, .iload 7, 2, 0), (89, .invokevirtual 86, 3, 0), (92, .ifCond .ne 21, 3, 113), (95, .aload_n 0, 1, 0)],
  [(96, .getfield 34, 3, 0), (99, .aload_n 0, 1, 0), (100, .getfield 37, 3, 0), (103, .iconst 1, 1, 0), (104, .isub, 1, 0), (105, .iload 4, 2, 0), (107, .iconst 1, 1, 0), (108, .iadd, 1, 0), (109, .iastore, 1, 0), (110, .iload 7, 2, 0), (112, .ireturn, 1, 0), (113, .iinc 4 1, 3, 0), (116, .goto (-83), 3, 33), (119, .iconst (-1), 1, 0), (120, .ireturn, 1, 0)]]
def mi_X1_nextChild : mm_I := (yX1_nextChild, cX1_nextChild, 8, (some .int), 1, 2, false, false, 2, 46, 0, 0)
def mk_X1_judge : mm_K := [[(0, .aload_n 0, 1, 0), (1, .iconst 0, 1, 0), (2, .putfield 19, 3, 0), (5, .aload_n 0, 1, 0), (6, .bipush (-9), 2, 0), (8, .putfield 22, 3, 0), (11, .aload_n 0, 1, 0), (12, .iconst 0, 1, 0), (13, .putfield 25, 3, 0), (16, .iconst 0, 1, 0), (17, .istore_n 2, 1, 0), (18, .iload_n 2, 1, 0), (19, .aload_n 1, 1, 0), (20, .getfield 74, 3, 0), (23, .if_icmp .ge 88, 3, 111), (26, .iconst 0, 1, 0), (27, .istore_n 3, 1, 0), (28, .iload_n 3, 1, 0), (29, .bipush 20, 2, 0), (31, .if_icmp .ge 74, 3, 105)],
  [(34, .aload_n 0, 1, 0), (35, .aload_n 1, 1, 0), (36, .iload_n 2, 1, 0), (37, .iload_n 3, 1, 0), (38, .invokevirtual 90, 3, 0), (41, .ifCond .ne 6, 3, 47), (44, .goto 55, 3, 99), (47, .aload_n 1, 1, 0), (48, .iload_n 2, 1, 0), (49, .iload_n 3, 1, 0), (50, .invokevirtual 83, 3, 0), (53, .istore 4, 2, 0), (55, .aload_n 0, 1, 0), (56, .aload_n 0, 1, 0), (57, .aload_n 1, 1, 0), (58, .iload_n 2, 1, 0), (59, .iload_n 3, 1, 0), (60, .invokevirtual 94, 3, 0), (63, .putfield 19, 3, 0)],
  [(66, .aload_n 0, 1, 0), (67, .getfield 19, 3, 0), (70, .ifCond .eq 10, 3, 80), (73, .aload_n 0, 1, 0), (74, .iload 4, 2, 0), (76, .putfield 22, 3, 0), (79, .return_, 1, 0), (80, .aload_n 0, 1, 0), (81, .iload 4, 2, 0), (83, .invokevirtual 86, 3, 0), (86, .ifCond .ne 13, 3, 99), (89, .aload_n 0, 1, 0), (90, .dup, 1, 0), (91, .getfield 25, 3, 0), (94, .iconst 1, 1, 0), (95, .iadd, 1, 0)],
  [(96, .putfield 25, 3, 0), (99, .iinc 3 1, 3, 0), (102, .goto (-74), 3, 28), (105, .iinc 2 1, 3, 0), (108, .goto (-90), 3, 18), (111, .return_, 1, 0)]]
def mi_X1_judge : mm_I := (yX1_judge, cX1_judge, 5, none, 1, 2, false, false, 3, 74, 0, 0)
def mk_X1_losesParent : mm_K := [[(0, .aload_n 0, 1, 0), (1, .aload_n 1, 1, 0), (2, .iload_n 2, 1, 0), (3, .iload_n 3, 1, 0), (4, .invokevirtual 80, 3, 0), (7, .invokevirtual 86, 3, 0), (10, .ireturn, 1, 0)]]
def mi_X1_losesParent : mm_I := (yX1_losesParent, cX1_losesParent, 4, (some .boolean), 1, 4, false, true, 2, 46, 0, 0)
def mk_X1_isMarked : mm_K := [[(0, .iload_n 1, 1, 0), (1, .iconst (-1), 1, 0), (2, .if_icmp .eq 16, 3, 18), (5, .aload_n 0, 1, 0), (6, .getfield 28, 3, 0), (9, .iload_n 1, 1, 0), (10, .iaload, 1, 0), (11, .ifCond .eq 7, 3, 18), (14, .iconst 1, 1, 0), (15, .goto 4, 3, 19), (18, .iconst 0, 1, 0), (19, .ireturn, 1, 0)]]
def mi_X1_isMarked : mm_I := (yX1_isMarked, cX1_isMarked, 2, (some .boolean), 1, 2, false, true, 0, 0, 0, 0)
def mk_X1_refusalAt : mm_K := [[(0, .aload_n 1, 1, 0), (1, .iload_n 2, 1, 0), (2, .iload_n 3, 1, 0), (3, .invokevirtual 83, 3, 0), (6, .istore 4, 2, 0), (8, .aload_n 1, 1, 0), (9, .iload_n 2, 1, 0), (10, .iconst 3, 1, 0), (11, .invokevirtual 77, 3, 0), (14, .istore 5, 2, 0), (16, .iload 5, 2, 0), (18, .ifCond .ne 20, 3, 38), (21, .aload_n 1, 1, 0), (22, .iload_n 2, 1, 0), (23, .iload_n 3, 1, 0), (24, .invokevirtual 80, 3, 0), (27, .iload 4, 2, 0), (29, .if_icmp .ne 7, 3, 36)],
  [(32, .iconst 0, 1, 0), (33, .goto 4, 3, 37), (36, .iconst 1, 1, 0), (37, .ireturn, 1, 0), (38, .aload_n 0, 1, 0), (39, .iload 4, 2, 0), (41, .invokevirtual 86, 3, 0), (44, .ifCond .eq 5, 3, 49), (47, .iconst 0, 1, 0), (48, .ireturn, 1, 0), (49, .iload 5, 2, 0), (51, .iconst 1, 1, 0), (52, .if_icmp .ne 5, 3, 57), (55, .iconst 2, 1, 0), (56, .ireturn, 1, 0), (57, .aload_n 1, 1, 0), (58, .iload_n 2, 1, 0), (59, .invokestatic 98, 3, 0), (62, .istore 6, 2, 0)],
  [(64, .iload 6, 2, 0), (66, .iconst (-1), 1, 0), (67, .if_icmp .ne 19, 3, 86), (70, .aload_n 1, 1, 0), (71, .iload_n 2, 1, 0), (72, .iconst 4, 1, 0), (73, .invokevirtual 77, 3, 0), (76, .iconst 1, 1, 0), (77, .if_icmp .ne 7, 3, 84), (80, .iconst 3, 1, 0), (81, .goto 4, 3, 85), (84, .iconst 0, 1, 0), (85, .ireturn, 1, 0), (86, .aload_n 1, 1, 0), (87, .iload_n 2, 1, 0), (88, .iconst 1, 1, 0), (89, .invokevirtual 77, 3, 0), (92, .istore 7, 2, 0), (94, .aload_n 1, 1, 0), (95, .iload 7, 2, 0)],
  [(97, .iload 6, 2, 0), (99, .invokevirtual 40, 3, 0), (102, .iconst (-1), 1, 0), (103, .if_icmp .eq 21, 3, 124), (106, .aload_n 0, 1, 0), (107, .iload 7, 2, 0), (109, .iload 6, 2, 0), (111, .invokestatic 46, 3, 0), (114, .invokevirtual 86, 3, 0), (117, .ifCond .ne 7, 3, 124), (120, .iconst 1, 1, 0), (121, .goto 4, 3, 125), (124, .iconst 0, 1, 0), (125, .istore 8, 2, 0), (127, .iload 8, 2, 0)],
  [(129, .ifCond .eq 7, 3, 136), (132, .iconst 0, 1, 0), (133, .goto 4, 3, 137), (136, .iconst 4, 1, 0), (137, .ireturn, 1, 0)]]
def mi_X1_refusalAt : mm_I := (yX1_refusalAt, cX1_refusalAt, 9, (some .int), 1, 4, false, false, 2, 46, 0, 0)
def mk_X1_newValue : mm_K := [[(0, .aload_n 0, 1, 0), (1, .iload_n 1, 1, 0), (2, .iconst 3, 1, 0), (3, .invokevirtual 77, 3, 0), (6, .iconst 4, 1, 0), (7, .if_icmp .ne 7, 3, 14), (10, .iconst 1, 1, 0), (11, .goto 4, 3, 15), (14, .iconst 0, 1, 0), (15, .istore_n 2, 1, 0), (16, .iload_n 2, 1, 0), (17, .ifCond .eq 12, 3, 29), (20, .aload_n 0, 1, 0), (21, .iload_n 1, 1, 0), (22, .iconst 5, 1, 0), (23, .invokevirtual 77, 3, 0), (26, .goto 4, 3, 30), (29, .iconst (-1), 1, 0), (30, .ireturn, 1, 0)]]
def mi_X1_newValue : mm_I := (yX1_newValue, cX1_newValue, 3, (some .int), 1, 2, false, false, 1, 22, 0, 0)
def mk_X1_carryOut : mm_K := [[(0, .iconst 0, 1, 0), (1, .istore_n 2, 1, 0), (2, .iload_n 2, 1, 0), (3, .aload_n 1, 1, 0), (4, .getfield 74, 3, 0), (7, .if_icmp .ge 15, 3, 22), (10, .aload_n 0, 1, 0), (11, .aload_n 1, 1, 0), (12, .iload_n 2, 1, 0), (13, .invokevirtual 102, 3, 0), (16, .iinc 2 1, 3, 0), (19, .goto (-17), 3, 2), (22, .iconst 0, 1, 0), (23, .istore_n 2, 1, 0), (24, .iload_n 2, 1, 0), (25, .aload_n 0, 1, 0), (26, .getfield 15, 3, 0), (29, .if_icmp .ge 19, 3, 48)],
  [(32, .aload_n 1, 1, 0), (33, .aload_n 0, 1, 0), (34, .getfield 9, 3, 0), (37, .iload_n 2, 1, 0), (38, .iaload, 1, 0), (39, .invokevirtual 105, 3, 0), (42, .iinc 2 1, 3, 0), (45, .goto (-21), 3, 24), (48, .aload_n 0, 1, 0), (49, .getfield 9, 3, 0), (52, .iconst 0, 1, 0), (53, .aload_n 1, 1, 0), (54, .getfield 108, 3, 0), (57, .iconst 0, 1, 0), (58, .aload_n 0, 1, 0), (59, .getfield 15, 3, 0), (62, .invokestatic 111, 3, 0)],
  [(65, .aload_n 1, 1, 0), (66, .aload_n 0, 1, 0), (67, .getfield 15, 3, 0), (70, .putfield 117, 3, 0), (73, .aload_n 1, 1, 0), (74, .dup, 1, 0), (75, .getfield 120, 3, 0), (78, .aload_n 0, 1, 0), (79, .getfield 15, 3, 0), (82, .iadd, 1, 0), (83, .putfield 120, 3, 0), (86, .aload_n 1, 1, 0), (87, .dup, 1, 0), (88, .getfield 123, 3, 0), (91, .aload_n 0, 1, 0), (92, .getfield 25, 3, 0), (95, .iadd, 1, 0)],
  [(96, .putfield 123, 3, 0), (99, .aload_n 0, 1, 0), (100, .getfield 15, 3, 0), (103, .ireturn, 1, 0)]]
def mi_X1_carryOut : mm_I := (yX1_carryOut, cX1_carryOut, 3, (some .int), 1, 2, false, false, 4, 98, 0, 0)
def mk_X1_changeValues : mm_K := [[(0, .aload_n 1, 1, 0), (1, .iload_n 2, 1, 0), (2, .iconst 2, 1, 0), (3, .invokevirtual 77, 3, 0), (6, .istore_n 3, 1, 0), (7, .aload_n 1, 1, 0), (8, .iload_n 2, 1, 0), (9, .invokestatic 98, 3, 0), (12, .istore 4, 2, 0), (14, .iconst 0, 1, 0), (15, .istore 5, 2, 0), (17, .iload 5, 2, 0), (19, .bipush 20, 2, 0), (21, .if_icmp .ge 56, 3, 77), (24, .aload_n 0, 1, 0), (25, .aload_n 1, 1, 0), (26, .iload_n 2, 1, 0), (27, .iload 5, 2, 0), (29, .invokevirtual 90, 3, 0)],
  [(32, .ifCond .eq 39, 3, 71), (35, .aload_n 1, 1, 0), (36, .iload_n 2, 1, 0), (37, .iload 5, 2, 0), (39, .invokevirtual 83, 3, 0), (42, .istore 6, 2, 0), (44, .aload_n 0, 1, 0), (45, .iload 6, 2, 0), (47, .invokevirtual 86, 3, 0), (50, .ifCond .ne 21, 3, 71), (53, .aload_n 1, 1, 0), (54, .iload 6, 2, 0), (56, .bipush 100, 2, 0), (58, .idiv, 1, 0), (59, .iload 6, 2, 0), (61, .bipush 100, 2, 0), (63, .irem, 1, 0)],
  [(64, .iload_n 3, 1, 0), (65, .iload 4, 2, 0), (67, .invokevirtual 126, 3, 0), (70, .pop, 1, 0), (71, .iinc 5 1, 3, 0), (74, .goto (-57), 3, 17), (77, .return_, 1, 0)]]
def mi_X1_changeValues : mm_I := (yX1_changeValues, cX1_changeValues, 7, none, 1, 3, false, false, 3, 72, 0, 0)
def mk_X2_init : mm_K := [[(0, .aload_n 0, 1, 0), (1, .invokespecial 3, 3, 0), (4, .aload_n 0, 1, 0), (5, .iconst 4, 1, 0), (6, .anewarray 9, 3, 0), (9, .putfield 11, 3, 0), (12, .aload_n 0, 1, 0), (13, .iconst 0, 1, 0), (14, .putfield 17, 3, 0), (17, .iconst 0, 1, 0), (18, .istore_n 1, 1, 0), (19, .iload_n 1, 1, 0), (20, .iconst 4, 1, 0), (21, .if_icmp .ge 22, 3, 43), (24, .aload_n 0, 1, 0), (25, .getfield 11, 3, 0), (28, .iload_n 1, 1, 0), (29, .new 9, 3, 0)],
  [(32, .dup, 1, 0), (33, .invokespecial 21, 3, 0), (36, .aastore, 1, 0), (37, .iinc 1 1, 3, 0), (40, .goto (-21), 3, 19), (43, .return_, 1, 0)]]
def mi_X2_init : mm_I := (yX2_init, cX2_init, 2, none, 2, 1, true, false, 2, 40, 33, 2360)
def mk_X2_remember : mm_K := [[(0, .aload_n 0, 1, 0), (1, .getfield 17, 3, 0), (4, .iconst 4, 1, 0), (5, .if_icmp .lt 7, 3, 12), (8, .aload_n 0, 1, 0), (9, .invokevirtual 22, 3, 0), (12, .aload_n 0, 1, 0), (13, .getfield 11, 3, 0), (16, .aload_n 0, 1, 0), (17, .getfield 17, 3, 0), (20, .aaload, 1, 0), (21, .aload_n 1, 1, 0), (22, .invokevirtual 25, 3, 0), (25, .aload_n 0, 1, 0), (26, .dup, 1, 0), (27, .getfield 17, 3, 0), (30, .iconst 1, 1, 0), (31, .iadd, 1, 0)],
  [(32, .putfield 17, 3, 0), (35, .return_, 1, 0)]]
def mi_X2_remember : mm_I := (yX2_remember, cX2_remember, 2, none, 2, 2, false, false, 2, 47, 0, 0)
def mk_X2_dropOldest : mm_K := [[(0, .aload_n 0, 1, 0), (1, .getfield 11, 3, 0), (4, .iconst 0, 1, 0), (5, .aaload, 1, 0), (6, .astore_n 1, 1, 0), (7, .iconst 1, 1, 0), (8, .istore_n 2, 1, 0), (9, .iload_n 2, 1, 0), (10, .iconst 4, 1, 0), (11, .if_icmp .ge 23, 3, 34), (14, .aload_n 0, 1, 0), (15, .getfield 11, 3, 0), (18, .iload_n 2, 1, 0), (19, .iconst 1, 1, 0), (20, .isub, 1, 0), (21, .aload_n 0, 1, 0), (22, .getfield 11, 3, 0), (25, .iload_n 2, 1, 0), (26, .aaload, 1, 0), (27, .aastore, 1, 0), (28, .iinc 2 1, 3, 0), (31, .goto (-22), 3, 9)],
  [(34, .aload_n 0, 1, 0), (35, .getfield 11, 3, 0), (38, .iconst 3, 1, 0), (39, .aload_n 1, 1, 0), (40, .aastore, 1, 0), (41, .aload_n 0, 1, 0), (42, .dup, 1, 0), (43, .getfield 17, 3, 0), (46, .iconst 1, 1, 0), (47, .isub, 1, 0), (48, .putfield 17, 3, 0), (51, .return_, 1, 0)]]
def mi_X2_dropOldest : mm_I := (yX2_dropOldest, cX2_dropOldest, 3, none, 2, 1, false, false, 0, 0, 0, 0)
def mk_X2_bringBack : mm_K := [[(0, .aload_n 0, 1, 0), (1, .getfield 17, 3, 0), (4, .ifCond .ne 6, 3, 10), (7, .bipush (-9), 2, 0), (9, .ireturn, 1, 0), (10, .aload_n 0, 1, 0), (11, .dup, 1, 0), (12, .getfield 17, 3, 0), (15, .iconst 1, 1, 0), (16, .isub, 1, 0), (17, .putfield 17, 3, 0), (20, .aload_n 1, 1, 0), (21, .aload_n 0, 1, 0), (22, .getfield 11, 3, 0), (25, .aload_n 0, 1, 0), (26, .getfield 17, 3, 0), (29, .aaload, 1, 0), (30, .invokevirtual 25, 3, 0)],
  [(33, .aload_n 0, 1, 0), (34, .getfield 17, 3, 0), (37, .ireturn, 1, 0)]]
def mi_X2_bringBack : mm_I := (yX2_bringBack, cX2_bringBack, 2, (some .int), 2, 2, false, false, 2, 47, 0, 0)
def mk_X3_init : mm_K := [[(0, .aload_n 0, 1, 0), (1, .invokespecial 3, 3, 0), (4, .aload_n 0, 1, 0), (5, .bipush 60, 2, 0), (7, .newarray .char, 2, 0), (9, .putfield 9, 3, 0), (12, .aload_n 0, 1, 0), (13, .iconst 0, 1, 0), (14, .putfield 15, 3, 0), (17, .aload_n 0, 1, 0), (18, .iconst 0, 1, 0), (19, .putfield 19, 3, 0), (22, .aload_n 0, 1, 0), (23, .iconst 0, 1, 0), (24, .putfield 22, 3, 0), (27, .aload_n 0, 1, 0), (28, .iconst 0, 1, 0), (29, .putfield 25, 3, 0)],
  [(32, .aload_n 0, 1, 0), (33, .iconst 0, 1, 0), (34, .putfield 28, 3, 0), (37, .aload_n 0, 1, 0), (38, .iconst (-1), 1, 0), (39, .putfield 31, 3, 0), (42, .aload_n 0, 1, 0), (43, .iconst (-1), 1, 0), (44, .putfield 34, 3, 0), (47, .aload_n 0, 1, 0), (48, .iconst 0, 1, 0), (49, .putfield 37, 3, 0), (52, .aload_n 0, 1, 0), (53, .iconst 0, 1, 0), (54, .putfield 40, 3, 0), (57, .return_, 1, 0)]]
def mi_X3_init : mm_I := (yX3_init, cX3_init, 1, none, 3, 1, true, false, 1, 20, 1, 60)
def mk_X4_init : mm_K := [[(0, .aload_n 0, 1, 0), (1, .invokespecial 3, 3, 0), (4, .aload_n 0, 1, 0), (5, .iconst 0, 1, 0), (6, .putfield 9, 3, 0), (9, .aload_n 0, 1, 0), (10, .iconst 0, 1, 0), (11, .putfield 15, 3, 0), (14, .aload_n 0, 1, 0), (15, .bipush 6, 2, 0), (17, .newarray .int, 2, 0), (19, .putfield 18, 3, 0), (22, .aload_n 0, 1, 0), (23, .bipush 6, 2, 0), (25, .newarray .int, 2, 0), (27, .putfield 22, 3, 0), (30, .aload_n 0, 1, 0), (31, .bipush 12, 2, 0)],
  [(33, .newarray .int, 2, 0), (35, .putfield 25, 3, 0), (38, .aload_n 0, 1, 0), (39, .bipush 72, 2, 0), (41, .newarray .int, 2, 0), (43, .putfield 28, 3, 0), (46, .aload_n 0, 1, 0), (47, .bipush 120, 2, 0), (49, .newarray .int, 2, 0), (51, .putfield 31, 3, 0), (54, .aload_n 0, 1, 0), (55, .sipush 240, 3, 0), (58, .newarray .int, 2, 0), (60, .putfield 34, 3, 0), (63, .aload_n 0, 1, 0)],
  [(64, .bipush 120, 2, 0), (66, .newarray .int, 2, 0), (68, .putfield 37, 3, 0), (71, .aload_n 0, 1, 0), (72, .iconst 0, 1, 0), (73, .putfield 40, 3, 0), (76, .aload_n 0, 1, 0), (77, .iconst 0, 1, 0), (78, .putfield 43, 3, 0), (81, .aload_n 0, 1, 0), (82, .iconst 0, 1, 0), (83, .putfield 46, 3, 0), (86, .aload_n 0, 1, 0), (87, .iconst 0, 1, 0), (88, .putfield 49, 3, 0), (91, .return_, 1, 0)]]
def mi_X4_init : mm_I := (yX4_init, cX4_init, 1, none, 4, 1, true, false, 1, 20, 7, 576)
def mk_X4_copyFrom : mm_K := [[(0, .aload_n 0, 1, 0), (1, .aload_n 1, 1, 0), (2, .getfield 9, 3, 0), (5, .putfield 9, 3, 0), (8, .aload_n 0, 1, 0), (9, .aload_n 1, 1, 0), (10, .getfield 15, 3, 0), (13, .putfield 15, 3, 0), (16, .aload_n 1, 1, 0), (17, .getfield 18, 3, 0), (20, .iconst 0, 1, 0), (21, .aload_n 0, 1, 0), (22, .getfield 18, 3, 0), (25, .iconst 0, 1, 0), (26, .aload_n 0, 1, 0), (27, .getfield 18, 3, 0), (30, .arraylength, 1, 0), (31, .invokestatic 52, 3, 0)],
  [(34, .aload_n 1, 1, 0), (35, .getfield 22, 3, 0), (38, .iconst 0, 1, 0), (39, .aload_n 0, 1, 0), (40, .getfield 22, 3, 0), (43, .iconst 0, 1, 0), (44, .aload_n 0, 1, 0), (45, .getfield 22, 3, 0), (48, .arraylength, 1, 0), (49, .invokestatic 52, 3, 0), (52, .aload_n 1, 1, 0), (53, .getfield 25, 3, 0), (56, .iconst 0, 1, 0), (57, .aload_n 0, 1, 0), (58, .getfield 25, 3, 0), (61, .iconst 0, 1, 0), (62, .aload_n 0, 1, 0), (63, .getfield 25, 3, 0)],
  [(66, .arraylength, 1, 0), (67, .invokestatic 52, 3, 0), (70, .aload_n 1, 1, 0), (71, .getfield 28, 3, 0), (74, .iconst 0, 1, 0), (75, .aload_n 0, 1, 0), (76, .getfield 28, 3, 0), (79, .iconst 0, 1, 0), (80, .aload_n 0, 1, 0), (81, .getfield 28, 3, 0), (84, .arraylength, 1, 0), (85, .invokestatic 52, 3, 0), (88, .aload_n 1, 1, 0), (89, .getfield 31, 3, 0), (92, .iconst 0, 1, 0), (93, .aload_n 0, 1, 0), (94, .getfield 31, 3, 0)],
  [(97, .iconst 0, 1, 0), (98, .aload_n 0, 1, 0), (99, .getfield 31, 3, 0), (102, .arraylength, 1, 0), (103, .invokestatic 52, 3, 0), (106, .aload_n 1, 1, 0), (107, .getfield 34, 3, 0), (110, .iconst 0, 1, 0), (111, .aload_n 0, 1, 0), (112, .getfield 34, 3, 0), (115, .iconst 0, 1, 0), (116, .aload_n 0, 1, 0), (117, .getfield 34, 3, 0), (120, .arraylength, 1, 0), (121, .invokestatic 52, 3, 0), (124, .aload_n 1, 1, 0), (125, .getfield 37, 3, 0)],
  [(128, .iconst 0, 1, 0), (129, .aload_n 0, 1, 0), (130, .getfield 37, 3, 0), (133, .iconst 0, 1, 0), (134, .aload_n 0, 1, 0), (135, .getfield 37, 3, 0), (138, .arraylength, 1, 0), (139, .invokestatic 52, 3, 0), (142, .aload_n 0, 1, 0), (143, .aload_n 1, 1, 0), (144, .getfield 40, 3, 0), (147, .putfield 40, 3, 0), (150, .aload_n 0, 1, 0), (151, .aload_n 1, 1, 0), (152, .getfield 43, 3, 0), (155, .putfield 43, 3, 0), (158, .aload_n 0, 1, 0), (159, .aload_n 1, 1, 0)],
  [(160, .getfield 46, 3, 0), (163, .putfield 46, 3, 0), (166, .aload_n 0, 1, 0), (167, .aload_n 1, 1, 0), (168, .getfield 49, 3, 0), (171, .putfield 49, 3, 0), (174, .return_, 1, 0)]]
def mi_X4_copyFrom : mm_I := (yX4_copyFrom, cX4_copyFrom, 2, none, 4, 2, false, false, 1, 26, 0, 0)
def mk_X4_hasTable : mm_K := [[(0, .iload_n 1, 1, 0), (1, .ifCond .lt 15, 3, 16), (4, .iload_n 1, 1, 0), (5, .aload_n 0, 1, 0), (6, .getfield 9, 3, 0), (9, .if_icmp .ge 7, 3, 16), (12, .iconst 1, 1, 0), (13, .goto 4, 3, 17), (16, .iconst 0, 1, 0), (17, .ireturn, 1, 0)]]
def mi_X4_hasTable : mm_I := (yX4_hasTable, cX4_hasTable, 2, (some .boolean), 4, 2, false, true, 0, 0, 0, 0)
def mk_X4_hasReference : mm_K := [[(0, .iload_n 1, 1, 0), (1, .ifCond .lt 15, 3, 16), (4, .iload_n 1, 1, 0), (5, .aload_n 0, 1, 0), (6, .getfield 15, 3, 0), (9, .if_icmp .ge 7, 3, 16), (12, .iconst 1, 1, 0), (13, .goto 4, 3, 17), (16, .iconst 0, 1, 0), (17, .ireturn, 1, 0)]]
def mi_X4_hasReference : mm_I := (yX4_hasReference, cX4_hasReference, 2, (some .boolean), 4, 2, false, true, 0, 0, 0, 0)
def mk_X4_hasColumn : mm_K := [[(0, .aload_n 0, 1, 0), (1, .iload_n 1, 1, 0), (2, .invokevirtual 58, 3, 0), (5, .ifCond .eq 21, 3, 26), (8, .iload_n 2, 1, 0), (9, .ifCond .lt 17, 3, 26), (12, .iload_n 2, 1, 0), (13, .aload_n 0, 1, 0), (14, .getfield 22, 3, 0), (17, .iload_n 1, 1, 0), (18, .iaload, 1, 0), (19, .if_icmp .ge 7, 3, 26), (22, .iconst 1, 1, 0), (23, .goto 4, 3, 27), (26, .iconst 0, 1, 0), (27, .ireturn, 1, 0)]]
def mi_X4_hasColumn : mm_I := (yX4_hasColumn, cX4_hasColumn, 3, (some .boolean), 4, 3, false, true, 1, 21, 0, 0)
def mk_X4_hasRow : mm_K := [[(0, .aload_n 0, 1, 0), (1, .iload_n 1, 1, 0), (2, .iload_n 2, 1, 0), (3, .invokevirtual 62, 3, 0), (6, .iconst (-1), 1, 0), (7, .if_icmp .eq 7, 3, 14), (10, .iconst 1, 1, 0), (11, .goto 4, 3, 15), (14, .iconst 0, 1, 0), (15, .ireturn, 1, 0)]]
def mi_X4_hasRow : mm_I := (yX4_hasRow, cX4_hasRow, 3, (some .boolean), 4, 3, false, true, 2, 46, 0, 0)
def mk_X4_slotOf : mm_K := [[(0, .aload_n 0, 1, 0), (1, .iload_n 1, 1, 0), (2, .invokevirtual 58, 3, 0), (5, .ifCond .ne 5, 3, 10), (8, .iconst (-1), 1, 0), (9, .ireturn, 1, 0), (10, .iload_n 1, 1, 0), (11, .bipush 20, 2, 0), (13, .imul, 1, 0), (14, .istore_n 3, 1, 0), (15, .iload_n 3, 1, 0), (16, .aload_n 0, 1, 0), (17, .getfield 18, 3, 0), (20, .iload_n 1, 1, 0), (21, .iaload, 1, 0), (22, .iadd, 1, 0), (23, .istore 4, 2, 0), (25, .iload_n 3, 1, 0), (26, .istore 5, 2, 0), (28, .iload 5, 2, 0), (30, .iload 4, 2, 0)],
  [(32, .if_icmp .ge 23, 3, 55), (35, .aload_n 0, 1, 0), (36, .getfield 31, 3, 0), (39, .iload 5, 2, 0), (41, .iaload, 1, 0), (42, .iload_n 2, 1, 0), (43, .if_icmp .ne 6, 3, 49), (46, .iload 5, 2, 0), (48, .ireturn, 1, 0), (49, .iinc 5 1, 3, 0), (52, .goto (-24), 3, 28), (55, .iconst (-1), 1, 0), (56, .ireturn, 1, 0)]]
def mi_X4_slotOf : mm_I := (yX4_slotOf, cX4_slotOf, 6, (some .int), 4, 3, false, false, 1, 21, 0, 0)
def mk_X4_valueAt : mm_K := [[(0, .aload_n 0, 1, 0), (1, .getfield 34, 3, 0), (4, .iload_n 1, 1, 0), (5, .iconst 2, 1, 0), (6, .imul, 1, 0), (7, .iload_n 2, 1, 0), (8, .iadd, 1, 0), (9, .iaload, 1, 0), (10, .ireturn, 1, 0)]]
def mi_X4_valueAt : mm_I := (yX4_valueAt, cX4_valueAt, 3, (some .int), 4, 3, false, false, 0, 0, 0, 0)
def mk_X4_fact : mm_K := [[(0, .aload_n 0, 1, 0), (1, .getfield 28, 3, 0), (4, .iload_n 1, 1, 0), (5, .bipush 6, 2, 0), (7, .imul, 1, 0), (8, .iload_n 2, 1, 0), (9, .iadd, 1, 0), (10, .iaload, 1, 0), (11, .ireturn, 1, 0)]]
def mi_X4_fact : mm_I := (yX4_fact, cX4_fact, 3, (some .int), 4, 3, false, false, 0, 0, 0, 0)
def mk_X4_referenceOf : mm_K := [[(0, .aload_n 0, 1, 0), (1, .getfield 25, 3, 0), (4, .iload_n 1, 1, 0), (5, .iconst 2, 1, 0), (6, .imul, 1, 0), (7, .iload_n 2, 1, 0), (8, .iadd, 1, 0), (9, .iaload, 1, 0), (10, .ireturn, 1, 0)]]
def mi_X4_referenceOf : mm_I := (yX4_referenceOf, cX4_referenceOf, 3, (some .int), 4, 3, false, false, 0, 0, 0, 0)
def mk_X4_childAt : mm_K := [[(0, .aload_n 0, 1, 0), (1, .iload_n 1, 1, 0), (2, .iconst 0, 1, 0), (3, .invokevirtual 66, 3, 0), (6, .istore_n 3, 1, 0), (7, .iload_n 2, 1, 0), (8, .aload_n 0, 1, 0), (9, .getfield 18, 3, 0), (12, .iload_n 3, 1, 0), (13, .iaload, 1, 0), (14, .if_icmp .ge 21, 3, 35), (17, .iload_n 3, 1, 0), (18, .aload_n 0, 1, 0), (19, .getfield 31, 3, 0), (22, .iload_n 3, 1, 0), (23, .bipush 20, 2, 0), (25, .imul, 1, 0), (26, .iload_n 2, 1, 0), (27, .iadd, 1, 0), (28, .iaload, 1, 0), (29, .invokestatic 69, 3, 0)],
  [(32, .goto 4, 3, 36), (35, .iconst (-1), 1, 0), (36, .ireturn, 1, 0)]]
def mi_X4_childAt : mm_I := (yX4_childAt, cX4_childAt, 4, (some .int), 4, 3, false, false, 1, 22, 0, 0)
def mk_X4_parentAt : mm_K := [[(0, .aload_n 0, 1, 0), (1, .iload_n 1, 1, 0), (2, .iconst 0, 1, 0), (3, .invokevirtual 66, 3, 0), (6, .istore_n 3, 1, 0), (7, .iload_n 2, 1, 0), (8, .aload_n 0, 1, 0), (9, .getfield 18, 3, 0), (12, .iload_n 3, 1, 0), (13, .iaload, 1, 0), (14, .if_icmp .lt 5, 3, 19), (17, .iconst (-1), 1, 0), (18, .ireturn, 1, 0), (19, .aload_n 0, 1, 0), (20, .iload_n 3, 1, 0), (21, .bipush 20, 2, 0), (23, .imul, 1, 0), (24, .iload_n 2, 1, 0), (25, .iadd, 1, 0), (26, .aload_n 0, 1, 0), (27, .iload_n 1, 1, 0), (28, .iconst 2, 1, 0), (29, .invokevirtual 66, 3, 0)],
  [(32, .invokevirtual 72, 3, 0), (35, .istore 4, 2, 0), (37, .iload 4, 2, 0), (39, .iconst (-1), 1, 0), (40, .if_icmp .ne 7, 3, 47), (43, .iconst (-1), 1, 0), (44, .goto 14, 3, 58), (47, .aload_n 0, 1, 0), (48, .iload_n 1, 1, 0), (49, .iconst 1, 1, 0), (50, .invokevirtual 66, 3, 0), (53, .iload 4, 2, 0), (55, .invokestatic 69, 3, 0), (58, .ireturn, 1, 0)]]
def mi_X4_parentAt : mm_I := (yX4_parentAt, cX4_parentAt, 5, (some .int), 4, 3, false, false, 1, 22, 0, 0)
def mk_X4_countRows : mm_K := [[(0, .iconst 0, 1, 0), (1, .istore_n 1, 1, 0), (2, .iconst 0, 1, 0), (3, .istore_n 2, 1, 0), (4, .iload_n 2, 1, 0), (5, .aload_n 0, 1, 0), (6, .getfield 9, 3, 0), (9, .if_icmp .ge 18, 3, 27), (12, .iload_n 1, 1, 0), (13, .aload_n 0, 1, 0), (14, .getfield 18, 3, 0), (17, .iload_n 2, 1, 0), (18, .iaload, 1, 0), (19, .iadd, 1, 0), (20, .istore_n 1, 1, 0), (21, .iinc 2 1, 3, 0), (24, .goto (-20), 3, 4), (27, .iload_n 1, 1, 0), (28, .ireturn, 1, 0)]]
def mi_X4_countRows : mm_I := (yX4_countRows, cX4_countRows, 3, (some .int), 4, 1, false, false, 0, 0, 0, 0)
def mk_X4_countNulls : mm_K := [[(0, .iconst 0, 1, 0), (1, .istore_n 1, 1, 0), (2, .iconst 0, 1, 0), (3, .istore_n 2, 1, 0), (4, .iload_n 2, 1, 0), (5, .aload_n 0, 1, 0), (6, .getfield 15, 3, 0), (9, .if_icmp .ge 18, 3, 27), (12, .iload_n 1, 1, 0), (13, .aload_n 0, 1, 0), (14, .iload_n 2, 1, 0), (15, .iconst (-1), 1, 0), (16, .invokevirtual 75, 3, 0), (19, .iadd, 1, 0), (20, .istore_n 1, 1, 0), (21, .iinc 2 1, 3, 0), (24, .goto (-20), 3, 4), (27, .iload_n 1, 1, 0), (28, .ireturn, 1, 0)]]
def mi_X4_countNulls : mm_I := (yX4_countNulls, cX4_countNulls, 3, (some .int), 4, 1, false, false, 2, 49, 0, 0)
def mk_X4_countChildren : mm_K := [[(0, .iconst 0, 1, 0), (1, .istore_n 3, 1, 0), (2, .aload_n 0, 1, 0), (3, .iload_n 1, 1, 0), (4, .iconst 2, 1, 0), (5, .invokevirtual 66, 3, 0), (8, .istore 4, 2, 0), (10, .aload_n 0, 1, 0), (11, .iload_n 1, 1, 0), (12, .iconst 0, 1, 0), (13, .invokevirtual 66, 3, 0), (16, .bipush 20, 2, 0), (18, .imul, 1, 0), (19, .istore 5, 2, 0), (21, .iload 5, 2, 0), (23, .aload_n 0, 1, 0), (24, .getfield 18, 3, 0), (27, .aload_n 0, 1, 0), (28, .iload_n 1, 1, 0), (29, .iconst 0, 1, 0), (30, .invokevirtual 66, 3, 0)],
  [(33, .iaload, 1, 0), (34, .iadd, 1, 0), (35, .istore 6, 2, 0), (37, .iload 5, 2, 0), (39, .istore 7, 2, 0), (41, .iload 7, 2, 0), (43, .iload 6, 2, 0), (45, .if_icmp .ge 24, 3, 69), (48, .aload_n 0, 1, 0), (49, .iload 7, 2, 0), (51, .iload 4, 2, 0), (53, .invokevirtual 72, 3, 0), (56, .iload_n 2, 1, 0), (57, .if_icmp .ne 6, 3, 63), (60, .iinc 3 1, 3, 0), (63, .iinc 7 1, 3, 0)],
  [(66, .goto (-25), 3, 41), (69, .iload_n 3, 1, 0), (70, .ireturn, 1, 0)]]
def mi_X4_countChildren : mm_I := (yX4_countChildren, cX4_countChildren, 8, (some .int), 4, 3, false, false, 1, 22, 0, 0)
def mk_X4_appendTable : mm_K := [[(0, .aload_n 0, 1, 0), (1, .dup, 1, 0), (2, .getfield 9, 3, 0), (5, .iconst 1, 1, 0), (6, .iadd, 1, 0), (7, .putfield 9, 3, 0), (10, .aload_n 0, 1, 0), (11, .getfield 9, 3, 0), (14, .iconst 1, 1, 0), (15, .isub, 1, 0), (16, .ireturn, 1, 0)]]
def mi_X4_appendTable : mm_I := (yX4_appendTable, cX4_appendTable, 1, (some .int), 4, 1, false, false, 0, 0, 0, 0)
def mk_X4_appendReference : mm_K := [[(0, .aload_n 0, 1, 0), (1, .getfield 22, 3, 0), (4, .iload_n 1, 1, 0), (5, .iaload, 1, 0), (6, .istore 6, 2, 0), (8, .aload_n 0, 1, 0), (9, .getfield 15, 3, 0), (12, .bipush 6, 2, 0), (14, .imul, 1, 0), (15, .istore 7, 2, 0), (17, .aload_n 0, 1, 0), (18, .getfield 28, 3, 0), (21, .iload 7, 2, 0), (23, .iconst 0, 1, 0), (24, .iadd, 1, 0), (25, .iload_n 1, 1, 0), (26, .iastore, 1, 0), (27, .aload_n 0, 1, 0), (28, .getfield 28, 3, 0), (31, .iload 7, 2, 0)],
  [(33, .iconst 1, 1, 0), (34, .iadd, 1, 0), (35, .iload_n 2, 1, 0), (36, .iastore, 1, 0), (37, .aload_n 0, 1, 0), (38, .getfield 28, 3, 0), (41, .iload 7, 2, 0), (43, .iconst 2, 1, 0), (44, .iadd, 1, 0), (45, .iload 6, 2, 0), (47, .iastore, 1, 0), (48, .aload_n 0, 1, 0), (49, .getfield 28, 3, 0), (52, .iload 7, 2, 0), (54, .iconst 3, 1, 0), (55, .iadd, 1, 0), (56, .iload_n 3, 1, 0), (57, .iastore, 1, 0), (58, .aload_n 0, 1, 0), (59, .getfield 28, 3, 0), (62, .iload 7, 2, 0)],
  [(64, .iconst 4, 1, 0), (65, .iadd, 1, 0), (66, .iload 4, 2, 0), (68, .ifCond .eq 7, 3, 75), (71, .iconst 1, 1, 0), (72, .goto 4, 3, 76), (75, .iconst 0, 1, 0), (76, .iastore, 1, 0), (77, .aload_n 0, 1, 0), (78, .getfield 28, 3, 0), (81, .iload 7, 2, 0), (83, .iconst 5, 1, 0), (84, .iadd, 1, 0), (85, .iload 5, 2, 0), (87, .iastore, 1, 0), (88, .aload_n 0, 1, 0), (89, .getfield 25, 3, 0), (92, .iload_n 1, 1, 0), (93, .iconst 2, 1, 0), (94, .imul, 1, 0), (95, .iload 6, 2, 0)],
  [(97, .iadd, 1, 0), (98, .aload_n 0, 1, 0), (99, .getfield 15, 3, 0), (102, .iastore, 1, 0), (103, .aload_n 0, 1, 0), (104, .getfield 22, 3, 0), (107, .iload_n 1, 1, 0), (108, .dup2, 1, 0), (109, .iaload, 1, 0), (110, .iconst 1, 1, 0), (111, .iadd, 1, 0), (112, .iastore, 1, 0), (113, .aload_n 0, 1, 0), (114, .dup, 1, 0), (115, .getfield 15, 3, 0), (118, .iconst 1, 1, 0), (119, .iadd, 1, 0), (120, .putfield 15, 3, 0), (123, .aload_n 0, 1, 0), (124, .getfield 15, 3, 0), (127, .iconst 1, 1, 0)],
  [(128, .isub, 1, 0), (129, .ireturn, 1, 0)]]
def mi_X4_appendReference : mm_I := (yX4_appendReference, cX4_appendReference, 8, (some .int), 4, 6, false, false, 0, 0, 0, 0)
def mk_X4_checkInsert : mm_K := [[(0, .aload_n 0, 1, 0), (1, .iload_n 1, 1, 0), (2, .invokevirtual 58, 3, 0), (5, .ifCond .ne 6, 3, 11), (8, .bipush (-2), 2, 0), (10, .ireturn, 1, 0), (11, .iload_n 2, 1, 0), (12, .invokestatic 78, 3, 0), (15, .ifCond .eq 24, 3, 39), (18, .aload_n 0, 1, 0), (19, .iload_n 1, 1, 0), (20, .iconst 0, 1, 0), (21, .iload_n 3, 1, 0), (22, .invokevirtual 81, 3, 0), (25, .ifCond .eq 14, 3, 39), (28, .aload_n 0, 1, 0), (29, .iload_n 1, 1, 0), (30, .iconst 1, 1, 0), (31, .iload 4, 2, 0)],
  [(33, .invokevirtual 81, 3, 0), (36, .ifCond .ne 6, 3, 42), (39, .bipush (-3), 2, 0), (41, .ireturn, 1, 0), (42, .aload_n 0, 1, 0), (43, .iload_n 1, 1, 0), (44, .iload_n 2, 1, 0), (45, .invokevirtual 85, 3, 0), (48, .ifCond .eq 6, 3, 54), (51, .bipush (-5), 2, 0), (53, .ireturn, 1, 0), (54, .aload_n 0, 1, 0), (55, .getfield 18, 3, 0), (58, .iload_n 1, 1, 0), (59, .iaload, 1, 0), (60, .bipush 20, 2, 0), (62, .if_icmp .lt 6, 3, 68)],
  [(65, .bipush (-4), 2, 0), (67, .ireturn, 1, 0), (68, .aload_n 0, 1, 0), (69, .iload_n 1, 1, 0), (70, .iconst 0, 1, 0), (71, .iload_n 3, 1, 0), (72, .invokevirtual 89, 3, 0), (75, .ifCond .ne 14, 3, 89), (78, .aload_n 0, 1, 0), (79, .iload_n 1, 1, 0), (80, .iconst 1, 1, 0), (81, .iload 4, 2, 0), (83, .invokevirtual 89, 3, 0), (86, .ifCond .eq 6, 3, 92), (89, .bipush (-6), 2, 0), (91, .ireturn, 1, 0), (92, .aload_n 0, 1, 0), (93, .iload_n 1, 1, 0), (94, .iload_n 2, 1, 0), (95, .iconst 0, 1, 0)],
  [(96, .iload_n 3, 1, 0), (97, .invokevirtual 92, 3, 0), (100, .ifCond .ne 15, 3, 115), (103, .aload_n 0, 1, 0), (104, .iload_n 1, 1, 0), (105, .iload_n 2, 1, 0), (106, .iconst 1, 1, 0), (107, .iload 4, 2, 0), (109, .invokevirtual 92, 3, 0), (112, .ifCond .eq 6, 3, 118), (115, .bipush (-7), 2, 0), (117, .ireturn, 1, 0), (118, .iconst 0, 1, 0), (119, .ireturn, 1, 0)]]
def mi_X4_checkInsert : mm_I := (yX4_checkInsert, cX4_checkInsert, 5, (some .int), 4, 5, false, false, 4, 94, 0, 0)
def mk_X4_checkUpdate : mm_K := [[(0, .aload_n 0, 1, 0), (1, .iload_n 1, 1, 0), (2, .iload_n 2, 1, 0), (3, .invokevirtual 62, 3, 0), (6, .istore 5, 2, 0), (8, .iload 5, 2, 0), (10, .iconst (-1), 1, 0), (11, .if_icmp .eq 12, 3, 23), (14, .aload_n 0, 1, 0), (15, .iload_n 1, 1, 0), (16, .iload_n 3, 1, 0), (17, .invokevirtual 96, 3, 0), (20, .ifCond .ne 6, 3, 26), (23, .bipush (-2), 2, 0), (25, .ireturn, 1, 0), (26, .iload 4, 2, 0), (28, .invokestatic 99, 3, 0), (31, .ifCond .ne 6, 3, 37)],
  [(34, .bipush (-3), 2, 0), (36, .ireturn, 1, 0), (37, .aload_n 0, 1, 0), (38, .iload_n 1, 1, 0), (39, .iload_n 3, 1, 0), (40, .iload 4, 2, 0), (42, .invokevirtual 89, 3, 0), (45, .ifCond .eq 6, 3, 51), (48, .bipush (-6), 2, 0), (50, .ireturn, 1, 0), (51, .aload_n 0, 1, 0), (52, .iload_n 1, 1, 0), (53, .iload_n 2, 1, 0), (54, .iload_n 3, 1, 0), (55, .iload 4, 2, 0), (57, .invokevirtual 92, 3, 0), (60, .ifCond .eq 6, 3, 66), (63, .bipush (-7), 2, 0)],
  [(65, .ireturn, 1, 0), (66, .aload_n 0, 1, 0), (67, .iload 5, 2, 0), (69, .iload_n 3, 1, 0), (70, .invokevirtual 72, 3, 0), (73, .iload 4, 2, 0), (75, .if_icmp .ne 8, 3, 83), (78, .bipush (-9), 2, 0), (80, .goto 4, 3, 84), (83, .iconst 0, 1, 0), (84, .ireturn, 1, 0)]]
def mi_X4_checkUpdate : mm_I := (yX4_checkUpdate, cX4_checkUpdate, 6, (some .int), 4, 5, false, false, 4, 94, 0, 0)
def mk_X4_fits : mm_K := [[(0, .iload_n 3, 1, 0), (1, .iconst (-1), 1, 0), (2, .if_icmp .eq 19, 3, 21), (5, .aload_n 0, 1, 0), (6, .iload_n 1, 1, 0), (7, .iload_n 2, 1, 0), (8, .invokevirtual 96, 3, 0), (11, .ifCond .eq 14, 3, 25), (14, .iload_n 3, 1, 0), (15, .invokestatic 78, 3, 0), (18, .ifCond .eq 7, 3, 25), (21, .iconst 1, 1, 0), (22, .goto 4, 3, 26), (25, .iconst 0, 1, 0), (26, .ireturn, 1, 0)]]
def mi_X4_fits : mm_I := (yX4_fits, cX4_fits, 4, (some .boolean), 4, 4, false, true, 2, 43, 0, 0)
def mk_X4_isMissing : mm_K := [[(0, .iload_n 3, 1, 0), (1, .iconst (-1), 1, 0), (2, .if_icmp .ne 31, 3, 33), (5, .aload_n 0, 1, 0), (6, .iload_n 1, 1, 0), (7, .iload_n 2, 1, 0), (8, .invokevirtual 96, 3, 0), (11, .ifCond .eq 22, 3, 33), (14, .aload_n 0, 1, 0), (15, .aload_n 0, 1, 0), (16, .iload_n 1, 1, 0), (17, .iload_n 2, 1, 0), (18, .invokevirtual 102, 3, 0), (21, .iconst 4, 1, 0), (22, .invokevirtual 66, 3, 0), (25, .iconst 1, 1, 0), (26, .if_icmp .ne 7, 3, 33), (29, .iconst 1, 1, 0), (30, .goto 4, 3, 34)],
  [(33, .iconst 0, 1, 0), (34, .ireturn, 1, 0)]]
def mi_X4_isMissing : mm_I := (yX4_isMissing, cX4_isMissing, 4, (some .boolean), 4, 4, false, true, 2, 43, 0, 0)
def mk_X4_hasNoParent : mm_K := [[(0, .iload 4, 2, 0), (2, .iconst (-1), 1, 0), (3, .if_icmp .eq 12, 3, 15), (6, .aload_n 0, 1, 0), (7, .iload_n 1, 1, 0), (8, .iload_n 3, 1, 0), (9, .invokevirtual 96, 3, 0), (12, .ifCond .ne 5, 3, 17), (15, .iconst 0, 1, 0), (16, .ireturn, 1, 0), (17, .aload_n 0, 1, 0), (18, .aload_n 0, 1, 0), (19, .iload_n 1, 1, 0), (20, .iload_n 3, 1, 0), (21, .invokevirtual 102, 3, 0), (24, .iconst 1, 1, 0), (25, .invokevirtual 66, 3, 0), (28, .istore 5, 2, 0), (30, .iload 5, 2, 0)],
  [(32, .iload_n 1, 1, 0), (33, .if_icmp .ne 13, 3, 46), (36, .iload 4, 2, 0), (38, .iload_n 2, 1, 0), (39, .if_icmp .ne 7, 3, 46), (42, .iconst 1, 1, 0), (43, .goto 4, 3, 47), (46, .iconst 0, 1, 0), (47, .istore 6, 2, 0), (49, .iload 6, 2, 0), (51, .ifCond .ne 18, 3, 69), (54, .aload_n 0, 1, 0), (55, .iload 5, 2, 0), (57, .iload 4, 2, 0), (59, .invokevirtual 85, 3, 0), (62, .ifCond .ne 7, 3, 69)],
  [(65, .iconst 1, 1, 0), (66, .goto 4, 3, 70), (69, .iconst 0, 1, 0), (70, .ireturn, 1, 0)]]
def mi_X4_hasNoParent : mm_I := (yX4_hasNoParent, cX4_hasNoParent, 7, (some .boolean), 4, 5, false, true, 3, 68, 0, 0)
def mk_X4_addRow : mm_K := [[(0, .iload_n 1, 1, 0), (1, .bipush 20, 2, 0), (3, .imul, 1, 0), (4, .istore 5, 2, 0), (6, .iload 5, 2, 0), (8, .aload_n 0, 1, 0), (9, .getfield 18, 3, 0), (12, .iload_n 1, 1, 0), (13, .iaload, 1, 0), (14, .iadd, 1, 0), (15, .istore 6, 2, 0), (17, .iload 6, 2, 0), (19, .iload 5, 2, 0), (21, .if_icmp .le 32, 3, 53), (24, .aload_n 0, 1, 0), (25, .getfield 31, 3, 0), (28, .iload 6, 2, 0), (30, .iconst 1, 1, 0), (31, .isub, 1, 0)],
  [(32, .iaload, 1, 0), (33, .iload_n 2, 1, 0), (34, .if_icmp .le 19, 3, 53), (37, .aload_n 0, 1, 0), (38, .iload 6, 2, 0), (40, .iconst 1, 1, 0), (41, .isub, 1, 0), (42, .iload 6, 2, 0), (44, .invokevirtual 105, 3, 0), (47, .iinc 6 (-1), 3, 0), (50, .goto (-33), 3, 17), (53, .aload_n 0, 1, 0), (54, .getfield 31, 3, 0), (57, .iload 6, 2, 0), (59, .iload_n 2, 1, 0), (60, .iastore, 1, 0), (61, .aload_n 0, 1, 0), (62, .getfield 34, 3, 0)],
  [(65, .iload 6, 2, 0), (67, .iconst 2, 1, 0), (68, .imul, 1, 0), (69, .iload_n 3, 1, 0), (70, .iastore, 1, 0), (71, .aload_n 0, 1, 0), (72, .getfield 34, 3, 0), (75, .iload 6, 2, 0), (77, .iconst 2, 1, 0), (78, .imul, 1, 0), (79, .iconst 1, 1, 0), (80, .iadd, 1, 0), (81, .iload 4, 2, 0), (83, .iastore, 1, 0), (84, .aload_n 0, 1, 0), (85, .getfield 18, 3, 0), (88, .iload_n 1, 1, 0), (89, .dup2, 1, 0), (90, .iaload, 1, 0), (91, .iconst 1, 1, 0), (92, .iadd, 1, 0), (93, .iastore, 1, 0), (94, .aload_n 0, 1, 0), (95, .dup, 1, 0)],
  [(96, .getfield 43, 3, 0), (99, .iconst 1, 1, 0), (100, .iadd, 1, 0), (101, .putfield 43, 3, 0), (104, .aload_n 0, 1, 0), (105, .getfield 18, 3, 0), (108, .iload_n 1, 1, 0), (109, .iaload, 1, 0), (110, .ireturn, 1, 0)]]
def mi_X4_addRow : mm_I := (yX4_addRow, cX4_addRow, 7, (some .int), 4, 5, false, false, 2, 45, 0, 0)
def mk_X4_changeValue : mm_K := [[(0, .aload_n 0, 1, 0), (1, .iload_n 1, 1, 0), (2, .iload_n 2, 1, 0), (3, .invokevirtual 62, 3, 0), (6, .istore 5, 2, 0), (8, .iload 5, 2, 0), (10, .iconst (-1), 1, 0), (11, .if_icmp .ne 6, 3, 17), (14, .bipush (-2), 2, 0), (16, .ireturn, 1, 0), (17, .aload_n 0, 1, 0), (18, .iload 5, 2, 0), (20, .iload_n 3, 1, 0), (21, .invokevirtual 72, 3, 0), (24, .istore 6, 2, 0), (26, .aload_n 0, 1, 0), (27, .getfield 34, 3, 0), (30, .iload 5, 2, 0)],
  [(32, .iconst 2, 1, 0), (33, .imul, 1, 0), (34, .iload_n 3, 1, 0), (35, .iadd, 1, 0), (36, .iload 4, 2, 0), (38, .iastore, 1, 0), (39, .iload 6, 2, 0), (41, .ireturn, 1, 0)]]
def mi_X4_changeValue : mm_I := (yX4_changeValue, cX4_changeValue, 7, (some .int), 4, 5, false, false, 2, 46, 0, 0)
def mk_X4_removeRow : mm_K := [[(0, .iload_n 1, 1, 0), (1, .bipush 100, 2, 0), (3, .idiv, 1, 0), (4, .istore_n 2, 1, 0), (5, .aload_n 0, 1, 0), (6, .iload_n 2, 1, 0), (7, .iload_n 1, 1, 0), (8, .bipush 100, 2, 0), (10, .irem, 1, 0), (11, .invokevirtual 62, 3, 0), (14, .istore_n 3, 1, 0), (15, .iload_n 3, 1, 0), (16, .iconst (-1), 1, 0), (17, .if_icmp .ne 4, 3, 21), (20, .return_, 1, 0), (21, .iload_n 2, 1, 0), (22, .bipush 20, 2, 0), (24, .imul, 1, 0), (25, .aload_n 0, 1, 0), (26, .getfield 18, 3, 0), (29, .iload_n 2, 1, 0), (30, .iaload, 1, 0), (31, .iadd, 1, 0)],
  [(32, .iconst 1, 1, 0), (33, .isub, 1, 0), (34, .istore 4, 2, 0), (36, .iload_n 3, 1, 0), (37, .istore 5, 2, 0), (39, .iload 5, 2, 0), (41, .iload 4, 2, 0), (43, .if_icmp .ge 19, 3, 62), (46, .aload_n 0, 1, 0), (47, .iload 5, 2, 0), (49, .iconst 1, 1, 0), (50, .iadd, 1, 0), (51, .iload 5, 2, 0), (53, .invokevirtual 105, 3, 0), (56, .iinc 5 1, 3, 0), (59, .goto (-20), 3, 39), (62, .aload_n 0, 1, 0), (63, .getfield 18, 3, 0)],
  [(66, .iload_n 2, 1, 0), (67, .dup2, 1, 0), (68, .iaload, 1, 0), (69, .iconst 1, 1, 0), (70, .isub, 1, 0), (71, .iastore, 1, 0), (72, .return_, 1, 0)]]
def mi_X4_removeRow : mm_I := (yX4_removeRow, cX4_removeRow, 6, none, 4, 2, false, false, 2, 46, 0, 0)
def mk_X4_moveRow : mm_K := [[(0, .aload_n 0, 1, 0), (1, .getfield 31, 3, 0), (4, .iload_n 2, 1, 0), (5, .aload_n 0, 1, 0), (6, .getfield 31, 3, 0), (9, .iload_n 1, 1, 0), (10, .iaload, 1, 0), (11, .iastore, 1, 0), (12, .iconst 0, 1, 0), (13, .istore_n 3, 1, 0), (14, .iload_n 3, 1, 0), (15, .iconst 2, 1, 0), (16, .if_icmp .ge 25, 3, 41), (19, .aload_n 0, 1, 0), (20, .getfield 34, 3, 0), (23, .iload_n 2, 1, 0), (24, .iconst 2, 1, 0), (25, .imul, 1, 0), (26, .iload_n 3, 1, 0), (27, .iadd, 1, 0), (28, .aload_n 0, 1, 0), (29, .iload_n 1, 1, 0), (30, .iload_n 3, 1, 0), (31, .invokevirtual 72, 3, 0)],
  [(34, .iastore, 1, 0), (35, .iinc 3 1, 3, 0), (38, .goto (-24), 3, 14), (41, .return_, 1, 0)]]
def mi_X4_moveRow : mm_I := (yX4_moveRow, cX4_moveRow, 4, none, 4, 3, false, false, 1, 22, 0, 0)
def mk_X5_init : mm_K := [[(0, .aload_n 0, 1, 0), (1, .invokespecial 3, 3, 0), (4, .aload_n 0, 1, 0), (5, .new 9, 3, 0), (8, .dup, 1, 0), (9, .invokespecial 11, 3, 0), (12, .putfield 12, 3, 0), (15, .aload_n 0, 1, 0), (16, .new 9, 3, 0), (19, .dup, 1, 0), (20, .invokespecial 11, 3, 0), (23, .putfield 16, 3, 0), (26, .aload_n 0, 1, 0), (27, .new 9, 3, 0), (30, .dup, 1, 0), (31, .invokespecial 11, 3, 0)],
  [(34, .putfield 19, 3, 0), (37, .aload_n 0, 1, 0), (38, .iconst 0, 1, 0), (39, .putfield 22, 3, 0), (42, .aload_n 0, 1, 0), (43, .new 26, 3, 0), (46, .dup, 1, 0), (47, .invokespecial 28, 3, 0), (50, .putfield 29, 3, 0), (53, .aload_n 0, 1, 0), (54, .new 33, 3, 0), (57, .dup, 1, 0), (58, .invokespecial 35, 3, 0), (61, .putfield 36, 3, 0)],
  [(64, .aload_n 0, 1, 0), (65, .new 40, 3, 0), (68, .dup, 1, 0), (69, .invokespecial 42, 3, 0), (72, .putfield 43, 3, 0), (75, .aload_n 0, 1, 0), (76, .new 47, 3, 0), (79, .dup, 1, 0), (80, .invokespecial 49, 3, 0), (83, .putfield 50, 3, 0), (86, .return_, 1, 0)]]
def mi_X5_init : mm_I := (yX5_init, cX5_init, 1, none, 5, 1, true, false, 3, 61, 68, 5891)
def mk_X5_addTable : mm_K := [[(0, .aload_n 0, 1, 0), (1, .getfield 12, 3, 0), (4, .getfield 54, 3, 0), (7, .bipush 6, 2, 0), (9, .if_icmp .lt 6, 3, 15), (12, .bipush (-4), 2, 0), (14, .ireturn, 1, 0), (15, .aload_n 0, 1, 0), (16, .getfield 29, 3, 0), (19, .aload_n 0, 1, 0), (20, .getfield 12, 3, 0), (23, .invokevirtual 58, 3, 0), (26, .aload_n 0, 1, 0), (27, .getfield 12, 3, 0), (30, .invokevirtual 62, 3, 0)],
  [(33, .ireturn, 1, 0)]]
def mi_X5_addTable : mm_I := (yX5_addTable, cX5_addTable, 1, (some .int), 5, 1, false, false, 3, 68, 0, 0)
def mk_X5_addReference : mm_K := [[(0, .aload_n 0, 1, 0), (1, .getfield 12, 3, 0), (4, .iload_n 1, 1, 0), (5, .invokevirtual 66, 3, 0), (8, .ifCond .eq 14, 3, 22), (11, .aload_n 0, 1, 0), (12, .getfield 12, 3, 0), (15, .iload_n 2, 1, 0), (16, .invokevirtual 66, 3, 0), (19, .ifCond .ne 6, 3, 25), (22, .bipush (-2), 2, 0), (24, .ireturn, 1, 0), (25, .iload_n 3, 1, 0), (26, .invokestatic 70, 3, 0), (29, .ifCond .eq 11, 3, 40)],
  [(32, .iload 5, 2, 0), (34, .invokestatic 73, 3, 0), (37, .ifCond .ne 6, 3, 43), (40, .bipush (-3), 2, 0), (42, .ireturn, 1, 0), (43, .aload_n 0, 1, 0), (44, .getfield 12, 3, 0), (47, .getfield 76, 3, 0), (50, .bipush 12, 2, 0), (52, .if_icmp .ge 16, 3, 68), (55, .aload_n 0, 1, 0), (56, .getfield 12, 3, 0), (59, .getfield 79, 3, 0), (62, .iload_n 1, 1, 0), (63, .iaload, 1, 0)],
  [(64, .iconst 2, 1, 0), (65, .if_icmp .lt 6, 3, 71), (68, .bipush (-4), 2, 0), (70, .ireturn, 1, 0), (71, .aload_n 0, 1, 0), (72, .getfield 12, 3, 0), (75, .getfield 83, 3, 0), (78, .iload_n 1, 1, 0), (79, .iaload, 1, 0), (80, .ifCond .le 6, 3, 86), (83, .bipush (-8), 2, 0), (85, .ireturn, 1, 0), (86, .aload_n 0, 1, 0), (87, .getfield 29, 3, 0), (90, .aload_n 0, 1, 0), (91, .getfield 12, 3, 0), (94, .invokevirtual 58, 3, 0)],
  [(97, .aload_n 0, 1, 0), (98, .getfield 12, 3, 0), (101, .iload_n 1, 1, 0), (102, .iload_n 2, 1, 0), (103, .iload_n 3, 1, 0), (104, .iload 4, 2, 0), (106, .iload 5, 2, 0), (108, .invokevirtual 86, 3, 0), (111, .ireturn, 1, 0)]]
def mi_X5_addReference : mm_I := (yX5_addReference, cX5_addReference, 6, (some .int), 5, 6, false, false, 3, 68, 0, 0)
def mk_X5_setRule : mm_K := [[(0, .aload_n 0, 1, 0), (1, .getfield 12, 3, 0), (4, .iload_n 1, 1, 0), (5, .invokevirtual 90, 3, 0), (8, .ifCond .ne 6, 3, 14), (11, .bipush (-2), 2, 0), (13, .ireturn, 1, 0), (14, .iload_n 2, 1, 0), (15, .invokestatic 70, 3, 0), (18, .ifCond .ne 6, 3, 24), (21, .bipush (-3), 2, 0), (23, .ireturn, 1, 0), (24, .aload_n 0, 1, 0), (25, .getfield 12, 3, 0), (28, .iload_n 1, 1, 0), (29, .iconst 3, 1, 0), (30, .invokevirtual 93, 3, 0)],
  [(33, .istore_n 3, 1, 0), (34, .iload_n 3, 1, 0), (35, .iload_n 2, 1, 0), (36, .if_icmp .ne 6, 3, 42), (39, .bipush (-9), 2, 0), (41, .ireturn, 1, 0), (42, .aload_n 0, 1, 0), (43, .getfield 29, 3, 0), (46, .aload_n 0, 1, 0), (47, .getfield 12, 3, 0), (50, .invokevirtual 58, 3, 0), (53, .aload_n 0, 1, 0), (54, .getfield 12, 3, 0), (57, .getfield 97, 3, 0), (60, .iload_n 1, 1, 0), (61, .bipush 6, 2, 0), (63, .imul, 1, 0)],
  [(64, .iconst 3, 1, 0), (65, .iadd, 1, 0), (66, .iload_n 2, 1, 0), (67, .iastore, 1, 0), (68, .iload_n 3, 1, 0), (69, .ireturn, 1, 0)]]
def mi_X5_setRule : mm_I := (yX5_setRule, cX5_setRule, 4, (some .int), 5, 3, false, false, 3, 68, 0, 0)
def mk_X5_insert : mm_K := [[(0, .aload_n 0, 1, 0), (1, .getfield 12, 3, 0), (4, .iload_n 1, 1, 0), (5, .iload_n 2, 1, 0), (6, .iload_n 3, 1, 0), (7, .iload 4, 2, 0), (9, .invokevirtual 100, 3, 0), (12, .istore 5, 2, 0), (14, .iload 5, 2, 0), (16, .ifCond .eq 6, 3, 22), (19, .iload 5, 2, 0), (21, .ireturn, 1, 0), (22, .aload_n 0, 1, 0), (23, .getfield 29, 3, 0), (26, .aload_n 0, 1, 0), (27, .getfield 12, 3, 0), (30, .invokevirtual 58, 3, 0)],
  [(33, .aload_n 0, 1, 0), (34, .getfield 12, 3, 0), (37, .iload_n 1, 1, 0), (38, .iload_n 2, 1, 0), (39, .iload_n 3, 1, 0), (40, .iload 4, 2, 0), (42, .invokevirtual 104, 3, 0), (45, .ireturn, 1, 0)]]
def mi_X5_insert : mm_I := (yX5_insert, cX5_insert, 6, (some .int), 5, 5, false, false, 5, 118, 0, 0)
def mk_X5_update : mm_K := [[(0, .aload_n 0, 1, 0), (1, .getfield 12, 3, 0), (4, .iload_n 1, 1, 0), (5, .iload_n 2, 1, 0), (6, .iload_n 3, 1, 0), (7, .iload 4, 2, 0), (9, .invokevirtual 107, 3, 0), (12, .istore 5, 2, 0), (14, .iload 5, 2, 0), (16, .ifCond .eq 6, 3, 22), (19, .iload 5, 2, 0), (21, .ireturn, 1, 0), (22, .aload_n 0, 1, 0), (23, .getfield 29, 3, 0), (26, .aload_n 0, 1, 0), (27, .getfield 12, 3, 0), (30, .invokevirtual 58, 3, 0)],
  [(33, .aload_n 0, 1, 0), (34, .getfield 12, 3, 0), (37, .iload_n 1, 1, 0), (38, .iload_n 2, 1, 0), (39, .iload_n 3, 1, 0), (40, .iload 4, 2, 0), (42, .invokevirtual 110, 3, 0), (45, .ireturn, 1, 0)]]
def mi_X5_update : mm_I := (yX5_update, cX5_update, 6, (some .int), 5, 5, false, false, 5, 119, 0, 0)
def mk_X5_delete : mm_K := [[(0, .aload_n 0, 1, 0), (1, .getfield 43, 3, 0), (4, .aload_n 0, 1, 0), (5, .getfield 12, 3, 0), (8, .iload_n 1, 1, 0), (9, .iload_n 2, 1, 0), (10, .invokevirtual 113, 3, 0), (13, .istore_n 3, 1, 0), (14, .iload_n 3, 1, 0), (15, .ifCond .eq 5, 3, 20), (18, .iload_n 3, 1, 0), (19, .ireturn, 1, 0), (20, .aload_n 0, 1, 0), (21, .getfield 29, 3, 0), (24, .aload_n 0, 1, 0), (25, .getfield 12, 3, 0), (28, .invokevirtual 58, 3, 0), (31, .aload_n 0, 1, 0)],
  [(32, .getfield 43, 3, 0), (35, .aload_n 0, 1, 0), (36, .getfield 12, 3, 0), (39, .invokevirtual 117, 3, 0), (42, .ireturn, 1, 0)]]
def mi_X5_delete : mm_I := (yX5_delete, cX5_delete, 4, (some .int), 5, 3, false, false, 5, 121, 0, 0)
def mk_X5_undo : mm_K := [[(0, .aload_n 0, 1, 0), (1, .getfield 29, 3, 0), (4, .aload_n 0, 1, 0), (5, .getfield 12, 3, 0), (8, .invokevirtual 148, 3, 0), (11, .ireturn, 1, 0)]]
def mi_X5_undo : mm_I := (yX5_undo, cX5_undo, 1, (some .int), 5, 1, false, false, 3, 68, 0, 0)
def mk_X5_keep : mm_K := [[(0, .aload_n 0, 1, 0), (1, .getfield 19, 3, 0), (4, .aload_n 0, 1, 0), (5, .getfield 12, 3, 0), (8, .invokevirtual 131, 3, 0), (11, .aload_n 0, 1, 0), (12, .iconst 1, 1, 0), (13, .putfield 22, 3, 0), (16, .aload_n 0, 1, 0), (17, .getfield 12, 3, 0), (20, .invokevirtual 151, 3, 0), (23, .ireturn, 1, 0)]]
def mi_X5_keep : mm_I := (yX5_keep, cX5_keep, 1, (some .int), 5, 1, false, false, 2, 47, 0, 0)
def mk_X5_restore : mm_K := [[(0, .aload_n 0, 1, 0), (1, .getfield 22, 3, 0), (4, .ifCond .ne 6, 3, 10), (7, .bipush (-9), 2, 0), (9, .ireturn, 1, 0), (10, .aload_n 0, 1, 0), (11, .getfield 29, 3, 0), (14, .aload_n 0, 1, 0), (15, .getfield 12, 3, 0), (18, .invokevirtual 58, 3, 0), (21, .aload_n 0, 1, 0), (22, .getfield 12, 3, 0), (25, .aload_n 0, 1, 0), (26, .getfield 19, 3, 0), (29, .invokevirtual 131, 3, 0)],
  [(32, .aload_n 0, 1, 0), (33, .getfield 12, 3, 0), (36, .invokevirtual 151, 3, 0), (39, .ireturn, 1, 0)]]
def mi_X5_restore : mm_I := (yX5_restore, cX5_restore, 1, (some .int), 5, 1, false, false, 3, 68, 0, 0)
def mk_X5_rows : mm_K := [[(0, .aload_n 0, 1, 0), (1, .getfield 12, 3, 0), (4, .iload_n 1, 1, 0), (5, .invokevirtual 66, 3, 0), (8, .ifCond .eq 15, 3, 23), (11, .aload_n 0, 1, 0), (12, .getfield 12, 3, 0), (15, .getfield 83, 3, 0), (18, .iload_n 1, 1, 0), (19, .iaload, 1, 0), (20, .goto 5, 3, 25), (23, .bipush (-2), 2, 0), (25, .ireturn, 1, 0)]]
def mi_X5_rows : mm_I := (yX5_rows, cX5_rows, 2, (some .int), 5, 2, false, false, 1, 21, 0, 0)
def mk_X5_keyAt : mm_K := [[(0, .aload_n 0, 1, 0), (1, .getfield 12, 3, 0), (4, .iload_n 1, 1, 0), (5, .invokevirtual 66, 3, 0), (8, .ifCond .ne 6, 3, 14), (11, .bipush (-2), 2, 0), (13, .ireturn, 1, 0), (14, .iload_n 2, 1, 0), (15, .ifCond .ge 6, 3, 21), (18, .bipush (-3), 2, 0), (20, .ireturn, 1, 0), (21, .iload_n 2, 1, 0), (22, .aload_n 0, 1, 0), (23, .getfield 12, 3, 0), (26, .getfield 83, 3, 0), (29, .iload_n 1, 1, 0), (30, .iaload, 1, 0), (31, .if_icmp .ge 20, 3, 51)],
  [(34, .aload_n 0, 1, 0), (35, .getfield 12, 3, 0), (38, .getfield 154, 3, 0), (41, .iload_n 1, 1, 0), (42, .bipush 20, 2, 0), (44, .imul, 1, 0), (45, .iload_n 2, 1, 0), (46, .iadd, 1, 0), (47, .iaload, 1, 0), (48, .goto 5, 3, 53), (51, .bipush (-9), 2, 0), (53, .ireturn, 1, 0)]]
def mi_X5_keyAt : mm_I := (yX5_keyAt, cX5_keyAt, 3, (some .int), 5, 3, false, false, 1, 21, 0, 0)
def mk_X5_value : mm_K := [[(0, .aload_n 0, 1, 0), (1, .getfield 12, 3, 0), (4, .iload_n 1, 1, 0), (5, .iload_n 2, 1, 0), (6, .invokevirtual 157, 3, 0), (9, .istore 4, 2, 0), (11, .iload 4, 2, 0), (13, .iconst (-1), 1, 0), (14, .if_icmp .eq 15, 3, 29), (17, .aload_n 0, 1, 0), (18, .getfield 12, 3, 0), (21, .iload_n 1, 1, 0), (22, .iload_n 3, 1, 0), (23, .invokevirtual 160, 3, 0), (26, .ifCond .ne 6, 3, 32), (29, .bipush (-2), 2, 0), (31, .ireturn, 1, 0)],
  [(32, .aload_n 0, 1, 0), (33, .getfield 12, 3, 0), (36, .iload 4, 2, 0), (38, .iload_n 3, 1, 0), (39, .invokevirtual 164, 3, 0), (42, .ireturn, 1, 0)]]
def mi_X5_value : mm_I := (yX5_value, cX5_value, 5, (some .int), 5, 4, false, false, 2, 46, 0, 0)
def mk_X5_children : mm_K := [[(0, .aload_n 0, 1, 0), (1, .getfield 12, 3, 0), (4, .iload_n 1, 1, 0), (5, .invokevirtual 90, 3, 0), (8, .ifCond .eq 23, 3, 31), (11, .aload_n 0, 1, 0), (12, .getfield 12, 3, 0), (15, .aload_n 0, 1, 0), (16, .getfield 12, 3, 0), (19, .iload_n 1, 1, 0), (20, .iconst 1, 1, 0), (21, .invokevirtual 93, 3, 0), (24, .iload_n 2, 1, 0), (25, .invokevirtual 167, 3, 0), (28, .ifCond .ne 6, 3, 34), (31, .bipush (-2), 2, 0)],
  [(33, .ireturn, 1, 0), (34, .aload_n 0, 1, 0), (35, .getfield 12, 3, 0), (38, .iload_n 1, 1, 0), (39, .iload_n 2, 1, 0), (40, .invokevirtual 170, 3, 0), (43, .ireturn, 1, 0)]]
def mi_X5_children : mm_I := (yX5_children, cX5_children, 3, (some .int), 5, 3, false, false, 3, 68, 0, 0)
def mk_X5_reference : mm_K := [[(0, .aload_n 0, 1, 0), (1, .getfield 12, 3, 0), (4, .iload_n 1, 1, 0), (5, .invokevirtual 90, 3, 0), (8, .ifCond .ne 6, 3, 14), (11, .bipush (-2), 2, 0), (13, .ireturn, 1, 0), (14, .iload_n 2, 1, 0), (15, .ifCond .lt 21, 3, 36), (18, .iload_n 2, 1, 0), (19, .bipush 6, 2, 0), (21, .if_icmp .ge 15, 3, 36), (24, .aload_n 0, 1, 0), (25, .getfield 12, 3, 0), (28, .iload_n 1, 1, 0), (29, .iload_n 2, 1, 0), (30, .invokevirtual 93, 3, 0)],
  [(33, .goto 5, 3, 38), (36, .bipush (-3), 2, 0), (38, .ireturn, 1, 0)]]
def mi_X5_reference : mm_I := (yX5_reference, cX5_reference, 3, (some .int), 5, 3, false, false, 1, 22, 0, 0)
def mk_X5_deleted : mm_K := [[(0, .iload_n 1, 1, 0), (1, .ifCond .ge 6, 3, 7), (4, .bipush (-3), 2, 0), (6, .ireturn, 1, 0), (7, .iload_n 1, 1, 0), (8, .aload_n 0, 1, 0), (9, .getfield 12, 3, 0), (12, .getfield 173, 3, 0), (15, .if_icmp .ge 15, 3, 30), (18, .aload_n 0, 1, 0), (19, .getfield 12, 3, 0), (22, .getfield 176, 3, 0), (25, .iload_n 1, 1, 0), (26, .iaload, 1, 0), (27, .goto 5, 3, 32), (30, .bipush (-9), 2, 0)],
  [(32, .ireturn, 1, 0)]]
def mi_X5_deleted : mm_I := (yX5_deleted, cX5_deleted, 2, (some .int), 5, 2, false, false, 0, 0, 0, 0)
def mk_X5_total : mm_K := [[(0, .iload_n 1, 1, 0), (1, .tableswitch 123 0 8 #[51, 59, 67, 75, 83, 91, 99, 107, 115], 51, 0)],
  [(52, .aload_n 0, 1, 0), (53, .getfield 12, 3, 0), (56, .getfield 54, 3, 0), (59, .ireturn, 1, 0), (60, .aload_n 0, 1, 0), (61, .getfield 12, 3, 0)],
  [(64, .getfield 76, 3, 0), (67, .ireturn, 1, 0), (68, .aload_n 0, 1, 0), (69, .getfield 12, 3, 0), (72, .invokevirtual 151, 3, 0), (75, .ireturn, 1, 0), (76, .aload_n 0, 1, 0), (77, .getfield 12, 3, 0), (80, .invokevirtual 179, 3, 0), (83, .ireturn, 1, 0), (84, .aload_n 0, 1, 0), (85, .getfield 12, 3, 0), (88, .getfield 182, 3, 0), (91, .ireturn, 1, 0), (92, .aload_n 0, 1, 0), (93, .getfield 12, 3, 0)],
  [(96, .getfield 185, 3, 0), (99, .ireturn, 1, 0), (100, .aload_n 0, 1, 0), (101, .getfield 12, 3, 0), (104, .getfield 188, 3, 0), (107, .ireturn, 1, 0), (108, .aload_n 0, 1, 0), (109, .getfield 29, 3, 0), (112, .getfield 191, 3, 0), (115, .ireturn, 1, 0), (116, .aload_n 0, 1, 0), (117, .getfield 36, 3, 0), (120, .getfield 125, 3, 0), (123, .ireturn, 1, 0), (124, .bipush (-3), 2, 0), (126, .ireturn, 1, 0)]]
def mi_X5_total : mm_I := (yX5_total, cX5_total, 2, (some .int), 5, 2, false, false, 3, 71, 0, 0)
def mk_X5_gathered : mm_K := [[(0, .aload_n 0, 1, 0), (1, .getfield 43, 3, 0), (4, .aload_n 0, 1, 0), (5, .getfield 12, 3, 0), (8, .iload_n 1, 1, 0), (9, .iload_n 2, 1, 0), (10, .invokevirtual 113, 3, 0), (13, .bipush (-2), 2, 0), (15, .if_icmp .ne 6, 3, 21), (18, .bipush (-2), 2, 0), (20, .ireturn, 1, 0), (21, .iload_n 3, 1, 0), (22, .ifCond .ge 6, 3, 28), (25, .bipush (-3), 2, 0), (27, .ireturn, 1, 0), (28, .iload_n 3, 1, 0), (29, .aload_n 0, 1, 0), (30, .getfield 43, 3, 0)],
  [(33, .getfield 194, 3, 0), (36, .if_icmp .ge 15, 3, 51), (39, .aload_n 0, 1, 0), (40, .getfield 43, 3, 0), (43, .getfield 195, 3, 0), (46, .iload_n 3, 1, 0), (47, .iaload, 1, 0), (48, .goto 5, 3, 53), (51, .bipush (-9), 2, 0), (53, .ireturn, 1, 0)]]
def mi_X5_gathered : mm_I := (yX5_gathered, cX5_gathered, 4, (some .int), 5, 4, false, false, 5, 121, 0, 0)
def mk_X5_reason : mm_K := [[(0, .aload_n 0, 1, 0), (1, .getfield 43, 3, 0), (4, .aload_n 0, 1, 0), (5, .getfield 12, 3, 0), (8, .iload_n 1, 1, 0), (9, .iload_n 2, 1, 0), (10, .invokevirtual 113, 3, 0), (13, .bipush (-2), 2, 0), (15, .if_icmp .ne 8, 3, 23), (18, .bipush (-2), 2, 0), (20, .goto 10, 3, 30), (23, .aload_n 0, 1, 0), (24, .getfield 43, 3, 0), (27, .getfield 198, 3, 0), (30, .ireturn, 1, 0)]]
def mi_X5_reason : mm_I := (yX5_reason, cX5_reason, 3, (some .int), 5, 3, false, false, 5, 121, 0, 0)
def mk_X5_blocking : mm_K := [[(0, .aload_n 0, 1, 0), (1, .getfield 43, 3, 0), (4, .aload_n 0, 1, 0), (5, .getfield 12, 3, 0), (8, .iload_n 1, 1, 0), (9, .iload_n 2, 1, 0), (10, .invokevirtual 113, 3, 0), (13, .bipush (-2), 2, 0), (15, .if_icmp .ne 8, 3, 23), (18, .bipush (-2), 2, 0), (20, .goto 10, 3, 30), (23, .aload_n 0, 1, 0), (24, .getfield 43, 3, 0), (27, .getfield 201, 3, 0), (30, .ireturn, 1, 0)]]
def mi_X5_blocking : mm_I := (yX5_blocking, cX5_blocking, 3, (some .int), 5, 3, false, false, 5, 121, 0, 0)
def mk_X5_wouldChange : mm_K := [[(0, .aload_n 0, 1, 0), (1, .getfield 43, 3, 0), (4, .aload_n 0, 1, 0), (5, .getfield 12, 3, 0), (8, .iload_n 1, 1, 0), (9, .iload_n 2, 1, 0), (10, .invokevirtual 113, 3, 0), (13, .istore_n 3, 1, 0), (14, .iload_n 3, 1, 0), (15, .ifCond .ne 13, 3, 28), (18, .aload_n 0, 1, 0), (19, .getfield 43, 3, 0), (22, .getfield 204, 3, 0), (25, .goto 4, 3, 29), (28, .iload_n 3, 1, 0), (29, .ireturn, 1, 0)]]
def mi_X5_wouldChange : mm_I := (yX5_wouldChange, cX5_wouldChange, 4, (some .int), 5, 3, false, false, 5, 121, 0, 0)
def mk_X5_isInRing : mm_K := [[(0, .aload_n 0, 1, 0), (1, .getfield 12, 3, 0), (4, .iload_n 1, 1, 0), (5, .iload_n 2, 1, 0), (6, .invokevirtual 167, 3, 0), (9, .ifCond .ne 6, 3, 15), (12, .bipush (-2), 2, 0), (14, .ireturn, 1, 0), (15, .aload_n 0, 1, 0), (16, .getfield 50, 3, 0), (19, .aload_n 0, 1, 0), (20, .getfield 12, 3, 0), (23, .iload_n 1, 1, 0), (24, .iload_n 2, 1, 0), (25, .invokestatic 207, 3, 0), (28, .invokevirtual 210, 3, 0), (31, .ifCond .eq 7, 3, 38)],
  [(34, .iconst 1, 1, 0), (35, .goto 4, 3, 39), (38, .iconst 0, 1, 0), (39, .ireturn, 1, 0)]]
def mi_X5_isInRing : mm_I := (yX5_isInRing, cX5_isInRing, 3, (some .int), 5, 3, false, false, 4, 96, 0, 0)
def mk_X5_deletable : mm_K := [[(0, .aload_n 0, 1, 0), (1, .getfield 12, 3, 0), (4, .iload_n 1, 1, 0), (5, .invokevirtual 66, 3, 0), (8, .ifCond .ne 6, 3, 14), (11, .bipush (-2), 2, 0), (13, .ireturn, 1, 0), (14, .iconst 0, 1, 0), (15, .istore_n 2, 1, 0), (16, .iconst 0, 1, 0), (17, .istore_n 3, 1, 0), (18, .iload_n 3, 1, 0), (19, .aload_n 0, 1, 0), (20, .getfield 12, 3, 0), (23, .getfield 83, 3, 0), (26, .iload_n 1, 1, 0), (27, .iaload, 1, 0), (28, .if_icmp .ge 56, 3, 84), (31, .aload_n 0, 1, 0)],
  [(32, .getfield 43, 3, 0), (35, .aload_n 0, 1, 0), (36, .getfield 12, 3, 0), (39, .iload_n 1, 1, 0), (40, .aload_n 0, 1, 0), (41, .getfield 12, 3, 0), (44, .getfield 154, 3, 0), (47, .iload_n 1, 1, 0), (48, .bipush 20, 2, 0), (50, .imul, 1, 0), (51, .iload_n 3, 1, 0), (52, .iadd, 1, 0), (53, .iaload, 1, 0), (54, .invokevirtual 113, 3, 0), (57, .istore 4, 2, 0), (59, .iload 4, 2, 0), (61, .ifCond .ne 17, 3, 78)],
  [(64, .aload_n 0, 1, 0), (65, .getfield 43, 3, 0), (68, .getfield 194, 3, 0), (71, .iconst 1, 1, 0), (72, .if_icmp .ne 6, 3, 78), (75, .iinc 2 1, 3, 0), (78, .iinc 3 1, 3, 0), (81, .goto (-63), 3, 18), (84, .iload_n 2, 1, 0), (85, .ireturn, 1, 0)]]
def mi_X5_deletable : mm_I := (yX5_deletable, cX5_deletable, 5, (some .int), 5, 2, false, false, 5, 121, 0, 0)
def mk_X5_isRule : mm_K := [[(0, .iload_n 0, 1, 0), (1, .ifCond .lt 12, 3, 13), (4, .iload_n 0, 1, 0), (5, .iconst 4, 1, 0), (6, .if_icmp .gt 7, 3, 13), (9, .iconst 1, 1, 0), (10, .goto 4, 3, 14), (13, .iconst 0, 1, 0), (14, .ireturn, 1, 0)]]
def mi_X5_isRule : mm_I := (yX5_isRule, cX5_isRule, 1, (some .boolean), 5, 1, false, true, 0, 0, 0, 0)
def mk_X5_isKey : mm_K := [[(0, .iload_n 0, 1, 0), (1, .ifCond .lt 13, 3, 14), (4, .iload_n 0, 1, 0), (5, .bipush 100, 2, 0), (7, .if_icmp .ge 7, 3, 14), (10, .iconst 1, 1, 0), (11, .goto 4, 3, 15), (14, .iconst 0, 1, 0), (15, .ireturn, 1, 0)]]
def mi_X5_isKey : mm_I := (yX5_isKey, cX5_isKey, 1, (some .boolean), 5, 1, false, true, 0, 0, 0, 0)
def mk_X5_isValue : mm_K := [[(0, .iload_n 0, 1, 0), (1, .iconst (-1), 1, 0), (2, .if_icmp .eq 10, 3, 12), (5, .iload_n 0, 1, 0), (6, .invokestatic 232, 3, 0), (9, .ifCond .eq 7, 3, 16), (12, .iconst 1, 1, 0), (13, .goto 4, 3, 17), (16, .iconst 0, 1, 0), (17, .ireturn, 1, 0)]]
def mi_X5_isValue : mm_I := (yX5_isValue, cX5_isValue, 1, (some .boolean), 5, 1, false, true, 1, 20, 0, 0)
def mk_X5_rowNumber : mm_K := [[(0, .iload_n 0, 1, 0), (1, .bipush 100, 2, 0), (3, .imul, 1, 0), (4, .iload_n 1, 1, 0), (5, .iadd, 1, 0), (6, .ireturn, 1, 0)]]
def mi_X5_rowNumber : mm_I := (yX5_rowNumber, cX5_rowNumber, 2, (some .int), 5, 2, false, false, 0, 0, 0, 0)
def mk_J7_fill_53178 : mm_K := [[(0, .iconst 0, 1, 0), (1, .istore_n 2, 1, 0), (2, .aload_n 0, 1, 0), (3, .arraylength, 1, 0), (4, .istore_n 3, 1, 0), (5, .iload_n 2, 1, 0), (6, .iload_n 3, 1, 0), (7, .if_icmp .ge 13, 3, 20), (10, .aload_n 0, 1, 0), (11, .iload_n 2, 1, 0), (12, .iload_n 1, 1, 0), (13, .iastore, 1, 0), (14, .iinc 2 1, 3, 0), (17, .goto (-12), 3, 5), (20, .return_, 1, 0)]]
def mi_J7_fill_53178 : mm_I := (yJ7_fill_53178, cJ7_fill_53178, 4, none, 8, 2, false, false, 0, 0, 0, 0)
def mk_L_cell : mm_K := [[(0, .iload_n 1, 1, 0), (1, .aload_n 0, 1, 0), (2, .arraylength, 1, 0), (3, .if_icmp .ge 9, 3, 12), (6, .aload_n 0, 1, 0), (7, .iload_n 1, 1, 0), (8, .iaload, 1, 0), (9, .goto 10, 3, 19), (12, .ldc 7, 2, 0), (14, .iload_n 1, 1, 0), (15, .bipush 31, 2, 0), (17, .iadd, 1, 0), (18, .imul, 1, 0), (19, .ireturn, 1, 0)]]
def mi_L_cell : mm_I := (yL_cell, cL_cell, 2, (some .int), 7, 2, false, false, 0, 0, 0, 0)
def mk_L_up : mm_K := [[(0, .iload_n 0, 1, 0), (1, .ldc 8, 2, 0), (3, .iand, 1, 0), (4, .iload_n 1, 1, 0), (5, .irem, 1, 0), (6, .ireturn, 1, 0)]]
def mi_L_up : mm_I := (yL_up, cL_up, 2, (some .int), 7, 2, false, false, 0, 0, 0, 0)
def mk_L_act : mm_K := [[(0, .iload_n 1, 1, 0), (1, .iconst 4, 1, 0), (2, .ishr, 1, 0), (3, .aload_n 0, 1, 0), (4, .iconst 0, 1, 0), (5, .invokevirtual 13, 3, 0), (8, .iconst 1, 1, 0), (9, .iadd, 1, 0), (10, .invokestatic 36, 3, 0), (13, .istore_n 3, 1, 0), (14, .iload_n 2, 1, 0), (15, .bipush 12, 2, 0), (17, .invokestatic 36, 3, 0), (20, .istore 4, 2, 0), (22, .iload_n 2, 1, 0), (23, .iconst 4, 1, 0), (24, .ishr, 1, 0), (25, .bipush 14, 2, 0), (27, .invokestatic 36, 3, 0), (30, .iconst 1, 1, 0), (31, .isub, 1, 0)],
  [(32, .istore 5, 2, 0), (34, .iload_n 2, 1, 0), (35, .bipush 8, 2, 0), (37, .ishr, 1, 0), (38, .bipush 14, 2, 0), (40, .invokestatic 36, 3, 0), (43, .iconst 1, 1, 0), (44, .isub, 1, 0), (45, .istore 6, 2, 0), (47, .iload_n 1, 1, 0), (48, .bipush 16, 2, 0), (50, .invokestatic 36, 3, 0), (53, .tableswitch 183 0 9 #[55, 60, 111, 111, 135, 135, 135, 153, 153, 161], 55, 0)],
  [],
  [(108, .aload_n 0, 1, 0), (109, .invokevirtual 41, 3, 0), (112, .ireturn, 1, 0), (113, .aload_n 0, 1, 0), (114, .iload_n 3, 1, 0), (115, .iload_n 2, 1, 0), (116, .aload_n 0, 1, 0), (117, .iconst 0, 1, 0), (118, .invokevirtual 13, 3, 0), (121, .iconst 1, 1, 0), (122, .iadd, 1, 0), (123, .invokestatic 36, 3, 0), (126, .iload_n 2, 1, 0), (127, .iconst 3, 1, 0)],
  [(128, .ishr, 1, 0), (129, .bipush 6, 2, 0), (131, .invokestatic 36, 3, 0), (134, .iload_n 2, 1, 0), (135, .bipush 8, 2, 0), (137, .ishr, 1, 0), (138, .iconst 1, 1, 0), (139, .iand, 1, 0), (140, .iconst 1, 1, 0), (141, .if_icmp .ne 7, 3, 148), (144, .iconst 1, 1, 0), (145, .goto 4, 3, 149), (148, .iconst 0, 1, 0), (149, .iload_n 2, 1, 0), (150, .bipush 9, 2, 0), (152, .ishr, 1, 0), (153, .bipush 14, 2, 0), (155, .invokestatic 36, 3, 0), (158, .iconst 1, 1, 0), (159, .isub, 1, 0)],
  [(160, .invokevirtual 45, 3, 0), (163, .ireturn, 1, 0), (164, .aload_n 0, 1, 0), (165, .iload_n 2, 1, 0), (166, .aload_n 0, 1, 0), (167, .iconst 1, 1, 0), (168, .invokevirtual 13, 3, 0), (171, .iconst 1, 1, 0), (172, .iadd, 1, 0), (173, .invokestatic 36, 3, 0), (176, .iload_n 2, 1, 0), (177, .iconst 4, 1, 0), (178, .ishr, 1, 0), (179, .bipush 6, 2, 0), (181, .invokestatic 36, 3, 0), (184, .invokevirtual 49, 3, 0), (187, .ireturn, 1, 0), (188, .aload_n 0, 1, 0), (189, .iload_n 3, 1, 0), (190, .iload 4, 2, 0)],
  [(192, .iload_n 2, 1, 0), (193, .bipush 12, 2, 0), (195, .ishr, 1, 0), (196, .iconst 3, 1, 0), (197, .invokestatic 36, 3, 0), (200, .iload 5, 2, 0), (202, .invokevirtual 52, 3, 0), (205, .ireturn, 1, 0), (206, .aload_n 0, 1, 0), (207, .iload_n 3, 1, 0), (208, .iload 4, 2, 0), (210, .invokevirtual 56, 3, 0), (213, .ireturn, 1, 0), (214, .iload_n 2, 1, 0), (215, .bipush 7, 2, 0), (217, .iand, 1, 0), (218, .ifCond .ne 10, 3, 228), (221, .aload_n 0, 1, 0), (222, .invokevirtual 59, 3, 0)],
  [(225, .goto 10, 3, 235), (228, .aload_n 0, 1, 0), (229, .iload_n 3, 1, 0), (230, .iload 4, 2, 0), (232, .invokevirtual 56, 3, 0), (235, .ireturn, 1, 0), (236, .aload_n 0, 1, 0), (237, .iload_n 3, 1, 0), (238, .invokestatic 62, 3, 0), (241, .istore 7, 2, 0), (243, .aload_n 0, 1, 0), (244, .iload_n 3, 1, 0), (245, .iload 4, 2, 0), (247, .iload 7, 2, 0), (249, .ifCond .le 8, 3, 257), (252, .iload 5, 2, 0), (254, .goto 4, 3, 258)],
  [(257, .iconst (-1), 1, 0), (258, .iload 7, 2, 0), (260, .iconst 1, 1, 0), (261, .if_icmp .le 8, 3, 269), (264, .iload 6, 2, 0), (266, .goto 4, 3, 270), (269, .iconst (-1), 1, 0), (270, .invokevirtual 66, 3, 0), (273, .ireturn, 1, 0)]]
def mi_L_act : mm_I := (yL_act, cL_act, 8, (some .int), 7, 3, false, false, 6, 144, 0, 0)
def mk_L_columns : mm_K := [[(0, .iconst 0, 1, 0), (1, .istore_n 2, 1, 0), (2, .iconst 0, 1, 0), (3, .istore_n 3, 1, 0), (4, .iload_n 3, 1, 0), (5, .aload_n 0, 1, 0), (6, .iconst 1, 1, 0), (7, .invokevirtual 13, 3, 0), (10, .if_icmp .ge 27, 3, 37), (13, .iload_n 2, 1, 0), (14, .aload_n 0, 1, 0), (15, .iload_n 3, 1, 0), (16, .iconst 0, 1, 0), (17, .invokevirtual 30, 3, 0), (20, .iload_n 1, 1, 0), (21, .if_icmp .ne 7, 3, 28), (24, .iconst 1, 1, 0), (25, .goto 4, 3, 29), (28, .iconst 0, 1, 0), (29, .iadd, 1, 0), (30, .istore_n 2, 1, 0), (31, .iinc 3 1, 3, 0)],
  [(34, .goto (-30), 3, 4), (37, .iload_n 2, 1, 0), (38, .ireturn, 1, 0)]]
def mi_L_columns : mm_I := (yL_columns, cL_columns, 4, (some .int), 7, 2, false, false, 4, 92, 0, 0)
def mk_L_isRow : mm_K := [[(0, .iconst 0, 1, 0), (1, .istore_n 3, 1, 0), (2, .iconst 0, 1, 0), (3, .istore 4, 2, 0), (5, .iload 4, 2, 0), (7, .aload_n 0, 1, 0), (8, .iload_n 1, 1, 0), (9, .invokevirtual 19, 3, 0), (12, .if_icmp .ge 30, 3, 42), (15, .iload_n 3, 1, 0), (16, .ifCond .ne 14, 3, 30), (19, .aload_n 0, 1, 0), (20, .iload_n 1, 1, 0), (21, .iload 4, 2, 0), (23, .invokevirtual 22, 3, 0), (26, .iload_n 2, 1, 0), (27, .if_icmp .ne 7, 3, 34), (30, .iconst 1, 1, 0), (31, .goto 4, 3, 35)],
  [(34, .iconst 0, 1, 0), (35, .istore_n 3, 1, 0), (36, .iinc 4 1, 3, 0), (39, .goto (-34), 3, 5), (42, .iload_n 3, 1, 0), (43, .ireturn, 1, 0)]]
def mi_L_isRow : mm_I := (yL_isRow, cL_isRow, 5, (some .boolean), 7, 3, false, true, 2, 43, 0, 0)
def mk_L_holds : mm_K := [[(0, .iconst 0, 1, 0), (1, .istore_n 1, 1, 0), (2, .iconst 0, 1, 0), (3, .istore_n 2, 1, 0), (4, .iconst 1, 1, 0), (5, .istore_n 3, 1, 0), (6, .iconst 0, 1, 0), (7, .istore 4, 2, 0), (9, .iload 4, 2, 0), (11, .aload_n 0, 1, 0), (12, .iconst 0, 1, 0), (13, .invokevirtual 13, 3, 0), (16, .if_icmp .ge 136, 3, 152), (19, .iload_n 3, 1, 0), (20, .ifCond .eq 132, 3, 152), (23, .iload_n 1, 1, 0), (24, .aload_n 0, 1, 0), (25, .iload 4, 2, 0), (27, .invokevirtual 19, 3, 0), (30, .iadd, 1, 0), (31, .istore_n 1, 1, 0)],
  [(32, .iconst (-1), 1, 0), (33, .istore 5, 2, 0), (35, .iconst 0, 1, 0), (36, .istore 6, 2, 0), (38, .iload 6, 2, 0), (40, .aload_n 0, 1, 0), (41, .iload 4, 2, 0), (43, .invokevirtual 19, 3, 0), (46, .if_icmp .ge 47, 3, 93), (49, .aload_n 0, 1, 0), (50, .iload 4, 2, 0), (52, .iload 6, 2, 0), (54, .invokevirtual 22, 3, 0), (57, .istore 7, 2, 0), (59, .iload_n 3, 1, 0), (60, .ifCond .eq 21, 3, 81), (63, .iload 7, 2, 0)],
  [(65, .iload 5, 2, 0), (67, .if_icmp .le 14, 3, 81), (70, .iload 7, 2, 0), (72, .bipush 100, 2, 0), (74, .if_icmp .ge 7, 3, 81), (77, .iconst 1, 1, 0), (78, .goto 4, 3, 82), (81, .iconst 0, 1, 0), (82, .istore_n 3, 1, 0), (83, .iload 7, 2, 0), (85, .istore 5, 2, 0), (87, .iinc 6 1, 3, 0), (90, .goto (-52), 3, 38), (93, .iload_n 3, 1, 0), (94, .ifCond .eq 50, 3, 144)],
  [(97, .aload_n 0, 1, 0), (98, .iload 4, 2, 0), (100, .aload_n 0, 1, 0), (101, .iload 4, 2, 0), (103, .invokevirtual 19, 3, 0), (106, .invokevirtual 22, 3, 0), (109, .bipush (-9), 2, 0), (111, .if_icmp .ne 33, 3, 144), (114, .aload_n 0, 1, 0), (115, .iload 4, 2, 0), (117, .invokevirtual 19, 3, 0), (120, .bipush 20, 2, 0), (122, .if_icmp .gt 22, 3, 144), (125, .aload_n 0, 1, 0), (126, .iload 4, 2, 0)],
  [(128, .invokevirtual 69, 3, 0), (131, .aload_n 0, 1, 0), (132, .iload 4, 2, 0), (134, .invokevirtual 19, 3, 0), (137, .if_icmp .gt 7, 3, 144), (140, .iconst 1, 1, 0), (141, .goto 4, 3, 145), (144, .iconst 0, 1, 0), (145, .istore_n 3, 1, 0), (146, .iinc 4 1, 3, 0), (149, .goto (-140), 3, 9), (152, .iconst 0, 1, 0), (153, .istore 4, 2, 0), (155, .iload 4, 2, 0), (157, .aload_n 0, 1, 0), (158, .iconst 1, 1, 0), (159, .invokevirtual 13, 3, 0)],
  [(162, .if_icmp .ge 221, 3, 383), (165, .iload_n 3, 1, 0), (166, .ifCond .eq 217, 3, 383), (169, .aload_n 0, 1, 0), (170, .iload 4, 2, 0), (172, .iconst 0, 1, 0), (173, .invokevirtual 30, 3, 0), (176, .istore 5, 2, 0), (178, .aload_n 0, 1, 0), (179, .iload 4, 2, 0), (181, .iconst 1, 1, 0), (182, .invokevirtual 30, 3, 0), (185, .istore 6, 2, 0), (187, .aload_n 0, 1, 0), (188, .iload 4, 2, 0), (190, .iconst 2, 1, 0), (191, .invokevirtual 30, 3, 0)],
  [(194, .istore 7, 2, 0), (196, .iconst 0, 1, 0), (197, .istore 8, 2, 0), (199, .iconst 0, 1, 0), (200, .istore 9, 2, 0), (202, .iconst 0, 1, 0), (203, .istore 10, 2, 0), (205, .iload 10, 2, 0), (207, .aload_n 0, 1, 0), (208, .iload 5, 2, 0), (210, .invokevirtual 19, 3, 0), (213, .if_icmp .ge 97, 3, 310), (216, .aload_n 0, 1, 0), (217, .iload 5, 2, 0), (219, .aload_n 0, 1, 0), (220, .iload 5, 2, 0), (222, .iload 10, 2, 0)],
  [(224, .invokevirtual 22, 3, 0), (227, .iload 7, 2, 0), (229, .invokevirtual 26, 3, 0), (232, .istore 11, 2, 0), (234, .iload_n 2, 1, 0), (235, .iload 11, 2, 0), (237, .iconst (-1), 1, 0), (238, .if_icmp .ne 7, 3, 245), (241, .iconst 1, 1, 0), (242, .goto 4, 3, 246), (245, .iconst 0, 1, 0), (246, .iadd, 1, 0), (247, .istore_n 2, 1, 0), (248, .iload 9, 2, 0), (250, .iload 11, 2, 0), (252, .iconst (-1), 1, 0), (253, .if_icmp .ne 7, 3, 260)],
  [(256, .iconst 0, 1, 0), (257, .goto 4, 3, 261), (260, .iconst 1, 1, 0), (261, .iadd, 1, 0), (262, .istore 9, 2, 0), (264, .iload_n 3, 1, 0), (265, .ifCond .eq 37, 3, 302), (268, .iload 11, 2, 0), (270, .iconst (-1), 1, 0), (271, .if_icmp .ne 16, 3, 287), (274, .aload_n 0, 1, 0), (275, .iload 4, 2, 0), (277, .iconst 4, 1, 0), (278, .invokevirtual 30, 3, 0), (281, .ifCond .ne 21, 3, 302), (284, .goto 14, 3, 298), (287, .aload_n 0, 1, 0)],
  [(288, .iload 6, 2, 0), (290, .iload 11, 2, 0), (292, .invokestatic 72, 3, 0), (295, .ifCond .eq 7, 3, 302), (298, .iconst 1, 1, 0), (299, .goto 4, 3, 303), (302, .iconst 0, 1, 0), (303, .istore_n 3, 1, 0), (304, .iinc 10 1, 3, 0), (307, .goto (-102), 3, 205), (310, .iconst 0, 1, 0), (311, .istore 10, 2, 0), (313, .iload 10, 2, 0), (315, .aload_n 0, 1, 0), (316, .iload 6, 2, 0), (318, .invokevirtual 19, 3, 0)],
  [(321, .if_icmp .ge 28, 3, 349), (324, .iload 8, 2, 0), (326, .aload_n 0, 1, 0), (327, .iload 4, 2, 0), (329, .aload_n 0, 1, 0), (330, .iload 6, 2, 0), (332, .iload 10, 2, 0), (334, .invokevirtual 22, 3, 0), (337, .invokevirtual 76, 3, 0), (340, .iadd, 1, 0), (341, .istore 8, 2, 0), (343, .iinc 10 1, 3, 0), (346, .goto (-33), 3, 313), (349, .iload_n 3, 1, 0), (350, .ifCond .eq 25, 3, 375)],
  [(353, .iload 8, 2, 0), (355, .iload 9, 2, 0), (357, .if_icmp .ne 18, 3, 375), (360, .iload 7, 2, 0), (362, .ifCond .lt 13, 3, 375), (365, .iload 7, 2, 0), (367, .iconst 2, 1, 0), (368, .if_icmp .ge 7, 3, 375), (371, .iconst 1, 1, 0), (372, .goto 4, 3, 376), (375, .iconst 0, 1, 0), (376, .istore_n 3, 1, 0), (377, .iinc 4 1, 3, 0), (380, .goto (-225), 3, 155), (383, .iload_n 3, 1, 0)],
  [(384, .ifCond .eq 44, 3, 428), (387, .iload_n 1, 1, 0), (388, .aload_n 0, 1, 0), (389, .iconst 2, 1, 0), (390, .invokevirtual 13, 3, 0), (393, .if_icmp .ne 35, 3, 428), (396, .iload_n 2, 1, 0), (397, .aload_n 0, 1, 0), (398, .iconst 3, 1, 0), (399, .invokevirtual 13, 3, 0), (402, .if_icmp .ne 26, 3, 428), (405, .aload_n 0, 1, 0), (406, .iconst 2, 1, 0), (407, .invokevirtual 13, 3, 0), (410, .aload_n 0, 1, 0), (411, .iconst 4, 1, 0), (412, .invokevirtual 13, 3, 0), (415, .aload_n 0, 1, 0)],
  [(416, .iconst 5, 1, 0), (417, .invokevirtual 13, 3, 0), (420, .isub, 1, 0), (421, .if_icmp .ne 7, 3, 428), (424, .iconst 1, 1, 0), (425, .goto 4, 3, 429), (428, .iconst 0, 1, 0), (429, .ireturn, 1, 0)]]
def mi_L_holds : mm_I := (yL_holds, cL_holds, 12, (some .boolean), 7, 1, false, true, 6, 145, 0, 0)
def mk_L_isRing : mm_K := [[(0, .aload_n 0, 1, 0), (1, .iload_n 1, 1, 0), (2, .iload_n 2, 1, 0), (3, .invokevirtual 79, 3, 0), (6, .istore_n 3, 1, 0), (7, .aload_n 0, 1, 0), (8, .iload_n 1, 1, 0), (9, .iload_n 2, 1, 0), (10, .iconst 0, 1, 0), (11, .invokevirtual 26, 3, 0), (14, .ifCond .ge 13, 3, 27), (17, .aload_n 0, 1, 0), (18, .iload_n 1, 1, 0), (19, .iload_n 2, 1, 0), (20, .iconst 1, 1, 0), (21, .invokevirtual 26, 3, 0), (24, .ifCond .lt 7, 3, 31), (27, .iconst 1, 1, 0), (28, .goto 4, 3, 32), (31, .iconst 0, 1, 0)],
  [(32, .istore 4, 2, 0), (34, .iconst 0, 1, 0), (35, .istore 5, 2, 0), (37, .iconst 0, 1, 0), (38, .istore 6, 2, 0), (40, .iload 6, 2, 0), (42, .aload_n 0, 1, 0), (43, .iconst 1, 1, 0), (44, .invokevirtual 13, 3, 0), (47, .if_icmp .ge 60, 3, 107), (50, .iload 5, 2, 0), (52, .ifCond .ne 42, 3, 94), (55, .aload_n 0, 1, 0), (56, .iload 6, 2, 0), (58, .iconst 0, 1, 0), (59, .invokevirtual 30, 3, 0), (62, .iload_n 1, 1, 0), (63, .if_icmp .ne 35, 3, 98)],
  [(66, .aload_n 0, 1, 0), (67, .iload 6, 2, 0), (69, .iconst 1, 1, 0), (70, .invokevirtual 30, 3, 0), (73, .iload_n 1, 1, 0), (74, .if_icmp .ne 24, 3, 98), (77, .aload_n 0, 1, 0), (78, .iload_n 1, 1, 0), (79, .iload_n 2, 1, 0), (80, .aload_n 0, 1, 0), (81, .iload 6, 2, 0), (83, .iconst 2, 1, 0), (84, .invokevirtual 30, 3, 0), (87, .invokevirtual 26, 3, 0), (90, .iload_n 2, 1, 0), (91, .if_icmp .ne 7, 3, 98), (94, .iconst 1, 1, 0), (95, .goto 4, 3, 99)],
  [(98, .iconst 0, 1, 0), (99, .istore 5, 2, 0), (101, .iinc 6 1, 3, 0), (104, .goto (-64), 3, 40), (107, .iload_n 3, 1, 0), (108, .ifCond .eq 8, 3, 116), (111, .iload 4, 2, 0), (113, .ifCond .eq 17, 3, 130), (116, .iload 5, 2, 0), (118, .ifCond .eq 8, 3, 126), (121, .iload_n 3, 1, 0), (122, .iconst 1, 1, 0), (123, .if_icmp .ne 7, 3, 130), (126, .iconst 1, 1, 0), (127, .goto 4, 3, 131)],
  [(130, .iconst 0, 1, 0), (131, .ireturn, 1, 0)]]
def mi_L_isRing : mm_I := (yL_isRing, cL_isRing, 7, (some .boolean), 7, 3, false, true, 5, 118, 0, 0)
def mk_L_told : mm_K := [[(0, .ldc2_w 9, 3, 0), (3, .lstore_n 1, 1, 0), (4, .iconst 0, 1, 0), (5, .istore_n 3, 1, 0), (6, .iload_n 3, 1, 0), (7, .bipush 7, 2, 0), (9, .if_icmp .ge 22, 3, 31), (12, .ldc2_w 11, 3, 0), (15, .lload_n 1, 1, 0), (16, .lmul, 1, 0), (17, .aload_n 0, 1, 0), (18, .iload_n 3, 1, 0), (19, .invokevirtual 13, 3, 0), (22, .i2l, 1, 0), (23, .ladd, 1, 0), (24, .lstore_n 1, 1, 0), (25, .iinc 3 1, 3, 0), (28, .goto (-22), 3, 6), (31, .iconst 0, 1, 0)],
  [(32, .istore_n 3, 1, 0), (33, .iload_n 3, 1, 0), (34, .aload_n 0, 1, 0), (35, .iconst 0, 1, 0), (36, .invokevirtual 13, 3, 0), (39, .if_icmp .ge 75, 3, 114), (42, .iconst 0, 1, 0), (43, .istore 4, 2, 0), (45, .iload 4, 2, 0), (47, .aload_n 0, 1, 0), (48, .iload_n 3, 1, 0), (49, .invokevirtual 19, 3, 0), (52, .if_icmp .ge 56, 3, 108), (55, .aload_n 0, 1, 0), (56, .iload_n 3, 1, 0), (57, .iload 4, 2, 0), (59, .invokevirtual 22, 3, 0), (62, .istore 5, 2, 0)],
  [(64, .ldc2_w 11, 3, 0), (67, .ldc2_w 11, 3, 0), (70, .ldc2_w 11, 3, 0), (73, .lload_n 1, 1, 0), (74, .lmul, 1, 0), (75, .iload 5, 2, 0), (77, .i2l, 1, 0), (78, .ladd, 1, 0), (79, .lmul, 1, 0), (80, .aload_n 0, 1, 0), (81, .iload_n 3, 1, 0), (82, .iload 5, 2, 0), (84, .iconst 0, 1, 0), (85, .invokevirtual 26, 3, 0), (88, .i2l, 1, 0), (89, .ladd, 1, 0), (90, .lmul, 1, 0), (91, .aload_n 0, 1, 0), (92, .iload_n 3, 1, 0), (93, .iload 5, 2, 0), (95, .iconst 1, 1, 0)],
  [(96, .invokevirtual 26, 3, 0), (99, .i2l, 1, 0), (100, .ladd, 1, 0), (101, .lstore_n 1, 1, 0), (102, .iinc 4 1, 3, 0), (105, .goto (-60), 3, 45), (108, .iinc 3 1, 3, 0), (111, .goto (-78), 3, 33), (114, .iconst 0, 1, 0), (115, .istore_n 3, 1, 0), (116, .iload_n 3, 1, 0), (117, .bipush 6, 2, 0), (119, .aload_n 0, 1, 0), (120, .iconst 1, 1, 0), (121, .invokevirtual 13, 3, 0), (124, .imul, 1, 0), (125, .if_icmp .ge 29, 3, 154)],
  [(128, .ldc2_w 11, 3, 0), (131, .lload_n 1, 1, 0), (132, .lmul, 1, 0), (133, .aload_n 0, 1, 0), (134, .iload_n 3, 1, 0), (135, .bipush 6, 2, 0), (137, .idiv, 1, 0), (138, .iload_n 3, 1, 0), (139, .bipush 6, 2, 0), (141, .irem, 1, 0), (142, .invokevirtual 30, 3, 0), (145, .i2l, 1, 0), (146, .ladd, 1, 0), (147, .lstore_n 1, 1, 0), (148, .iinc 3 1, 3, 0), (151, .goto (-35), 3, 116), (154, .iconst 0, 1, 0), (155, .istore_n 3, 1, 0), (156, .iload_n 3, 1, 0), (157, .bipush 9, 2, 0), (159, .if_icmp .ge 22, 3, 181)],
  [(162, .ldc2_w 11, 3, 0), (165, .lload_n 1, 1, 0), (166, .lmul, 1, 0), (167, .aload_n 0, 1, 0), (168, .iload_n 3, 1, 0), (169, .invokevirtual 33, 3, 0), (172, .i2l, 1, 0), (173, .ladd, 1, 0), (174, .lstore_n 1, 1, 0), (175, .iinc 3 1, 3, 0), (178, .goto (-22), 3, 156), (181, .lload_n 1, 1, 0), (182, .lreturn, 1, 0)]]
def mi_L_told : mm_I := (yL_told, cL_told, 6, (some .long), 7, 1, false, false, 4, 92, 0, 0)
def mk_L_isAhead : mm_K := [[(0, .aload_n 0, 1, 0), (1, .invokestatic 82, 3, 0), (4, .lstore_n 3, 1, 0), (5, .aload_n 0, 1, 0), (6, .iload_n 1, 1, 0), (7, .iload_n 2, 1, 0), (8, .invokevirtual 86, 3, 0), (11, .istore 5, 2, 0), (13, .aload_n 0, 1, 0), (14, .iload_n 1, 1, 0), (15, .iload_n 2, 1, 0), (16, .invokevirtual 89, 3, 0), (19, .istore 6, 2, 0), (21, .iconst 0, 1, 0), (22, .istore 7, 2, 0), (24, .iconst 0, 1, 0), (25, .istore 8, 2, 0), (27, .iconst 0, 1, 0), (28, .istore 9, 2, 0), (30, .aload_n 0, 1, 0), (31, .iload_n 1, 1, 0)],
  [(32, .iload_n 2, 1, 0), (33, .iload 7, 2, 0), (35, .invokevirtual 92, 3, 0), (38, .ifCond .lt 9, 3, 47), (41, .iinc 7 1, 3, 0), (44, .goto (-14), 3, 30), (47, .iconst 0, 1, 0), (48, .istore 10, 2, 0), (50, .iload 10, 2, 0), (52, .aload_n 0, 1, 0), (53, .iconst 1, 1, 0), (54, .invokevirtual 13, 3, 0), (57, .if_icmp .ge 51, 3, 108), (60, .iload 8, 2, 0), (62, .aload_n 0, 1, 0), (63, .iload 10, 2, 0)],
  [(65, .iconst 3, 1, 0), (66, .invokevirtual 30, 3, 0), (69, .iconst 2, 1, 0), (70, .if_icmp .ne 7, 3, 77), (73, .iconst 1, 1, 0), (74, .goto 4, 3, 78), (77, .iconst 0, 1, 0), (78, .iadd, 1, 0), (79, .istore 8, 2, 0), (81, .iload 9, 2, 0), (83, .aload_n 0, 1, 0), (84, .iload 10, 2, 0), (86, .iconst 3, 1, 0), (87, .invokevirtual 30, 3, 0), (90, .iconst 2, 1, 0), (91, .if_icmp .ne 7, 3, 98), (94, .iconst 0, 1, 0), (95, .goto 4, 3, 99)],
  [(98, .iconst 1, 1, 0), (99, .iadd, 1, 0), (100, .istore 9, 2, 0), (102, .iinc 10 1, 3, 0), (105, .goto (-55), 3, 50), (108, .aload_n 0, 1, 0), (109, .iconst 2, 1, 0), (110, .invokevirtual 13, 3, 0), (113, .istore 10, 2, 0), (115, .aload_n 0, 1, 0), (116, .bipush 6, 2, 0), (118, .invokevirtual 13, 3, 0), (121, .istore 11, 2, 0), (123, .aload_n 0, 1, 0), (124, .iload_n 1, 1, 0), (125, .iload_n 2, 1, 0), (126, .invokevirtual 56, 3, 0)],
  [(129, .istore 12, 2, 0), (131, .iload 12, 2, 0), (133, .ifCond .ge 82, 3, 215), (136, .iload 12, 2, 0), (138, .bipush (-2), 2, 0), (140, .if_icmp .ne 19, 3, 159), (143, .iload 5, 2, 0), (145, .iload 12, 2, 0), (147, .if_icmp .ne 12, 3, 159), (150, .iload 7, 2, 0), (152, .ifCond .ne 7, 3, 159), (155, .iconst 1, 1, 0), (156, .goto 4, 3, 160), (159, .iconst 0, 1, 0)],
  [(160, .istore 13, 2, 0), (162, .iload 6, 2, 0), (164, .iload 12, 2, 0), (166, .if_icmp .ne 47, 3, 213), (169, .iload 13, 2, 0), (171, .ifCond .ne 29, 3, 200), (174, .iload 12, 2, 0), (176, .bipush (-8), 2, 0), (178, .if_icmp .ne 35, 3, 213), (181, .iload 5, 2, 0), (183, .ifCond .le 30, 3, 213), (186, .iload 9, 2, 0), (188, .ifCond .le 25, 3, 213), (191, .aload_n 0, 1, 0)],
  [(192, .iload_n 1, 1, 0), (193, .iload_n 2, 1, 0), (194, .invokevirtual 95, 3, 0), (197, .ifCond .lt 16, 3, 213), (200, .aload_n 0, 1, 0), (201, .invokestatic 82, 3, 0), (204, .lload_n 3, 1, 0), (205, .lcmp, 1, 0), (206, .ifCond .ne 7, 3, 213), (209, .iconst 1, 1, 0), (210, .goto 4, 3, 214), (213, .iconst 0, 1, 0), (214, .ireturn, 1, 0), (215, .iload 5, 2, 0), (217, .ifCond .ne 70, 3, 287), (220, .iload 12, 2, 0), (222, .iload 7, 2, 0)],
  [(224, .if_icmp .ne 63, 3, 287), (227, .iload 8, 2, 0), (229, .ifCond .gt 9, 3, 238), (232, .iload 7, 2, 0), (234, .iconst 1, 1, 0), (235, .if_icmp .ne 52, 3, 287), (238, .aload_n 0, 1, 0), (239, .iconst 2, 1, 0), (240, .invokevirtual 13, 3, 0), (243, .iload 10, 2, 0), (245, .iload 7, 2, 0), (247, .isub, 1, 0), (248, .if_icmp .ne 39, 3, 287), (251, .aload_n 0, 1, 0), (252, .bipush 6, 2, 0), (254, .invokevirtual 13, 3, 0)],
  [(257, .iload 11, 2, 0), (259, .iload 6, 2, 0), (261, .iadd, 1, 0), (262, .if_icmp .ne 25, 3, 287), (265, .aload_n 0, 1, 0), (266, .invokestatic 98, 3, 0), (269, .ifCond .eq 18, 3, 287), (272, .aload_n 0, 1, 0), (273, .iload_n 1, 1, 0), (274, .iload_n 2, 1, 0), (275, .invokevirtual 86, 3, 0), (278, .bipush (-2), 2, 0), (280, .if_icmp .ne 7, 3, 287), (283, .iconst 1, 1, 0), (284, .goto 4, 3, 288), (287, .iconst 0, 1, 0)],
  [(288, .istore 13, 2, 0), (290, .iload 13, 2, 0), (292, .ifCond .eq 32, 3, 324), (295, .aload_n 0, 1, 0), (296, .invokevirtual 102, 3, 0), (299, .ifCond .lt 25, 3, 324), (302, .aload_n 0, 1, 0), (303, .invokestatic 82, 3, 0), (306, .lload_n 3, 1, 0), (307, .lcmp, 1, 0), (308, .ifCond .ne 16, 3, 324), (311, .aload_n 0, 1, 0), (312, .iload_n 1, 1, 0), (313, .iload_n 2, 1, 0), (314, .invokestatic 105, 3, 0), (317, .ifCond .eq 7, 3, 324)],
  [(320, .iconst 1, 1, 0), (321, .goto 4, 3, 325), (324, .iconst 0, 1, 0), (325, .ireturn, 1, 0)]]
def mi_L_isAhead : mm_I := (yL_isAhead, cL_isAhead, 14, (some .boolean), 7, 3, false, true, 7, 176, 0, 0)
def mk_L_law : mm_K := [[(0, .new 14, 3, 0), (3, .dup, 1, 0), (4, .invokespecial 108, 3, 0), (7, .astore_n 1, 1, 0), (8, .aload_n 1, 1, 0), (9, .invokevirtual 102, 3, 0), (12, .bipush (-9), 2, 0), (14, .if_icmp .ne 34, 3, 48), (17, .aload_n 1, 1, 0), (18, .invokevirtual 59, 3, 0), (21, .bipush (-9), 2, 0), (23, .if_icmp .ne 25, 3, 48), (26, .aload_n 1, 1, 0), (27, .invokevirtual 109, 3, 0), (30, .ifCond .ne 18, 3, 48)],
  [(33, .aload_n 1, 1, 0), (34, .invokevirtual 41, 3, 0), (37, .ifCond .ne 11, 3, 48), (40, .aload_n 1, 1, 0), (41, .invokevirtual 41, 3, 0), (44, .iconst 1, 1, 0), (45, .if_icmp .eq 5, 3, 50), (48, .iconst 0, 1, 0), (49, .ireturn, 1, 0), (50, .aload_n 0, 1, 0), (51, .bipush 90, 2, 0), (53, .invokestatic 112, 3, 0), (56, .iconst 2, 1, 0), (57, .invokestatic 36, 3, 0), (60, .istore_n 2, 1, 0), (61, .aload_n 1, 1, 0), (62, .iload_n 2, 1, 0), (63, .aload_n 0, 1, 0)],
  [(64, .bipush 91, 2, 0), (66, .invokestatic 112, 3, 0), (69, .iconst 2, 1, 0), (70, .invokestatic 36, 3, 0), (73, .iconst 2, 1, 0), (74, .iconst 0, 1, 0), (75, .iconst (-1), 1, 0), (76, .invokevirtual 45, 3, 0), (79, .ifCond .ne 57, 3, 136), (82, .aload_n 1, 1, 0), (83, .iconst 1, 1, 0), (84, .iload_n 2, 1, 0), (85, .isub, 1, 0), (86, .aload_n 0, 1, 0), (87, .bipush 92, 2, 0), (89, .invokestatic 112, 3, 0), (92, .iconst 2, 1, 0), (93, .invokestatic 36, 3, 0)],
  [(96, .aload_n 0, 1, 0), (97, .bipush 93, 2, 0), (99, .invokestatic 112, 3, 0), (102, .iconst 5, 1, 0), (103, .invokestatic 36, 3, 0), (106, .iconst 0, 1, 0), (107, .aload_n 0, 1, 0), (108, .bipush 94, 2, 0), (110, .invokestatic 112, 3, 0), (113, .bipush 12, 2, 0), (115, .invokestatic 36, 3, 0), (118, .invokevirtual 45, 3, 0), (121, .iconst 1, 1, 0), (122, .if_icmp .ne 14, 3, 136), (125, .aload_n 1, 1, 0), (126, .invokevirtual 109, 3, 0)],
  [(129, .ifCond .ne 7, 3, 136), (132, .iconst 1, 1, 0), (133, .goto 4, 3, 137), (136, .iconst 0, 1, 0), (137, .istore_n 3, 1, 0), (138, .iconst 0, 1, 0), (139, .istore 4, 2, 0), (141, .iload 4, 2, 0), (143, .bipush 44, 2, 0), (145, .if_icmp .ge 293, 3, 438), (148, .iload_n 3, 1, 0), (149, .ifCond .eq 289, 3, 438), (152, .aload_n 0, 1, 0), (153, .iconst 2, 1, 0), (154, .iload 4, 2, 0), (156, .imul, 1, 0), (157, .invokestatic 112, 3, 0)],
  [(160, .istore 5, 2, 0), (162, .aload_n 0, 1, 0), (163, .iconst 2, 1, 0), (164, .iload 4, 2, 0), (166, .imul, 1, 0), (167, .iconst 1, 1, 0), (168, .iadd, 1, 0), (169, .invokestatic 112, 3, 0), (172, .istore 6, 2, 0), (174, .aload_n 1, 1, 0), (175, .invokestatic 82, 3, 0), (178, .lstore 7, 2, 0), (180, .aload_n 1, 1, 0), (181, .bipush 7, 2, 0), (183, .invokevirtual 13, 3, 0), (186, .istore 9, 2, 0), (188, .aload_n 1, 1, 0), (189, .iload 5, 2, 0), (191, .iload 6, 2, 0)],
  [(193, .invokestatic 116, 3, 0), (196, .istore 10, 2, 0), (198, .aload_n 1, 1, 0), (199, .invokestatic 82, 3, 0), (202, .lstore 11, 2, 0), (204, .iload 10, 2, 0), (206, .iconst (-1), 1, 0), (207, .if_icmp .ge 30, 3, 237), (210, .lload 11, 2, 0), (212, .lload 7, 2, 0), (214, .lcmp, 1, 0), (215, .ifCond .ne 18, 3, 233), (218, .aload_n 1, 1, 0), (219, .bipush 7, 2, 0), (221, .invokevirtual 13, 3, 0)],
  [(224, .iload 9, 2, 0), (226, .if_icmp .ne 7, 3, 233), (229, .iconst 1, 1, 0), (230, .goto 35, 3, 265), (233, .iconst 0, 1, 0), (234, .goto 31, 3, 265), (237, .aload_n 1, 1, 0), (238, .bipush 7, 2, 0), (240, .invokevirtual 13, 3, 0), (243, .iload 9, 2, 0), (245, .iconst 4, 1, 0), (246, .if_icmp .ge 10, 3, 256), (249, .iload 9, 2, 0), (251, .iconst 1, 1, 0), (252, .iadd, 1, 0), (253, .goto 4, 3, 257)],
  [(256, .iconst 4, 1, 0), (257, .if_icmp .ne 7, 3, 264), (260, .iconst 1, 1, 0), (261, .goto 4, 3, 265), (264, .iconst 0, 1, 0), (265, .istore_n 3, 1, 0), (266, .iload_n 3, 1, 0), (267, .ifCond .eq 77, 3, 344), (270, .iload 10, 2, 0), (272, .iconst (-1), 1, 0), (273, .if_icmp .lt 71, 3, 344), (276, .iload 5, 2, 0), (278, .bipush 8, 2, 0), (280, .ishr, 1, 0), (281, .iconst 1, 1, 0), (282, .iand, 1, 0), (283, .ifCond .ne 61, 3, 344), (286, .aload_n 1, 1, 0), (287, .bipush 7, 2, 0)],
  [(289, .invokevirtual 13, 3, 0), (292, .iconst 1, 1, 0), (293, .isub, 1, 0), (294, .istore 13, 2, 0), (296, .aload_n 1, 1, 0), (297, .invokevirtual 102, 3, 0), (300, .iload 13, 2, 0), (302, .if_icmp .ne 40, 3, 342), (305, .aload_n 1, 1, 0), (306, .invokestatic 82, 3, 0), (309, .lload 7, 2, 0), (311, .lcmp, 1, 0), (312, .ifCond .ne 30, 3, 342), (315, .aload_n 1, 1, 0), (316, .iload 5, 2, 0), (318, .iload 6, 2, 0)],
  [(320, .invokestatic 116, 3, 0), (323, .iload 10, 2, 0), (325, .if_icmp .ne 17, 3, 342), (328, .aload_n 1, 1, 0), (329, .invokestatic 82, 3, 0), (332, .lload 11, 2, 0), (334, .lcmp, 1, 0), (335, .ifCond .ne 7, 3, 342), (338, .iconst 1, 1, 0), (339, .goto 4, 3, 343), (342, .iconst 0, 1, 0), (343, .istore_n 3, 1, 0), (344, .iload_n 3, 1, 0), (345, .ifCond .eq 53, 3, 398), (348, .iload 4, 2, 0), (350, .iconst 3, 1, 0), (351, .irem, 1, 0)],
  [(352, .ifCond .le 35, 3, 387), (355, .aload_n 1, 1, 0), (356, .iload 5, 2, 0), (358, .bipush 9, 2, 0), (360, .ishr, 1, 0), (361, .aload_n 1, 1, 0), (362, .iconst 0, 1, 0), (363, .invokevirtual 13, 3, 0), (366, .invokestatic 36, 3, 0), (369, .iload 6, 2, 0), (371, .iconst 3, 1, 0), (372, .ishr, 1, 0), (373, .bipush 12, 2, 0), (375, .invokestatic 36, 3, 0), (378, .invokestatic 120, 3, 0), (381, .ifCond .eq 17, 3, 398)],
  [(384, .goto 10, 3, 394), (387, .aload_n 1, 1, 0), (388, .invokestatic 98, 3, 0), (391, .ifCond .eq 7, 3, 398), (394, .iconst 1, 1, 0), (395, .goto 4, 3, 399), (398, .iconst 0, 1, 0), (399, .istore_n 3, 1, 0), (400, .iload_n 3, 1, 0), (401, .ifCond .eq 29, 3, 430), (404, .iload 4, 2, 0), (406, .bipush 13, 2, 0), (408, .irem, 1, 0), (409, .bipush 7, 2, 0), (411, .if_icmp .ne 15, 3, 426), (414, .aload_n 1, 1, 0), (415, .invokevirtual 109, 3, 0)],
  [(418, .aload_n 1, 1, 0), (419, .iconst 2, 1, 0), (420, .invokevirtual 13, 3, 0), (423, .if_icmp .ne 7, 3, 430), (426, .iconst 1, 1, 0), (427, .goto 4, 3, 431), (430, .iconst 0, 1, 0), (431, .istore_n 3, 1, 0), (432, .iinc 4 1, 3, 0), (435, .goto (-294), 3, 141), (438, .iload_n 3, 1, 0), (439, .ifCond .eq 14, 3, 453), (442, .aload_n 1, 1, 0), (443, .invokestatic 98, 3, 0), (446, .ifCond .eq 7, 3, 453)],
  [(449, .iconst 1, 1, 0), (450, .goto 4, 3, 454), (453, .iconst 0, 1, 0), (454, .ireturn, 1, 0)]]
def mi_L_law : mm_I := (yL_law, cL_law, 14, (some .boolean), 7, 1, false, true, 8, 209, 69, 5899)
def ml_ents : List (mm_I × mm_K) := [(mi_L_told, mk_L_told), (mi_L_isAhead, mk_L_isAhead), (mi_L_law, mk_L_law)]
/-- the law's calls of its methods of longs: index, method, places -/
def ml_lk : List (Nat × Nat × List Nat) := [(82, 0, [326, 327]), (120, 1, [518, 519])]
def mt_ents : List (mm_I × mm_K) := [(mi_X0_init, mk_X0_init), (mi_X0_leadsBack, mk_X0_leadsBack), (mi_X0_reachParents, mk_X0_reachParents), (mi_X0_reach, mk_X0_reach), (mi_X1_init, mk_X1_init), (mi_X1_plan, mk_X1_plan), (mi_X1_gather, mk_X1_gather), (mi_X1_begin, mk_X1_begin), (mi_X1_end, mk_X1_end), (mi_X1_nextChild, mk_X1_nextChild), (mi_X1_judge, mk_X1_judge), (mi_X1_losesParent, mk_X1_losesParent), (mi_X1_isMarked, mk_X1_isMarked), (mi_X1_refusalAt, mk_X1_refusalAt), (mi_X1_newValue, mk_X1_newValue), (mi_X1_carryOut, mk_X1_carryOut), (mi_X1_changeValues, mk_X1_changeValues), (mi_X2_init, mk_X2_init), (mi_X2_remember, mk_X2_remember), (mi_X2_dropOldest, mk_X2_dropOldest), (mi_X2_bringBack, mk_X2_bringBack), (mi_X3_init, mk_X3_init), (mi_X0_init, mk_X0_init), (mi_X0_init, mk_X0_init), (mi_X0_init, mk_X0_init), (mi_X0_init, mk_X0_init), (mi_X0_init, mk_X0_init), (mi_X0_init, mk_X0_init), (mi_X0_init, mk_X0_init), (mi_X0_init, mk_X0_init), (mi_X0_init, mk_X0_init), (mi_X0_init, mk_X0_init), (mi_X0_init, mk_X0_init), (mi_X4_init, mk_X4_init), (mi_X4_copyFrom, mk_X4_copyFrom), (mi_X4_hasTable, mk_X4_hasTable), (mi_X4_hasReference, mk_X4_hasReference), (mi_X4_hasColumn, mk_X4_hasColumn), (mi_X4_hasRow, mk_X4_hasRow), (mi_X4_slotOf, mk_X4_slotOf), (mi_X4_valueAt, mk_X4_valueAt), (mi_X4_fact, mk_X4_fact), (mi_X4_referenceOf, mk_X4_referenceOf), (mi_X4_childAt, mk_X4_childAt), (mi_X4_parentAt, mk_X4_parentAt), (mi_X4_countRows, mk_X4_countRows), (mi_X4_countNulls, mk_X4_countNulls), (mi_X4_countChildren, mk_X4_countChildren), (mi_X4_appendTable, mk_X4_appendTable), (mi_X4_appendReference, mk_X4_appendReference), (mi_X4_checkInsert, mk_X4_checkInsert), (mi_X4_checkUpdate, mk_X4_checkUpdate), (mi_X4_fits, mk_X4_fits), (mi_X4_isMissing, mk_X4_isMissing), (mi_X4_hasNoParent, mk_X4_hasNoParent), (mi_X4_addRow, mk_X4_addRow), (mi_X4_changeValue, mk_X4_changeValue), (mi_X4_removeRow, mk_X4_removeRow), (mi_X4_moveRow, mk_X4_moveRow), (mi_X5_init, mk_X5_init), (mi_X5_addTable, mk_X5_addTable), (mi_X5_addReference, mk_X5_addReference), (mi_X5_setRule, mk_X5_setRule), (mi_X5_insert, mk_X5_insert), (mi_X5_update, mk_X5_update), (mi_X5_delete, mk_X5_delete), (mi_X0_init, mk_X0_init), (mi_X0_init, mk_X0_init), (mi_X0_init, mk_X0_init), (mi_X5_undo, mk_X5_undo), (mi_X5_keep, mk_X5_keep), (mi_X5_restore, mk_X5_restore), (mi_X5_rows, mk_X5_rows), (mi_X5_keyAt, mk_X5_keyAt), (mi_X5_value, mk_X5_value), (mi_X5_children, mk_X5_children), (mi_X5_reference, mk_X5_reference), (mi_X5_deleted, mk_X5_deleted), (mi_X5_total, mk_X5_total), (mi_X5_gathered, mk_X5_gathered), (mi_X5_reason, mk_X5_reason), (mi_X5_blocking, mk_X5_blocking), (mi_X5_wouldChange, mk_X5_wouldChange), (mi_X5_isInRing, mk_X5_isInRing), (mi_X5_deletable, mk_X5_deletable), (mi_X0_init, mk_X0_init), (mi_X5_isRule, mk_X5_isRule), (mi_X5_isKey, mk_X5_isKey), (mi_X5_isValue, mk_X5_isValue), (mi_X5_rowNumber, mk_X5_rowNumber), (mi_X0_init, mk_X0_init), (mi_X0_init, mk_X0_init), (mi_X0_init, mk_X0_init), (mi_X0_init, mk_X0_init), (mi_X0_init, mk_X0_init), (mi_X0_init, mk_X0_init), (mi_X0_init, mk_X0_init), (mi_X0_init, mk_X0_init), (mi_X0_init, mk_X0_init), (mi_X0_init, mk_X0_init), (mi_X0_init, mk_X0_init), (mi_X0_init, mk_X0_init), (mi_X0_init, mk_X0_init), (mi_X0_init, mk_X0_init), (mi_X0_init, mk_X0_init), (mi_X0_init, mk_X0_init), (mi_X0_init, mk_X0_init), (mi_X0_init, mk_X0_init), (mi_X0_init, mk_X0_init), (mi_X0_init, mk_X0_init), (mi_X0_init, mk_X0_init), (mi_X0_init, mk_X0_init), (mi_X0_init, mk_X0_init), (mi_X0_init, mk_X0_init), (mi_X0_init, mk_X0_init), (mi_X0_init, mk_X0_init), (mi_X0_init, mk_X0_init), (mi_X0_init, mk_X0_init), (mi_X0_init, mk_X0_init), (mi_X0_init, mk_X0_init), (mi_X0_init, mk_X0_init), (mi_X0_init, mk_X0_init), (mi_X0_init, mk_X0_init), (mi_X0_init, mk_X0_init), (mi_X0_init, mk_X0_init), (mi_X0_init, mk_X0_init), (mi_X0_init, mk_X0_init), (mi_X0_init, mk_X0_init), (mi_X0_init, mk_X0_init), (mi_X0_init, mk_X0_init), (mi_X0_init, mk_X0_init), (mi_X0_init, mk_X0_init), (mi_X0_init, mk_X0_init), (mi_X0_init, mk_X0_init), (mi_X0_init, mk_X0_init), (mi_X0_init, mk_X0_init), (mi_X0_init, mk_X0_init), (mi_X0_init, mk_X0_init), (mi_X0_init, mk_X0_init), (mi_X0_init, mk_X0_init), (mi_X0_init, mk_X0_init), (mi_X0_init, mk_X0_init), (mi_X0_init, mk_X0_init), (mi_X0_init, mk_X0_init), (mi_X0_init, mk_X0_init), (mi_X0_init, mk_X0_init), (mi_X0_init, mk_X0_init), (mi_X0_init, mk_X0_init), (mi_X0_init, mk_X0_init), (mi_X0_init, mk_X0_init), (mi_X0_init, mk_X0_init), (mi_X0_init, mk_X0_init), (mi_X0_init, mk_X0_init), (mi_J7_fill_53178, mk_J7_fill_53178), (mi_L_cell, mk_L_cell), (mi_L_up, mk_L_up), (mi_L_act, mk_L_act), (mi_L_columns, mk_L_columns), (mi_L_isRow, mk_L_isRow), (mi_L_holds, mk_L_holds), (mi_L_isRing, mk_L_isRing)]
def mt_fl : List mm_FL := [[(9, 0, 0, 2, true, 198), (15, 0, 1, 2, true, 199), (18, 0, 2, 0, false, 200), (38, 4, 3, 2, true, 47)],
  [(9, 1, 0, 2, true, 159), (15, 1, 1, 0, false, 161), (19, 1, 2, 0, false, 163), (22, 1, 3, 0, false, 165), (25, 1, 4, 0, false, 167), (28, 1, 5, 2, true, 169), (31, 1, 6, 2, true, 170), (34, 1, 7, 2, true, 171), (37, 1, 8, 0, false, 172), (74, 4, 1, 0, false, 43), (108, 4, 8, 2, true, 56), (117, 4, 9, 0, false, 59), (120, 4, 11, 0, false, 64), (123, 4, 12, 0, false, 67)],
  [(11, 2, 0, 2, true, 106), (17, 2, 1, 0, false, 107)],
  [(9, 3, 0, 2, true, 120), (15, 3, 1, 0, false, 121), (19, 3, 2, 0, false, 123), (22, 3, 3, 0, false, 124), (25, 3, 4, 0, false, 125), (28, 3, 5, 0, false, 126), (31, 3, 6, 0, false, 127), (34, 3, 7, 0, false, 128), (37, 3, 8, 0, false, 129), (40, 3, 9, 0, false, 130)],
  [(9, 4, 0, 0, false, 39), (15, 4, 1, 0, false, 41), (18, 4, 2, 2, true, 44), (22, 4, 3, 2, true, 46), (25, 4, 4, 2, true, 49), (28, 4, 5, 2, true, 50), (31, 4, 6, 2, true, 52), (34, 4, 7, 2, true, 54), (37, 4, 8, 2, true, 55), (40, 4, 9, 0, false, 58), (43, 4, 10, 0, false, 61), (46, 4, 11, 0, false, 63), (49, 4, 12, 0, false, 66)],
  [(12, 5, 0, 2, true, 208), (16, 5, 1, 2, true, 209), (19, 5, 2, 2, true, 210), (22, 5, 3, 1, false, 211), (29, 5, 4, 2, true, 212), (36, 5, 5, 2, true, 213), (43, 5, 6, 2, true, 214), (50, 5, 7, 2, true, 215), (54, 4, 0, 0, false, 40), (76, 4, 1, 0, false, 42), (79, 4, 3, 2, true, 48), (83, 4, 2, 2, true, 45), (97, 4, 5, 2, true, 51), (125, 3, 1, 0, false, 122), (154, 4, 6, 2, true, 53), (173, 4, 9, 0, false, 60), (176, 4, 8, 2, true, 57), (182, 4, 10, 0, false, 62), (185, 4, 11, 0, false, 65), (188, 4, 12, 0, false, 68), (191, 2, 1, 0, false, 108), (194, 1, 1, 0, false, 162), (195, 1, 0, 2, true, 160), (198, 1, 2, 0, false, 164), (201, 1, 3, 0, false, 166), (204, 1, 4, 0, false, 168)],
  [],
  [],
  []]
def mt_ml : List mm_ML := [[(3, 4, 999, [197, 31, 32]), (22, 2, 153, [549, 421]), (28, 0, 2, [550, 552, 14]), (32, 0, 39, [554, 344, 345]), (41, 0, 40, [555, 315, 316]), (44, 0, 42, [556, 389, 390]), (47, 0, 41, [557, 311, 312]), (50, 3, 89, [414]), (53, 0, 3, [559, 561, 15])],
  [(3, 4, 999, [158, 31, 32]), (40, 0, 39, [412, 344, 345]), (46, 3, 89, [414]), (49, 0, 6, [416, 418, 3]), (53, 0, 10, [449, 451, 8]), (57, 2, 153, [420, 421]), (63, 0, 7, [423, 425, 4]), (67, 0, 9, [427, 429, 5]), (71, 0, 8, [445, 447, 7]), (77, 0, 41, [431, 311, 312]), (80, 0, 44, [432, 433, 434]), (83, 0, 43, [437, 438, 439]), (86, 0, 12, [441, 443, 6]), (90, 0, 11, [453, 455, 9]), (94, 0, 13, [457, 459, 10]), (98, 2, 14, [461, 462]), (102, 0, 16, [468, 470, 11]), (105, 0, 57, [473, 474, 475]), (111, 5, 999, [481, 251, 250, 23]), (126, 0, 56, [472, 401, 402])],
  [(3, 4, 999, [102, 31, 32]), (21, 1, 33, [105, 36]), (22, 0, 19, [241, 243, 0]), (25, 0, 34, [245, 246, 247])],
  [(3, 4, 999, [119, 31, 32])],
  [(3, 4, 999, [38, 31, 32]), (52, 5, 999, [249, 251, 250, 23]), (58, 0, 35, [347, 261, 262]), (62, 0, 39, [381, 344, 345]), (66, 0, 41, [310, 311, 312]), (69, 3, 89, [414]), (72, 0, 40, [314, 315, 316]), (75, 0, 47, [306, 307, 308]), (78, 3, 87, [271]), (81, 0, 52, [494, 496, 13]), (85, 0, 38, [396, 397, 398]), (89, 0, 53, [384, 386, 1]), (92, 0, 54, [392, 394, 2]), (96, 0, 37, [382, 349, 350]), (99, 3, 88, [268]), (102, 0, 42, [388, 389, 390]), (105, 0, 58, [477, 479, 12])],
  [(3, 4, 999, [30, 31, 32]), (11, 1, 33, [35, 36]), (28, 1, 17, [99, 100]), (35, 1, 21, [116, 117]), (42, 1, 4, [155, 156]), (49, 1, 0, [194, 195]), (58, 0, 18, [237, 238, 239]), (62, 0, 48, [252, 253, 254]), (66, 0, 35, [260, 261, 262]), (70, 2, 86, [264, 265]), (73, 2, 88, [267, 268]), (86, 0, 49, [273, 274, 275]), (90, 0, 36, [357, 358, 359]), (93, 0, 41, [361, 311, 312]), (100, 0, 50, [489, 490, 491]), (104, 0, 55, [498, 499, 500]), (107, 0, 51, [377, 378, 379]), (110, 0, 56, [400, 401, 402]), (113, 0, 5, [408, 409, 410]), (117, 0, 15, [464, 465, 466]), (131, 0, 34, [289, 246, 247]), (148, 0, 20, [281, 282, 283]), (151, 0, 45, [290, 291, 292]), (157, 0, 39, [343, 344, 345]), (160, 0, 37, [348, 349, 350]), (164, 0, 40, [352, 315, 316]), (167, 0, 38, [516, 397, 398]), (170, 0, 47, [517, 307, 308]), (179, 0, 46, [302, 303, 304]), (207, 2, 89, [544, 414]), (210, 0, 1, [545, 546, 547]), (232, 2, 87, [270, 271])],
  [],
  [(13, 0, 78, [298, 299, 300]), (19, 0, 72, [331, 332, 333]), (22, 0, 73, [335, 336, 337]), (26, 0, 74, [339, 340, 341]), (30, 0, 76, [353, 354, 355]), (33, 0, 77, [362, 363, 364]), (36, 2, 155, [322, 323]), (41, 0, 60, [233, 234, 235]), (45, 0, 61, [256, 257, 258]), (49, 0, 62, [369, 370, 371]), (52, 0, 64, [373, 374, 375]), (56, 0, 65, [404, 405, 406]), (59, 0, 71, [294, 295, 296]), (62, 2, 157, [482, 483]), (66, 0, 63, [485, 486, 487]), (69, 0, 84, [505, 506, 507]), (72, 2, 158, [509, 510]), (76, 0, 75, [512, 513, 514]), (79, 0, 83, [540, 541, 542]), (86, 0, 80, [521, 522, 523]), (89, 0, 82, [525, 526, 527]), (92, 0, 79, [529, 530, 531]), (95, 0, 81, [533, 534, 535]), (98, 2, 159, [502, 503]), (102, 0, 69, [277, 278, 279]), (105, 2, 160, [537, 538]), (108, 1, 59, [27, 28]), (109, 0, 70, [285, 286, 287]), (112, 2, 154, [318, 319]), (116, 2, 156, [366, 367])],
  []]
def mt_nl : List mm_NL := [[],
  [],
  [(9, 4, [103, 34, 18])],
  [],
  [],
  [(9, 4, [33, 34, 18]), (26, 2, [97, 98, 19]), (33, 3, [114, 115, 20]), (40, 1, [153, 154, 21]), (47, 0, [192, 193, 22])],
  [],
  [(14, 5, [25, 26, 17])],
  []]
def mt : mm_T := (mt_ents, mt_fl, mt_ml, mt_nl)
def mt_nest : List (String × Nat × MethodName × String) := [(RX4, 99, yX5_isValue, RX5), (RX1, 46, yX5_rowNumber, RX5), (RX4, 69, yX5_rowNumber, RX5), (RX4, 78, yX5_isKey, RX5), (RX0, 50, yX5_rowNumber, RX5)]
def mm_R (o : Nat) : String := [RX0, RX1, RX2, RX3, RX4, RX5, RX6, RL, RJ7].getD o ""
/-- does the word stand at that place of the tables -/
def mm_wd (p : Nat) (w : Jvm.Cond) : Bool := decide (lw_tbl[p]? = some w) && goodWord w
theorem mm_wd_in {p : Nat} {w : Jvm.Cond} (h : mm_wd p w = true) : w ∈ lw_u := by
  simp only [mm_wd, Bool.and_eq_true, decide_eq_true_eq] at h
  exact List.mem_filter.mpr ⟨List.mem_of_getElem? h.1, h.2⟩
/-- the callee's room fits the caller's -/
def mm_fit (I J : mm_I) : Bool := Nat.ble (mm_rf J + 1) (mm_rf I) && Nat.ble (8 + (mm_maxL J + 11) + mm_rl J) (mm_rl I)
def mm_fitM (I : mm_I) (i : Nat) : Bool := match mm_fm (mt_ml.getD (mm_own I) []) i with
  | some (4, _, _) => Nat.ble 1 (mm_rf I) && Nat.ble 20 (mm_rl I)
  | some (5, _, _) => Nat.ble 1 (mm_rf I) && Nat.ble 26 (mm_rl I)
  | some (_, m, _) => match mt_ents[m]? with
    | some e => mm_fit I e.1
    | none => false
  | none => false
def mm_fine (I : mm_I) (q : Nat × Instr × Nat × Nat) : Bool := match q.2.1 with
  | .iconst i => q.2.2.1 == 1 && decide (-128 ≤ i) && decide (i < 128)
  | .bipush i => q.2.2.1 == 2 && decide (-128 ≤ i) && decide (i < 128)
  | .sipush i => q.2.2.1 == 3 && decide (-32768 ≤ i) && decide (i < 32768)
  | .iload i => q.2.2.1 == 2 && Nat.blt i (mm_maxL I)
  | .istore i => q.2.2.1 == 2 && Nat.blt i (mm_maxL I)
  | .iload_n i => q.2.2.1 == 1 && Nat.blt i.val (mm_maxL I)
  | .aload_n i => q.2.2.1 == 1 && Nat.blt i.val (mm_maxL I)
  | .istore_n i => q.2.2.1 == 1 && Nat.blt i.val (mm_maxL I)
  | .astore_n i => q.2.2.1 == 1 && Nat.blt i.val (mm_maxL I)
  | .iinc i _ => q.2.2.1 == 3 && Nat.blt i (mm_maxL I)
  | .ifCond _ o => q.2.2.1 == 3 && decide ((q.1 : Int) + o = q.2.2.2)
  | .if_icmp _ o => q.2.2.1 == 3 && decide ((q.1 : Int) + o = q.2.2.2)
  | .goto o => q.2.2.1 == 3 && decide ((q.1 : Int) + o = q.2.2.2)
  | .getfield _ => q.2.2.1 == 3
  | .putfield _ => q.2.2.1 == 3
  | .new _ => q.2.2.1 == 3
  | .ldc _ => q.2.2.1 == 2
  | .anewarray _ => q.2.2.1 == 3
  | .newarray _ => q.2.2.1 == 2
  | .invokevirtual i => q.2.2.1 == 3 && mm_fitM I i
  | .invokespecial i => q.2.2.1 == 3 && mm_fitM I i
  | .invokestatic i => q.2.2.1 == 3 && mm_fitM I i
  | .tableswitch d _ _ os => decide (0 ≤ (q.1 : Int) + d) && os.toList.all (fun o => decide (0 ≤ (q.1 : Int) + o))
  | .lookupswitch d ps => decide (0 ≤ (q.1 : Int) + d) && ps.toList.all (fun o => decide (0 ≤ (q.1 : Int) + o.2)) && (ps.toList.zip (ps.toList.drop 1)).all (fun (a, next) => a.1 < next.1)
  | .ireturn => q.2.2.1 == 1 && decide (mm_ret I ≠ none)
  | .return_ => q.2.2.1 == 1 && decide (mm_ret I = none)
  | _ => q.2.2.1 == 1
/-- a method's row: its code, its word (at the place p; the law's own stands nowhere), its names -/
def mm_okC (I : mm_I) (ch : List (Nat × Instr × Nat × Nat)) : Bool := ch.all fun q => decide (decode (mm_bytes I) q.1 = .ok (q.2.1, q.2.2.1)) && mm_fine I q
def mm_okH (e : mm_I × mm_K) (p : Nat) : Bool :=
  mm_wd p (.code (mm_y e.1) (mm_bytes e.1) (mm_maxL e.1) (mm_ret e.1)) &&
  plainName (mm_y e.1).cls && decide ((mm_y e.1).cls = mm_R (mm_own e.1)) && decide ((mm_y e.1).cls ≠ "java/lang/invoke/MethodHandle" ∧ (mm_y e.1).cls ≠ "java/lang/invoke/VarHandle") &&
  decide (mm_ctor e.1 = true → (mm_y e.1).name = "<init>") && decide (mm_ret e.1 = (if mm_bool e.1 = true then some .boolean else mm_ret e.1)) && decide (mm_ret e.1 = none ∨ mm_ret e.1 = some .int ∨ (mm_ret e.1 = some .boolean ∧ mm_bool e.1 = true)) &&
  Nat.ble (mm_nargs e.1) (mm_maxL e.1)
def mm_okE (e : mm_I × mm_K) (p : Nat) : Bool := e.2.all (mm_okC e.1) && mm_okH e p
def mm_npar (y : MethodName) : Option Nat := (parseMethodDescriptor y.desc).map fun d => d.parameters.length
def mm_okFL : Bool := (List.range 9).all fun o => (mt_fl.getD o []).all fun q => match classes[q.2.1]? with
  | some (C, T, N) => Nat.blt q.2.2.1 N && mm_wd q.2.2.2.2.2 (.fieldLink (mm_R o) q.1 (T q.2.2.1).1 (T q.2.2.1).2.1 (T q.2.2.1).2.2.1) && decide ((T q.2.2.1).2.2.2 = q.2.2.2.2.1) && decide ((T q.2.2.1).1 = C) &&
    decide ((T q.2.2.1).2.2.1 = "I" ∧ q.2.2.2.1 = 0 ∨ (T q.2.2.1).2.2.1 = "Z" ∧ q.2.2.2.1 = 1 ∨ ((T q.2.2.1).2.2.1 ≠ "I" ∧ (T q.2.2.1).2.2.1 ≠ "Z") ∧ q.2.2.2.1 = 2)
  | none => false
def mm_okML1 (o : Nat) (q : Nat × Nat × Nat × List Nat) : Bool := match q.2.1, q.2.2.2 with
  | 4, [p0, p1, p2] => mm_wd p0 (.methodLink (mm_R o) q.1 Jvm.Lib.objectInit) && mm_wd p1 (.instanceMethod Jvm.Lib.objectInit) && mm_wd p2 (.code Jvm.Lib.objectInit ⟨#[0xb1]⟩ 1 none)
  | 5, [p0, p1, p2, p3] => mm_wd p0 (.methodLink (mm_R o) q.1 arraycopyName) && mm_wd p1 (.native arraycopyName) && mm_wd p2 (.static arraycopyName) && mm_wd p3 (.initialized "java/lang/System")
  | kd, ps => match mt_ents[q.2.2.1]? with
    | some e => (match kd, ps with
      | 0, [p0, p1, p2] => mm_wd p0 (.methodLink (mm_R o) q.1 (mm_y e.1)) && mm_wd p1 (.instanceMethod (mm_y e.1)) && mm_wd p2 (.selects (mm_y e.1).cls (mm_y e.1) (mm_y e.1)) && decide (mm_npar (mm_y e.1) = some (mm_nargs e.1 - 1)) && Nat.blt 0 (mm_nargs e.1) && Nat.blt (mm_own e.1) 7
      | 1, [p0, p1] => mm_wd p0 (.methodLink (mm_R o) q.1 (mm_y e.1)) && mm_wd p1 (.instanceMethod (mm_y e.1)) && decide (mm_npar (mm_y e.1) = some 0) && decide (mm_ret e.1 = none) && decide ((mm_y e.1).name = "<init>")
      | 2, [p0, p1] => mm_wd p0 (.methodLink (mm_R o) q.1 (mm_y e.1)) && mm_wd p1 (.static (mm_y e.1)) && decide (mm_npar (mm_y e.1) = some (mm_nargs e.1))
      | 3, [p0] => decide ((mm_R o, q.1, mm_y e.1, RX5) ∈ mt_nest) && mm_wd p0 (.static (mm_y e.1)) && decide (mm_npar (mm_y e.1) = some (mm_nargs e.1))
      | _, _ => false)
    | none => false
def mm_okML : Bool := (List.range 9).all fun o => (mt_ml.getD o []).all fun q => mm_okML1 o q
def mm_okNL : Bool := (List.range 9).all fun o => (mt_nl.getD o []).all fun q => match classes[q.2.1]?, q.2.2 with
  | some (C, T, N), [p0, p1, p2] => mm_wd p0 (.classLink (mm_R o) q.1 C) && mm_wd p1 (.instantiable C N) && mm_wd p2 (.initialized C)
  | _, _ => false

/-- the methods of longs: their rows, their calls of each other, their words -/
def ml_fl : List (Nat × Nat × List Nat) → Nat → Option (Nat × List Nat)
  | [], _ => none
  | q :: r, i => bif q.1 == i then some q.2 else ml_fl r i
def ml_fine (I : mm_I) (q : Nat × Instr × Nat × Nat) : Bool := match q.2.1 with
  | .invokestatic i => (match ml_fl ml_lk i with
    | some (k, _) => q.2.2.1 == 3 && (match ml_ents[k]? with
      | some e => mm_fit I e.1
      | none => false)
    | none => mm_fine I q)
  | .ldc2_w _ => q.2.2.1 == 3
  | .lload i => q.2.2.1 == 2 && Nat.blt (i + 1) (mm_maxL I)
  | .lstore i => q.2.2.1 == 2 && Nat.blt (i + 1) (mm_maxL I)
  | .lload_n i => q.2.2.1 == 1 && Nat.blt (i.val + 1) (mm_maxL I)
  | .lstore_n i => q.2.2.1 == 1 && Nat.blt (i.val + 1) (mm_maxL I)
  | _ => mm_fine I q
def ml_okC (I : mm_I) (ch : List (Nat × Instr × Nat × Nat)) : Bool := ch.all fun q => decide (decode (mm_bytes I) q.1 = .ok (q.2.1, q.2.2.1)) && ml_fine I q
def ml_okB (e : mm_I × mm_K) : Bool := e.2.all (ml_okC e.1)
def ml_okH (e : mm_I × mm_K) (p : Nat) : Bool :=
  mm_wd p (.code (mm_y e.1) (mm_bytes e.1) (mm_maxL e.1) (mm_ret e.1)) &&
  plainName (mm_y e.1).cls && decide ((mm_y e.1).cls = mm_R (mm_own e.1)) && decide ((mm_y e.1).cls ≠ "java/lang/invoke/MethodHandle" ∧ (mm_y e.1).cls ≠ "java/lang/invoke/VarHandle") &&
  decide (mm_ctor e.1 = false) && decide ((mm_ret e.1 = some .long ∧ mm_bool e.1 = false) ∨ (mm_ret e.1 = some .boolean ∧ mm_bool e.1 = true)) &&
  Nat.ble (mm_nargs e.1) (mm_maxL e.1)
def ml_okE (e : mm_I × mm_K) (p : Nat) : Bool := ml_okB e && ml_okH e p
def ml_okLK : Bool := ml_lk.all fun q => match q.2.2, ml_ents[q.2.1]? with
  | [p0, p1], some e => mm_wd p0 (.methodLink RL q.1 (mm_y e.1)) && mm_wd p1 (.static (mm_y e.1)) && decide (mm_npar (mm_y e.1) = some (mm_nargs e.1)) && Nat.blt q.2.1 2
  | _, _ => false
end
section
set_option maxRecDepth 100000 in
theorem ml_okM : ml_okLK = true := by decide +kernel
set_option maxRecDepth 100000 in
theorem mt_okF : mm_okFL = true := by decide +kernel
set_option maxRecDepth 100000 in
theorem mt_okM : mm_okML = true := by decide +kernel
set_option maxRecDepth 100000 in
theorem mt_okN : mm_okNL = true := by decide +kernel
end
section
-- THE WORLD of the small machine in the machine's heap: object k lies at base + k; ints by Int32.ofInt
def mm_phi (base b : Nat) : mm_V → Value
  | .inl z => .int (Int32.ofInt z)
  | .inr none => .ref b
  | .inr (some k) => .ref (base + k)
theorem mm_phi_cat (base b : Nat) (v : mm_V) : (mm_phi base b v).category = 1 := by
  rcases v with z | _ | k <;> rfl
def mm_inr : mm_V → Prop
  | .inl z => -2147483648 ≤ z ∧ z < 2147483648
  | .inr _ => True
theorem mm_w_of (z : Int) : Int32.ofInt (mm_w z) = Int32.ofInt z := Int32.ofInt_toInt _
theorem mm_w_in (z : Int) : mm_inr (.inl (mm_w z)) := by
  have h1 := Int32.le_toInt (Int32.ofInt z)
  have h2 := Int32.toInt_lt (Int32.ofInt z)
  exact ⟨by show _ ≤ (Int32.ofInt z).toInt; omega, by show (Int32.ofInt z).toInt < _; omega⟩
theorem mm_toInt {z : Int} (h : mm_inr (.inl z)) : (Int32.ofInt z).toInt = z := by
  obtain ⟨h1, h2⟩ := h
  exact Int32.toInt_ofInt_of_le (by omega) (by omega)
theorem mm_w_id {z : Int} (h1 : -2147483648 ≤ z) (h2 : z < 2147483648) : mm_w z = z := mm_toInt ⟨h1, h2⟩
theorem mm_lt {x y : Int} (hx : mm_inr (.inl x)) (hy : mm_inr (.inl y)) : Int32.ofInt x < Int32.ofInt y ↔ x < y := by
  rw [Int32.lt_iff_toInt_lt, mm_toInt hx, mm_toInt hy]
theorem mm_le {x y : Int} (hx : mm_inr (.inl x)) (hy : mm_inr (.inl y)) : Int32.ofInt x ≤ Int32.ofInt y ↔ x ≤ y := by
  rw [Int32.le_iff_toInt_le, mm_toInt hx, mm_toInt hy]
theorem mm_eq {x y : Int} (hx : mm_inr (.inl x)) (hy : mm_inr (.inl y)) : Int32.ofInt x = Int32.ofInt y ↔ x = y := by
  rw [← Int32.toInt_inj, mm_toInt hx, mm_toInt hy]
theorem mm_in0 : mm_inr (.inl 0) := ⟨by decide, by decide⟩
theorem mm_nat {z : Int} (h : mm_inr (.inl z)) : (Int32.ofInt z).toNatClampNeg = z.toNat := by
  show (Int32.ofInt z).toInt.toNat = z.toNat
  rw [mm_toInt h]
theorem mm_vin {i : Int} {n : Nat} (h : mm_inr (.inl i)) (h0 : 0 ≤ i) (h1 : i < n) : vp_in (Int32.ofInt i) n := by
  intro q
  rcases q with q | q
  · have := (mm_lt h mm_in0).mp q
    omega
  · rw [mm_nat h] at q
    omega
theorem mm_tdiv_in {x y : Int} (hx : mm_inr (.inl x)) (hy : 0 < y) : mm_inr (.inl (x.tdiv y)) := by
  obtain ⟨h1, h2⟩ := hx
  rcases Int.lt_or_le x 0 with h | h
  · have e : x.tdiv y = -((-x).tdiv y) := by rw [Int.neg_tdiv, Int.neg_neg]
    have e2 : (-x).tdiv y = (-x) / y := Int.tdiv_eq_ediv_of_nonneg (by omega)
    have h3 : 0 ≤ (-x) / y := Int.ediv_nonneg (by omega) (by omega)
    have h4 : (-x) / y ≤ -x := Int.ediv_le_self y (by omega)
    exact ⟨by rw [e, e2]; omega, by rw [e, e2]; omega⟩
  · have e2 : x.tdiv y = x / y := Int.tdiv_eq_ediv_of_nonneg h
    have h3 : 0 ≤ x / y := Int.ediv_nonneg h (by omega)
    have h4 : x / y ≤ x := Int.ediv_le_self y h
    exact ⟨by rw [e2]; omega, by rw [e2]; omega⟩
theorem mm_tdiv {x y : Int} (hx : mm_inr (.inl x)) (hy : mm_inr (.inl y)) (h0 : 0 < y) : Int32.ofInt x / Int32.ofInt y = Int32.ofInt (x.tdiv y) := by
  rw [← Int32.toInt_inj, Int32.toInt_div, mm_toInt hx, mm_toInt hy, mm_toInt (mm_tdiv_in hx h0)]
  obtain ⟨h1, h2⟩ := mm_tdiv_in hx h0
  exact Int.bmod_eq_of_le (by omega) (by omega)
theorem mm_tmod_in {x y : Int} (hx : mm_inr (.inl x)) (hy : mm_inr (.inl y)) (h0 : 0 < y) : mm_inr (.inl (x.tmod y)) := by
  have h := tmod_bounds (a := x) h0
  obtain ⟨h1, h2⟩ := hy
  exact ⟨by omega, by omega⟩
theorem mm_tmod {x y : Int} (hx : mm_inr (.inl x)) (hy : mm_inr (.inl y)) (h0 : 0 < y) : Int32.ofInt x - Int32.ofInt x / Int32.ofInt y * Int32.ofInt y = Int32.ofInt (x.tmod y) := by
  rw [mm_tdiv hx hy h0, ← Int32.ofInt_mul, ← Int32.ofInt_sub, Int.tmod_def, Int.mul_comm]
theorem mm_and_in (x y : Int) : mm_inr (.inl (Int32.ofInt x &&& Int32.ofInt y).toInt) := by
  have h1 := Int32.le_toInt (Int32.ofInt x &&& Int32.ofInt y)
  have h2 := Int32.toInt_lt (Int32.ofInt x &&& Int32.ofInt y)
  exact ⟨by omega, by omega⟩
theorem mm_i2c {x : Int} (hx : mm_inr (.inl x)) : ((Int32.ofInt x).toUInt32 % 65536).toInt32 = Int32.ofInt (x % 65536) := by
  have h1 : 0 ≤ x % 65536 := Int.emod_nonneg _ (by decide)
  have h2 : x % 65536 < 65536 := Int.emod_lt_of_pos _ (by decide)
  rw [lg_i2c_nf, ← Int32.toInt_inj, lg_i2c_toInt, mm_toInt hx, mm_toInt ⟨by omega, by omega⟩]
  rfl
theorem mm_i8 {n : Int} (h1 : -128 ≤ n) (h2 : n < 128) : (Int8.ofInt n).toInt32 = Int32.ofInt n := by
  rw [← Int32.toInt_inj, Int8.toInt_toInt32, mm_toInt ⟨by omega, by omega⟩]
  exact Int8.toInt_ofInt_of_le (by omega) (by omega)
theorem mm_i16 {n : Int} (h1 : -32768 ≤ n) (h2 : n < 32768) : (Int16.ofInt n).toInt32 = Int32.ofInt n := by
  rw [← Int32.toInt_inj, Int16.toInt_toInt32, mm_toInt ⟨by omega, by omega⟩]
  exact Int16.toInt_ofInt_of_le (by omega) (by omega)
-- locals
def mm_prs (base b : Nat) (L : mm_L) : List (Nat × Value) := (List.range L.length).filterMap fun i => (mm_ld L i).map fun v => (i, mm_phi base b v)
theorem mm_ld_lt {L : mm_L} {i : Nat} {v : mm_V} (h : mm_ld L i = some v) : i < L.length := by
  unfold mm_ld at h
  rcases Nat.lt_or_ge i L.length with q | q
  · exact q
  · rw [List.getElem?_eq_none q] at h
    cases h
theorem mm_prs_mem {base b : Nat} {L : mm_L} {q : Nat × Value} : q ∈ mm_prs base b L ↔ ∃ v, mm_ld L q.1 = some v ∧ q.2 = mm_phi base b v := by
  unfold mm_prs
  rw [List.mem_filterMap]
  constructor
  · rintro ⟨i, -, h⟩
    cases hv : mm_ld L i with
    | none => rw [hv] at h; cases h
    | some v => rw [hv] at h; cases h; exact ⟨v, hv, rfl⟩
  · rintro ⟨v, h1, h2⟩
    exact ⟨q.1, List.mem_range.mpr (mm_ld_lt h1), by rw [h1, Option.map_some, ← h2]⟩
theorem mm_ld_set {L : mm_L} {i j : Nat} {v w : mm_V} (h : mm_ld (L.set i (some v)) j = some w) : (j = i ∧ w = v) ∨ (j ≠ i ∧ mm_ld L j = some w) := by
  unfold mm_ld at h
  rw [List.getElem?_set] at h
  by_cases hij : i = j
  · rw [if_pos hij] at h
    by_cases hl : i < L.length
    · rw [if_pos hl] at h
      cases h
      exact Or.inl ⟨hij.symm, rfl⟩
    · rw [if_neg hl] at h
      cases h
  · rw [if_neg hij] at h
    exact Or.inr ⟨fun q => hij q.symm, h⟩
/-- which of some further locals an instruction leaves -/
def mm_exf (i : Nat) (ex : List (Nat × Value)) : List (Nat × Value) := ex.filter (fun q => !(q.1 == i) && !(q.1 + 1 == i && q.2.category == 2))
def mm_exi (ins : Instr) (ex : List (Nat × Value)) : List (Nat × Value) := match ins with
  | .istore i => mm_exf i ex
  | .istore_n i => mm_exf i.val ex
  | .astore_n i => mm_exf i.val ex
  | .iinc i _ => mm_exf i ex
  | _ => ex
theorem mm_lv_set {base b nL i : Nat} {L : mm_L} {v : mm_V} {ex : List (Nat × Value)} {ls : Array Slot} (h : lv_has ls nL ((i, mm_phi base b v) :: (ex ++ mm_prs base b L).filter (fun q => !(q.1 == i) && !(q.1 + 1 == i && q.2.category == 2)))) : lv_has ls nL (mm_exf i ex ++ mm_prs base b (L.set i (some v))) := by
  refine ⟨h.1, h.2.1, fun q hq => h.2.2 q ?_⟩
  rw [List.filter_append]
  rcases List.mem_append.mp hq with hq | hq
  · exact List.mem_cons_of_mem _ (List.mem_append_left _ hq)
  obtain ⟨w, h1, h2⟩ := mm_prs_mem.mp hq
  rcases mm_ld_set h1 with ⟨e1, e2⟩ | ⟨e1, e2⟩
  · subst e2
    obtain ⟨q1, q2⟩ := q
    dsimp only at e1 h2
    rw [e1, h2]
    exact List.mem_cons_self
  · refine List.mem_cons_of_mem _ (List.mem_append_right _ (List.mem_filter.mpr ⟨mm_prs_mem.mpr ⟨w, e2, h2⟩, ?_⟩))
    rw [h2, mm_phi_cat]
    simp [e1]
theorem mm_lv_at {base b nL i : Nat} {L : mm_L} {v : mm_V} {ex : List (Nat × Value)} {ls : Array Slot} (h : lv_has ls nL (ex ++ mm_prs base b L)) (hv : mm_ld L i = some v) : ls[i]? = some (.val (mm_phi base b v)) :=
  h.2.2 (i, mm_phi base b v) (List.mem_append_right _ (mm_prs_mem.mpr ⟨v, hv, rfl⟩))
theorem mm_lv_idx {base b i : Nat} {L : mm_L} {v : mm_V} {ex : List (Nat × Value)} (hv : mm_ld L i = some v) : ∃ k : Nat, (ex ++ mm_prs base b L)[k]? = some (i, mm_phi base b v) :=
  List.getElem?_of_mem (List.mem_append_right _ (mm_prs_mem.mpr ⟨v, hv, rfl⟩))
-- the cells
def mm_isref (ci k : Nat) : Bool := match classes[ci]? with
  | some q => !(decide ((q.2.1 k).2.2.1 = "I") || decide ((q.2.1 k).2.2.1 = "Z"))
  | none => false
def mm_fv (base : Nat) (S : mm_S) (ci a k : Nat) : Value := if mm_isref ci k = true then va_rf ((S.2.2 a k).map (base + ·)) else .int (Int32.ofInt (S.2.1 a k))
def mm_ent (cA : Nat → ClassId) (base : Nat) (S : mm_S) (a : Nat) (sh : Nat × Nat) : va_E :=
  if sh.1 < 10 then .inr (sh.1, (List.range sh.2).map (mm_fv base S sh.1 a))
  else if sh.1 = 13 then .inl (cA 13, sh.2, .inr (.inr (.inr (.inr (fun j => (S.2.2 a j).map (base + ·))))))
  else .inl (cA sh.1, sh.2, .inl (fun j => Int32.ofInt (S.2.1 a j)))
def mm_wld (cA : Nat → ClassId) (base : Nat) (S : mm_S) : va_W := S.1.mapIdx fun a sh => (base + a, mm_ent cA base S a sh)
theorem mm_wld_at {cA : Nat → ClassId} {base : Nat} {S : mm_S} {a : Nat} {sh : Nat × Nat} (h : S.1[a]? = some sh) : (mm_wld cA base S)[a]? = some (base + a, mm_ent cA base S a sh) := by
  simp [mm_wld, List.getElem?_mapIdx, h]
theorem mm_wld_inv {cA : Nat → ClassId} {base : Nat} {S : mm_S} {a : Nat} {q : Nat × va_E} (h : (mm_wld cA base S)[a]? = some q) : ∃ sh, S.1[a]? = some sh ∧ q = (base + a, mm_ent cA base S a sh) := by
  simp only [mm_wld, List.getElem?_mapIdx, Option.map_eq_some_iff] at h
  obtain ⟨sh, h1, h2⟩ := h
  exact ⟨sh, h1, h2.symm⟩
theorem mm_wld_D {cA : Nat → ClassId} {base : Nat} {S : mm_S} : va_D (fun q : Nat => base ≤ q) (mm_wld cA base S) := by
  refine ⟨fun i j x y hi hj hxy => ?_, fun k q hk => ?_⟩
  · obtain ⟨_, -, rfl⟩ := mm_wld_inv hi
    obtain ⟨_, -, rfl⟩ := mm_wld_inv hj
    have : base + i = base + j := hxy
    omega
  · obtain ⟨_, -, rfl⟩ := mm_wld_inv hk
    exact Nat.le_add_right _ _
theorem mm_wld_set {cA : Nat → ClassId} {base : Nat} {S S' : mm_S} {a : Nat} {sh : Nat × Nat} {e : va_E} (h : S.1[a]? = some sh) (hs : S'.1 = S.1) (he : mm_ent cA base S' a sh = e) (ho : ∀ (k : Nat) (sh' : Nat × Nat), k ≠ a → mm_ent cA base S' k sh' = mm_ent cA base S k sh') : (mm_wld cA base S).set a (base + a, e) = mm_wld cA base S' := by
  apply List.ext_getElem?
  intro i
  rw [List.getElem?_set]
  by_cases hi : a = i
  · subst hi
    rw [if_pos rfl, if_pos (by rw [mm_wld, List.length_mapIdx]; exact (List.getElem?_eq_some_iff.mp h).1), mm_wld_at (by rw [hs]; exact h), he]
  · rw [if_neg hi]
    simp only [mm_wld, List.getElem?_mapIdx, hs]
    cases S.1[i]? with
    | none => rfl
    | some sh' => simp only [Option.map_some, ho i sh' (fun q => hi q.symm)]
theorem mm_wld_push {cA : Nat → ClassId} {base : Nat} {S : mm_S} {sh : Nat × Nat} : mm_wld cA base (S.1 ++ [sh], S.2.1, S.2.2) = mm_wld cA base S ++ [(base + S.1.length, mm_ent cA base S S.1.length sh)] := by
  unfold mm_wld
  rw [List.mapIdx_append]
  simp
  exact ⟨rfl, rfl⟩
/-- shapes are as the classes say; ints are in range; what isn't made yet is blank -/
def mm_sh (S : mm_S) : Prop := ∀ (a kd n : Nat), S.1[a]? = some (kd, n) → n ≤ 10000 ∧ (kd < 10 → ∃ (C : String) (T : u_T), classes[kd]? = some (C, T, n)) ∧ (10 ≤ kd → kd ≤ 13)
def mm_rg (S : mm_S) : Prop := ∀ a k : Nat, mm_inr (.inl (S.2.1 a k))
def mm_zz (S : mm_S) : Prop := ∀ a : Nat, S.1.length ≤ a → ∀ k, S.2.1 a k = 0 ∧ S.2.2 a k = none
def mm_Rel (D : va_G) (cA : Nat → ClassId) (base : Nat) (H00 : Heap) (S : mm_S) (H : Heap) (locs : List Loc) : Prop :=
  va_P D classes (mm_wld cA base S) H ∧ va_S (fun q : Nat => base ≤ q) H00 H locs ∧ mm_sh S ∧ mm_rg S ∧ mm_zz S
def mm_tys (cA : Nat → ClassId) : List (ClassId × FieldType) := [(cA 10, .int), (cA 11, .int), (cA 12, .char), (cA 13, .object RX4)]
/-- what is known of the classes and of the script, at any state of the run -/
def mm_Wd (X : Nat × (Nat → Int)) (D : va_G) (cA : Nat → ClassId) (base b : Nat) (H00 : Heap) (U : State) : Prop :=
  va_K D classes (mm_tys cA) U ∧ va_AO RX4 U ∧ (∀ q ∈ mt_nest, va_Nw (.methodLinkNest q.1 q.2.1 q.2.2.1 q.2.2.2) U) ∧ (∃ xs : Nat → Int32, va_X b X.1 xs U H00 ∧ X.2 = fun j => (xs j).toInt) ∧ b < base ∧ H00.size = base ∧ X.1 ≤ 10000
theorem mm_Wd.moved {X : Nat × (Nat → Int)} {D : va_G} {cA : Nat → ClassId} {base b : Nat} {H00 : Heap} {u U : State} (hW : u.WarmedH U.vm) (h : mm_Wd X D cA base b H00 u) : mm_Wd X D cA base b H00 U := by
  obtain ⟨h1, h2, h3, ⟨xs, h4, h5⟩, h6⟩ := h
  exact ⟨va_K.moved hW.alike h1, h2.moved hW.alike, fun q hq => (h3 q hq).warmM hW, ⟨xs, h4.moved hW.alike, h5⟩, h6⟩
theorem mm_Wd.same {X : Nat × (Nat → Int)} {D : va_G} {cA : Nat → ClassId} {base b : Nat} {H00 : Heap} {u U : State} (hv : U.vm = u.vm) (h : mm_Wd X D cA base b H00 u) : mm_Wd X D cA base b H00 U := by
  obtain ⟨h1, h2, h3, ⟨xs, h4, h5⟩, h6⟩ := h
  have ha : u.vm.Alike U.vm := by rw [hv]; exact Vm.Alike.refl _
  exact ⟨va_K.moved ha h1, h2.moved ha, fun q hq => (h3 q hq).same rfl hv.symm, ⟨xs, h4.moved ha, h5⟩, h6⟩
end
section
-- EACH STEP of the small machine is one of the machine
/-- what stands still during a call: code, class, words, room, classes and script -/
def mm_Cx (X : Nat × (Nat → Int)) (I : mm_I) (p : Program) (R : Room) (s : State) (m : MethodId) (args : Array Value) (meth : Method) (c : Code) (D : va_G) (cA : Nat → ClassId) (base b : Nat) (H00 : Heap) : Prop :=
  p.tables.exec = Jvm.exec ∧ c.code = mm_bytes I ∧ c.maxLocals = mm_maxL I ∧ s.vm.findClass (mm_R (mm_own I)) = some m.cls ∧ (∀ w ∈ lw_u, w.before args s = true) ∧ meth.locks = false ∧ (mm_ctor I = true → meth.name = "<init>") ∧ (mm_rf I ≤ R.frames ∧ mm_rl I ≤ R.locals ∧ mm_mc I ≤ R.cells ∧ mm_ms I ≤ R.slots) ∧ mm_Wd X D cA base b H00 s
/-- how a frame of the small machine stands in the machine -/
def mm_G (I : mm_I) (s : State) (D : va_G) (cA : Nat → ClassId) (base b : Nat) (H00 : Heap) (ex : List (Nat × Value)) (L : mm_L) (st : List mm_V) (S : mm_S) (cu su : Nat) (ls : Array Slot) (H : Heap) (locs : List Loc) : Prop :=
  (L.length = mm_maxL I ∧ lv_has ls (mm_maxL I) (ex ++ mm_prs base b L)) ∧ (∀ v ∈ st, mm_inr v) ∧ (∀ (i : Nat) (v : mm_V), mm_ld L i = some v → mm_inr v) ∧ mm_Rel D cA base H00 S H locs ∧ base + S.1.length = s.heap.size + cu ∧ cu ≤ mm_mc I ∧ su ≤ mm_ms I
section MMS
variable {p : Program} {l : Launch} {e : Env} {R : Room} {s : State} {m : MethodId} {args : Array Value} {below : List Frame} {meth : Method} {c : Code} {H : Heap} {locs : List Loc} {Q : State → Prop}
variable {X : Nat × (Nat → Int)} {I : mm_I} {D : va_G} {cA : Nat → ClassId} {base b : Nat} {H00 : Heap} {pc len tgt : Nat} {L : mm_L} {st : List mm_V} {S : mm_S} {cu su : Nat} {ls : Array Slot} {C' : mm_C} {ex : List (Nat × Value)} {tl : List Value}
/-- the walk from the next place on -/
def mm_kk (p : Program) (l : Launch) (e : Env) (R : Room) (s : State) (m : MethodId) (args : Array Value) (below : List Frame) (meth : Method) (c : Code) (Q : State → Prop) (I : mm_I) (D : va_G) (cA : Nat → ClassId) (base b : Nat) (H00 : Heap) (ex : List (Nat × Value)) (tl : List Value) (C' : mm_C) : Prop :=
  ∀ (ls' : Array Slot) (H' : Heap) (locs' : List Loc), mm_G I s D cA base b H00 ex C'.2.1 C'.2.2.1 C'.2.2.2.1 C'.2.2.2.2.1 C'.2.2.2.2.2 ls' H' locs' → W p l e R s m args below meth c H' locs' C'.2.2.2.2.1 C'.2.2.2.2.2 Q (F0 m C'.1 ls' (C'.2.2.1.map (mm_phi base b) ++ tl))
theorem W.sizeLe {p : Program} {l : Launch} {e : Env} {R : Room} {s : State} {m : MethodId} {args : Array Value} {below : List Frame} {meth : Method} {c : Code} {H : Heap} {locs : List Loc} {cells slots : Nat} {Q : State → Prop} {g : JFrame} (kk : H.size ≤ s.heap.size + cells → W p l e R s m args below meth c H locs cells slots Q g) : W p l e R s m args below meth c H locs cells slots Q g := by
  intro T hT X
  exact kk (by rw [← hT]; exact X.heapSize) T hT X
theorem mm_all_cons {v : mm_V} {st : List mm_V} (h : mm_inr v) (hs : ∀ w ∈ st, mm_inr w) : ∀ w ∈ v :: st, mm_inr w := List.forall_mem_cons.mpr ⟨h, hs⟩
theorem mm_s_iconst {i : Int} (hx : mm_Cx X I p R s m args meth c D cA base b H00) (hG : mm_G I s D cA base b H00 ex L st S cu su ls H locs) (hd : decode (mm_bytes I) pc = .ok (.iconst i, len)) (hf : mm_fine I (pc, .iconst i, len, tgt) = true) (hs : mm_step mt X I (.iconst i) len tgt (pc, L, st, S, cu, su) = some (.inl C')) (kk : mm_kk p l e R s m args below meth c Q I D cA base b H00 (mm_exi (.iconst i) ex) tl C') : W p l e R s m args below meth c H locs cu su Q (F0 m pc ls (st.map (mm_phi base b) ++ tl)) := by
  simp only [mm_fine, Bool.and_eq_true, beq_iff_eq, decide_eq_true_eq] at hf
  obtain ⟨⟨rfl, h1⟩, h2⟩ := hf
  obtain ⟨hl, hst, hlr, hR, hn, hc, hsu⟩ := hG
  cases (show (some (.inl (pc + 1, L, .inl i :: st, S, cu, su)) : Option mm_O) = some (.inl C') from hs)
  exact lv_iconst hx.1 hx.2.1 hd rfl (kk ls H locs ⟨hl, mm_all_cons ⟨by omega, by omega⟩ hst, hlr, hR, hn, hc, hsu⟩)
theorem mm_s_bipush {i : Int} (hx : mm_Cx X I p R s m args meth c D cA base b H00) (hG : mm_G I s D cA base b H00 ex L st S cu su ls H locs) (hd : decode (mm_bytes I) pc = .ok (.bipush i, len)) (hf : mm_fine I (pc, .bipush i, len, tgt) = true) (hs : mm_step mt X I (.bipush i) len tgt (pc, L, st, S, cu, su) = some (.inl C')) (kk : mm_kk p l e R s m args below meth c Q I D cA base b H00 (mm_exi (.bipush i) ex) tl C') : W p l e R s m args below meth c H locs cu su Q (F0 m pc ls (st.map (mm_phi base b) ++ tl)) := by
  simp only [mm_fine, Bool.and_eq_true, beq_iff_eq, decide_eq_true_eq] at hf
  obtain ⟨⟨rfl, h1⟩, h2⟩ := hf
  obtain ⟨hl, hst, hlr, hR, hn, hc, hsu⟩ := hG
  cases (show (some (.inl (pc + 2, L, .inl i :: st, S, cu, su)) : Option mm_O) = some (.inl C') from hs)
  exact lv_bipush hx.1 hx.2.1 hd (mm_i8 h1 h2) (kk ls H locs ⟨hl, mm_all_cons ⟨by omega, by omega⟩ hst, hlr, hR, hn, hc, hsu⟩)
theorem mm_s_sipush {i : Int} (hx : mm_Cx X I p R s m args meth c D cA base b H00) (hG : mm_G I s D cA base b H00 ex L st S cu su ls H locs) (hd : decode (mm_bytes I) pc = .ok (.sipush i, len)) (hf : mm_fine I (pc, .sipush i, len, tgt) = true) (hs : mm_step mt X I (.sipush i) len tgt (pc, L, st, S, cu, su) = some (.inl C')) (kk : mm_kk p l e R s m args below meth c Q I D cA base b H00 (mm_exi (.sipush i) ex) tl C') : W p l e R s m args below meth c H locs cu su Q (F0 m pc ls (st.map (mm_phi base b) ++ tl)) := by
  simp only [mm_fine, Bool.and_eq_true, beq_iff_eq, decide_eq_true_eq] at hf
  obtain ⟨⟨rfl, h1⟩, h2⟩ := hf
  obtain ⟨hl, hst, hlr, hR, hn, hc, hsu⟩ := hG
  cases (show (some (.inl (pc + 3, L, .inl i :: st, S, cu, su)) : Option mm_O) = some (.inl C') from hs)
  exact lv_sipush hx.1 hx.2.1 hd (mm_i16 h1 h2) (kk ls H locs ⟨hl, mm_all_cons ⟨by omega, by omega⟩ hst, hlr, hR, hn, hc, hsu⟩)
theorem mm_s_iload {i : Nat} (hx : mm_Cx X I p R s m args meth c D cA base b H00) (hG : mm_G I s D cA base b H00 ex L st S cu su ls H locs) (hd : decode (mm_bytes I) pc = .ok (.iload i, len)) (hf : mm_fine I (pc, .iload i, len, tgt) = true) (hs : mm_step mt X I (.iload i) len tgt (pc, L, st, S, cu, su) = some (.inl C')) (kk : mm_kk p l e R s m args below meth c Q I D cA base b H00 (mm_exi (.iload i) ex) tl C') : W p l e R s m args below meth c H locs cu su Q (F0 m pc ls (st.map (mm_phi base b) ++ tl)) := by
  simp only [mm_fine, Bool.and_eq_true, beq_iff_eq, decide_eq_true_eq] at hf
  obtain ⟨rfl, -⟩ := hf
  obtain ⟨hl, hst, hlr, hR, hn, hc, hsu⟩ := hG
  cases hv : mm_ld L i with
  | none => simp only [mm_step, hv] at hs; cases hs
  | some v =>
    have hq := mm_lv_at hl.2 hv
    rcases v with z | a
    · simp only [mm_step, hv, mm_nx, Option.some.injEq, Sum.inl.injEq] at hs; subst hs
      exact lv_iload hx.1 hx.2.1 hd hq (kk ls H locs ⟨hl, mm_all_cons (hlr _ _ hv) hst, hlr, hR, hn, hc, hsu⟩)
    · simp only [mm_step, hv] at hs; cases hs
theorem mm_s_iload_n {i : Fin 4} (hx : mm_Cx X I p R s m args meth c D cA base b H00) (hG : mm_G I s D cA base b H00 ex L st S cu su ls H locs) (hd : decode (mm_bytes I) pc = .ok (.iload_n i, len)) (hf : mm_fine I (pc, .iload_n i, len, tgt) = true) (hs : mm_step mt X I (.iload_n i) len tgt (pc, L, st, S, cu, su) = some (.inl C')) (kk : mm_kk p l e R s m args below meth c Q I D cA base b H00 (mm_exi (.iload_n i) ex) tl C') : W p l e R s m args below meth c H locs cu su Q (F0 m pc ls (st.map (mm_phi base b) ++ tl)) := by
  simp only [mm_fine, Bool.and_eq_true, beq_iff_eq, decide_eq_true_eq] at hf
  obtain ⟨rfl, -⟩ := hf
  obtain ⟨hl, hst, hlr, hR, hn, hc, hsu⟩ := hG
  cases hv : mm_ld L i.val with
  | none => simp only [mm_step, hv] at hs; cases hs
  | some v =>
    have hq := mm_lv_at hl.2 hv
    rcases v with z | a
    · simp only [mm_step, hv, mm_nx, Option.some.injEq, Sum.inl.injEq] at hs; subst hs
      exact lv_iload_n hx.1 hx.2.1 hd rfl hq (kk ls H locs ⟨hl, mm_all_cons (hlr _ _ hv) hst, hlr, hR, hn, hc, hsu⟩)
    · simp only [mm_step, hv] at hs; cases hs
theorem mm_s_aload_n {i : Fin 4} (hx : mm_Cx X I p R s m args meth c D cA base b H00) (hG : mm_G I s D cA base b H00 ex L st S cu su ls H locs) (hd : decode (mm_bytes I) pc = .ok (.aload_n i, len)) (hf : mm_fine I (pc, .aload_n i, len, tgt) = true) (hs : mm_step mt X I (.aload_n i) len tgt (pc, L, st, S, cu, su) = some (.inl C')) (kk : mm_kk p l e R s m args below meth c Q I D cA base b H00 (mm_exi (.aload_n i) ex) tl C') : W p l e R s m args below meth c H locs cu su Q (F0 m pc ls (st.map (mm_phi base b) ++ tl)) := by
  simp only [mm_fine, Bool.and_eq_true, beq_iff_eq, decide_eq_true_eq] at hf
  obtain ⟨rfl, -⟩ := hf
  obtain ⟨hl, hst, hlr, hR, hn, hc, hsu⟩ := hG
  cases hv : mm_ld L i.val with
  | none => simp only [mm_step, hv] at hs; cases hs
  | some v =>
    have hq := mm_lv_at hl.2 hv
    rcases v with z | a
    · simp only [mm_step, hv] at hs; cases hs
    · simp only [mm_step, hv, mm_nx, Option.some.injEq, Sum.inl.injEq] at hs; subst hs
      rcases a with _ | k
      · exact lv_aload_n hx.1 hx.2.1 hd rfl hq (kk ls H locs ⟨hl, mm_all_cons trivial hst, hlr, hR, hn, hc, hsu⟩)
      · exact lv_aload_n hx.1 hx.2.1 hd rfl hq (kk ls H locs ⟨hl, mm_all_cons trivial hst, hlr, hR, hn, hc, hsu⟩)
theorem mm_s_istore {i : Nat} (hx : mm_Cx X I p R s m args meth c D cA base b H00) (hG : mm_G I s D cA base b H00 ex L st S cu su ls H locs) (hd : decode (mm_bytes I) pc = .ok (.istore i, len)) (hf : mm_fine I (pc, .istore i, len, tgt) = true) (hs : mm_step mt X I (.istore i) len tgt (pc, L, st, S, cu, su) = some (.inl C')) (kk : mm_kk p l e R s m args below meth c Q I D cA base b H00 (mm_exi (.istore i) ex) tl C') : W p l e R s m args below meth c H locs cu su Q (F0 m pc ls (st.map (mm_phi base b) ++ tl)) := by
  simp only [mm_fine, Bool.and_eq_true, beq_iff_eq, decide_eq_true_eq] at hf
  obtain ⟨rfl, hi⟩ := hf
  have hi : i < mm_maxL I := Nat.le_of_ble_eq_true hi
  obtain ⟨hl, hst, hlr, hR, hn, hc, hsu⟩ := hG
  rcases st with _ | ⟨z | a, r⟩ <;> try (cases (show (none : Option mm_O) = some (.inl C') from hs); done)
  cases (show (some (.inl (pc + 2, L.set i (some (.inl z)), r, S, cu, su)) : Option mm_O) = some (.inl C') from hs)
  have h0 := List.forall_mem_cons.mp hst
  exact lv_istore hx.1 hx.2.1 hd hl.2 hi rfl (fun ls' hl' => kk ls' H locs ⟨⟨by rw [List.length_set]; exact hl.1, mm_lv_set (v := .inl z) hl'⟩, h0.2, fun j w hw => by
    rcases mm_ld_set hw with ⟨-, e2⟩ | ⟨-, e2⟩
    · rw [e2]; exact h0.1
    · exact hlr _ _ e2, hR, hn, hc, hsu⟩)
theorem mm_s_istore_n {i : Fin 4} (hx : mm_Cx X I p R s m args meth c D cA base b H00) (hG : mm_G I s D cA base b H00 ex L st S cu su ls H locs) (hd : decode (mm_bytes I) pc = .ok (.istore_n i, len)) (hf : mm_fine I (pc, .istore_n i, len, tgt) = true) (hs : mm_step mt X I (.istore_n i) len tgt (pc, L, st, S, cu, su) = some (.inl C')) (kk : mm_kk p l e R s m args below meth c Q I D cA base b H00 (mm_exi (.istore_n i) ex) tl C') : W p l e R s m args below meth c H locs cu su Q (F0 m pc ls (st.map (mm_phi base b) ++ tl)) := by
  simp only [mm_fine, Bool.and_eq_true, beq_iff_eq, decide_eq_true_eq] at hf
  obtain ⟨rfl, hi⟩ := hf
  have hi : i.val < mm_maxL I := Nat.le_of_ble_eq_true hi
  obtain ⟨hl, hst, hlr, hR, hn, hc, hsu⟩ := hG
  rcases st with _ | ⟨z | a, r⟩ <;> try (cases (show (none : Option mm_O) = some (.inl C') from hs); done)
  cases (show (some (.inl (pc + 1, L.set i.val (some (.inl z)), r, S, cu, su)) : Option mm_O) = some (.inl C') from hs)
  have h0 := List.forall_mem_cons.mp hst
  exact lv_istore_n hx.1 hx.2.1 hd rfl hl.2 hi rfl (fun ls' hl' => kk ls' H locs ⟨⟨by rw [List.length_set]; exact hl.1, mm_lv_set (v := .inl z) hl'⟩, h0.2, fun j w hw => by
    rcases mm_ld_set hw with ⟨-, e2⟩ | ⟨-, e2⟩
    · rw [e2]; exact h0.1
    · exact hlr _ _ e2, hR, hn, hc, hsu⟩)
theorem mm_s_astore_n {i : Fin 4} (hx : mm_Cx X I p R s m args meth c D cA base b H00) (hG : mm_G I s D cA base b H00 ex L st S cu su ls H locs) (hd : decode (mm_bytes I) pc = .ok (.astore_n i, len)) (hf : mm_fine I (pc, .astore_n i, len, tgt) = true) (hs : mm_step mt X I (.astore_n i) len tgt (pc, L, st, S, cu, su) = some (.inl C')) (kk : mm_kk p l e R s m args below meth c Q I D cA base b H00 (mm_exi (.astore_n i) ex) tl C') : W p l e R s m args below meth c H locs cu su Q (F0 m pc ls (st.map (mm_phi base b) ++ tl)) := by
  simp only [mm_fine, Bool.and_eq_true, beq_iff_eq, decide_eq_true_eq] at hf
  obtain ⟨rfl, hi⟩ := hf
  have hi : i.val < mm_maxL I := Nat.le_of_ble_eq_true hi
  obtain ⟨hl, hst, hlr, hR, hn, hc, hsu⟩ := hG
  rcases st with _ | ⟨z | _ | a, r⟩ <;> try (cases (show (none : Option mm_O) = some (.inl C') from hs); done)
  cases (show (some (.inl (pc + 1, L.set i.val (some (.inr (some a))), r, S, cu, su)) : Option mm_O) = some (.inl C') from hs)
  have h0 := List.forall_mem_cons.mp hst
  exact lv_astore_n hx.1 hx.2.1 hd rfl hl.2 hi rfl (fun ls' hl' => kk ls' H locs ⟨⟨by rw [List.length_set]; exact hl.1, mm_lv_set (v := .inr (some a)) hl'⟩, h0.2, fun j w hw => by
    rcases mm_ld_set hw with ⟨-, e2⟩ | ⟨-, e2⟩
    · rw [e2]; exact h0.1
    · exact hlr _ _ e2, hR, hn, hc, hsu⟩)
theorem mm_s_iinc {i : Nat} {k : Int} (hx : mm_Cx X I p R s m args meth c D cA base b H00) (hG : mm_G I s D cA base b H00 ex L st S cu su ls H locs) (hd : decode (mm_bytes I) pc = .ok (.iinc i k, len)) (hf : mm_fine I (pc, .iinc i k, len, tgt) = true) (hs : mm_step mt X I (.iinc i k) len tgt (pc, L, st, S, cu, su) = some (.inl C')) (kk : mm_kk p l e R s m args below meth c Q I D cA base b H00 (mm_exi (.iinc i k) ex) tl C') : W p l e R s m args below meth c H locs cu su Q (F0 m pc ls (st.map (mm_phi base b) ++ tl)) := by
  simp only [mm_fine, Bool.and_eq_true, beq_iff_eq, decide_eq_true_eq] at hf
  obtain ⟨rfl, hi⟩ := hf
  have hi : i < mm_maxL I := Nat.le_of_ble_eq_true hi
  obtain ⟨hl, hst, hlr, hR, hn, hc, hsu⟩ := hG
  cases hv : mm_ld L i with
  | none => simp only [mm_step, hv] at hs; cases hs
  | some v =>
    rcases v with z | a
    · simp only [mm_step, hv, mm_nx, Option.some.injEq, Sum.inl.injEq] at hs; subst hs
      obtain ⟨k0, hk0⟩ := mm_lv_idx (base := base) (b := b) (ex := ex) hv
      exact lv_iinc (v := Int32.ofInt (mm_w (z + k))) hx.1 hx.2.1 hd hl.2 hk0 (by rw [mm_w_of, Int32.ofInt_add]) hi rfl (fun ls' hl' => kk ls' H locs ⟨⟨by rw [List.length_set]; exact hl.1, mm_lv_set (v := .inl (mm_w (z + k))) hl'⟩, hst, fun j w hw => by
        rcases mm_ld_set hw with ⟨-, e2⟩ | ⟨-, e2⟩
        · rw [e2]; exact mm_w_in _
        · exact hlr _ _ e2, hR, hn, hc, hsu⟩)
    · simp only [mm_step, hv] at hs; cases hs
theorem mm_s_iadd (hx : mm_Cx X I p R s m args meth c D cA base b H00) (hG : mm_G I s D cA base b H00 ex L st S cu su ls H locs) (hd : decode (mm_bytes I) pc = .ok (.iadd, len)) (hf : mm_fine I (pc, .iadd, len, tgt) = true) (hs : mm_step mt X I (.iadd) len tgt (pc, L, st, S, cu, su) = some (.inl C')) (kk : mm_kk p l e R s m args below meth c Q I D cA base b H00 (mm_exi (.iadd) ex) tl C') : W p l e R s m args below meth c H locs cu su Q (F0 m pc ls (st.map (mm_phi base b) ++ tl)) := by
  obtain rfl : len = 1 := eq_of_beq (show (len == 1) = true from hf)
  obtain ⟨hl, hst, hlr, hR, hn, hc, hsu⟩ := hG
  rcases st with _ | ⟨y | a, _ | ⟨x | a2, r⟩⟩ <;> try (cases (show (none : Option mm_O) = some (.inl C') from hs); done)
  cases (show (some (.inl (pc + 1, L, .inl (mm_w (x + y)) :: r, S, cu, su)) : Option mm_O) = some (.inl C') from hs)
  have h0 := List.forall_mem_cons.mp hst
  have h1 := List.forall_mem_cons.mp h0.2
  have hk := kk ls H locs ⟨hl, mm_all_cons (mm_w_in _) h1.2, hlr, hR, hn, hc, hsu⟩
  refine lv_iadd hx.1 hx.2.1 hd ?_
  have he : Int32.ofInt (mm_w (x + y)) = Int32.ofInt x + Int32.ofInt y := by rw [mm_w_of, Int32.ofInt_add]
  rw [← he]
  exact hk
theorem mm_s_isub (hx : mm_Cx X I p R s m args meth c D cA base b H00) (hG : mm_G I s D cA base b H00 ex L st S cu su ls H locs) (hd : decode (mm_bytes I) pc = .ok (.isub, len)) (hf : mm_fine I (pc, .isub, len, tgt) = true) (hs : mm_step mt X I (.isub) len tgt (pc, L, st, S, cu, su) = some (.inl C')) (kk : mm_kk p l e R s m args below meth c Q I D cA base b H00 (mm_exi (.isub) ex) tl C') : W p l e R s m args below meth c H locs cu su Q (F0 m pc ls (st.map (mm_phi base b) ++ tl)) := by
  obtain rfl : len = 1 := eq_of_beq (show (len == 1) = true from hf)
  obtain ⟨hl, hst, hlr, hR, hn, hc, hsu⟩ := hG
  rcases st with _ | ⟨y | a, _ | ⟨x | a2, r⟩⟩ <;> try (cases (show (none : Option mm_O) = some (.inl C') from hs); done)
  cases (show (some (.inl (pc + 1, L, .inl (mm_w (x - y)) :: r, S, cu, su)) : Option mm_O) = some (.inl C') from hs)
  have h0 := List.forall_mem_cons.mp hst
  have h1 := List.forall_mem_cons.mp h0.2
  have hk := kk ls H locs ⟨hl, mm_all_cons (mm_w_in _) h1.2, hlr, hR, hn, hc, hsu⟩
  refine lv_isub hx.1 hx.2.1 hd ?_
  have he : Int32.ofInt (mm_w (x - y)) = Int32.ofInt x - Int32.ofInt y := by rw [mm_w_of, Int32.ofInt_sub]
  rw [← he]
  exact hk
theorem mm_s_imul (hx : mm_Cx X I p R s m args meth c D cA base b H00) (hG : mm_G I s D cA base b H00 ex L st S cu su ls H locs) (hd : decode (mm_bytes I) pc = .ok (.imul, len)) (hf : mm_fine I (pc, .imul, len, tgt) = true) (hs : mm_step mt X I (.imul) len tgt (pc, L, st, S, cu, su) = some (.inl C')) (kk : mm_kk p l e R s m args below meth c Q I D cA base b H00 (mm_exi (.imul) ex) tl C') : W p l e R s m args below meth c H locs cu su Q (F0 m pc ls (st.map (mm_phi base b) ++ tl)) := by
  obtain rfl : len = 1 := eq_of_beq (show (len == 1) = true from hf)
  obtain ⟨hl, hst, hlr, hR, hn, hc, hsu⟩ := hG
  rcases st with _ | ⟨y | a, _ | ⟨x | a2, r⟩⟩ <;> try (cases (show (none : Option mm_O) = some (.inl C') from hs); done)
  cases (show (some (.inl (pc + 1, L, .inl (mm_w (x * y)) :: r, S, cu, su)) : Option mm_O) = some (.inl C') from hs)
  have h0 := List.forall_mem_cons.mp hst
  have h1 := List.forall_mem_cons.mp h0.2
  have hk := kk ls H locs ⟨hl, mm_all_cons (mm_w_in _) h1.2, hlr, hR, hn, hc, hsu⟩
  refine lv_imul hx.1 hx.2.1 hd ?_
  have he : Int32.ofInt (mm_w (x * y)) = Int32.ofInt x * Int32.ofInt y := by rw [mm_w_of, Int32.ofInt_mul]
  rw [← he]
  exact hk
theorem mm_s_idiv (hx : mm_Cx X I p R s m args meth c D cA base b H00) (hG : mm_G I s D cA base b H00 ex L st S cu su ls H locs) (hd : decode (mm_bytes I) pc = .ok (.idiv, len)) (hf : mm_fine I (pc, .idiv, len, tgt) = true) (hs : mm_step mt X I (.idiv) len tgt (pc, L, st, S, cu, su) = some (.inl C')) (kk : mm_kk p l e R s m args below meth c Q I D cA base b H00 (mm_exi (.idiv) ex) tl C') : W p l e R s m args below meth c H locs cu su Q (F0 m pc ls (st.map (mm_phi base b) ++ tl)) := by
  obtain rfl : len = 1 := eq_of_beq (show (len == 1) = true from hf)
  obtain ⟨hl, hst, hlr, hR, hn, hc, hsu⟩ := hG
  rcases st with _ | ⟨y | a, _ | ⟨x | a2, r⟩⟩ <;> try (cases (show (none : Option mm_O) = some (.inl C') from hs); done)
  have h0 := List.forall_mem_cons.mp hst
  have h1 := List.forall_mem_cons.mp h0.2
  have hs : (if 0 < y then (some (.inl (pc + 1, L, .inl (x.tdiv y) :: r, S, cu, su)) : Option mm_O) else none) = some (.inl C') := hs
  by_cases hy : 0 < y
  · rw [if_pos hy] at hs
    cases hs
    have hk := kk ls H locs ⟨hl, mm_all_cons (mm_tdiv_in h1.1 hy) h1.2, hlr, hR, hn, hc, hsu⟩
    refine lv_idiv hx.1 hx.2.1 hd (fun q => by have := (mm_eq h0.1 mm_in0).mp q; omega) ?_
    rw [mm_tdiv h1.1 h0.1 hy]
    exact hk
  · rw [if_neg hy] at hs
    cases hs
theorem mm_s_irem (hx : mm_Cx X I p R s m args meth c D cA base b H00) (hG : mm_G I s D cA base b H00 ex L st S cu su ls H locs) (hd : decode (mm_bytes I) pc = .ok (.irem, len)) (hf : mm_fine I (pc, .irem, len, tgt) = true) (hs : mm_step mt X I (.irem) len tgt (pc, L, st, S, cu, su) = some (.inl C')) (kk : mm_kk p l e R s m args below meth c Q I D cA base b H00 (mm_exi (.irem) ex) tl C') : W p l e R s m args below meth c H locs cu su Q (F0 m pc ls (st.map (mm_phi base b) ++ tl)) := by
  obtain rfl : len = 1 := eq_of_beq (show (len == 1) = true from hf)
  obtain ⟨hl, hst, hlr, hR, hn, hc, hsu⟩ := hG
  rcases st with _ | ⟨y | a, _ | ⟨x | a2, r⟩⟩ <;> try (cases (show (none : Option mm_O) = some (.inl C') from hs); done)
  have h0 := List.forall_mem_cons.mp hst
  have h1 := List.forall_mem_cons.mp h0.2
  have hs : (if 0 < y then (some (.inl (pc + 1, L, .inl (x.tmod y) :: r, S, cu, su)) : Option mm_O) else none) = some (.inl C') := hs
  by_cases hy : 0 < y
  · rw [if_pos hy] at hs
    cases hs
    have hk := kk ls H locs ⟨hl, mm_all_cons (mm_tmod_in h1.1 h0.1 hy) h1.2, hlr, hR, hn, hc, hsu⟩
    refine lv_irem hx.1 hx.2.1 hd (fun q => by have := (mm_eq h0.1 mm_in0).mp q; omega) ?_
    rw [mm_tmod h1.1 h0.1 hy]
    exact hk
  · rw [if_neg hy] at hs
    cases hs
theorem mm_s_iand (hx : mm_Cx X I p R s m args meth c D cA base b H00) (hG : mm_G I s D cA base b H00 ex L st S cu su ls H locs) (hd : decode (mm_bytes I) pc = .ok (.iand, len)) (hf : mm_fine I (pc, .iand, len, tgt) = true) (hs : mm_step mt X I (.iand) len tgt (pc, L, st, S, cu, su) = some (.inl C')) (kk : mm_kk p l e R s m args below meth c Q I D cA base b H00 (mm_exi (.iand) ex) tl C') : W p l e R s m args below meth c H locs cu su Q (F0 m pc ls (st.map (mm_phi base b) ++ tl)) := by
  obtain rfl : len = 1 := eq_of_beq (show (len == 1) = true from hf)
  obtain ⟨hl, hst, hlr, hR, hn, hc, hsu⟩ := hG
  rcases st with _ | ⟨y | a, _ | ⟨x | a2, r⟩⟩ <;> try (cases (show (none : Option mm_O) = some (.inl C') from hs); done)
  cases (show (some (.inl (pc + 1, L, .inl (Int32.ofInt x &&& Int32.ofInt y).toInt :: r, S, cu, su)) : Option mm_O) = some (.inl C') from hs)
  have h0 := List.forall_mem_cons.mp hst
  have h1 := List.forall_mem_cons.mp h0.2
  have hk := kk ls H locs ⟨hl, mm_all_cons (mm_and_in x y) h1.2, hlr, hR, hn, hc, hsu⟩
  refine lv_iand hx.1 hx.2.1 hd ?_
  have he : Int32.ofInt (Int32.ofInt x &&& Int32.ofInt y).toInt = Int32.ofInt x &&& Int32.ofInt y := Int32.ofInt_toInt _
  rw [← he]
  exact hk
theorem mm_i32_in (x : Int32) : mm_inr (.inl x.toInt) := by
  have h1 := Int32.le_toInt x
  have h2 := Int32.toInt_lt x
  exact ⟨by omega, by omega⟩
theorem mm_ck_in {o i : Nat} {z : Int} (h : mm_ck o i = some z) : (Jvm.Cond.constant (mm_R o) i (Int32.ofInt z)) ∈ lw_u ∧ mm_inr (.inl z) := by
  unfold mm_ck at h
  cases h1 : (o == 7 && i == 7) with
  | true =>
    rw [h1] at h
    cases h
    simp only [Bool.and_eq_true, beq_iff_eq] at h1
    rw [h1.1, h1.2]
    exact ⟨mm_wd_in (p := 321) (by decide +kernel), by decide, by decide⟩
  | false =>
    rw [h1] at h
    cases h2 : (o == 7 && i == 8) with
    | true =>
      rw [h2] at h
      cases h
      simp only [Bool.and_eq_true, beq_iff_eq] at h2
      rw [h2.1, h2.2]
      exact ⟨mm_wd_in (p := 325) (by decide +kernel), by decide, by decide⟩
    | false => rw [h2] at h; cases h
theorem mm_s_ldc {i : Nat} (hx : mm_Cx X I p R s m args meth c D cA base b H00) (hG : mm_G I s D cA base b H00 ex L st S cu su ls H locs) (hd : decode (mm_bytes I) pc = .ok (.ldc i, len)) (hf : mm_fine I (pc, .ldc i, len, tgt) = true) (hs : mm_step mt X I (.ldc i) len tgt (pc, L, st, S, cu, su) = some (.inl C')) (kk : mm_kk p l e R s m args below meth c Q I D cA base b H00 (mm_exi (.ldc i) ex) tl C') : W p l e R s m args below meth c H locs cu su Q (F0 m pc ls (st.map (mm_phi base b) ++ tl)) := by
  obtain rfl : len = 2 := eq_of_beq (show (len == 2) = true from hf)
  obtain ⟨hl, hst, hlr, hR, hn, hc, hsu⟩ := hG
  dsimp only [mm_step] at hs
  cases hq : mm_ck (mm_own I) i with
  | none => rw [hq] at hs; cases hs
  | some z =>
    rw [hq] at hs
    cases (show (some (.inl (pc + 2, L, .inl z :: st, S, cu, su)) : Option mm_O) = some (.inl C') from hs)
    obtain ⟨g1, g2⟩ := mm_ck_in hq
    exact lv_ldc hx.1 hx.2.1 hx.2.2.2.1 (hx.2.2.2.2.1 _ g1) hd (kk ls H locs ⟨hl, mm_all_cons g2 hst, hlr, hR, hn, hc, hsu⟩)
theorem mm_s_ishr (hx : mm_Cx X I p R s m args meth c D cA base b H00) (hG : mm_G I s D cA base b H00 ex L st S cu su ls H locs) (hd : decode (mm_bytes I) pc = .ok (.ishr, len)) (hf : mm_fine I (pc, .ishr, len, tgt) = true) (hs : mm_step mt X I (.ishr) len tgt (pc, L, st, S, cu, su) = some (.inl C')) (kk : mm_kk p l e R s m args below meth c Q I D cA base b H00 (mm_exi (.ishr) ex) tl C') : W p l e R s m args below meth c H locs cu su Q (F0 m pc ls (st.map (mm_phi base b) ++ tl)) := by
  obtain rfl : len = 1 := eq_of_beq (show (len == 1) = true from hf)
  obtain ⟨hl, hst, hlr, hR, hn, hc, hsu⟩ := hG
  rcases st with _ | ⟨y | a, _ | ⟨x | a2, r⟩⟩ <;> try (cases (show (none : Option mm_O) = some (.inl C') from hs); done)
  cases (show (some (.inl (pc + 1, L, .inl (Int32.ofInt x >>> (Int32.ofInt y &&& 31)).toInt :: r, S, cu, su)) : Option mm_O) = some (.inl C') from hs)
  have h0 := List.forall_mem_cons.mp hst
  have h1 := List.forall_mem_cons.mp h0.2
  have hk := kk ls H locs ⟨hl, mm_all_cons (mm_i32_in _) h1.2, hlr, hR, hn, hc, hsu⟩
  refine lv_ishr hx.1 hx.2.1 hd ?_
  have he : Int32.ofInt (Int32.ofInt x >>> (Int32.ofInt y &&& 31)).toInt = Int32.ofInt x >>> (Int32.ofInt y &&& 31) := Int32.ofInt_toInt _
  rw [← he]
  exact hk
theorem mm_s_i2c (hx : mm_Cx X I p R s m args meth c D cA base b H00) (hG : mm_G I s D cA base b H00 ex L st S cu su ls H locs) (hd : decode (mm_bytes I) pc = .ok (.i2c, len)) (hf : mm_fine I (pc, .i2c, len, tgt) = true) (hs : mm_step mt X I (.i2c) len tgt (pc, L, st, S, cu, su) = some (.inl C')) (kk : mm_kk p l e R s m args below meth c Q I D cA base b H00 (mm_exi (.i2c) ex) tl C') : W p l e R s m args below meth c H locs cu su Q (F0 m pc ls (st.map (mm_phi base b) ++ tl)) := by
  obtain rfl : len = 1 := eq_of_beq (show (len == 1) = true from hf)
  obtain ⟨hl, hst, hlr, hR, hn, hc, hsu⟩ := hG
  rcases st with _ | ⟨x | a, r⟩ <;> try (cases (show (none : Option mm_O) = some (.inl C') from hs); done)
  cases (show (some (.inl (pc + 1, L, .inl (x % 65536) :: r, S, cu, su)) : Option mm_O) = some (.inl C') from hs)
  have h0 := List.forall_mem_cons.mp hst
  have h1 : 0 ≤ x % 65536 := Int.emod_nonneg _ (by decide)
  have h2 : x % 65536 < 65536 := Int.emod_lt_of_pos _ (by decide)
  exact lv_i2c hx.1 hx.2.1 hd (mm_i2c h0.1) (kk ls H locs ⟨hl, mm_all_cons ⟨by omega, by omega⟩ h0.2, hlr, hR, hn, hc, hsu⟩)
theorem mm_s_dup (hx : mm_Cx X I p R s m args meth c D cA base b H00) (hG : mm_G I s D cA base b H00 ex L st S cu su ls H locs) (hd : decode (mm_bytes I) pc = .ok (.dup, len)) (hf : mm_fine I (pc, .dup, len, tgt) = true) (hs : mm_step mt X I (.dup) len tgt (pc, L, st, S, cu, su) = some (.inl C')) (kk : mm_kk p l e R s m args below meth c Q I D cA base b H00 (mm_exi (.dup) ex) tl C') : W p l e R s m args below meth c H locs cu su Q (F0 m pc ls (st.map (mm_phi base b) ++ tl)) := by
  obtain rfl : len = 1 := eq_of_beq (show (len == 1) = true from hf)
  obtain ⟨hl, hst, hlr, hR, hn, hc, hsu⟩ := hG
  rcases st with _ | ⟨v, r⟩ <;> try (cases (show (none : Option mm_O) = some (.inl C') from hs); done)
  cases (show (some (.inl (pc + 1, L, v :: v :: r, S, cu, su)) : Option mm_O) = some (.inl C') from hs)
  have h0 := List.forall_mem_cons.mp hst
  exact lv_dup hx.1 hx.2.1 hd (mm_phi_cat base b v) (kk ls H locs ⟨hl, mm_all_cons h0.1 (mm_all_cons h0.1 h0.2), hlr, hR, hn, hc, hsu⟩)
theorem mm_s_dup2 (hx : mm_Cx X I p R s m args meth c D cA base b H00) (hG : mm_G I s D cA base b H00 ex L st S cu su ls H locs) (hd : decode (mm_bytes I) pc = .ok (.dup2, len)) (hf : mm_fine I (pc, .dup2, len, tgt) = true) (hs : mm_step mt X I (.dup2) len tgt (pc, L, st, S, cu, su) = some (.inl C')) (kk : mm_kk p l e R s m args below meth c Q I D cA base b H00 (mm_exi (.dup2) ex) tl C') : W p l e R s m args below meth c H locs cu su Q (F0 m pc ls (st.map (mm_phi base b) ++ tl)) := by
  obtain rfl : len = 1 := eq_of_beq (show (len == 1) = true from hf)
  obtain ⟨hl, hst, hlr, hR, hn, hc, hsu⟩ := hG
  rcases st with _ | ⟨v, _ | ⟨u, r⟩⟩ <;> try (cases (show (none : Option mm_O) = some (.inl C') from hs); done)
  cases (show (some (.inl (pc + 1, L, v :: u :: v :: u :: r, S, cu, su)) : Option mm_O) = some (.inl C') from hs)
  have h0 := List.forall_mem_cons.mp hst
  have h1 := List.forall_mem_cons.mp h0.2
  exact lv_dup2_11 hx.1 hx.2.1 hd (mm_phi_cat base b v) (mm_phi_cat base b u) (kk ls H locs ⟨hl, mm_all_cons h0.1 (mm_all_cons h1.1 (mm_all_cons h0.1 (mm_all_cons h1.1 h1.2))), hlr, hR, hn, hc, hsu⟩)
theorem mm_s_pop (hx : mm_Cx X I p R s m args meth c D cA base b H00) (hG : mm_G I s D cA base b H00 ex L st S cu su ls H locs) (hd : decode (mm_bytes I) pc = .ok (.pop, len)) (hf : mm_fine I (pc, .pop, len, tgt) = true) (hs : mm_step mt X I (.pop) len tgt (pc, L, st, S, cu, su) = some (.inl C')) (kk : mm_kk p l e R s m args below meth c Q I D cA base b H00 (mm_exi (.pop) ex) tl C') : W p l e R s m args below meth c H locs cu su Q (F0 m pc ls (st.map (mm_phi base b) ++ tl)) := by
  obtain rfl : len = 1 := eq_of_beq (show (len == 1) = true from hf)
  obtain ⟨hl, hst, hlr, hR, hn, hc, hsu⟩ := hG
  rcases st with _ | ⟨v, r⟩ <;> try (cases (show (none : Option mm_O) = some (.inl C') from hs); done)
  cases (show (some (.inl (pc + 1, L, r, S, cu, su)) : Option mm_O) = some (.inl C') from hs)
  have h0 := List.forall_mem_cons.mp hst
  exact lv_pop hx.1 hx.2.1 hd (mm_phi_cat base b v) (kk ls H locs ⟨hl, h0.2, hlr, hR, hn, hc, hsu⟩)
theorem mm_s_ifCond {k : ClassFile.Cond} {o : Int} (hx : mm_Cx X I p R s m args meth c D cA base b H00) (hG : mm_G I s D cA base b H00 ex L st S cu su ls H locs) (hd : decode (mm_bytes I) pc = .ok (.ifCond k o, len)) (hf : mm_fine I (pc, .ifCond k o, len, tgt) = true) (hs : mm_step mt X I (.ifCond k o) len tgt (pc, L, st, S, cu, su) = some (.inl C')) (kk : mm_kk p l e R s m args below meth c Q I D cA base b H00 (mm_exi (.ifCond k o) ex) tl C') : W p l e R s m args below meth c H locs cu su Q (F0 m pc ls (st.map (mm_phi base b) ++ tl)) := by
  simp only [mm_fine, Bool.and_eq_true, beq_iff_eq, decide_eq_true_eq] at hf
  obtain ⟨rfl, ht⟩ := hf
  obtain ⟨hl, hst, hlr, hR, hn, hc, hsu⟩ := hG
  rcases st with _ | ⟨x | a, r⟩ <;> try (cases (show (none : Option mm_O) = some (.inl C') from hs); done)
  have h0 := List.forall_mem_cons.mp hst
  have hxx := h0.1
  have hr := h0.2
  have hy := mm_in0
  cases (show (some (.inl (mm_br k x 0 tgt (pc + 3), L, r, S, cu, su)) : Option mm_O) = some (.inl C') from hs)
  cases k with
  | eq =>
    refine lv_if_eq hx.1 hx.2.1 hd ht (fun q => ?_) (fun q => ?_)
    · have hk := kk ls H locs ⟨hl, hr, hlr, hR, hn, hc, hsu⟩
      have hq : x = 0 := (mm_eq hxx hy).mp q
      simp only [mm_br, if_pos hq] at hk
      exact hk
    · have hk := kk ls H locs ⟨hl, hr, hlr, hR, hn, hc, hsu⟩
      have hq : ¬ (x = 0) := fun z => by
        have z2 := (mm_eq hxx hy).mpr z
        first | exact q z2 | exact absurd z2 (by simpa using q) | exact absurd z2 (Int32.not_lt.mpr q) | exact absurd q (Int32.not_le.mpr z2)
      simp only [mm_br, if_neg hq] at hk
      exact hk
  | ne =>
    refine lv_if_ne hx.1 hx.2.1 hd ht (fun q => ?_) (fun q => ?_)
    · have hk := kk ls H locs ⟨hl, hr, hlr, hR, hn, hc, hsu⟩
      have hq : ¬ (x = 0) := fun z => by
        have z2 := (mm_eq hxx hy).mpr z
        first | exact q z2 | exact absurd z2 (by simpa using q) | exact absurd z2 (Int32.not_lt.mpr q) | exact absurd q (Int32.not_le.mpr z2)
      simp only [mm_br, if_neg hq] at hk
      exact hk
    · have hk := kk ls H locs ⟨hl, hr, hlr, hR, hn, hc, hsu⟩
      have hq : x = 0 := (mm_eq hxx hy).mp (by simpa using q)
      simp only [mm_br, if_pos hq] at hk
      exact hk
  | lt =>
    refine lv_if_lt hx.1 hx.2.1 hd ht (fun q => ?_) (fun q => ?_)
    · have hk := kk ls H locs ⟨hl, hr, hlr, hR, hn, hc, hsu⟩
      have hq : x < 0 := (mm_lt hxx hy).mp q
      simp only [mm_br, if_pos hq] at hk
      exact hk
    · have hk := kk ls H locs ⟨hl, hr, hlr, hR, hn, hc, hsu⟩
      have hq : ¬ (x < 0) := fun z => by
        have z2 := (mm_lt hxx hy).mpr z
        first | exact q z2 | exact absurd z2 (by simpa using q) | exact absurd z2 (Int32.not_lt.mpr q) | exact absurd q (Int32.not_le.mpr z2)
      simp only [mm_br, if_neg hq] at hk
      exact hk
  | ge =>
    refine lv_if_ge hx.1 hx.2.1 hd ht (fun q => ?_) (fun q => ?_)
    · have hk := kk ls H locs ⟨hl, hr, hlr, hR, hn, hc, hsu⟩
      have hq : ¬ (x < 0) := fun z => by
        have z2 := (mm_lt hxx hy).mpr z
        first | exact q z2 | exact absurd z2 (by simpa using q) | exact absurd z2 (Int32.not_lt.mpr q) | exact absurd q (Int32.not_le.mpr z2)
      simp only [mm_br, if_neg hq] at hk
      exact hk
    · have hk := kk ls H locs ⟨hl, hr, hlr, hR, hn, hc, hsu⟩
      have hq : x < 0 := (mm_lt hxx hy).mp (by simpa using q)
      simp only [mm_br, if_pos hq] at hk
      exact hk
  | gt =>
    refine lv_if_gt hx.1 hx.2.1 hd ht (fun q => ?_) (fun q => ?_)
    · have hk := kk ls H locs ⟨hl, hr, hlr, hR, hn, hc, hsu⟩
      have hq : 0 < x := (mm_lt hy hxx).mp q
      simp only [mm_br, if_pos hq] at hk
      exact hk
    · have hk := kk ls H locs ⟨hl, hr, hlr, hR, hn, hc, hsu⟩
      have hq : ¬ (0 < x) := fun z => by
        have z2 := (mm_lt hy hxx).mpr z
        first | exact q z2 | exact absurd z2 (by simpa using q) | exact absurd z2 (Int32.not_lt.mpr q) | exact absurd q (Int32.not_le.mpr z2)
      simp only [mm_br, if_neg hq] at hk
      exact hk
  | le =>
    refine lv_if_le hx.1 hx.2.1 hd ht (fun q => ?_) (fun q => ?_)
    · have hk := kk ls H locs ⟨hl, hr, hlr, hR, hn, hc, hsu⟩
      have hq : ¬ (0 < x) := fun z => by
        have z2 := (mm_lt hy hxx).mpr z
        first | exact q z2 | exact absurd z2 (by simpa using q) | exact absurd z2 (Int32.not_lt.mpr q) | exact absurd q (Int32.not_le.mpr z2)
      simp only [mm_br, if_neg hq] at hk
      exact hk
    · have hk := kk ls H locs ⟨hl, hr, hlr, hR, hn, hc, hsu⟩
      have hq : 0 < x := (mm_lt hy hxx).mp (by simpa using q)
      simp only [mm_br, if_pos hq] at hk
      exact hk
theorem mm_s_if_icmp {k : ClassFile.Cond} {o : Int} (hx : mm_Cx X I p R s m args meth c D cA base b H00) (hG : mm_G I s D cA base b H00 ex L st S cu su ls H locs) (hd : decode (mm_bytes I) pc = .ok (.if_icmp k o, len)) (hf : mm_fine I (pc, .if_icmp k o, len, tgt) = true) (hs : mm_step mt X I (.if_icmp k o) len tgt (pc, L, st, S, cu, su) = some (.inl C')) (kk : mm_kk p l e R s m args below meth c Q I D cA base b H00 (mm_exi (.if_icmp k o) ex) tl C') : W p l e R s m args below meth c H locs cu su Q (F0 m pc ls (st.map (mm_phi base b) ++ tl)) := by
  simp only [mm_fine, Bool.and_eq_true, beq_iff_eq, decide_eq_true_eq] at hf
  obtain ⟨rfl, ht⟩ := hf
  obtain ⟨hl, hst, hlr, hR, hn, hc, hsu⟩ := hG
  rcases st with _ | ⟨y | a, _ | ⟨x | a2, r⟩⟩ <;> try (cases (show (none : Option mm_O) = some (.inl C') from hs); done)
  have h0 := List.forall_mem_cons.mp hst
  have h1 := List.forall_mem_cons.mp h0.2
  have hy := h0.1
  have hxx := h1.1
  have hr := h1.2
  cases (show (some (.inl (mm_br k x y tgt (pc + 3), L, r, S, cu, su)) : Option mm_O) = some (.inl C') from hs)
  cases k with
  | eq =>
    refine lv_icmp_eq hx.1 hx.2.1 hd ht (fun q => ?_) (fun q => ?_)
    · have hk := kk ls H locs ⟨hl, hr, hlr, hR, hn, hc, hsu⟩
      have hq : x = y := (mm_eq hxx hy).mp q
      simp only [mm_br, if_pos hq] at hk
      exact hk
    · have hk := kk ls H locs ⟨hl, hr, hlr, hR, hn, hc, hsu⟩
      have hq : ¬ (x = y) := fun z => by
        have z2 := (mm_eq hxx hy).mpr z
        first | exact q z2 | exact absurd z2 (by simpa using q) | exact absurd z2 (Int32.not_lt.mpr q) | exact absurd q (Int32.not_le.mpr z2)
      simp only [mm_br, if_neg hq] at hk
      exact hk
  | ne =>
    refine lv_icmp_ne hx.1 hx.2.1 hd ht (fun q => ?_) (fun q => ?_)
    · have hk := kk ls H locs ⟨hl, hr, hlr, hR, hn, hc, hsu⟩
      have hq : ¬ (x = y) := fun z => by
        have z2 := (mm_eq hxx hy).mpr z
        first | exact q z2 | exact absurd z2 (by simpa using q) | exact absurd z2 (Int32.not_lt.mpr q) | exact absurd q (Int32.not_le.mpr z2)
      simp only [mm_br, if_neg hq] at hk
      exact hk
    · have hk := kk ls H locs ⟨hl, hr, hlr, hR, hn, hc, hsu⟩
      have hq : x = y := (mm_eq hxx hy).mp (by simpa using q)
      simp only [mm_br, if_pos hq] at hk
      exact hk
  | lt =>
    refine lv_icmp_lt hx.1 hx.2.1 hd ht (fun q => ?_) (fun q => ?_)
    · have hk := kk ls H locs ⟨hl, hr, hlr, hR, hn, hc, hsu⟩
      have hq : x < y := (mm_lt hxx hy).mp q
      simp only [mm_br, if_pos hq] at hk
      exact hk
    · have hk := kk ls H locs ⟨hl, hr, hlr, hR, hn, hc, hsu⟩
      have hq : ¬ (x < y) := fun z => by
        have z2 := (mm_lt hxx hy).mpr z
        first | exact q z2 | exact absurd z2 (by simpa using q) | exact absurd z2 (Int32.not_lt.mpr q) | exact absurd q (Int32.not_le.mpr z2)
      simp only [mm_br, if_neg hq] at hk
      exact hk
  | ge =>
    refine lv_icmp_ge hx.1 hx.2.1 hd ht (fun q => ?_) (fun q => ?_)
    · have hk := kk ls H locs ⟨hl, hr, hlr, hR, hn, hc, hsu⟩
      have hq : ¬ (x < y) := fun z => by
        have z2 := (mm_lt hxx hy).mpr z
        first | exact q z2 | exact absurd z2 (by simpa using q) | exact absurd z2 (Int32.not_lt.mpr q) | exact absurd q (Int32.not_le.mpr z2)
      simp only [mm_br, if_neg hq] at hk
      exact hk
    · have hk := kk ls H locs ⟨hl, hr, hlr, hR, hn, hc, hsu⟩
      have hq : x < y := (mm_lt hxx hy).mp (by simpa using q)
      simp only [mm_br, if_pos hq] at hk
      exact hk
  | gt =>
    refine lv_icmp_gt hx.1 hx.2.1 hd ht (fun q => ?_) (fun q => ?_)
    · have hk := kk ls H locs ⟨hl, hr, hlr, hR, hn, hc, hsu⟩
      have hq : y < x := (mm_lt hy hxx).mp q
      simp only [mm_br, if_pos hq] at hk
      exact hk
    · have hk := kk ls H locs ⟨hl, hr, hlr, hR, hn, hc, hsu⟩
      have hq : ¬ (y < x) := fun z => by
        have z2 := (mm_lt hy hxx).mpr z
        first | exact q z2 | exact absurd z2 (by simpa using q) | exact absurd z2 (Int32.not_lt.mpr q) | exact absurd q (Int32.not_le.mpr z2)
      simp only [mm_br, if_neg hq] at hk
      exact hk
  | le =>
    refine lv_icmp_le hx.1 hx.2.1 hd ht (fun q => ?_) (fun q => ?_)
    · have hk := kk ls H locs ⟨hl, hr, hlr, hR, hn, hc, hsu⟩
      have hq : ¬ (y < x) := fun z => by
        have z2 := (mm_lt hy hxx).mpr z
        first | exact q z2 | exact absurd z2 (by simpa using q) | exact absurd z2 (Int32.not_lt.mpr q) | exact absurd q (Int32.not_le.mpr z2)
      simp only [mm_br, if_neg hq] at hk
      exact hk
    · have hk := kk ls H locs ⟨hl, hr, hlr, hR, hn, hc, hsu⟩
      have hq : y < x := (mm_lt hy hxx).mp (by simpa using q)
      simp only [mm_br, if_pos hq] at hk
      exact hk
theorem mm_s_goto {o : Int} (hx : mm_Cx X I p R s m args meth c D cA base b H00) (hG : mm_G I s D cA base b H00 ex L st S cu su ls H locs) (hd : decode (mm_bytes I) pc = .ok (.goto o, len)) (hf : mm_fine I (pc, .goto o, len, tgt) = true) (hs : mm_step mt X I (.goto o) len tgt (pc, L, st, S, cu, su) = some (.inl C')) (kk : mm_kk p l e R s m args below meth c Q I D cA base b H00 (mm_exi (.goto o) ex) tl C') : W p l e R s m args below meth c H locs cu su Q (F0 m pc ls (st.map (mm_phi base b) ++ tl)) := by
  simp only [mm_fine, Bool.and_eq_true, beq_iff_eq, decide_eq_true_eq] at hf
  obtain ⟨rfl, ht⟩ := hf
  cases (show (some (.inl (tgt, L, st, S, cu, su)) : Option mm_O) = some (.inl C') from hs)
  exact lv_goto hx.1 hx.2.1 hd ht (kk ls H locs hG)
end MMS
end
section
-- STEPS that read and write cells, and those that make them
theorem mm_ff_mem {l : mm_FL} {i : Nat} {x : Nat × Nat × Nat × Bool × Nat} (h : mm_ff l i = some x) : (i, x) ∈ l := by
  induction l with
  | nil => cases h
  | cons q r ih =>
    unfold mm_ff at h
    cases hq : (q.1 == i) with
    | true =>
      rw [hq] at h
      have h2 : q.2 = x := Option.some.inj h
      have h3 : q.1 = i := eq_of_beq hq
      rw [← h2, ← h3]
      exact List.mem_cons_self
    | false =>
      rw [hq] at h
      exact List.mem_cons_of_mem _ (ih h)
theorem mm_fm_mem {l : mm_ML} {i : Nat} {x : Nat × Nat × List Nat} (h : mm_fm l i = some x) : (i, x) ∈ l := by
  induction l with
  | nil => cases h
  | cons q r ih =>
    unfold mm_fm at h
    cases hq : (q.1 == i) with
    | true =>
      rw [hq] at h
      have h2 : q.2 = x := Option.some.inj h
      have h3 : q.1 = i := eq_of_beq hq
      rw [← h2, ← h3]
      exact List.mem_cons_self
    | false =>
      rw [hq] at h
      exact List.mem_cons_of_mem _ (ih h)
theorem mm_fn_mem {l : mm_NL} {i : Nat} {x : Nat × List Nat} (h : mm_fn l i = some x) : (i, x) ∈ l := by
  induction l with
  | nil => cases h
  | cons q r ih =>
    unfold mm_fn at h
    cases hq : (q.1 == i) with
    | true =>
      rw [hq] at h
      have h2 : q.2 = x := Option.some.inj h
      have h3 : q.1 = i := eq_of_beq hq
      rw [← h2, ← h3]
      exact List.mem_cons_self
    | false =>
      rw [hq] at h
      exact List.mem_cons_of_mem _ (ih h)
theorem mm_getD_mem {α : Type} {l : List (List α)} {o : Nat} {x : α} (h : x ∈ l.getD o []) : o < l.length := by
  rcases Nat.lt_or_ge o l.length with q | q
  · exact q
  · rw [List.getD_eq_getElem?_getD, List.getElem?_eq_none q] at h
    cases h
def mm_refty : FieldType → Bool
  | .object _ => true
  | .array _ => true
  | _ => false
/-- what is known of a field that a link names -/
theorem mm_fld {o i ci k kd pl : Nat} {fin : Bool} (h : mm_ff (mt.2.1.getD o []) i = some (ci, k, kd, fin, pl)) : ∃ (C : String) (T : u_T) (N : Nat), classes[ci]? = some (C, T, N) ∧ k < N ∧ (Jvm.Cond.fieldLink (mm_R o) i (T k).1 (T k).2.1 (T k).2.2.1) ∈ lw_u ∧ (T k).2.2.2 = fin ∧ (T k).1 = C ∧ ((T k).2.2.1 = "I" ∧ kd = 0 ∨ (T k).2.2.1 = "Z" ∧ kd = 1 ∨ ((T k).2.2.1 ≠ "I" ∧ (T k).2.2.1 ≠ "Z") ∧ kd = 2) := by
  have hm := mm_ff_mem h
  have ho : o < 9 := mm_getD_mem hm
  have h1 := mt_okF
  unfold mm_okFL at h1
  have h2 := List.all_eq_true.mp (List.all_eq_true.mp h1 o (List.mem_range.mpr ho)) _ hm
  dsimp only at h2
  cases hc : classes[ci]? with
  | none => rw [hc] at h2; cases h2
  | some q =>
    obtain ⟨C, T, N⟩ := q
    rw [hc] at h2
    simp only [Bool.and_eq_true, decide_eq_true_eq] at h2
    obtain ⟨⟨⟨⟨h3, h4⟩, h5⟩, h6⟩, h7⟩ := h2
    exact ⟨C, T, N, rfl, Nat.le_of_ble_eq_true h3, mm_wd_in h4, h5, h6, h7⟩
/-- what is known of a class -/
theorem mm_cl {ci : Nat} {C : String} {T : u_T} {N : Nat} (h : classes[ci]? = some (C, T, N)) : (∃ ty0 : Nat → FieldType, (∀ k, k < N → parseFieldDescriptor (T k).2.2.1 = some (ty0 k)) ∧ ∀ k, k < N → (T k).2.2.1 = "I" ∧ ty0 k = .int ∨ (T k).2.2.1 = "Z" ∧ ty0 k = .boolean ∨ ((T k).2.2.1 ≠ "I" ∧ (T k).2.2.1 ≠ "Z") ∧ mm_refty (ty0 k) = true) ∧ (∀ a, a < N → ∀ b, b < N → a ≠ b → (T a).2.1 ≠ (T b).2.1) ∧ (∀ w ∈ u_ws C T N, w ∈ lw_u) := by
  rcases ci with _ | _ | _ | _ | _ | _ | _ | ci
  · cases h; exact ⟨⟨tyX0, tyX0_ok, by decide +kernel⟩, nmX0, inX0⟩
  · cases h; exact ⟨⟨tyX1, tyX1_ok, by decide +kernel⟩, nmX1, inX1⟩
  · cases h; exact ⟨⟨tyX2, tyX2_ok, by decide +kernel⟩, nmX2, inX2⟩
  · cases h; exact ⟨⟨tyX3, tyX3_ok, by decide +kernel⟩, nmX3, inX3⟩
  · cases h; exact ⟨⟨tyX4, tyX4_ok, by decide +kernel⟩, nmX4, inX4⟩
  · cases h; exact ⟨⟨tyX5, tyX5_ok, by decide +kernel⟩, nmX5, inX5⟩
  · cases h; exact ⟨⟨tyX6, tyX6_ok, by decide +kernel⟩, nmX6, inX6⟩
  · exact absurd h (by simp [classes])
theorem mm_isref_of {ci k kd : Nat} {C : String} {T : u_T} {N : Nat} (h : classes[ci]? = some (C, T, N)) (hk : (T k).2.2.1 = "I" ∧ kd = 0 ∨ (T k).2.2.1 = "Z" ∧ kd = 1 ∨ ((T k).2.2.1 ≠ "I" ∧ (T k).2.2.1 ≠ "Z") ∧ kd = 2) : mm_isref ci k = true ↔ kd = 2 := by
  unfold mm_isref
  rw [h]
  rcases hk with ⟨h1, h2⟩ | ⟨h1, h2⟩ | ⟨⟨h1, h3⟩, h2⟩
  · subst h2; simp [h1]
  · subst h2; simp [h1]
  · subst h2; simp [h1, h3]
theorem mm_isc_at {S : mm_S} {ci a : Nat} (h : mm_isc S ci a = true) : ∃ n, S.1[a]? = some (ci, n) := by
  unfold mm_isc at h
  cases hq : S.1[a]? with
  | none => rw [hq] at h; cases h
  | some q =>
    rw [hq] at h
    obtain ⟨k, n⟩ := q
    exact ⟨n, by rw [eq_of_beq h]⟩
theorem mm_el_at {S : mm_S} {kd a : Nat} {i : Int} (h : mm_el S kd a i = true) : ∃ n : Nat, S.1[a]? = some (kd, n) ∧ 0 ≤ i ∧ i < n := by
  unfold mm_el at h
  cases hq : S.1[a]? with
  | none => rw [hq] at h; cases h
  | some q =>
    rw [hq] at h
    obtain ⟨k, n⟩ := q
    simp only [Bool.and_eq_true, beq_iff_eq, decide_eq_true_eq] at h
    exact ⟨n, by rw [h.1.1], h.1.2, h.2⟩
theorem mm_map_set {n k : Nat} {v : Value} {f g : Nat → Value} (hk : g k = v) (ho : ∀ j, j ≠ k → g j = f j) : ((List.range n).map f).set k v = (List.range n).map g := by
  apply List.ext_getElem?
  intro i
  rw [List.getElem?_set]
  by_cases hi : k = i
  · subst hi
    rw [if_pos rfl]
    by_cases hl : k < n
    · simp [hl, hk]
    · simp [hl]
  · rw [if_neg hi, List.getElem?_map, List.getElem?_map]
    by_cases hl : i < n
    · rw [List.getElem?_range hl]
      simp only [Option.map_some, ho i (fun q => hi q.symm)]
    · rw [List.getElem?_eq_none (by simpa using hl)]
      rfl
section MMH
variable {p : Program} {l : Launch} {e : Env} {R : Room} {s : State} {m : MethodId} {args : Array Value} {below : List Frame} {meth : Method} {c : Code} {H : Heap} {locs : List Loc} {Q : State → Prop}
variable {X : Nat × (Nat → Int)} {I : mm_I} {D : va_G} {cA : Nat → ClassId} {base b : Nat} {H00 : Heap} {pc len tgt : Nat} {L : mm_L} {st : List mm_V} {S : mm_S} {cu su : Nat} {ls : Array Slot} {C' : mm_C} {ex : List (Nat × Value)} {tl : List Value}
theorem mm_s_getfield {i : Nat} (hx : mm_Cx X I p R s m args meth c D cA base b H00) (hG : mm_G I s D cA base b H00 ex L st S cu su ls H locs) (hd : decode (mm_bytes I) pc = .ok (.getfield i, len)) (hf : mm_fine I (pc, .getfield i, len, tgt) = true) (hs : mm_step mt X I (.getfield i) len tgt (pc, L, st, S, cu, su) = some (.inl C')) (kk : mm_kk p l e R s m args below meth c Q I D cA base b H00 (mm_exi (.getfield i) ex) tl C') : W p l e R s m args below meth c H locs cu su Q (F0 m pc ls (st.map (mm_phi base b) ++ tl)) := by
  obtain rfl : len = 3 := eq_of_beq (show (len == 3) = true from hf)
  obtain ⟨hl, hst, hlr, hR, hn, hc, hsu⟩ := hG
  obtain ⟨hexec, hb, hml, hown, hts, hlk, hct, hroom, hWd⟩ := hx
  rcases st with _ | ⟨z | _ | a, r⟩ <;> try (cases (show (none : Option mm_O) = some (.inl C') from hs); done)
  have h0 := List.forall_mem_cons.mp hst
  dsimp only [mm_step] at hs
  cases hq : mm_ff (mt.2.1.getD (mm_own I) []) i with
  | none => rw [hq] at hs; cases hs
  | some q =>
    obtain ⟨ci, k, kd, fin, pl⟩ := q
    rw [hq] at hs
    dsimp only at hs
    cases hi : mm_isc S ci a with
    | false => rw [hi] at hs; cases hs
    | true =>
      rw [hi] at hs
      dsimp only [cond_true] at hs
      obtain ⟨n, hsh⟩ := mm_isc_at hi
      obtain ⟨C, T, N, hcl, hk, hlink, hfin, hC, hkd⟩ := mm_fld hq
      have hci : ci < 10 := by
        have := (List.getElem?_eq_some_iff.mp hcl).1
        have h9 : classes.length = 7 := rfl
        omega
      obtain ⟨C2, T2, hcl2⟩ := (hR.2.2.1 a ci n hsh).2.1 hci
      cases hcl.symm.trans hcl2
      obtain ⟨⟨ty0, hty, htk⟩, hnm, hin⟩ := mm_cl hcl
      have he : (mm_wld cA base S)[a]? = some (base + a, .inr (ci, (List.range n).map (mm_fv base S ci a))) := by
        rw [mm_wld_at hsh, mm_ent, if_pos hci]
      have hv : ((List.range n).map (mm_fv base S ci a))[k]? = some (mm_fv base S ci a k) := by simp [hk]
      refine va_get hexec hb hts hin hown hWd.1 hR.1 a he hcl k hk (hts _ hlink) (fun _ h => h) hv hd ?_
      have hrf := mm_isref_of hcl hkd
      by_cases h2 : kd = 2
      · rw [if_pos h2] at hs
        cases hr : S.2.2 a k with
        | none => rw [hr] at hs; cases hs
        | some x =>
          rw [hr] at hs
          cases (show (some (.inl (pc + 3, L, .inr (some x) :: r, S, cu, su)) : Option mm_O) = some (.inl C') from hs)
          have e1 : mm_fv base S ci a k = .ref (base + x) := by rw [mm_fv, if_pos (hrf.mpr h2), hr]; rfl
          rw [e1]
          exact kk ls H locs ⟨hl, mm_all_cons trivial h0.2, hlr, hR, hn, hc, hsu⟩
      · rw [if_neg h2] at hs
        cases (show (some (.inl (pc + 3, L, .inl (S.2.1 a k) :: r, S, cu, su)) : Option mm_O) = some (.inl C') from hs)
        have e1 : mm_fv base S ci a k = .int (Int32.ofInt (S.2.1 a k)) := by rw [mm_fv, if_neg (fun h => h2 (hrf.mp h))]
        rw [e1]
        exact kk ls H locs ⟨hl, mm_all_cons (hR.2.2.2.1 a k) h0.2, hlr, hR, hn, hc, hsu⟩
end MMH
end
section
-- STEPS that write cells, make them, copy them; switches
theorem mm_a_int : (Jvm.Cond.arrayClass .int) ∈ lw_u := mm_wd_in (p := 96) (by decide +kernel)
theorem mm_a_char : (Jvm.Cond.arrayClass .char) ∈ lw_u := mm_wd_in (p := 152) (by decide +kernel)
theorem mm_nld {o i ci : Nat} {ps : List Nat} (h : mm_fn (mt.2.2.2.getD o []) i = some (ci, ps)) : ∃ (C : String) (T : u_T) (N : Nat), classes[ci]? = some (C, T, N) ∧ (Jvm.Cond.classLink (mm_R o) i C) ∈ lw_u ∧ (Jvm.Cond.instantiable C N) ∈ lw_u ∧ (Jvm.Cond.initialized C) ∈ lw_u := by
  have hm := mm_fn_mem h
  have ho : o < 9 := mm_getD_mem hm
  have h1 := mt_okN
  unfold mm_okNL at h1
  have h2 := List.all_eq_true.mp (List.all_eq_true.mp h1 o (List.mem_range.mpr ho)) _ hm
  dsimp only at h2
  cases hc : classes[ci]? with
  | none => rw [hc] at h2; cases h2
  | some q =>
    obtain ⟨C, T, N⟩ := q
    rw [hc] at h2
    rcases ps with _ | ⟨p0, _ | ⟨p1, _ | ⟨p2, _ | ⟨p3, r⟩⟩⟩⟩ <;> try (cases h2; done)
    simp only [Bool.and_eq_true] at h2
    exact ⟨C, T, N, rfl, mm_wd_in h2.1.1, mm_wd_in h2.1.2, mm_wd_in h2.2⟩
theorem mm_ent_int {cA : Nat → ClassId} {base : Nat} {S : mm_S} {a kd n : Nat} (h1 : 10 ≤ kd) (h2 : kd ≠ 13) : mm_ent cA base S a (kd, n) = .inl (cA kd, n, .inl (fun j => Int32.ofInt (S.2.1 a j))) := by
  rw [mm_ent, if_neg (by show ¬ kd < 10; omega), if_neg (by show ¬ kd = 13; exact h2)]
theorem mm_ent_ref {cA : Nat → ClassId} {base : Nat} {S : mm_S} {a n : Nat} : mm_ent cA base S a (13, n) = .inl (cA 13, n, .inr (.inr (.inr (.inr (fun j => (S.2.2 a j).map (base + ·)))))) := by
  rw [mm_ent, if_neg (by show ¬ 13 < 10; omega), if_pos rfl]
theorem mm_ent_obj {cA : Nat → ClassId} {base : Nat} {S : mm_S} {a ci n : Nat} (h : ci < 10) : mm_ent cA base S a (ci, n) = .inr (ci, (List.range n).map (mm_fv base S ci a)) := by
  rw [mm_ent, if_pos h]
/-- the entries of other cells don't see a change of one -/
theorem mm_ent_off {cA : Nat → ClassId} {base : Nat} {S S' : mm_S} {k : Nat} {sh : Nat × Nat} (h1 : ∀ j, S'.2.1 k j = S.2.1 k j) (h2 : ∀ j, S'.2.2 k j = S.2.2 k j) : mm_ent cA base S' k sh = mm_ent cA base S k sh := by
  have e1 : mm_fv base S' sh.1 k = mm_fv base S sh.1 k := by
    funext j
    rw [mm_fv, mm_fv, h1, h2]
  rw [mm_ent, mm_ent, e1]
  simp only [h1, h2]
theorem mm_up_off {f : Nat → Nat → Int} {a k q j : Nat} {v : Int} (h : q ≠ a) : mm_up f a k v q j = f q j := by
  unfold mm_up
  rw [if_neg h]
theorem mm_upr_off {f : Nat → Nat → Option Nat} {a k q j : Nat} {v : Nat} (h : q ≠ a) : mm_upr f a k v q j = f q j := by
  unfold mm_upr
  rw [if_neg h]
theorem mm_upd_eq {mi : Nat → Nat → Int} {a : Nat} {i z : Int} (hi : mm_inr (.inl i)) : upd (fun j => Int32.ofInt (mi a j)) (Int32.ofInt i).toNatClampNeg (Int32.ofInt z) = fun j => Int32.ofInt (mm_up mi a i.toNat z a j) := by
  funext j
  unfold upd mm_up
  rw [mm_nat hi, if_pos rfl]
  by_cases hj : j = i.toNat
  · rw [if_pos hj, if_pos hj]
  · rw [if_neg hj, if_neg hj]
/-- behind a store of an int -/
theorem mm_Rel_up {D : va_G} {cA : Nat → ClassId} {base : Nat} {H00 : Heap} {S : mm_S} {H H1 : Heap} {locs locs1 : List Loc} {a k : Nat} {z : Int} {sh : Nat × Nat} {en : va_E} (hR : mm_Rel D cA base H00 S H locs) (hsh : S.1[a]? = some sh) (hz : mm_inr (.inl z)) (hP : va_P D classes ((mm_wld cA base S).set a (base + a, en)) H1) (hS : va_S (fun q : Nat => base ≤ q) H00 H1 locs1) (he : mm_ent cA base (S.1, mm_up S.2.1 a k z, S.2.2) a sh = en) : mm_Rel D cA base H00 (S.1, mm_up S.2.1 a k z, S.2.2) H1 locs1 := by
  refine ⟨?_, hS, hR.2.2.1, fun q j => ?_, fun q hq j => ?_⟩
  · rw [mm_wld_set (S' := (S.1, mm_up S.2.1 a k z, S.2.2)) hsh rfl he (fun q sh' hq => mm_ent_off (fun j => mm_up_off hq) (fun j => rfl))] at hP
    exact hP
  · show mm_inr (.inl (mm_up S.2.1 a k z q j))
    unfold mm_up
    split
    · split
      · exact hz
      · exact hR.2.2.2.1 q j
    · exact hR.2.2.2.1 q j
  · have hne : q ≠ a := by
      have := (List.getElem?_eq_some_iff.mp hsh).1
      have hq : S.1.length ≤ q := hq
      omega
    obtain ⟨h1, h2⟩ := hR.2.2.2.2 q hq j
    exact ⟨(mm_up_off hne).trans h1, h2⟩
theorem mm_Rel_upr {D : va_G} {cA : Nat → ClassId} {base : Nat} {H00 : Heap} {S : mm_S} {H H1 : Heap} {locs locs1 : List Loc} {a k z : Nat} {sh : Nat × Nat} {en : va_E} (hR : mm_Rel D cA base H00 S H locs) (hsh : S.1[a]? = some sh) (hP : va_P D classes ((mm_wld cA base S).set a (base + a, en)) H1) (hS : va_S (fun q : Nat => base ≤ q) H00 H1 locs1) (he : mm_ent cA base (S.1, S.2.1, mm_upr S.2.2 a k z) a sh = en) : mm_Rel D cA base H00 (S.1, S.2.1, mm_upr S.2.2 a k z) H1 locs1 := by
  refine ⟨?_, hS, hR.2.2.1, hR.2.2.2.1, fun q hq j => ?_⟩
  · rw [mm_wld_set (S' := (S.1, S.2.1, mm_upr S.2.2 a k z)) hsh rfl he (fun q sh' hq => mm_ent_off (fun j => rfl) (fun j => mm_upr_off hq))] at hP
    exact hP
  · have hne : q ≠ a := by
      have := (List.getElem?_eq_some_iff.mp hsh).1
      have hq : S.1.length ≤ q := hq
      omega
    obtain ⟨h1, h2⟩ := hR.2.2.2.2 q hq j
    exact ⟨h1, (mm_upr_off hne).trans h2⟩
theorem mm_fv_up {base : Nat} {S : mm_S} {ci a k : Nat} {z : Int} (hk : ¬ mm_isref ci k = true) : mm_fv base (S.1, mm_up S.2.1 a k z, S.2.2) ci a k = .int (Int32.ofInt z) := by
  rw [mm_fv, if_neg hk]
  simp [mm_up]
theorem mm_fv_upr {base : Nat} {S : mm_S} {ci a k z : Nat} (hk : mm_isref ci k = true) : mm_fv base (S.1, S.2.1, mm_upr S.2.2 a k z) ci a k = .ref (base + z) := by
  rw [mm_fv, if_pos hk]
  simp [mm_upr, va_rf]
theorem mm_fv_upo {base : Nat} {S : mm_S} {ci a k j : Nat} {z : Int} (hj : j ≠ k) : mm_fv base (S.1, mm_up S.2.1 a k z, S.2.2) ci a j = mm_fv base S ci a j := by
  rw [mm_fv, mm_fv]
  simp [mm_up, hj]
theorem mm_fv_upro {base : Nat} {S : mm_S} {ci a k j z : Nat} (hj : j ≠ k) : mm_fv base (S.1, S.2.1, mm_upr S.2.2 a k z) ci a j = mm_fv base S ci a j := by
  rw [mm_fv, mm_fv]
  simp [mm_upr, hj]
theorem mm_nar_bool {z : Int} (h : z = 0 ∨ z = 1) : narrow .boolean (.int (Int32.ofInt z)) = .int (Int32.ofInt z) ∧ fits .boolean (.int (Int32.ofInt z)) = true := by
  rcases h with rfl | rfl <;> exact ⟨rfl, rfl⟩
theorem mm_nar_ref {ty : FieldType} (h : mm_refty ty = true) (q : Nat) : narrow ty (.ref q) = .ref q ∧ fits ty (.ref q) = true := by
  cases ty <;> first | exact ⟨rfl, rfl⟩ | cases h
section MMH
variable {p : Program} {l : Launch} {e : Env} {R : Room} {s : State} {m : MethodId} {args : Array Value} {below : List Frame} {meth : Method} {c : Code} {H : Heap} {locs : List Loc} {Q : State → Prop}
variable {X : Nat × (Nat → Int)} {I : mm_I} {D : va_G} {cA : Nat → ClassId} {base b : Nat} {H00 : Heap} {pc len tgt : Nat} {L : mm_L} {st : List mm_V} {S : mm_S} {cu su : Nat} {ls : Array Slot} {C' : mm_C} {ex : List (Nat × Value)} {tl : List Value}
/-- a store into a field, final or not -/
theorem mm_put {i ci k kd pl a : Nat} {fin : Bool} {rest : List mm_V} {v : Value} (hx : mm_Cx X I p R s m args meth c D cA base b H00) (hR : mm_Rel D cA base H00 S H locs) (hd : decode (mm_bytes I) pc = .ok (.putfield i, 3))
    (hq : mm_ff (mt.2.1.getD (mm_own I) []) i = some (ci, k, kd, fin, pl)) (hi : mm_isc S ci a = true) (hfi : (!fin || (mm_ctor I && mm_own I == ci)) = true)
    (hfit : ∀ ty : FieldType, (kd = 0 ∧ ty = .int ∨ kd = 1 ∧ ty = .boolean ∨ kd = 2 ∧ mm_refty ty = true) → narrow ty v = v ∧ fits ty v = true)
    (kk : ∀ (n : Nat) (H1 : Heap) (locs1 : List Loc), S.1[a]? = some (ci, n) → (mm_isref ci k = true ↔ kd = 2) → ci < 10 → va_P D classes ((mm_wld cA base S).set a (base + a, .inr (ci, ((List.range n).map (mm_fv base S ci a)).set k v))) H1 → va_S (fun q : Nat => base ≤ q) H00 H1 locs1 → W p l e R s m args below meth c H1 locs1 cu su Q (F0 m (pc + 3) ls (rest.map (mm_phi base b) ++ tl))) :
    W p l e R s m args below meth c H locs cu su Q (F0 m pc ls (v :: .ref (base + a) :: (rest.map (mm_phi base b) ++ tl))) := by
  obtain ⟨hexec, hb, hml, hown, hts, hlk, hct, hroom, hWd⟩ := hx
  obtain ⟨n, hsh⟩ := mm_isc_at hi
  obtain ⟨C, T, N, hcl, hk, hlink, hfin, hC, hkd⟩ := mm_fld hq
  have hci : ci < 10 := by
    have := (List.getElem?_eq_some_iff.mp hcl).1
    have h9 : classes.length = 7 := rfl
    omega
  obtain ⟨C2, T2, hcl2⟩ := (hR.2.2.1 a ci n hsh).2.1 hci
  cases hcl.symm.trans hcl2
  obtain ⟨⟨ty0, hty, htk⟩, hnm, hin⟩ := mm_cl hcl
  have he : (mm_wld cA base S)[a]? = some (base + a, .inr (ci, (List.range n).map (mm_fv base S ci a))) := by
    rw [mm_wld_at hsh, mm_ent, if_pos hci]
  have hnf := hfit (ty0 k) (by
    rcases hkd with ⟨h1, h2⟩ | ⟨h1, h2⟩ | ⟨h1, h2⟩
    · rcases htk k hk with ⟨g1, g2⟩ | ⟨g1, g2⟩ | ⟨g1, g2⟩
      · exact Or.inl ⟨h2, g2⟩
      · rw [h1] at g1; exact absurd g1 (by decide)
      · exact absurd h1 g1.1
    · rcases htk k hk with ⟨g1, g2⟩ | ⟨g1, g2⟩ | ⟨g1, g2⟩
      · rw [h1] at g1; exact absurd g1 (by decide)
      · exact Or.inr (Or.inl ⟨h2, g2⟩)
      · exact absurd h1 g1.2
    · rcases htk k hk with ⟨g1, g2⟩ | ⟨g1, g2⟩ | ⟨g1, g2⟩
      · exact absurd g1 h1.1
      · exact absurd g1 h1.2
      · exact Or.inr (Or.inr ⟨h2, g2⟩))
  have hle : k < ((List.range n).map (mm_fv base S ci a)).length := by simp [hk]
  have hrf := mm_isref_of hcl hkd
  cases hfb : fin with
  | false =>
    exact va_put hexec hb hts hin ty0 hty hnm hown hWd.1 hR.1 mm_wld_D hR.2.1 a he hcl k hk (hts _ hlink) (fun _ h => h) (by rw [hfin, hfb]) (hty k hk) hnf.1 hnf.2 hle hd (fun H1 locs1 hP1 _ hS1 => kk n H1 locs1 hsh hrf hci hP1 hS1)
  | true =>
    rw [hfb] at hfi
    simp only [Bool.not_true, Bool.false_or, Bool.and_eq_true, beq_iff_eq] at hfi
    have hown2 : (T k).1 = mm_R (mm_own I) := by
      rw [hC, hfi.2]
      rcases ci with _ | _ | _ | _ | _ | _ | _ | ci
      · cases hcl; rfl
      · cases hcl; rfl
      · cases hcl; rfl
      · cases hcl; rfl
      · cases hcl; rfl
      · cases hcl; rfl
      · cases hcl; rfl
      · exact absurd hcl (by simp [classes])
    exact va_putF hexec hb hts hin ty0 hty hnm hown hWd.1 hR.1 mm_wld_D hR.2.1 a he hcl k hk (hts _ hlink) (fun _ h => h) (by rw [hfin, hfb]) (hct hfi.1) hown2 (hty k hk) hnf.1 hnf.2 hle hd (fun H1 locs1 hP1 _ hS1 => kk n H1 locs1 hsh hrf hci hP1 hS1)
theorem mm_s_putfield {i : Nat} (hx : mm_Cx X I p R s m args meth c D cA base b H00) (hG : mm_G I s D cA base b H00 ex L st S cu su ls H locs) (hd : decode (mm_bytes I) pc = .ok (.putfield i, len)) (hf : mm_fine I (pc, .putfield i, len, tgt) = true) (hs : mm_step mt X I (.putfield i) len tgt (pc, L, st, S, cu, su) = some (.inl C')) (kk : mm_kk p l e R s m args below meth c Q I D cA base b H00 (mm_exi (.putfield i) ex) tl C') : W p l e R s m args below meth c H locs cu su Q (F0 m pc ls (st.map (mm_phi base b) ++ tl)) := by
  obtain rfl : len = 3 := eq_of_beq (show (len == 3) = true from hf)
  obtain ⟨hl, hst, hlr, hR, hn, hc, hsu⟩ := hG
  rcases st with _ | ⟨z | _ | x2, _ | ⟨z2 | _ | a, r⟩⟩ <;> try (cases (show (none : Option mm_O) = some (.inl C') from hs); done)
  · have h0 := List.forall_mem_cons.mp hst
    have h1 := List.forall_mem_cons.mp h0.2
    dsimp only [mm_step] at hs
    cases hq : mm_ff (mt.2.1.getD (mm_own I) []) i with
    | none => rw [hq] at hs; cases hs
    | some q =>
      obtain ⟨ci, k, kd, fin, pl⟩ := q
      rw [hq] at hs
      dsimp only at hs
      cases hi : (mm_isc S ci a && (!fin || (mm_ctor I && mm_own I == ci))) with
      | false => rw [hi] at hs; cases hs
      | true =>
        rw [hi] at hs
        dsimp only [cond_true] at hs
        rw [Bool.and_eq_true] at hi
        by_cases h2 : kd = 2
        · rw [if_pos h2] at hs; cases hs
        · rw [if_neg h2] at hs
          by_cases h3 : kd = 0 ∨ z = 0 ∨ z = 1
          · rw [if_pos h3] at hs
            cases (show (some (.inl (pc + 3, L, r, (S.1, mm_up S.2.1 a k z, S.2.2), cu, su)) : Option mm_O) = some (.inl C') from hs)
            refine mm_put (v := .int (Int32.ofInt z)) hx hR hd hq hi.1 hi.2 (fun ty hty => ?_) (fun n H1 locs1 hsh hrf hci hP1 hS1 => ?_)
            · rcases hty with ⟨_, rfl⟩ | ⟨g1, rfl⟩ | ⟨g1, _⟩
              · exact ⟨rfl, rfl⟩
              · exact mm_nar_bool (h3.resolve_left (by omega))
              · exact absurd g1 h2
            · refine kk ls H1 locs1 ⟨hl, h1.2, hlr, mm_Rel_up hR hsh h0.1 hP1 hS1 ?_, hn, hc, hsu⟩
              rw [mm_ent_obj hci, ← mm_map_set (mm_fv_up (fun h => h2 (hrf.mp h))) (fun j hj => mm_fv_upo hj)]
          · rw [if_neg h3] at hs; cases hs
  · have h0 := List.forall_mem_cons.mp hst
    have h1 := List.forall_mem_cons.mp h0.2
    dsimp only [mm_step] at hs
    cases hq : mm_ff (mt.2.1.getD (mm_own I) []) i with
    | none => rw [hq] at hs; cases hs
    | some q =>
      obtain ⟨ci, k, kd, fin, pl⟩ := q
      rw [hq] at hs
      dsimp only at hs
      cases hi : (mm_isc S ci a && (!fin || (mm_ctor I && mm_own I == ci))) with
      | false => rw [hi] at hs; cases hs
      | true =>
        rw [hi] at hs
        dsimp only [cond_true] at hs
        rw [Bool.and_eq_true] at hi
        by_cases h2 : kd = 2
        · rw [if_pos h2] at hs
          cases (show (some (.inl (pc + 3, L, r, (S.1, S.2.1, mm_upr S.2.2 a k x2), cu, su)) : Option mm_O) = some (.inl C') from hs)
          refine mm_put (v := .ref (base + x2)) hx hR hd hq hi.1 hi.2 (fun ty hty => ?_) (fun n H1 locs1 hsh hrf hci hP1 hS1 => ?_)
          · rcases hty with ⟨g1, _⟩ | ⟨g1, _⟩ | ⟨_, g1⟩
            · omega
            · omega
            · exact mm_nar_ref g1 _
          · refine kk ls H1 locs1 ⟨hl, h1.2, hlr, mm_Rel_upr hR hsh hP1 hS1 ?_, hn, hc, hsu⟩
            rw [mm_ent_obj hci, ← mm_map_set (mm_fv_upr (hrf.mpr h2)) (fun j hj => mm_fv_upro hj)]
        · rw [if_neg h2] at hs; cases hs
end MMH
end
section
-- ARRAYS, new cells, copies, switches
section MMH
variable {p : Program} {l : Launch} {e : Env} {R : Room} {s : State} {m : MethodId} {args : Array Value} {below : List Frame} {meth : Method} {c : Code} {H : Heap} {locs : List Loc} {Q : State → Prop}
variable {X : Nat × (Nat → Int)} {I : mm_I} {D : va_G} {cA : Nat → ClassId} {base b : Nat} {H00 : Heap} {pc len tgt : Nat} {L : mm_L} {st : List mm_V} {S : mm_S} {cu su : Nat} {ls : Array Slot} {C' : mm_C} {ex : List (Nat × Value)} {tl : List Value}
theorem mm_s_iaload (hx : mm_Cx X I p R s m args meth c D cA base b H00) (hG : mm_G I s D cA base b H00 ex L st S cu su ls H locs) (hd : decode (mm_bytes I) pc = .ok (.iaload, len)) (hf : mm_fine I (pc, .iaload, len, tgt) = true) (hs : mm_step mt X I (.iaload) len tgt (pc, L, st, S, cu, su) = some (.inl C')) (kk : mm_kk p l e R s m args below meth c Q I D cA base b H00 (mm_exi (.iaload) ex) tl C') : W p l e R s m args below meth c H locs cu su Q (F0 m pc ls (st.map (mm_phi base b) ++ tl)) := by
  obtain rfl : len = 1 := eq_of_beq (show (len == 1) = true from hf)
  obtain ⟨hl, hst, hlr, hR, hn, hc, hsu⟩ := hG
  obtain ⟨hexec, hb, hml, hown, hts, hlk, hct, hroom, hWd⟩ := hx
  rcases st with _ | ⟨i | a2, _ | ⟨z2 | _ | a, r⟩⟩ <;> try (cases (show (none : Option mm_O) = some (.inl C') from hs); done)
  · have h0 := List.forall_mem_cons.mp hst
    have h1 := List.forall_mem_cons.mp h0.2
    have hs : (if 0 ≤ i ∧ i < X.1 then (some (.inl (pc + 1, L, .inl (X.2 i.toNat) :: r, S, cu, su)) : Option mm_O) else none) = some (.inl C') := hs
    by_cases hi : 0 ≤ i ∧ i < X.1
    · rw [if_pos hi] at hs
      cases hs
      obtain ⟨-, -, -, ⟨xs, hX, hXs⟩, hbl, hbs, hXl⟩ := hWd
      have hk := kk ls H locs ⟨hl, mm_all_cons (by rw [hXs]; exact ⟨by have := Int32.le_toInt (xs i.toNat); dsimp only; omega, by have := Int32.toInt_lt (xs i.toNat); dsimp only; omega⟩) h1.2, hlr, hR, hn, hc, hsu⟩
      refine va_sld hexec hb hX (by rw [hbs]; exact hbl) (Nat.not_le.mpr hbl) hR.2.1 (mm_vin h0.1 hi.1 hi.2) hd ?_
      have e1 : Int32.ofInt (X.2 i.toNat) = xs (Int32.ofInt i).toNatClampNeg := by rw [hXs, mm_nat h0.1]; exact Int32.ofInt_toInt _
      rw [← e1]
      exact hk
    · rw [if_neg hi] at hs
      cases hs
  · have h0 := List.forall_mem_cons.mp hst
    have h1 := List.forall_mem_cons.mp h0.2
    have hs : (if mm_el S 10 a i = true then (some (.inl (pc + 1, L, .inl (S.2.1 a i.toNat) :: r, S, cu, su)) : Option mm_O) else none) = some (.inl C') := hs
    by_cases hi : mm_el S 10 a i = true
    · rw [if_pos hi] at hs
      cases hs
      obtain ⟨n, hsh, h3, h4⟩ := mm_el_at hi
      have hk := kk ls H locs ⟨hl, mm_all_cons (hR.2.2.2.1 a i.toNat) h1.2, hlr, hR, hn, hc, hsu⟩
      refine va_iald hexec hb hWd.1 hR.1 a 0 (by rw [mm_wld_at hsh, mm_ent_int (by omega) (by omega)]) rfl (mm_vin h0.1 h3 h4) hd ?_
      rw [mm_nat h0.1]
      exact hk
    · rw [if_neg hi] at hs
      cases hs
theorem mm_s_caload (hx : mm_Cx X I p R s m args meth c D cA base b H00) (hG : mm_G I s D cA base b H00 ex L st S cu su ls H locs) (hd : decode (mm_bytes I) pc = .ok (.caload, len)) (hf : mm_fine I (pc, .caload, len, tgt) = true) (hs : mm_step mt X I (.caload) len tgt (pc, L, st, S, cu, su) = some (.inl C')) (kk : mm_kk p l e R s m args below meth c Q I D cA base b H00 (mm_exi (.caload) ex) tl C') : W p l e R s m args below meth c H locs cu su Q (F0 m pc ls (st.map (mm_phi base b) ++ tl)) := by
  obtain rfl : len = 1 := eq_of_beq (show (len == 1) = true from hf)
  obtain ⟨hl, hst, hlr, hR, hn, hc, hsu⟩ := hG
  obtain ⟨hexec, hb, hml, hown, hts, hlk, hct, hroom, hWd⟩ := hx
  rcases st with _ | ⟨i | a2, _ | ⟨z2 | _ | a, r⟩⟩ <;> try (cases (show (none : Option mm_O) = some (.inl C') from hs); done)
  have h0 := List.forall_mem_cons.mp hst
  have h1 := List.forall_mem_cons.mp h0.2
  have hs : (if mm_el S 12 a i = true then (some (.inl (pc + 1, L, .inl (S.2.1 a i.toNat) :: r, S, cu, su)) : Option mm_O) else none) = some (.inl C') := hs
  by_cases hi : mm_el S 12 a i = true
  · rw [if_pos hi] at hs
    cases hs
    obtain ⟨n, hsh, h3, h4⟩ := mm_el_at hi
    have hk := kk ls H locs ⟨hl, mm_all_cons (hR.2.2.2.1 a i.toNat) h1.2, hlr, hR, hn, hc, hsu⟩
    refine va_cald hexec hb hWd.1 hR.1 a 2 (by rw [mm_wld_at hsh, mm_ent_int (by omega) (by omega)]) rfl (mm_vin h0.1 h3 h4) hd ?_
    rw [mm_nat h0.1]
    exact hk
  · rw [if_neg hi] at hs
    cases hs
theorem mm_s_aaload (hx : mm_Cx X I p R s m args meth c D cA base b H00) (hG : mm_G I s D cA base b H00 ex L st S cu su ls H locs) (hd : decode (mm_bytes I) pc = .ok (.aaload, len)) (hf : mm_fine I (pc, .aaload, len, tgt) = true) (hs : mm_step mt X I (.aaload) len tgt (pc, L, st, S, cu, su) = some (.inl C')) (kk : mm_kk p l e R s m args below meth c Q I D cA base b H00 (mm_exi (.aaload) ex) tl C') : W p l e R s m args below meth c H locs cu su Q (F0 m pc ls (st.map (mm_phi base b) ++ tl)) := by
  obtain rfl : len = 1 := eq_of_beq (show (len == 1) = true from hf)
  obtain ⟨hl, hst, hlr, hR, hn, hc, hsu⟩ := hG
  obtain ⟨hexec, hb, hml, hown, hts, hlk, hct, hroom, hWd⟩ := hx
  rcases st with _ | ⟨i | a2, _ | ⟨z2 | _ | a, r⟩⟩ <;> try (cases (show (none : Option mm_O) = some (.inl C') from hs); done)
  have h0 := List.forall_mem_cons.mp hst
  have h1 := List.forall_mem_cons.mp h0.2
  dsimp only [mm_step] at hs
  by_cases hi : mm_el S 13 a i = true
  · rw [if_pos hi] at hs
    obtain ⟨n, hsh, h3, h4⟩ := mm_el_at hi
    cases hr : S.2.2 a i.toNat with
    | none => rw [hr] at hs; cases hs
    | some x2 =>
      rw [hr] at hs
      cases (show (some (.inl (pc + 1, L, .inr (some x2) :: r, S, cu, su)) : Option mm_O) = some (.inl C') from hs)
      have hk := kk ls H locs ⟨hl, mm_all_cons trivial h1.2, hlr, hR, hn, hc, hsu⟩
      refine va_aldq hexec hb hWd.1 hR.1 a 3 (by rw [mm_wld_at hsh, mm_ent_ref]) rfl (mm_vin h0.1 h3 h4) hd ?_
      rw [mm_nat h0.1, hr]
      exact hk
  · rw [if_neg hi] at hs
    cases hs
theorem mm_s_iastore (hx : mm_Cx X I p R s m args meth c D cA base b H00) (hG : mm_G I s D cA base b H00 ex L st S cu su ls H locs) (hd : decode (mm_bytes I) pc = .ok (.iastore, len)) (hf : mm_fine I (pc, .iastore, len, tgt) = true) (hs : mm_step mt X I (.iastore) len tgt (pc, L, st, S, cu, su) = some (.inl C')) (kk : mm_kk p l e R s m args below meth c Q I D cA base b H00 (mm_exi (.iastore) ex) tl C') : W p l e R s m args below meth c H locs cu su Q (F0 m pc ls (st.map (mm_phi base b) ++ tl)) := by
  obtain rfl : len = 1 := eq_of_beq (show (len == 1) = true from hf)
  obtain ⟨hl, hst, hlr, hR, hn, hc, hsu⟩ := hG
  obtain ⟨hexec, hb, hml, hown, hts, hlk, hct, hroom, hWd⟩ := hx
  rcases st with _ | ⟨z | a3, _ | ⟨i | a2, _ | ⟨z2 | _ | a, r⟩⟩⟩ <;> try (cases (show (none : Option mm_O) = some (.inl C') from hs); done)
  have h0 := List.forall_mem_cons.mp hst
  have h1 := List.forall_mem_cons.mp h0.2
  have h2 := List.forall_mem_cons.mp h1.2
  have hs : (if mm_el S 10 a i = true then (some (.inl (pc + 1, L, r, (S.1, mm_up S.2.1 a i.toNat z, S.2.2), cu, su)) : Option mm_O) else none) = some (.inl C') := hs
  by_cases hi : mm_el S 10 a i = true
  · rw [if_pos hi] at hs
    cases hs
    obtain ⟨n, hsh, h3, h4⟩ := mm_el_at hi
    refine va_iast hexec hb hWd.1 hR.1 mm_wld_D hR.2.1 a 0 (by rw [mm_wld_at hsh, mm_ent_int (by omega) (by omega)]) rfl (mm_vin h1.1 h3 h4) hd (fun H1 locs1 hP1 _ hS1 => ?_)
    rw [mm_upd_eq h1.1] at hP1
    exact kk ls H1 locs1 ⟨hl, h2.2, hlr, mm_Rel_up hR hsh h0.1 hP1 hS1 (mm_ent_int (by omega) (by omega)), hn, hc, hsu⟩
  · rw [if_neg hi] at hs
    cases hs
theorem mm_s_castore (hx : mm_Cx X I p R s m args meth c D cA base b H00) (hG : mm_G I s D cA base b H00 ex L st S cu su ls H locs) (hd : decode (mm_bytes I) pc = .ok (.castore, len)) (hf : mm_fine I (pc, .castore, len, tgt) = true) (hs : mm_step mt X I (.castore) len tgt (pc, L, st, S, cu, su) = some (.inl C')) (kk : mm_kk p l e R s m args below meth c Q I D cA base b H00 (mm_exi (.castore) ex) tl C') : W p l e R s m args below meth c H locs cu su Q (F0 m pc ls (st.map (mm_phi base b) ++ tl)) := by
  obtain rfl : len = 1 := eq_of_beq (show (len == 1) = true from hf)
  obtain ⟨hl, hst, hlr, hR, hn, hc, hsu⟩ := hG
  obtain ⟨hexec, hb, hml, hown, hts, hlk, hct, hroom, hWd⟩ := hx
  rcases st with _ | ⟨z | a3, _ | ⟨i | a2, _ | ⟨z2 | _ | a, r⟩⟩⟩ <;> try (cases (show (none : Option mm_O) = some (.inl C') from hs); done)
  have h0 := List.forall_mem_cons.mp hst
  have h1 := List.forall_mem_cons.mp h0.2
  have h2 := List.forall_mem_cons.mp h1.2
  have hs : (if mm_el S 12 a i = true ∧ 0 ≤ z ∧ z < 65536 then (some (.inl (pc + 1, L, r, (S.1, mm_up S.2.1 a i.toNat z, S.2.2), cu, su)) : Option mm_O) else none) = some (.inl C') := hs
  by_cases hi : mm_el S 12 a i = true ∧ 0 ≤ z ∧ z < 65536
  · rw [if_pos hi] at hs
    cases hs
    obtain ⟨n, hsh, h3, h4⟩ := mm_el_at hi.1
    have hz : vp_nar .char (Int32.ofInt z) = Int32.ofInt z := by
      show (Int32.ofInt z).toUInt32.toUInt16.toUInt32.toInt32 = _
      exact lg_i2c_small (by rw [mm_toInt h0.1]; exact hi.2.1) (by rw [mm_toInt h0.1]; exact hi.2.2)
    refine va_cast hexec hb hWd.1 hR.1 mm_wld_D hR.2.1 a 2 (by rw [mm_wld_at hsh, mm_ent_int (by omega) (by omega)]) rfl (mm_vin h1.1 h3 h4) hd (fun H1 locs1 hP1 _ hS1 => ?_)
    rw [hz, mm_upd_eq h1.1] at hP1
    exact kk ls H1 locs1 ⟨hl, h2.2, hlr, mm_Rel_up hR hsh h0.1 hP1 hS1 (mm_ent_int (by omega) (by omega)), hn, hc, hsu⟩
  · rw [if_neg hi] at hs
    cases hs
theorem mm_s_aastore (hx : mm_Cx X I p R s m args meth c D cA base b H00) (hG : mm_G I s D cA base b H00 ex L st S cu su ls H locs) (hd : decode (mm_bytes I) pc = .ok (.aastore, len)) (hf : mm_fine I (pc, .aastore, len, tgt) = true) (hs : mm_step mt X I (.aastore) len tgt (pc, L, st, S, cu, su) = some (.inl C')) (kk : mm_kk p l e R s m args below meth c Q I D cA base b H00 (mm_exi (.aastore) ex) tl C') : W p l e R s m args below meth c H locs cu su Q (F0 m pc ls (st.map (mm_phi base b) ++ tl)) := by
  obtain rfl : len = 1 := eq_of_beq (show (len == 1) = true from hf)
  obtain ⟨hl, hst, hlr, hR, hn, hc, hsu⟩ := hG
  obtain ⟨hexec, hb, hml, hown, hts, hlk, hct, hroom, hWd⟩ := hx
  rcases st with _ | ⟨z | _ | x2, _ | ⟨i | a2, _ | ⟨z2 | _ | a, r⟩⟩⟩ <;> try (cases (show (none : Option mm_O) = some (.inl C') from hs); done)
  have h0 := List.forall_mem_cons.mp hst
  have h1 := List.forall_mem_cons.mp h0.2
  have h2 := List.forall_mem_cons.mp h1.2
  have hs : (if mm_el S 13 a i = true ∧ mm_isc S 4 x2 = true then (some (.inl (pc + 1, L, r, (S.1, S.2.1, mm_upr S.2.2 a i.toNat x2), cu, su)) : Option mm_O) else none) = some (.inl C') := hs
  by_cases hi : mm_el S 13 a i = true ∧ mm_isc S 4 x2 = true
  · rw [if_pos hi] at hs
    cases hs
    obtain ⟨n, hsh, h3, h4⟩ := mm_el_at hi.1
    obtain ⟨n2, hsh2⟩ := mm_isc_at hi.2
    refine va_astq (r := (RX4, TX4, 13)) hexec hb hWd.1 hR.1 mm_wld_D hR.2.1 a 3 x2 4 (by rw [mm_wld_at hsh, mm_ent_ref]) rfl (by rw [mm_wld_at hsh2, mm_ent_obj (by omega)]) rfl (mm_vin h1.1 h3 h4) hd (fun H1 locs1 hP1 _ hS1 => ?_)
    refine kk ls H1 locs1 ⟨hl, h2.2, hlr, mm_Rel_upr (k := i.toNat) (z := x2) hR hsh hP1 hS1 ?_, hn, hc, hsu⟩
    rw [mm_ent_ref]
    have e1 : (fun j => (mm_upr S.2.2 a i.toNat x2 a j).map (base + ·)) = va_up (fun j => (S.2.2 a j).map (base + ·)) (Int32.ofInt i).toNatClampNeg (some (base + x2)) := by
      funext j
      unfold va_up mm_upr
      rw [mm_nat h1.1, if_pos rfl]
      by_cases hj : j = i.toNat
      · rw [if_pos hj, if_pos hj]; rfl
      · rw [if_neg hj, if_neg hj]
    dsimp only
    rw [e1]
  · rw [if_neg hi] at hs
    cases hs
theorem mm_s_arraylength (hx : mm_Cx X I p R s m args meth c D cA base b H00) (hG : mm_G I s D cA base b H00 ex L st S cu su ls H locs) (hd : decode (mm_bytes I) pc = .ok (.arraylength, len)) (hf : mm_fine I (pc, .arraylength, len, tgt) = true) (hs : mm_step mt X I (.arraylength) len tgt (pc, L, st, S, cu, su) = some (.inl C')) (kk : mm_kk p l e R s m args below meth c Q I D cA base b H00 (mm_exi (.arraylength) ex) tl C') : W p l e R s m args below meth c H locs cu su Q (F0 m pc ls (st.map (mm_phi base b) ++ tl)) := by
  obtain rfl : len = 1 := eq_of_beq (show (len == 1) = true from hf)
  obtain ⟨hl, hst, hlr, hR, hn, hc, hsu⟩ := hG
  obtain ⟨hexec, hb, hml, hown, hts, hlk, hct, hroom, hWd⟩ := hx
  rcases st with _ | ⟨z | _ | a, r⟩ <;> try (cases (show (none : Option mm_O) = some (.inl C') from hs); done)
  · have h0 := List.forall_mem_cons.mp hst
    cases (show (some (.inl (pc + 1, L, .inl (X.1 : Int) :: r, S, cu, su)) : Option mm_O) = some (.inl C') from hs)
    obtain ⟨-, -, -, ⟨xs, hX, hXs⟩, hbl, hbs, hXl⟩ := hWd
    have hk := kk ls H locs ⟨hl, mm_all_cons ⟨by omega, by omega⟩ h0.2, hlr, hR, hn, hc, hsu⟩
    refine va_slen hexec hb hX (by rw [hbs]; exact hbl) (Nat.not_le.mpr hbl) hR.2.1 hd ?_
    rw [← Int32.ofInt_eq_ofNat]
    exact hk
  · have h0 := List.forall_mem_cons.mp hst
    dsimp only [mm_step] at hs
    cases hsh : S.1[a]? with
    | none => rw [hsh] at hs; cases hs
    | some q =>
      obtain ⟨kd, n⟩ := q
      rw [hsh] at hs
      dsimp only at hs
      cases h10 : Nat.ble 10 kd with
      | false => rw [h10] at hs; cases hs
      | true =>
        rw [h10] at hs
        cases (show (some (.inl (pc + 1, L, .inl (n : Int) :: r, S, cu, su)) : Option mm_O) = some (.inl C') from hs)
        have h10 := Nat.le_of_ble_eq_true h10
        obtain ⟨hn1, -, hk3⟩ := hR.2.2.1 a kd n hsh
        have h13 := hk3 h10
        have hk := kk ls H locs ⟨hl, mm_all_cons ⟨by omega, by omega⟩ h0.2, hlr, hR, hn, hc, hsu⟩
        have hv : Int32.ofNat n = Int32.ofInt (n : Int) := Int32.ofInt_eq_ofNat.symm
        rcases (show kd = 10 ∨ kd = 11 ∨ kd = 12 ∨ kd = 13 by omega) with rfl | rfl | rfl | rfl
        · exact va_alen hexec hb hWd.1 hR.1 a 0 (by rw [mm_wld_at hsh, mm_ent_int (by omega) (by omega)]) rfl hv hd hk
        · exact va_alen hexec hb hWd.1 hR.1 a 1 (by rw [mm_wld_at hsh, mm_ent_int (by omega) (by omega)]) rfl hv hd hk
        · exact va_alen hexec hb hWd.1 hR.1 a 2 (by rw [mm_wld_at hsh, mm_ent_int (by omega) (by omega)]) rfl hv hd hk
        · exact va_alen hexec hb hWd.1 hR.1 a 3 (by rw [mm_wld_at hsh, mm_ent_ref]) rfl hv hd hk
end MMH
end
section
-- NEW cells, copies, constructors of Object, switches
/-- the new cell lies behind the others -/
theorem mm_addr {D : va_G} {cA : Nat → ClassId} {base : Nat} {S : mm_S} {q : Nat} {en : va_E} {H1 : Heap} {k : Nat} (hP : va_P D classes (mm_wld cA base S ++ [(q, en)]) H1) (hD : va_D (fun q : Nat => base ≤ q) (mm_wld cA base S ++ [(q, en)])) (hz : H1.size ≤ k + 1) (hk : base + S.1.length = k) : q = base + S.1.length := by
  have hlen : (mm_wld cA base S).length = S.1.length := by rw [mm_wld, List.length_mapIdx]
  have hl : (mm_wld cA base S ++ [(q, en)])[S.1.length]? = some (q, en) := by
    rw [List.getElem?_append_right (by omega), hlen, Nat.sub_self]
    rfl
  have h1 : q < H1.size := (hP _ _ hl).lt
  have h2 : base ≤ q := hD.2 _ _ hl
  rcases Nat.lt_or_ge (q - base) S.1.length with h3 | h3
  · exfalso
    obtain ⟨sh, hsh⟩ : ∃ sh, S.1[q - base]? = some sh := ⟨_, List.getElem?_eq_getElem h3⟩
    have h4 : (mm_wld cA base S ++ [(q, en)])[q - base]? = some (base + (q - base), mm_ent cA base S (q - base) sh) := by
      rw [List.getElem?_append_left (by omega)]
      exact mm_wld_at hsh
    have h5 := hD.1 _ _ _ _ h4 hl (by show base + (q - base) = q; omega)
    omega
  · omega
theorem mm_Rel_new {D : va_G} {cA : Nat → ClassId} {base : Nat} {H00 : Heap} {S : mm_S} {H H1 : Heap} {locs : List Loc} {kd n : Nat} (hR : mm_Rel D cA base H00 S H locs) (hsh : n ≤ 10000 ∧ (kd < 10 → ∃ (C : String) (T : u_T), classes[kd]? = some (C, T, n)) ∧ (10 ≤ kd → kd ≤ 13))
    (hP : va_P D classes (mm_wld cA base S ++ [(base + S.1.length, mm_ent cA base S S.1.length (kd, n))]) H1) (hS : va_S (fun q : Nat => base ≤ q) H00 H1 locs) : mm_Rel D cA base H00 (S.1 ++ [(kd, n)], S.2.1, S.2.2) H1 locs := by
  refine ⟨by rw [mm_wld_push]; exact hP, hS, fun a kd' n' h => ?_, hR.2.2.2.1, fun a ha => hR.2.2.2.2 a ?_⟩
  · have h : (S.1 ++ [(kd, n)])[a]? = some (kd', n') := h
    rcases Nat.lt_or_ge a S.1.length with hl | hl
    · rw [List.getElem?_append_left hl] at h
      exact hR.2.2.1 a kd' n' h
    · rw [List.getElem?_append_right hl] at h
      have h2 : a - S.1.length < 1 := (List.getElem?_eq_some_iff.mp h).1
      rw [show a - S.1.length = 0 by omega] at h
      cases h
      exact hsh
  · have ha : (S.1 ++ [(kd, n)]).length ≤ a := ha
    rw [List.length_append] at ha
    omega
theorem mm_cat_sum {base b : Nat} (st : List mm_V) : ((st.map (mm_phi base b)).map fun v => v.category).sum = st.length := by
  induction st with
  | nil => rfl
  | cons v r ih =>
    simp only [List.map_cons, List.sum_cons, mm_phi_cat, ih, List.length_cons]
    omega
section MMN
variable {p : Program} {l : Launch} {e : Env} {R : Room} {s : State} {m : MethodId} {args : Array Value} {below : List Frame} {meth : Method} {c : Code} {H : Heap} {locs : List Loc} {Q : State → Prop}
variable {X : Nat × (Nat → Int)} {I : mm_I} {D : va_G} {cA : Nat → ClassId} {base b : Nat} {H00 : Heap} {pc len tgt : Nat} {L : mm_L} {st : List mm_V} {S : mm_S} {cu su : Nat} {ls : Array Slot} {C' : mm_C} {ex : List (Nat × Value)} {tl : List Value}
theorem mm_bs (hx : mm_Wd X D cA base b H00 s) : ∀ q, H00.size ≤ q → (fun q : Nat => base ≤ q) q := fun q h => by
  show base ≤ q
  have := hx.2.2.2.2.2.1
  omega
theorem mm_s_new {i : Nat} (hx : mm_Cx X I p R s m args meth c D cA base b H00) (hG : mm_G I s D cA base b H00 ex L st S cu su ls H locs) (hd : decode (mm_bytes I) pc = .ok (.new i, len)) (hf : mm_fine I (pc, .new i, len, tgt) = true) (hs : mm_step mt X I (.new i) len tgt (pc, L, st, S, cu, su) = some (.inl C')) (kk : mm_kk p l e R s m args below meth c Q I D cA base b H00 (mm_exi (.new i) ex) tl C') : W p l e R s m args below meth c H locs cu su Q (F0 m pc ls (st.map (mm_phi base b) ++ tl)) := by
  obtain rfl : len = 3 := eq_of_beq (show (len == 3) = true from hf)
  obtain ⟨hl, hst, hlr, hR, hn, hc, hsu⟩ := hG
  obtain ⟨hexec, hb, hml, hown, hts, hlk, hct, hroom, hWd⟩ := hx
  dsimp only [mm_step] at hs
  cases hq : mm_fn (mt.2.2.2.getD (mm_own I) []) i with
  | none => rw [hq] at hs; cases hs
  | some q =>
    obtain ⟨ci, ps⟩ := q
    rw [hq] at hs
    dsimp only at hs
    obtain ⟨C, T, N, hcl, h1, h2, h3⟩ := mm_nld hq
    rw [hcl] at hs
    dsimp only at hs
    by_cases hr : cu + 1 ≤ mm_mc I ∧ su + N ≤ mm_ms I
    · rw [if_pos hr] at hs
      cases (show (some (.inl (pc + 3, L, .inr (some S.1.length) :: st, (S.1 ++ [(ci, N)], S.2.1, S.2.2), cu + 1, su + N)) : Option mm_O) = some (.inl C') from hs)
      obtain ⟨⟨ty0, hty, htk⟩, hnm, hin⟩ := mm_cl hcl
      have hci : ci < 10 := by
        have := (List.getElem?_eq_some_iff.mp hcl).1
        have h9 : classes.length = 7 := rfl
        omega
      have hN : N ≤ 10000 := by
        rcases ci with _ | _ | _ | _ | _ | _ | _ | ci
        · cases hcl; decide
        · cases hcl; decide
        · cases hcl; decide
        · cases hcl; decide
        · cases hcl; decide
        · cases hcl; decide
        · cases hcl; decide
        · exact absurd hcl (by simp [classes])
      refine va_new (fs := (List.range N).map (mm_fv base S ci S.1.length)) hexec hb hts hin ty0 hty hown (hts _ h1) (hts _ h2) (hts _ h3) hWd.1 hR.1 mm_wld_D hR.2.1 (mm_bs hWd) hcl (fun j hj => ?_) (by have := hroom.2.2.1; omega) (by have := hroom.2.2.2; omega) hd (fun q1 H1 hP1 hD1 hS1 => W.sizeLe fun hsz => ?_)
      · have hz := hR.2.2.2.2 S.1.length (Nat.le_refl _) j
        have e1 : vp_V ((List.range N).map (mm_fv base S ci S.1.length)) j = mm_fv base S ci S.1.length j := by
          simp [vp_V, List.getD_eq_getElem?_getD, hj]
        rw [e1, mm_fv, hz.1, hz.2]
        rcases htk j hj with ⟨g1, g2⟩ | ⟨g1, g2⟩ | ⟨g1, g2⟩
        · rw [if_neg (by unfold mm_isref; rw [hcl]; simp [g1]), g2]; rfl
        · rw [if_neg (by unfold mm_isref; rw [hcl]; simp [g1]), g2]; rfl
        · rw [if_pos (by unfold mm_isref; rw [hcl]; simp [g1])]
          cases hty2 : ty0 j <;> rw [hty2] at g2 <;> first | rfl | cases g2
      · have e1 := mm_addr hP1 hD1 (k := s.heap.size + cu) (by omega) hn
        subst e1
        rw [← mm_ent_obj hci] at hP1
        exact kk ls H1 locs ⟨hl, mm_all_cons trivial hst, hlr, mm_Rel_new hR ⟨hN, fun _ => ⟨C, T, hcl⟩, fun h => by omega⟩ hP1 hS1, by
          show base + (S.1 ++ [(ci, N)]).length = _
          rw [List.length_append]
          show base + (S.1.length + 1) = s.heap.size + (cu + 1)
          omega, hr.1, hr.2⟩
    · rw [if_neg hr] at hs; cases hs
/-- an array's class is known by its name -/
theorem mm_tyu {ty : FieldType} {cN : ClassId} {k : Nat} {q : ClassId} (hW : va_K D classes (mm_tys cA) s) (hk : (mm_tys cA)[k]? = some (q, ty)) (h : va_K D classes (mm_tys cA ++ [(cN, ty)]) s) : cN = q := by
  have h1 := (hW.2 k _ hk).2
  have h2 := (h.2 4 (cN, ty) rfl).2
  cases ty with
  | object C =>
    obtain ⟨kA, comp, -, -, -, g1⟩ := h1
    obtain ⟨kA2, comp2, -, -, -, g2⟩ := h2
    exact Option.some.inj (g2.symm.trans g1)
  | _ => exact Option.some.inj ((show s.vm.findClass _ = some cN from h2).symm.trans (show s.vm.findClass _ = some q from h1))
theorem mm_newarr {t : ArrayType} {kd tk : Nat} {ty : FieldType} {n : Int} {r : List mm_V} (hx : mm_Cx X I p R s m args meth c D cA base b H00) (hG : mm_G I s D cA base b H00 ex L (.inl n :: r) S cu su ls H locs) (hd : decode (mm_bytes I) pc = .ok (.newarray t, 2)) (hty : newarray.typeOf t = ty) (harr : (Jvm.Cond.arrayClass ty) ∈ lw_u) (hdf : defaultValue ty = .int 0) (hcb : componentBytes ty ≤ 8) (hkd : 10 ≤ kd ∧ kd < 13) (htk : (mm_tys cA)[tk]? = some (cA kd, ty)) (hr : 0 ≤ n ∧ n ≤ 10000 ∧ cu + 1 ≤ mm_mc I ∧ su + n.toNat ≤ mm_ms I) (kk : mm_kk p l e R s m args below meth c Q I D cA base b H00 ex tl (pc + 2, L, .inr (some S.1.length) :: r, (S.1 ++ [(kd, n.toNat)], S.2.1, S.2.2), cu + 1, su + n.toNat)) : W p l e R s m args below meth c H locs cu su Q (F0 m pc ls ((.inl n :: r).map (mm_phi base b) ++ tl)) := by
  obtain ⟨hl, hst, hlr, hR, hn, hc, hsu⟩ := hG
  obtain ⟨hexec, hb, hml, hown, hts, hlk, hct, hroom, hWd⟩ := hx
  have h0 := List.forall_mem_cons.mp hst
  have hnn : (Int32.ofInt n).toNatClampNeg = n.toNat := mm_nat h0.1
  have hbyt : n.toNat * componentBytes ty ≤ 536870912 := by
    have h1 : n.toNat * componentBytes ty ≤ 10000 * 8 := Nat.mul_le_mul (by omega) hcb
    omega
  refine va_newa (a0 := (n.toNat, .inl (fun j => Int32.ofInt (S.2.1 S.1.length j)))) hexec hb (by rw [hty]; exact hts _ harr) hty hWd.1 hR.1 mm_wld_D hR.2.1 (mm_bs hWd) (fun cQ => ?_) (fun q => by have := (mm_lt h0.1 mm_in0).mp q; omega) hnn hbyt (by have := hroom.2.2.1; omega) (by have := hroom.2.2.2; omega) hd (fun q1 cN H1 hK1 hP1 hD1 hS1 => W.sizeLe fun hsz => ?_)
  · rw [vp_cell_i, hdf]
    congr 1
    funext j
    rw [(hR.2.2.2.2 S.1.length (Nat.le_refl _) j).1]
    rfl
  · have e1 := mm_addr hP1 hD1 (k := s.heap.size + cu) (by omega) hn
    subst e1
    have e2 := mm_tyu hWd.1 htk hK1
    subst e2
    rw [← mm_ent_int (kd := kd) (by omega) (by omega)] at hP1
    exact kk ls H1 locs ⟨hl, mm_all_cons trivial h0.2, hlr, mm_Rel_new hR ⟨by omega, fun h => by omega, fun _ => by omega⟩ hP1 hS1, by
      show base + (S.1 ++ [(kd, n.toNat)]).length = _
      rw [List.length_append]
      show base + (S.1.length + 1) = s.heap.size + (cu + 1)
      omega, hr.2.2.1, hr.2.2.2⟩
theorem mm_s_newarray {t : ArrayType} (hx : mm_Cx X I p R s m args meth c D cA base b H00) (hG : mm_G I s D cA base b H00 ex L st S cu su ls H locs) (hd : decode (mm_bytes I) pc = .ok (.newarray t, len)) (hf : mm_fine I (pc, .newarray t, len, tgt) = true) (hs : mm_step mt X I (.newarray t) len tgt (pc, L, st, S, cu, su) = some (.inl C')) (kk : mm_kk p l e R s m args below meth c Q I D cA base b H00 (mm_exi (.newarray t) ex) tl C') : W p l e R s m args below meth c H locs cu su Q (F0 m pc ls (st.map (mm_phi base b) ++ tl)) := by
  obtain rfl : len = 2 := eq_of_beq (show (len == 2) = true from hf)
  rcases st with _ | ⟨n | a, r⟩ <;> try (cases (show (none : Option mm_O) = some (.inl C') from hs); done)
  dsimp only [mm_step] at hs
  by_cases hr : 0 ≤ n ∧ n ≤ 10000 ∧ cu + 1 ≤ mm_mc I ∧ su + n.toNat ≤ mm_ms I
  · rw [if_pos hr] at hs
    cases t with
    | int =>
      cases (show (some (.inl (pc + 2, L, .inr (some S.1.length) :: r, (S.1 ++ [(10, n.toNat)], S.2.1, S.2.2), cu + 1, su + n.toNat)) : Option mm_O) = some (.inl C') from hs)
      exact mm_newarr (tk := 0) hx hG hd rfl mm_a_int rfl (by decide) (by omega) rfl hr kk
    | char =>
      cases (show (some (.inl (pc + 2, L, .inr (some S.1.length) :: r, (S.1 ++ [(12, n.toNat)], S.2.1, S.2.2), cu + 1, su + n.toNat)) : Option mm_O) = some (.inl C') from hs)
      exact mm_newarr (tk := 2) hx hG hd rfl mm_a_char rfl (by decide) (by omega) rfl hr kk
    | _ => cases hs
  · rw [if_neg hr] at hs; cases hs
theorem mm_s_anewarray {i : Nat} (hx : mm_Cx X I p R s m args meth c D cA base b H00) (hG : mm_G I s D cA base b H00 ex L st S cu su ls H locs) (hd : decode (mm_bytes I) pc = .ok (.anewarray i, len)) (hf : mm_fine I (pc, .anewarray i, len, tgt) = true) (hs : mm_step mt X I (.anewarray i) len tgt (pc, L, st, S, cu, su) = some (.inl C')) (kk : mm_kk p l e R s m args below meth c Q I D cA base b H00 (mm_exi (.anewarray i) ex) tl C') : W p l e R s m args below meth c H locs cu su Q (F0 m pc ls (st.map (mm_phi base b) ++ tl)) := by
  obtain rfl : len = 3 := eq_of_beq (show (len == 3) = true from hf)
  obtain ⟨hl, hst, hlr, hR, hn, hc, hsu⟩ := hG
  obtain ⟨hexec, hb, hml, hown, hts, hlk, hct, hroom, hWd⟩ := hx
  rcases st with _ | ⟨n | a, r⟩ <;> try (cases (show (none : Option mm_O) = some (.inl C') from hs); done)
  have h0 := List.forall_mem_cons.mp hst
  dsimp only [mm_step] at hs
  cases hq : mm_fn (mt.2.2.2.getD (mm_own I) []) i with
  | none => rw [hq] at hs; cases hs
  | some q =>
    obtain ⟨ci, ps⟩ := q
    rw [hq] at hs
    dsimp only at hs
    by_cases hr : ci = 4 ∧ 0 ≤ n ∧ n ≤ 10000 ∧ cu + 1 ≤ mm_mc I ∧ su + n.toNat ≤ mm_ms I
    · rw [if_pos hr] at hs
      cases (show (some (.inl (pc + 3, L, .inr (some S.1.length) :: r, (S.1 ++ [(13, n.toNat)], S.2.1, S.2.2), cu + 1, su + n.toNat)) : Option mm_O) = some (.inl C') from hs)
      obtain ⟨C, T, N, hcl, h1, h2, h3⟩ := mm_nld hq
      rw [hr.1] at hcl
      cases hcl
      refine va_newq (C := RX4) hexec hb hown (hts _ h1) hWd.2.1 hWd.1 hR.1 mm_wld_D hR.2.1 (mm_bs hWd) (fun q => by have := (mm_lt h0.1 mm_in0).mp q; omega) (mm_nat h0.1) (by omega) (by have := hroom.2.2.1; omega) (by have := hroom.2.2.2; omega) hd (fun q1 cN H1 hK1 hP1 hD1 hS1 => W.sizeLe fun hsz => ?_)
      have e1 := mm_addr hP1 hD1 (k := s.heap.size + cu) (by omega) hn
      subst e1
      have e2 := mm_tyu (k := 3) hWd.1 rfl hK1
      subst e2
      have e3 : mm_ent cA base S S.1.length (13, n.toNat) = .inl (cA 13, n.toNat, .inr (.inr (.inr (.inr (fun _ => none))))) := by
        rw [mm_ent_ref]
        have e4 : (fun j => (S.2.2 S.1.length j).map (base + ·)) = fun _ => none := by
          funext j
          rw [(hR.2.2.2.2 S.1.length (Nat.le_refl _) j).2]
          rfl
        rw [e4]
      rw [← e3] at hP1
      exact kk ls H1 locs ⟨hl, mm_all_cons trivial h0.2, hlr, mm_Rel_new hR ⟨by omega, fun h => by omega, fun _ => by omega⟩ hP1 hS1, by
        show base + (S.1 ++ [(13, n.toNat)]).length = _
        rw [List.length_append]
        show base + (S.1.length + 1) = s.heap.size + (cu + 1)
        omega, hr.2.2.2.1, hr.2.2.2.2⟩
    · rw [if_neg hr] at hs; cases hs
theorem mm_mld {o i kd k : Nat} {ps : List Nat} (h : mm_fm (mt.2.2.1.getD o []) i = some (kd, k, ps)) : mm_okML1 o (i, kd, k, ps) = true := by
  have hm := mm_fm_mem h
  have ho : o < 9 := mm_getD_mem hm
  have h1 := mt_okM
  unfold mm_okML at h1
  exact List.all_eq_true.mp (List.all_eq_true.mp h1 o (List.mem_range.mpr ho)) _ hm
theorem mm_s_arraycopy {i k : Nat} {ps : List Nat} {n dp sp : Int} {d a n0 n1 : Nat} {r : List mm_V} (hx : mm_Cx X I p R s m args meth c D cA base b H00) (hG : mm_G I s D cA base b H00 ex L (.inl n :: .inl dp :: .inr (some d) :: .inl sp :: .inr (some a) :: r) S cu su ls H locs) (hd : decode (mm_bytes I) pc = .ok (.invokestatic i, 3)) (hq : mm_fm (mt.2.2.1.getD (mm_own I) []) i = some (5, k, ps)) (hfr : 1 ≤ mm_rf I ∧ 26 ≤ mm_rl I)
    (ha : S.1[a]? = some (10, n0)) (hdd : S.1[d]? = some (10, n1)) (hr : r.length ≤ 8 ∧ 0 ≤ sp ∧ 0 ≤ dp ∧ 0 ≤ n ∧ sp.toNat + n.toNat ≤ n0 ∧ dp.toNat + n.toNat ≤ n1)
    (kk : mm_kk p l e R s m args below meth c Q I D cA base b H00 ex [] (pc + 3, L, r, (S.1, mm_cpy S.2.1 a sp.toNat d dp.toNat n.toNat, S.2.2), cu, su)) : W p l e R s m args below meth c H locs cu su Q (F0 m pc ls ((.inl n :: .inl dp :: .inr (some d) :: .inl sp :: .inr (some a) :: r).map (mm_phi base b) ++ [])) := by
  obtain ⟨hl, hst, hlr, hR, hn, hc, hsu⟩ := hG
  obtain ⟨hexec, hb, hml, hown, hts, hlk, hct, hroom, hWd⟩ := hx
  have h0 := List.forall_mem_cons.mp hst
  have h1 := List.forall_mem_cons.mp h0.2
  have h2 := List.forall_mem_cons.mp h1.2
  have h3 := List.forall_mem_cons.mp h2.2
  have h4 := List.forall_mem_cons.mp h3.2
  have hw := mm_mld hq
  rcases ps with _ | ⟨p0, _ | ⟨p1, _ | ⟨p2, _ | ⟨p3, _ | ⟨p4, ps⟩⟩⟩⟩⟩
  case cons.cons.cons.cons.nil =>
    simp only [mm_okML1, Bool.and_eq_true] at hw
    obtain ⟨⟨⟨w0, w1⟩, w2⟩, w3⟩ := hw
    have nneg : ∀ z : Int, mm_inr (.inl z) → 0 ≤ z → ¬ Int32.ofInt z < 0 := fun z hz hz0 q => by
      have := (mm_lt hz mm_in0).mp q
      omega
    refine va_copyi (ty := .int) hexec hb (by rw [hml]; exact hl.2.1.symm) hown (hts _ (mm_wd_in w0)) (hts _ (mm_wd_in w1)) (hts _ (mm_wd_in w2)) (hts _ (mm_wd_in w3)) hWd.1 hR.1 mm_wld_D hR.2.1 a d 0 0 (by rw [mm_wld_at ha, mm_ent_int (by omega) (by omega)]) (by rw [mm_wld_at hdd, mm_ent_int (by omega) (by omega)]) rfl rfl rfl (nneg sp h3.1 hr.2.1) (nneg dp h1.1 hr.2.2.1) (nneg n h0.1 hr.2.2.2.1) (by rw [mm_nat h3.1, mm_nat h0.1]; exact hr.2.2.2.2.1) (by rw [mm_nat h1.1, mm_nat h0.1]; exact hr.2.2.2.2.2) (fun _ _ => rfl) (by have := hroom.1; omega) ?_ hd (fun H1 locs1 hP1 _ hS1 => ?_)
    · rw [show (r.map (mm_phi base b)).append [] = r.map (mm_phi base b) from List.append_nil _, mm_cat_sum]
      have e1 : nativeFrameWords "java/lang/System" "arraycopy" 5 = 7 := by decide +kernel
      rw [e1]
      have := hroom.2.1
      omega
    · refine kk ls H1 locs1 ⟨hl, h4.2, hlr, ⟨?_, hS1, hR.2.2.1, fun q j => ?_, fun q hq j => ?_⟩, hn, hc, hsu⟩
      · rw [mm_wld_set (S' := (S.1, mm_cpy S.2.1 a sp.toNat d dp.toNat n.toNat, S.2.2)) hdd rfl ?_ (fun q sh' hq => mm_ent_off (fun j => ?_) (fun j => rfl))] at hP1
        · exact hP1
        · rw [mm_ent_int (by omega) (by omega), mm_nat h0.1, mm_nat h1.1, mm_nat h3.1]
          congr 4
          funext j
          unfold va_cpy mm_cpy
          dsimp only
          rw [if_pos rfl]
          by_cases hj : dp.toNat ≤ j ∧ j < dp.toNat + n.toNat
          · rw [if_pos hj, if_pos hj]
          · rw [if_neg hj, if_neg hj]
        · show mm_cpy S.2.1 a sp.toNat d dp.toNat n.toNat q j = S.2.1 q j
          unfold mm_cpy
          rw [if_neg hq]
      · show mm_inr (.inl (mm_cpy S.2.1 a sp.toNat d dp.toNat n.toNat q j))
        unfold mm_cpy
        split
        · split
          · exact hR.2.2.2.1 _ _
          · exact hR.2.2.2.1 _ _
        · exact hR.2.2.2.1 _ _
      · obtain ⟨g1, g2⟩ := hR.2.2.2.2 q hq j
        refine ⟨?_, g2⟩
        show mm_cpy S.2.1 a sp.toNat d dp.toNat n.toNat q j = 0
        unfold mm_cpy
        rw [if_neg]
        · exact g1
        · intro hqd
          have := (List.getElem?_eq_some_iff.mp hdd).1
          have hq : S.1.length ≤ q := hq
          omega
  all_goals exact absurd hw (by simp only [mm_okML1]; cases mt_ents[k]? <;> simp)
theorem mm_s_objinit {i k a : Nat} {ps : List Nat} {r : List mm_V} (hx : mm_Cx X I p R s m args meth c D cA base b H00) (hG : mm_G I s D cA base b H00 ex L (.inr (some a) :: r) S cu su ls H locs) (hd : decode (mm_bytes I) pc = .ok (.invokespecial i, 3)) (hq : mm_fm (mt.2.2.1.getD (mm_own I) []) i = some (4, k, ps)) (hfr : 1 ≤ mm_rf I ∧ 20 ≤ mm_rl I) (hr : r.length ≤ 8)
    (kk : mm_kk p l e R s m args below meth c Q I D cA base b H00 ex [] (pc + 3, L, r, S, cu, su)) : W p l e R s m args below meth c H locs cu su Q (F0 m pc ls ((.inr (some a) :: r).map (mm_phi base b) ++ [])) := by
  obtain ⟨hl, hst, hlr, hR, hn, hc, hsu⟩ := hG
  obtain ⟨hexec, hb, hml, hown, hts, hlk, hct, hroom, hWd⟩ := hx
  have h0 := List.forall_mem_cons.mp hst
  have hw := mm_mld hq
  rcases ps with _ | ⟨p0, _ | ⟨p1, _ | ⟨p2, _ | ⟨p3, ps⟩⟩⟩⟩
  case cons.cons.cons.nil =>
    simp only [mm_okML1, Bool.and_eq_true] at hw
    obtain ⟨⟨w0, w1⟩, w2⟩ := hw
    refine W.objInit hexec hb hown (hts _ (mm_wd_in w0)) (hts _ (mm_wd_in w1)) (hts _ (mm_wd_in w2)) rfl (by rw [hml]; exact hl.2.1) (rest := r.map (mm_phi base b) ++ []) rfl hd (by have := hroom.1; omega) ?_ (kk ls H locs ⟨hl, h0.2, hlr, hR, hn, hc, hsu⟩)
    rw [List.append_nil (r.map (mm_phi base b)), mm_cat_sum]
    show 2 * 0 + r.length + 12 ≤ R.locals
    have := hroom.2.1
    omega
  all_goals exact absurd hw (by simp only [mm_okML1]; cases mt_ents[k]? <;> simp)
theorem mm_s_tableswitch {dd lo hi : Int} {os : Array Int} (hx : mm_Cx X I p R s m args meth c D cA base b H00) (hG : mm_G I s D cA base b H00 ex L st S cu su ls H locs) (hd : decode (mm_bytes I) pc = .ok (.tableswitch dd lo hi os, len)) (hf : mm_fine I (pc, .tableswitch dd lo hi os, len, tgt) = true) (hs : mm_step mt X I (.tableswitch dd lo hi os) len tgt (pc, L, st, S, cu, su) = some (.inl C')) (kk : mm_kk p l e R s m args below meth c Q I D cA base b H00 (mm_exi (.tableswitch dd lo hi os) ex) tl C') : W p l e R s m args below meth c H locs cu su Q (F0 m pc ls (st.map (mm_phi base b) ++ tl)) := by
  simp only [mm_fine, Bool.and_eq_true, decide_eq_true_eq, List.all_eq_true] at hf
  obtain ⟨hl, hst, hlr, hR, hn, hc, hsu⟩ := hG
  rcases st with _ | ⟨z | a, r⟩ <;> try (cases (show (none : Option mm_O) = some (.inl C') from hs); done)
  have h0 := List.forall_mem_cons.mp hst
  dsimp only [mm_step] at hs
  have hz : (Int32.ofInt z).toInt = z := mm_toInt h0.1
  by_cases hr : z < lo ∨ hi < z
  · rw [if_pos hr] at hs
    cases (show (some (.inl (((pc : Int) + dd).toNat, L, r, S, cu, su)) : Option mm_O) = some (.inl C') from hs)
    exact lv_tableOut hx.1 hx.2.1 hd (by rw [hz]; exact hr) (by omega) (kk ls H locs ⟨hl, h0.2, hlr, hR, hn, hc, hsu⟩)
  · rw [if_neg hr] at hs
    cases ho : os[(z - lo).toNat]? with
    | none => rw [ho] at hs; cases hs
    | some o =>
      rw [ho] at hs
      cases (show (some (.inl (((pc : Int) + o).toNat, L, r, S, cu, su)) : Option mm_O) = some (.inl C') from hs)
      have hmem : o ∈ os.toList := by
        rw [← Array.getElem?_toList] at ho
        exact List.mem_of_getElem? ho
      have := hf.2 o hmem
      exact lv_tableIn hx.1 hx.2.1 hd (by rw [hz]; omega) (by rw [hz]; omega) (by rw [hz]; exact ho) (by omega) (kk ls H locs ⟨hl, h0.2, hlr, hR, hn, hc, hsu⟩)
theorem mm_off_in (ps : List (Int × Int)) (dd x : Int) : Op.lookupswitch.offset ps dd x = dd ∨ ∃ q ∈ ps, Op.lookupswitch.offset ps dd x = q.2 := by
  induction ps with
  | nil => exact Or.inl rfl
  | cons q r ih =>
    obtain ⟨a, o⟩ := q
    rw [Op.lookupswitch.offset_cons]
    split
    · exact Or.inr ⟨_, List.mem_cons_self, rfl⟩
    · rcases ih with h | ⟨q, h1, h2⟩
      · exact Or.inl h
      · exact Or.inr ⟨q, List.mem_cons_of_mem _ h1, h2⟩
theorem mm_s_lookupswitch {dd : Int} {ps : Array (Int × Int)} (hx : mm_Cx X I p R s m args meth c D cA base b H00) (hG : mm_G I s D cA base b H00 ex L st S cu su ls H locs) (hd : decode (mm_bytes I) pc = .ok (.lookupswitch dd ps, len)) (hf : mm_fine I (pc, .lookupswitch dd ps, len, tgt) = true) (hs : mm_step mt X I (.lookupswitch dd ps) len tgt (pc, L, st, S, cu, su) = some (.inl C')) (kk : mm_kk p l e R s m args below meth c Q I D cA base b H00 (mm_exi (.lookupswitch dd ps) ex) tl C') : W p l e R s m args below meth c H locs cu su Q (F0 m pc ls (st.map (mm_phi base b) ++ tl)) := by
  simp only [mm_fine, Bool.and_eq_true, decide_eq_true_eq] at hf
  obtain ⟨⟨hf1, hf2⟩, hf3⟩ := hf
  rw [List.all_eq_true] at hf2
  obtain ⟨hl, hst, hlr, hR, hn, hc, hsu⟩ := hG
  rcases st with _ | ⟨z | a, r⟩ <;> try (cases (show (none : Option mm_O) = some (.inl C') from hs); done)
  have h0 := List.forall_mem_cons.mp hst
  have hz : (Int32.ofInt z).toInt = z := mm_toInt h0.1
  cases (show (some (.inl (((pc : Int) + Op.lookupswitch.offset ps.toList dd z).toNat, L, r, S, cu, su)) : Option mm_O) = some (.inl C') from hs)
  have hge : 0 ≤ (pc : Int) + Op.lookupswitch.offset ps.toList dd z := by
    rcases mm_off_in ps.toList dd z with h | ⟨q, h1, h2⟩
    · rw [h]; exact hf1
    · rw [h2]
      have := hf2 q h1
      simpa using this
  exact lv_lookup hx.1 hx.2.1 hd hf3 (by rw [hz]) (by omega) (kk ls H locs ⟨hl, h0.2, hlr, hR, hn, hc, hsu⟩)
end MMN
end
section
-- THE SIMULATION: a run of the small machine is one of the machine
theorem mm_lk_mem {l : List (Nat × Instr × Nat × Nat)} {pc : Nat} {x : Instr × Nat × Nat} (h : mm_lk l pc = some x) : (pc, x) ∈ l := by
  induction l with
  | nil => cases h
  | cons q r ih =>
    unfold mm_lk at h
    cases hq : (q.1 == pc) with
    | true =>
      rw [hq] at h
      have h2 : q.2 = x := Option.some.inj h
      have h3 : q.1 = pc := eq_of_beq hq
      rw [← h2, ← h3]
      exact List.mem_cons_self
    | false =>
      rw [hq] at h
      exact List.mem_cons_of_mem _ (ih h)
theorem mm_getD_in {α : Type} {l : List (List α)} {o : Nat} {x : α} (h : x ∈ l.getD o []) : l.getD o [] ∈ l := by
  have ho := mm_getD_mem h
  rw [List.getD_eq_getElem?_getD, List.getElem?_eq_getElem ho]
  exact List.getElem_mem ho
/-- all rows of all methods are checked -/
def mm_okAll : Prop := ∀ e ∈ mt_ents, ∃ p, mm_okE e p = true
/-- what a checked method's row says -/
theorem mm_row {e0 : mm_I × mm_K} {k pc len tgt : Nat} {ins : Instr} (hok : mm_okAll) (he : mt_ents[k]? = some e0) (h : mm_at e0.2 pc = some (ins, len, tgt)) : decode (mm_bytes e0.1) pc = .ok (ins, len) ∧ mm_fine e0.1 (pc, ins, len, tgt) = true := by
  obtain ⟨pl, hp⟩ := hok e0 (List.mem_of_getElem? he)
  unfold mm_okE at hp
  rw [Bool.and_eq_true] at hp
  have hm := mm_lk_mem h
  have h1 := List.all_eq_true.mp (List.all_eq_true.mp hp.1 _ (mm_getD_in hm)) _ hm
  rw [Bool.and_eq_true, decide_eq_true_eq] at h1
  exact h1
theorem mm_hd {e0 : mm_I × mm_K} {k : Nat} (hok : mm_okAll) (he : mt_ents[k]? = some e0) : ((.code (mm_y e0.1) (mm_bytes e0.1) (mm_maxL e0.1) (mm_ret e0.1)) ∈ lw_u) ∧ plainName (mm_y e0.1).cls = true ∧ (mm_y e0.1).cls = mm_R (mm_own e0.1) ∧ ((mm_y e0.1).cls ≠ "java/lang/invoke/MethodHandle" ∧ (mm_y e0.1).cls ≠ "java/lang/invoke/VarHandle") ∧ (mm_ctor e0.1 = true → (mm_y e0.1).name = "<init>") ∧ (mm_ret e0.1 = none ∨ mm_ret e0.1 = some .int ∨ (mm_ret e0.1 = some .boolean ∧ mm_bool e0.1 = true)) ∧ mm_nargs e0.1 ≤ mm_maxL e0.1 := by
  obtain ⟨pl, hp⟩ := hok e0 (List.mem_of_getElem? he)
  unfold mm_okE mm_okH at hp
  simp only [Bool.and_eq_true, Bool.or_eq_true, beq_iff_eq, decide_eq_true_eq] at hp
  obtain ⟨-, ⟨⟨⟨⟨⟨⟨⟨h1, h2⟩, h3⟩, h4⟩, h5⟩, h6⟩, h7⟩, h8⟩⟩ := hp
  exact ⟨mm_wd_in h1, h2, h3, h4, h5, h7, Nat.le_of_ble_eq_true h8⟩
theorem mm_gi {wl : List Jvm.Cond} (h : ∀ w ∈ wl, w ∈ lw_u) : GoodIn lw_u wl := fun w hw => ⟨h w hw, (lw_u_goodIn w (h w hw)).2⟩
theorem mm_ini {o : Nat} (h : o < 9) : (.initialized (mm_R o)) ∈ lw_u := by
  rcases (show o = 0 ∨ o = 1 ∨ o = 2 ∨ o = 3 ∨ o = 4 ∨ o = 5 ∨ o = 6 ∨ o = 7 ∨ o = 8 by omega) with rfl | rfl | rfl | rfl | rfl | rfl | rfl | rfl | rfl
  · exact mm_wd_in (p := 22) (by decide +kernel)
  · exact mm_wd_in (p := 21) (by decide +kernel)
  · exact mm_wd_in (p := 19) (by decide +kernel)
  · exact mm_wd_in (p := 20) (by decide +kernel)
  · exact mm_wd_in (p := 18) (by decide +kernel)
  · exact mm_wd_in (p := 17) (by decide +kernel)
  · exact mm_wd_in (p := 17) (by decide +kernel)
  · exact mm_wd_in (p := 16) (by decide +kernel)
  · exact mm_wd_in (p := 24) (by decide +kernel)
theorem mm_clsR {o : Nat} (h : o < 7) : ∃ (T : u_T) (N : Nat), classes[o]? = some (mm_R o, T, N) := by
  rcases (show o = 0 ∨ o = 1 ∨ o = 2 ∨ o = 3 ∨ o = 4 ∨ o = 5 ∨ o = 6 by omega) with rfl | rfl | rfl | rfl | rfl | rfl | rfl <;> exact ⟨_, _, rfl⟩
theorem mm_Rel.off {D : va_G} {cA : Nat → ClassId} {base : Nat} {H00 : Heap} {S : mm_S} {H : Heap} {locs locs1 : List Loc} (h : mm_Rel D cA base H00 S H locs) (hl : ∀ q ∈ locs1, base ≤ q.base) : mm_Rel D cA base H00 S H locs1 := ⟨h.1, ⟨h.2.1.1, h.2.1.2.1, hl⟩, h.2.2⟩
/-- the heap ends behind the last object -/
theorem mm_size {D : va_G} {cA : Nat → ClassId} {base k : Nat} {H00 : Heap} {S : mm_S} {H : Heap} {locs : List Loc} (h : mm_Rel D cA base H00 S H locs) (hb : H00.size = base) (hz : H.size ≤ k) (hk : base + S.1.length = k) : base + S.1.length = H.size := by
  rcases Nat.eq_zero_or_pos S.1.length with h0 | h0
  · have := h.2.1.1
    omega
  · obtain ⟨sh, hsh⟩ : ∃ sh, S.1[S.1.length - 1]? = some sh := ⟨_, List.getElem?_eq_getElem (by omega)⟩
    have h1 := (h.1 _ _ (mm_wld_at (cA := cA) (base := base) hsh)).lt
    have h1 : base + (S.1.length - 1) < H.size := h1
    omega
theorem mm_lv_args {base b : Nat} (as : List mm_V) : ∀ (k i : Nat) (v : mm_V), as[i]? = some v → (k + i, mm_phi base b v) ∈ lv_args k (as.map (mm_phi base b)) := by
  induction as with
  | nil => intro k i v h; simp at h
  | cons a r ih =>
    intro k i v h
    rw [List.map_cons, lv_args, mm_phi_cat, if_neg (by decide)]
    cases i with
    | zero =>
      rw [List.getElem?_cons_zero] at h
      cases h
      exact List.mem_cons_self
    | succ i =>
      rw [List.getElem?_cons_succ] at h
      have := ih (k + 1) i v h
      rw [show k + 1 + i = k + (i + 1) by omega] at this
      exact List.mem_cons_of_mem _ this
theorem mm_entry_ld {I : mm_I} {as : List mm_V} {i : Nat} {v : mm_V} (h : mm_ld (mm_entry I as) i = some v) : as[i]? = some v := by
  unfold mm_ld mm_entry at h
  rcases Nat.lt_or_ge i as.length with hl | hl
  · rw [List.getElem?_append_left (by simpa using hl), List.getElem?_map] at h
    cases ha : as[i]? with
    | none => rw [ha] at h; cases h
    | some w => rw [ha] at h; cases h; rfl
  · rw [List.getElem?_append_right (by simpa using hl), List.getElem?_replicate] at h
    split at h
    · rename_i hq
      split at hq
      · cases hq; cases h
      · cases hq
    · cases h
theorem mm_lg_len {base b : Nat} (as : List mm_V) : (lg_sl (as.map (mm_phi base b))).length = as.length := by
  induction as with
  | nil => rfl
  | cons a r ih =>
    have e1 : lg_sl ((a :: r).map (mm_phi base b)) = .val (mm_phi base b a) :: lg_sl (r.map (mm_phi base b)) := by
      simp [lg_sl, mm_phi_cat]
    rw [e1, List.length_cons, ih, List.length_cons]
theorem mm_callG {p : Program} {l : Launch} {e : Env} {R : Room} {s : State} {m : MethodId} {args : Array Value} {below : List Frame} {meth : Method} {c : Code} {H : Heap} {locs : List Loc} {cells slots mc ms : Nat} {Q : State → Prop} {g : JFrame} {rest : List Value} {Qa : State → Outcome → State → Prop} {free : Addr → Prop}
    (hr : va_Run p l e R s m args below meth c H locs cells slots mc ms g rest Qa free)
    (kk : ∀ (v : Option Value) (st0 t : State) (locs1 : List Loc), st0.heap = H → Qa st0 (.returned v) t → (∀ q ∈ locs1, q ∈ locs ∨ free q.base) → W p l e R s m args below meth c t.heap locs1 (cells + mc) (slots + ms) Q { g with pc := g.pc + 3, stack := v.toList ++ rest }) : W p l e R s m args below meth c H locs cells slots Q g := by
  intro T hT X
  obtain ⟨v, st0, t, T', L, h0, X', hL, e1, e2, hq, st⟩ := hr T hT X
  obtain ⟨t2, a1, b1⟩ := kk v st0 t (locs ++ L) h0 hq (fun q hq => (List.mem_append.mp hq).imp id (hL q)) T' e1 X'
  exact ⟨t2, st t2 a1, b1⟩
/-- a callee's start and end -/
def mm_Pc (X : Nat × (Nat → Int)) (D : va_G) (cA : Nat → ClassId) (base b : Nat) (H00 : Heap) (S : mm_S) (as : List mm_V) : Array Value → State → Prop := fun av U => av = (as.map (mm_phi base b)).toArray ∧ mm_Rel D cA base H00 S U.heap [] ∧ mm_Wd X D cA base b H00 U ∧ base + S.1.length = U.heap.size
def mm_Qc (D : va_G) (cA : Nat → ClassId) (base b : Nat) (H00 : Heap) (S S1 : mm_S) (v1 : Option mm_V) (mc : Nat) : Array Value → State → Outcome → State → Prop := fun _ _ o t => o = .returned (v1.map (mm_phi base b)) ∧ mm_Rel D cA base H00 S1 t.heap [] ∧ S1.1.length = S.1.length + mc ∧ ∀ v, v1 = some v → mm_inr v
def mm_ws (I : mm_I) : List Jvm.Cond := .code (mm_y I) (mm_bytes I) (mm_maxL I) (mm_ret I) :: lw_u
def mm_rm (I : mm_I) : Room := { frames := mm_rf I, cells := mm_mc I, slots := mm_ms I, locals := mm_rl I }
theorem mm_Pc_blind {X : Nat × (Nat → Int)} {D : va_G} {cA : Nat → ClassId} {base b : Nat} {H00 : Heap} {S : mm_S} {as : List mm_V} : FrameBlind (mm_Pc X D cA base b H00 S as) := fun a U g mk q => ⟨q.1, q.2.1, mm_Wd.same rfl q.2.2.1, q.2.2.2⟩
/-- what the small machine's run says of the machine's walk: see mm_sim -/
def mm_Says (X : Nat × (Nat → Int)) (n : Nat) : Prop := ∀ (k : Nat) (e0 : mm_I × mm_K) (pc : Nat) (L : mm_L) (st : List mm_V) (S : mm_S) (cu su : Nat) (v : Option mm_V) (S1 : mm_S), mt_ents[k]? = some e0 → mm_run mt X n k (pc, L, st, S, cu, su) = some (v, S1) →
  ∀ (p : Program) (l : Launch) (e : Env) (R : Room) (s : State) (m : MethodId) (args : Array Value) (below : List Frame) (meth : Method) (c : Code) (H : Heap) (locs : List Loc) (Q : State → Prop) (D : va_G) (cA : Nat → ClassId) (base b : Nat) (H00 : Heap) (ls : Array Slot),
  mm_Cx X e0.1 p R s m args meth c D cA base b H00 → mm_G e0.1 s D cA base b H00 [] L st S cu su ls H locs →
  (∀ (H1 : Heap) (locs1 : List Loc) (su1 pc1 : Nat) (ls1 : Array Slot), mm_Rel D cA base H00 S1 H1 locs1 → base + S1.1.length = s.heap.size + mm_mc e0.1 → su1 ≤ mm_ms e0.1 →
    (∀ z : Int, v = some (.inl z) → mm_inr (.inl z) → (mm_bool e0.1 = false ∨ z = 0 ∨ z = 1) → mm_ret e0.1 ≠ none → decode (mm_bytes e0.1) pc1 = .ok (.ireturn, 1) → W p l e R s m args below meth c H1 locs1 (mm_mc e0.1) su1 Q (F0 m pc1 ls1 [.int (Int32.ofInt z)])) ∧
    (v = none → mm_ret e0.1 = none → decode (mm_bytes e0.1) pc1 = .ok (.return_, 1) → W p l e R s m args below meth c H1 locs1 (mm_mc e0.1) su1 Q (F0 m pc1 ls1 []))) →
  W p l e R s m args below meth c H locs cu su Q (F0 m pc ls (st.map (mm_phi base b) ++ []))
set_option maxHeartbeats 4000000 in
/-- a callee's contract out of its run -/
theorem mm_met {X : Nat × (Nat → Int)} {n k : Nat} {e0 : mm_I × mm_K} {as : List mm_V} {S S1 : mm_S} {v1 : Option mm_V} {D : va_G} {cA : Nat → ClassId} {base b : Nat} {H00 : Heap} (l : Launch) (hok : mm_okAll) (hn : mm_Says X n) (he : mt_ents[k]? = some e0) (hrun : mm_run mt X n k (0, mm_entry e0.1 as, [], S, 0, 0) = some (v1, S1)) (has : as.length ≤ mm_maxL e0.1) (hin : ∀ v ∈ as, mm_inr v) (hv1 : v1 = none ∨ ∃ z, v1 = some (.inl z)) :
    Met l (mm_y e0.1) (mm_ws e0.1) (mm_rm e0.1) (mm_Pc X D cA base b H00 S as) (mm_Qc D cA base b H00 S S1 v1 (mm_mc e0.1)) (mm_mc e0.1) (mm_ms e0.1) (fun q => base ≤ q) := by
  obtain ⟨hcode, hpl, hcls, hmh, hct, hrt, hna⟩ := mm_hd hok he
  refine Met.ofW (cc := mm_bytes e0.1) (maxL := mm_maxL e0.1) (ret := mm_ret e0.1) hpl rfl ?_
  intro p e s m args below meth c s1 B hml hv
  obtain ⟨rfl, hR, hWd, hz⟩ := hv
  have hts := atoms_spec (ws := mm_ws e0.1) B.pre
  have hown : s.vm.findClass (mm_R (mm_own e0.1)) = some m.cls := by rw [← hcls]; exact findClass_of_methodNamed B.named
  have hl := lv_entry (as.map (mm_phi base b)) (n := mm_maxL e0.1) (by rw [mm_lg_len]; exact has)
  rw [lg_entry_eq]
  refine hn k e0 0 _ [] S 0 0 v1 S1 he hrun p l e _ s m _ below meth c s.heap [] _ D cA base b H00 _ ⟨B.exec, B.bytes, hml, hown, fun w hw => hts w (List.mem_cons_of_mem _ hw), B.notSynchronized, fun h => (name_of_methodNamed B.named B.method).1.trans (hct h), ⟨Nat.le_refl _, Nat.le_refl _, Nat.le_refl _, Nat.le_refl _⟩, hWd⟩ ⟨⟨?_, hl.1, hl.2.1, fun q hq => ?_⟩, fun _ h => absurd h List.not_mem_nil, fun i v hv => ?_, hR, hz, Nat.zero_le _, Nat.zero_le _⟩ (fun H1 locs1 su1 pc1 ls1 hR1 hz1 hsu1 => ⟨fun z hz2 hzi hzb hrn hd => ?_, fun hz2 hrn hd => ?_⟩)
  · rw [mm_entry, List.length_append, List.length_map, List.length_replicate]
    omega
  · obtain ⟨w, h1, h2⟩ := mm_prs_mem.mp hq
    have h3 := mm_lv_args (base := base) (b := b) as 0 q.1 w (mm_entry_ld h1)
    rw [Nat.zero_add, ← h2] at h3
    exact hl.2.2 q h3
  · exact hin v (List.mem_of_getElem? (mm_entry_ld hv))
  · refine W.widen (k := mm_mc e0.1) (n := mm_ms e0.1) (Nat.le_refl _) hsu1 ?_
    have hqc : ∀ t : State, t.heap = H1 → s.WarmedH t.vm → mm_Qc D cA base b H00 S S1 v1 (mm_mc e0.1) (as.map (mm_phi base b)).toArray s (.returned (some (.int (Int32.ofInt z)))) t := fun t ht _ => ⟨by rw [hz2]; rfl, by rw [ht]; exact hR1.off (fun _ h => absurd h List.not_mem_nil), by omega, fun w hw => by rw [hz2] at hw; cases hw; exact hzi⟩
    rcases hrt with h | h | ⟨h, hbl⟩
    · exact absurd h hrn
    · exact W.iret B.exec B.bytes (B.returns.trans h) hqc hR1.2.1.2.2 hd B.notSynchronized
    · exact W.zret B.exec B.bytes (B.returns.trans h) (mm_nar_bool (hzb.resolve_left (by rw [hbl]; decide))).1 hqc hR1.2.1.2.2 hd B.notSynchronized
  · refine W.widen (k := mm_mc e0.1) (n := mm_ms e0.1) (Nat.le_refl _) hsu1 ?_
    exact W.vret B.exec B.bytes (B.returns.trans hrn) (fun t ht _ => ⟨by rw [hz2]; rfl, by rw [ht]; exact hR1.off (fun _ h => absurd h List.not_mem_nil), by omega, fun w hw => by rw [hz2] at hw; cases hw⟩) hR1.2.1.2.2 hd B.notSynchronized
end
section
-- THE SIMULATION, second part
/-- instructions that only go on -/
def mm_plain : Instr → Bool
  | .invokevirtual _ => false
  | .invokespecial _ => false
  | .invokestatic _ => false
  | .ireturn => false
  | .return_ => false
  | _ => true
set_option maxHeartbeats 4000000 in
theorem mm_plain_next {Ts : mm_T} {X : Nat × (Nat → Int)} {I : mm_I} {ins : Instr} {len tgt : Nat} {C : mm_C} {o : (Nat × List mm_V × mm_C) ⊕ (Option mm_V × mm_S)} (hp : mm_plain ins = true) (h : mm_step Ts X I ins len tgt C = some (.inr o)) : False := by
  obtain ⟨pc, L, st, S, cu, su⟩ := C
  cases ins <;> first
    | (cases hp; done)
    | (cases (show (none : Option mm_O) = some (.inr o) from h); done)
    | (simp only [mm_step, mm_nx, Bool.cond_eq_ite] at h; (repeat' split at h) <;> cases h)
section MMZ
variable {X : Nat × (Nat → Int)}
set_option maxHeartbeats 4000000 in
theorem mm_go {p : Program} {l : Launch} {e : Env} {R : Room} {s : State} {m : MethodId} {args : Array Value} {below : List Frame} {meth : Method} {c : Code} {H : Heap} {locs : List Loc} {Q : State → Prop} {I : mm_I} {D : va_G} {cA : Nat → ClassId} {base b : Nat} {H00 : Heap} {pc len tgt : Nat} {L : mm_L} {st : List mm_V} {S : mm_S} {cu su : Nat} {ls : Array Slot} {C' : mm_C} {ex : List (Nat × Value)} {tl : List Value} {ins : Instr} (hp : mm_plain ins = true) (hx : mm_Cx X I p R s m args meth c D cA base b H00) (hG : mm_G I s D cA base b H00 ex L st S cu su ls H locs) (hd : decode (mm_bytes I) pc = .ok (ins, len)) (hf : mm_fine I (pc, ins, len, tgt) = true) (hs : mm_step mt X I ins len tgt (pc, L, st, S, cu, su) = some (.inl C')) (kk : mm_kk p l e R s m args below meth c Q I D cA base b H00 (mm_exi ins ex) tl C') : W p l e R s m args below meth c H locs cu su Q (F0 m pc ls (st.map (mm_phi base b) ++ tl)) := by
  cases ins <;> first
    | (cases hp; done)
    | (cases (show (none : Option mm_O) = some (.inl C') from hs); done)
    | exact mm_s_iconst hx hG hd hf hs kk
    | exact mm_s_bipush hx hG hd hf hs kk
    | exact mm_s_sipush hx hG hd hf hs kk
    | exact mm_s_iload hx hG hd hf hs kk
    | exact mm_s_iload_n hx hG hd hf hs kk
    | exact mm_s_aload_n hx hG hd hf hs kk
    | exact mm_s_istore hx hG hd hf hs kk
    | exact mm_s_istore_n hx hG hd hf hs kk
    | exact mm_s_astore_n hx hG hd hf hs kk
    | exact mm_s_iinc hx hG hd hf hs kk
    | exact mm_s_iadd hx hG hd hf hs kk
    | exact mm_s_isub hx hG hd hf hs kk
    | exact mm_s_imul hx hG hd hf hs kk
    | exact mm_s_idiv hx hG hd hf hs kk
    | exact mm_s_irem hx hG hd hf hs kk
    | exact mm_s_iand hx hG hd hf hs kk
    | exact mm_s_i2c hx hG hd hf hs kk
    | exact mm_s_ldc hx hG hd hf hs kk
    | exact mm_s_ishr hx hG hd hf hs kk
    | exact mm_s_dup hx hG hd hf hs kk
    | exact mm_s_dup2 hx hG hd hf hs kk
    | exact mm_s_pop hx hG hd hf hs kk
    | exact mm_s_ifCond hx hG hd hf hs kk
    | exact mm_s_if_icmp hx hG hd hf hs kk
    | exact mm_s_goto hx hG hd hf hs kk
    | exact mm_s_getfield hx hG hd hf hs kk
    | exact mm_s_putfield hx hG hd hf hs kk
    | exact mm_s_arraylength hx hG hd hf hs kk
    | exact mm_s_iaload hx hG hd hf hs kk
    | exact mm_s_caload hx hG hd hf hs kk
    | exact mm_s_aaload hx hG hd hf hs kk
    | exact mm_s_iastore hx hG hd hf hs kk
    | exact mm_s_castore hx hG hd hf hs kk
    | exact mm_s_aastore hx hG hd hf hs kk
    | exact mm_s_new hx hG hd hf hs kk
    | exact mm_s_newarray hx hG hd hf hs kk
    | exact mm_s_anewarray hx hG hd hf hs kk
    | exact mm_s_tableswitch hx hG hd hf hs kk
    | exact mm_s_lookupswitch hx hG hd hf hs kk
/-- every value that a run gives back is an int -/
theorem mm_run_int (Ts : mm_T) : ∀ (n k : Nat) (C : mm_C) (v : Option mm_V) (S1 : mm_S), mm_run Ts X n k C = some (v, S1) → v = none ∨ ∃ z, v = some (.inl z) := by
  intro n
  induction n with
  | zero => intro k C v S1 h; cases h
  | succ n ih =>
    intro k C v S1 h
    unfold mm_run at h
    cases hk : Ts.1[k]? with
    | none => rw [hk] at h; cases h
    | some e0 =>
      rw [hk] at h
      dsimp only at h
      cases ha : mm_at e0.2 C.1 with
      | none => rw [ha] at h; cases h
      | some q =>
        obtain ⟨ins, len, tgt⟩ := q
        rw [ha] at h
        dsimp only at h
        cases hs : mm_step Ts X e0.1 ins len tgt C with
        | none => rw [hs] at h; cases h
        | some o =>
          rw [hs] at h
          rcases o with C' | ⟨k', as, pc, L, st, S, cu, su⟩ | ⟨v', S'⟩
          · exact ih k C' v S1 h
          · dsimp only at h
            cases hk' : Ts.1[k']? with
            | none => rw [hk'] at h; cases h
            | some e1 =>
              rw [hk'] at h
              dsimp only at h
              cases hr : mm_run Ts X n k' (0, mm_entry e1.1 as, [], S, 0, 0) with
              | none => rw [hr] at h; cases h
              | some q =>
                rw [hr] at h
                exact ih k _ v S1 h
          · dsimp only at h
            cases h
            cases hpl : mm_plain ins with
            | true => exact absurd hs (fun z => mm_plain_next hpl z)
            | false =>
              obtain ⟨pc, L, st, S, cu, su⟩ := C
              cases ins <;> first
                | (cases hpl; done)
                | (simp only [mm_step, mm_nx, Bool.cond_eq_ite] at hs; (repeat' split at hs) <;> first | (cases hs; done) | (cases hs; exact Or.inr ⟨_, rfl⟩) | (cases hs; exact Or.inl rfl))
end MMZ
end
section
-- THE SIMULATION, third part: calls and ends
section MMC
variable {p : Program} {l : Launch} {e : Env} {R : Room} {s : State} {m : MethodId} {args : Array Value} {below : List Frame} {meth : Method} {c : Code} {H : Heap} {locs : List Loc} {Q : State → Prop}
variable {X : Nat × (Nat → Int)} {I : mm_I} {D : va_G} {cA : Nat → ClassId} {base b : Nat} {H00 : Heap} {pc len tgt : Nat} {L : mm_L} {st : List mm_V} {S : mm_S} {cu su : Nat} {ls : Array Slot} {C' : mm_C} {ex : List (Nat × Value)} {tl : List Value}
/-- behind a call: the walk goes on with the small machine's next place -/
theorem mm_backG {e1 : mm_I × mm_K} {r : List mm_V} {S1 : mm_S} {v1 : Option mm_V} {a : Array Value} (hG : mm_G I s D cA base b H00 ex L st S cu su ls H locs) (hr : ∀ w ∈ r, mm_inr w) (hmc : cu + mm_mc e1.1 ≤ mm_mc I) (hms : su + mm_ms e1.1 ≤ mm_ms I)
    (kk : mm_kk p l e R s m args below meth c Q I D cA base b H00 ex tl (pc + 3, L, v1.toList ++ r, S1, cu + mm_mc e1.1, su + mm_ms e1.1))
    (hcall : va_Run p l e R s m args below meth c H locs cu su (mm_mc e1.1) (mm_ms e1.1) (F0 m pc ls (st.map (mm_phi base b) ++ tl)) (r.map (mm_phi base b) ++ tl) (mm_Qc D cA base b H00 S S1 v1 (mm_mc e1.1) a) (fun q => base ≤ q)) :
    W p l e R s m args below meth c H locs cu su Q (F0 m pc ls (st.map (mm_phi base b) ++ tl)) := by
  refine mm_callG hcall (fun v2 st0 t locs1 h0 hq hl => ?_)
  obtain ⟨hv, hR1, hlen, hin⟩ := hq
  cases hv
  have hl1 : ∀ q ∈ locs1, base ≤ q.base := fun q hq => (hl q hq).elim (fun h => hG.2.2.2.1.2.1.2.2 q h) id
  have hee : (v1.map (mm_phi base b)).toList ++ (r.map (mm_phi base b) ++ tl) = (v1.toList ++ r).map (mm_phi base b) ++ tl := by cases v1 <;> rfl
  have h2 : W p l e R s m args below meth c t.heap locs1 (cu + mm_mc e1.1) (su + mm_ms e1.1) Q (F0 m (pc + 3) ls ((v1.toList ++ r).map (mm_phi base b) ++ tl)) := kk ls t.heap locs1 ⟨hG.1, fun w hw => (List.mem_append.mp hw).elim (fun h => hin w (by cases v1 with | none => cases h | some u => rw [List.mem_singleton.mp h])) (hr w), hG.2.2.1, hR1.off hl1, by have := hG.2.2.2.2.1; show base + S1.1.length = s.heap.size + (cu + mm_mc e1.1); omega, hmc, hms⟩
  rw [← hee] at h2
  exact h2
/-- the callee's start, at the caller's state -/
theorem mm_pre {as : List mm_V} (hWd : mm_Wd X D cA base b H00 s) (hR : mm_Rel D cA base H00 S H locs) (hz : base + S.1.length = H.size) : FrameBlind (mm_Pc X D cA base b H00 S as) ∧ ∀ U : State, U.heap = H → s.WarmedH U.vm → mm_Pc X D cA base b H00 S as (as.map (mm_phi base b)).toArray U :=
  ⟨mm_Pc_blind, fun U hU hW => ⟨rfl, by rw [hU]; exact hR.off (fun _ h => absurd h List.not_mem_nil), mm_Wd.moved hW hWd, by rw [hU]; exact hz⟩⟩
theorem mm_sumle {rest : List Value} (r : List mm_V) (h : r.length ≤ 8) (htl : tl = [] ∨ r.length + (tl.map fun v => v.category).sum ≤ 8) : 2 * (F0 m pc ls rest).monitorRoom + ((r.map (mm_phi base b) ++ tl).map fun v => v.category).sum ≤ 8 := lv_room (by
  rw [List.map_append, List.sum_append, mm_cat_sum]
  rcases htl with rfl | q
  · simpa using h
  · exact q)
end MMC
theorem mm_inj {a1 b1 a3 b3 a7 b7 a8 b8 : Nat} {a2 b2 a5 b5 : List mm_V} {a4 b4 : mm_L} {a6 b6 : mm_S} (h : (some (.inr (.inl (a1, a2, a3, a4, a5, a6, a7, a8))) : Option mm_O) = some (.inr (.inl (b1, b2, b3, b4, b5, b6, b7, b8)))) : a1 = b1 ∧ a2 = b2 ∧ a3 = b3 ∧ a4 = b4 ∧ a5 = b5 ∧ a6 = b6 ∧ a7 = b7 ∧ a8 = b8 := by
  cases h
  exact ⟨rfl, rfl, rfl, rfl, rfl, rfl, rfl, rfl⟩
theorem mm_exi_nil {ins : Instr} : mm_exi ins [] = [] := by cases ins <;> rfl
theorem mm_own9 {k : Nat} {e1 : mm_I × mm_K} (h : mt_ents[k]? = some e1) : mm_own e1.1 < 9 := by
  have h1 : mt_ents.all (fun e => Nat.blt (mm_own e.1) 9) = true := by decide +kernel
  exact Nat.le_of_ble_eq_true (List.all_eq_true.mp h1 e1 (List.mem_of_getElem? h))
section MMC2
variable {p : Program} {l : Launch} {e : Env} {R : Room} {s : State} {m : MethodId} {args : Array Value} {below : List Frame} {meth : Method} {c : Code} {H : Heap} {locs : List Loc} {Q : State → Prop}
variable {X : Nat × (Nat → Int)} {I : mm_I} {D : va_G} {cA : Nat → ClassId} {base b : Nat} {H00 : Heap} {pc len tgt : Nat} {L : mm_L} {st : List mm_V} {S : mm_S} {cu su : Nat} {ls : Array Slot} {C' : mm_C} {ex : List (Nat × Value)} {tl : List Value}
set_option maxHeartbeats 8000000 in
/-- a call, whatever lies below on the stack -/
theorem mm_callS {n k1' : Nat} {ins : Instr} {as' : List mm_V} {pc2 cu2 su2 : Nat} {L2 : mm_L} {st2 : List mm_V} {S2 S1 : mm_S} {e1' : mm_I × mm_K} {v1 : Option mm_V} (hok : mm_okAll) (ih : mm_Says X n) (hx : mm_Cx X I p R s m args meth c D cA base b H00) (hG : mm_G I s D cA base b H00 ex L st S cu su ls H locs) (hd : decode (mm_bytes I) pc = .ok (ins, len)) (hf : mm_fine I (pc, ins, len, tgt) = true) (hs : mm_step mt X I ins len tgt (pc, L, st, S, cu, su) = some (.inr (.inl (k1', as', pc2, L2, st2, S2, cu2, su2)))) (he1' : mt_ents[k1']? = some e1') (hrun1 : mm_run mt X n k1' (0, mm_entry e1'.1 as', [], S2, 0, 0) = some (v1, S1)) (htl : tl = [] ∨ st2.length + (tl.map fun v => v.category).sum ≤ 8)
    (kk : mm_kk p l e R s m args below meth c Q I D cA base b H00 ex tl (pc2, L2, v1.toList ++ st2, S1, cu2, su2)) : W p l e R s m args below meth c H locs cu su Q (F0 m pc ls (st.map (mm_phi base b) ++ tl)) := by
  cases hpl : mm_plain ins with
  | true => exact absurd hs (fun z => mm_plain_next hpl z)
  | false =>
  have hx0 := hx
  obtain ⟨hexec, hb, hml, hown, hts, hlk, hct, hroom, hWd⟩ := hx
  have hG0 := hG
  obtain ⟨hl, hst, hlr, hR, hn, hc, hsu⟩ := hG
  refine W.sizeLe (fun hsz => ?_)
  have hz := mm_size hR hWd.2.2.2.2.2.1 hsz hn
  cases ins with
  | ireturn =>
    rcases st with _ | ⟨z | a, _ | ⟨w, r⟩⟩ <;> try (cases (show (none : Option mm_O) = _ from hs); done)
    have hs : (if cu = mm_mc I ∧ (mm_bool I = false ∨ z = 0 ∨ z = 1) then (some (.inr (.inr (some (.inl z), S))) : Option mm_O) else none) = some (.inr (.inl (k1', as', pc2, L2, st2, S2, cu2, su2))) := hs
    by_cases hq : cu = mm_mc I ∧ (mm_bool I = false ∨ z = 0 ∨ z = 1)
    · rw [if_pos hq] at hs; cases hs
    · rw [if_neg hq] at hs; cases hs
  | return_ =>
    rcases st with _ | ⟨w, r⟩ <;> try (cases (show (none : Option mm_O) = _ from hs); done)
    have hs : (if cu = mm_mc I then (some (.inr (.inr (none, S))) : Option mm_O) else none) = some (.inr (.inl (k1', as', pc2, L2, st2, S2, cu2, su2))) := hs
    by_cases hq : cu = mm_mc I
    · rw [if_pos hq] at hs; cases hs
    · rw [if_neg hq] at hs; cases hs
  | invokevirtual i =>
    simp only [mm_fine, Bool.and_eq_true, beq_iff_eq] at hf
    obtain ⟨rfl, hfit⟩ := hf
    dsimp only [mm_step] at hs
    cases hq : mm_fm (mt.2.2.1.getD (mm_own I) []) i with
    | none => rw [hq] at hs; cases hs
    | some q =>
      obtain ⟨kd, k1, ps⟩ := q
      rw [hq] at hs
      dsimp only at hs
      cases hk1 : mt.1[k1]? with
      | none => rw [hk1] at hs; cases hs
      | some e1 =>
        have he1 : mt_ents[k1]? = some e1 := hk1
        rw [hk1] at hs
        dsimp only at hs
        generalize hdr : st.drop (mm_nargs e1.1 - 1) = dr at hs
        rcases dr with _ | ⟨z | _ | a, r⟩ <;> try (cases (show (none : Option mm_O) = _ from hs); done)
        dsimp only at hs
        cases hck : (kd == 0 && mm_isc S (mm_own e1.1) a && Nat.ble r.length 8 && Nat.ble (cu + mm_mc e1.1) (mm_mc I) && Nat.ble (su + mm_ms e1.1) (mm_ms I)) with
        | false => rw [hck] at hs; cases hs
        | true =>
          rw [hck] at hs
          obtain ⟨rfl, rfl, rfl, rfl, rfl, rfl, rfl, rfl⟩ := mm_inj hs
          obtain rfl : e1 = e1' := Option.some.inj (hk1.symm.trans he1')
          simp only [Bool.and_eq_true, beq_iff_eq] at hck
          obtain ⟨⟨⟨⟨hkd, hisc⟩, hr8⟩, hmc⟩, hms⟩ := hck
          have hr8 := Nat.le_of_ble_eq_true hr8
          have hmc := Nat.le_of_ble_eq_true hmc
          have hms := Nat.le_of_ble_eq_true hms
          subst hkd
          obtain ⟨hcode, hplain, hcls, hmh, hctor, hrt, hna⟩ := mm_hd hok he1
          have hw := mm_mld hq
          rcases ps with _ | ⟨p0, _ | ⟨p1, _ | ⟨p2, _ | ⟨p3, ps⟩⟩⟩⟩
          case cons.cons.cons.nil =>
            simp only [mm_okML1, show mt_ents[k1]? = some e1 from he1, Bool.and_eq_true, decide_eq_true_eq] at hw
            obtain ⟨⟨⟨⟨⟨w0, w1⟩, w2⟩, w3⟩, w4⟩, w5⟩ := hw
            have w4 := Nat.le_of_ble_eq_true w4
            have w5 := Nat.le_of_ble_eq_true w5
            have hlen : st.length = mm_nargs e1.1 - 1 + (r.length + 1) := by
              have h1 := congrArg List.length hdr
              rw [List.length_drop, List.length_cons] at h1
              omega
            have hst2 : st = st.take (mm_nargs e1.1 - 1) ++ (.inr (some a) :: r) := by rw [← hdr, List.take_append_drop]
            have hfit2 : mm_fit I e1.1 = true := by
              simp only [mm_fitM, show mm_fm (mt_ml.getD (mm_own I) []) i = some (0, k1, [p0, p1, p2]) from hq, show mt_ents[k1]? = some e1 from he1] at hfit
              exact hfit
            unfold mm_fit at hfit2
            rw [Bool.and_eq_true] at hfit2
            have hfa := Nat.le_of_ble_eq_true hfit2.1
            have hfb := Nat.le_of_ble_eq_true hfit2.2
            obtain ⟨T0, N0, hcl0⟩ := mm_clsR (o := mm_own e1.1) (by omega)
            obtain ⟨nn, hsh⟩ := mm_isc_at hisc
            have hrcv := va_recv hWd.1 hR.1 (q0 := a) hcl0 (by rw [mm_wld_at hsh, mm_ent_obj (by omega)])
            have hmet := mm_met l hok ih he1 hrun1 (by simp; omega) (fun w hw => by
              rcases List.mem_cons.mp hw with rfl | hw
              · trivial
              · exact hst w (List.mem_of_mem_take (List.mem_reverse.mp hw))) (mm_run_int mt n k1 _ v1 S1 hrun1)
              (D := D) (cA := cA) (base := base) (b := b) (H00 := H00)
            have hpre := mm_pre (as := .inr (some a) :: (st.take (mm_nargs e1.1 - 1)).reverse) hWd hR hz
            refine mm_backG (r := r) (e1 := e1) hG0 (fun w hw => hst w (by rw [hst2]; exact List.mem_append_right _ (List.mem_cons_of_mem _ hw))) hmc hms kk
              (va_runV (C := mm_R (mm_own e1.1)) (b := base + a) (As := ((st.take (mm_nargs e1.1 - 1)).reverse).map (mm_phi base b)) ⟨hexec, hb, hml, hown, hts⟩ hmet (cwV (mm_nargs e1.1 - 1) hts (mm_gi (fun w hw => ?_)) rfl rfl rfl ⟨hcls, hmh.1, hmh.2, w3⟩ ⟨by show mm_rf e1.1 + 1 ≤ _; have := hroom.1; omega, by show 8 + (mm_maxL e1.1 + 11) + mm_rl e1.1 ≤ _; have := hroom.2.1; omega⟩)
                ⟨hpre.1, hrcv, hpre.2⟩ rfl ?_ hl.2.1 ?_ (mm_sumle r hr8 htl) hd ⟨Nat.le_trans hmc hroom.2.2.1, Nat.le_trans hms hroom.2.2.2⟩)
            · rcases List.mem_append.mp hw with hw | hw
              · simp only [List.mem_cons, List.not_mem_nil, or_false] at hw
                rcases hw with rfl | rfl | rfl | rfl
                · exact mm_wd_in w0
                · exact mm_wd_in w1
                · rw [hcls] at w2; exact mm_wd_in w2
                · exact mm_ini (by omega)
              · rcases List.mem_cons.mp hw with rfl | hw
                · exact hcode
                · exact hw
            · simp; omega
            · show st.map (mm_phi base b) ++ tl = _
              rw [← List.map_reverse, List.reverse_reverse]
              conv => lhs; rw [hst2]
              rw [List.map_append, List.append_assoc]
              rfl
          all_goals exact absurd hw (by simp [mm_okML1, show mt_ents[k1]? = some e1 from he1])
  | invokespecial i =>
    simp only [mm_fine, Bool.and_eq_true, beq_iff_eq] at hf
    obtain ⟨rfl, hfit⟩ := hf
    dsimp only [mm_step] at hs
    cases hq : mm_fm (mt.2.2.1.getD (mm_own I) []) i with
    | none => rw [hq] at hs; cases hs
    | some q =>
      obtain ⟨kd, k1, ps⟩ := q
      rw [hq] at hs
      dsimp only at hs
      rcases st with _ | ⟨z | _ | a, r⟩ <;> try (cases (show (none : Option mm_O) = _ from hs); done)
      dsimp only at hs
      have hri := (List.forall_mem_cons.mp hst).2
      cases h4 : (kd == 4) with
      | true =>
        rw [h4] at hs
        dsimp only [cond_true] at hs
        cases hr8 : Nat.ble r.length 8 with
        | false => rw [hr8] at hs; cases hs
        | true => rw [hr8] at hs; cases hs
      | false =>
        rw [h4] at hs
        dsimp only [cond_false] at hs
        cases hk1 : mt.1[k1]? with
        | none => rw [hk1] at hs; cases hs
        | some e1 =>
          have he1 : mt_ents[k1]? = some e1 := hk1
          rw [hk1] at hs
          dsimp only at hs
          cases hck : (kd == 1 && Nat.ble r.length 8 && mm_nargs e1.1 == 1 && Nat.ble (cu + mm_mc e1.1) (mm_mc I) && Nat.ble (su + mm_ms e1.1) (mm_ms I)) with
          | false => rw [hck] at hs; cases hs
          | true =>
            rw [hck] at hs
            obtain ⟨rfl, rfl, rfl, rfl, rfl, rfl, rfl, rfl⟩ := mm_inj hs
            obtain rfl : e1 = e1' := Option.some.inj (hk1.symm.trans he1')
            simp only [Bool.and_eq_true, beq_iff_eq] at hck
            obtain ⟨⟨⟨⟨hkd, hr8⟩, hna1⟩, hmc⟩, hms⟩ := hck
            have hr8 := Nat.le_of_ble_eq_true hr8
            have hmc := Nat.le_of_ble_eq_true hmc
            have hms := Nat.le_of_ble_eq_true hms
            subst hkd
            obtain ⟨hcode, hplain, hcls, hmh, hctor, hrt, hna⟩ := mm_hd hok he1
            have hw := mm_mld hq
            rcases ps with _ | ⟨p0, _ | ⟨p1, _ | ⟨p2, ps⟩⟩⟩
            case cons.cons.nil =>
              simp only [mm_okML1, show mt_ents[k1]? = some e1 from he1, Bool.and_eq_true, Bool.not_eq_true', beq_eq_false_iff_ne, decide_eq_true_eq] at hw
              obtain ⟨⟨⟨⟨w0, w1⟩, w3⟩, w4⟩, w5⟩ := hw
              have hfit2 : mm_fit I e1.1 = true := by
                simp only [mm_fitM, show mm_fm (mt_ml.getD (mm_own I) []) i = some (1, k1, [p0, p1]) from hq, show mt_ents[k1]? = some e1 from he1] at hfit
                exact hfit
              unfold mm_fit at hfit2
              rw [Bool.and_eq_true] at hfit2
              have hfa := Nat.le_of_ble_eq_true hfit2.1
              have hfb := Nat.le_of_ble_eq_true hfit2.2
              have hown9 : mm_own e1.1 < 9 := mm_own9 he1
              have hmet := mm_met l hok ih he1 hrun1 (by simp; omega) (fun w hw => by rw [List.mem_singleton.mp hw]; trivial) (mm_run_int mt n k1 _ v1 S1 hrun1)
                (D := D) (cA := cA) (base := base) (b := b) (H00 := H00)
              have hpre := mm_pre (as := [.inr (some a)]) hWd hR hz
              exact mm_backG (r := r) (e1 := e1) hG0 hri hmc hms kk
                (va_runI (b := base + a) (As := []) ⟨hexec, hb, hml, hown, hts⟩ hmet (cwI 0 hts (mm_gi (fun w hw => by
                  rcases List.mem_cons.mp hw with rfl | hw
                  · exact hcode
                  · exact hw)) (by rw [mm_ws, w4]) rfl rfl (hts _ (by rw [hcls]; exact mm_ini hown9)) (hts _ (mm_wd_in w0)) (hts _ (mm_wd_in w1)) w5 ⟨hmh.1, hmh.2, w3⟩ ⟨by show mm_rf e1.1 + 1 ≤ _; have := hroom.1; omega, by show 8 + (mm_maxL e1.1 + 11) + mm_rl e1.1 ≤ _; have := hroom.2.1; omega⟩)
                  hpre rfl rfl hl.2.1 rfl (mm_sumle r hr8 htl) hd ⟨Nat.le_trans hmc hroom.2.2.1, Nat.le_trans hms hroom.2.2.2⟩)
            all_goals exact absurd hw (by simp [mm_okML1, show mt_ents[k1]? = some e1 from he1])
  | invokestatic i =>
    simp only [mm_fine, Bool.and_eq_true, beq_iff_eq] at hf
    obtain ⟨rfl, hfit⟩ := hf
    dsimp only [mm_step] at hs
    cases hq : mm_fm (mt.2.2.1.getD (mm_own I) []) i with
    | none => rw [hq] at hs; cases hs
    | some q =>
      obtain ⟨kd, k1, ps⟩ := q
      rw [hq] at hs
      dsimp only at hs
      cases h5 : (kd == 5) with
      | true =>
        rw [h5] at hs
        dsimp only [cond_true] at hs
        rcases st with _ | ⟨nn | _ | _, _ | ⟨dp | _ | _, _ | ⟨_ | _ | d, _ | ⟨sp | _ | _, _ | ⟨_ | _ | a, r⟩⟩⟩⟩⟩ <;> try (cases (show (none : Option mm_O) = _ from hs); done)
        dsimp only at hs
        cases hsa : S.1[a]? with
        | none => rw [hsa] at hs; cases hs
        | some qa =>
          obtain ⟨k0, n0⟩ := qa
          cases hsd : S.1[d]? with
          | none => rw [hsa, hsd] at hs; cases hs
          | some qd =>
            obtain ⟨k2, n1⟩ := qd
            rw [hsa, hsd] at hs
            dsimp only at hs
            by_cases hc5 : k0 = 10 ∧ k2 = 10 ∧ r.length ≤ 8 ∧ 0 ≤ sp ∧ 0 ≤ dp ∧ 0 ≤ nn ∧ sp.toNat + nn.toNat ≤ n0 ∧ dp.toNat + nn.toNat ≤ n1
            · rw [if_pos hc5] at hs; cases hs
            · rw [if_neg hc5] at hs; cases hs
      | false =>
        rw [h5] at hs
        dsimp only [cond_false] at hs
        cases hk1 : mt.1[k1]? with
        | none => rw [hk1] at hs; cases hs
        | some e1 =>
          have he1 : mt_ents[k1]? = some e1 := hk1
          rw [hk1] at hs
          dsimp only at hs
          cases hck : ((kd == 2 || kd == 3) && Nat.ble (mm_nargs e1.1) st.length && Nat.ble (st.drop (mm_nargs e1.1)).length 8 && Nat.ble (cu + mm_mc e1.1) (mm_mc I) && Nat.ble (su + mm_ms e1.1) (mm_ms I)) with
          | false => rw [hck] at hs; cases hs
          | true =>
            rw [hck] at hs
            obtain ⟨rfl, rfl, rfl, rfl, rfl, rfl, rfl, rfl⟩ := mm_inj hs
            obtain rfl : e1 = e1' := Option.some.inj (hk1.symm.trans he1')
            simp only [Bool.and_eq_true, Bool.or_eq_true, beq_iff_eq] at hck
            obtain ⟨⟨⟨⟨hkd, hnl⟩, hr8⟩, hmc⟩, hms⟩ := hck
            have hnl := Nat.le_of_ble_eq_true hnl
            have hr8 := Nat.le_of_ble_eq_true hr8
            have hmc := Nat.le_of_ble_eq_true hmc
            have hms := Nat.le_of_ble_eq_true hms
            obtain ⟨hcode, hplain, hcls, hmh, hctor, hrt, hna⟩ := mm_hd hok he1
            have hw := mm_mld hq
            have hown9 : mm_own e1.1 < 9 := mm_own9 he1
            have hlenA : (((st.take (mm_nargs e1.1)).reverse).map (mm_phi base b)).length = mm_nargs e1.1 := by simp; omega
            have hstk : (F0 m pc ls (st.map (mm_phi base b) ++ tl)).stack = (((st.take (mm_nargs e1.1)).reverse).map (mm_phi base b)).reverse ++ ((st.drop (mm_nargs e1.1)).map (mm_phi base b) ++ tl) := by
              rw [← List.map_reverse, List.reverse_reverse, ← List.append_assoc, ← List.map_append, List.take_append_drop]
            have hmet := mm_met l hok ih he1 hrun1 (by simp; omega) (fun w hw => hst w (List.mem_of_mem_take (List.mem_reverse.mp hw))) (mm_run_int mt n k1 _ v1 S1 hrun1)
              (D := D) (cA := cA) (base := base) (b := b) (H00 := H00)
            have hpre := mm_pre (as := (st.take (mm_nargs e1.1)).reverse) hWd hR hz
            have hrin : ∀ w ∈ st.drop (mm_nargs e1.1), mm_inr w := fun w hw => hst w (List.mem_of_mem_drop hw)
            have hws : ∀ w ∈ mm_ws e1.1, w ∈ lw_u := fun w hw => by
              rcases List.mem_cons.mp hw with rfl | hw
              · exact hcode
              · exact hw
            rcases hkd with rfl | rfl
            · rcases ps with _ | ⟨p0, _ | ⟨p1, _ | ⟨p2, ps⟩⟩⟩
              case cons.cons.nil =>
                simp only [mm_okML1, show mt_ents[k1]? = some e1 from he1, Bool.and_eq_true, Bool.not_eq_true', beq_eq_false_iff_ne, decide_eq_true_eq] at hw
                obtain ⟨⟨w0, w1⟩, w3⟩ := hw
                have hfit2 : mm_fit I e1.1 = true := by
                  simp only [mm_fitM, show mm_fm (mt_ml.getD (mm_own I) []) i = some (2, k1, [p0, p1]) from hq, show mt_ents[k1]? = some e1 from he1] at hfit
                  exact hfit
                unfold mm_fit at hfit2
                rw [Bool.and_eq_true] at hfit2
                have hfa := Nat.le_of_ble_eq_true hfit2.1
                have hfb := Nat.le_of_ble_eq_true hfit2.2
                exact mm_backG (r := st.drop (mm_nargs e1.1)) (e1 := e1) hG0 hrin hmc hms kk
                  (va_runS (As := ((st.take (mm_nargs e1.1)).reverse).map (mm_phi base b)) ⟨hexec, hb, hml, hown, hts⟩ hmet (va_cwS (mm_nargs e1.1) hts (mm_gi (fun w hw => by
                    rcases List.mem_append.mp hw with hw | hw
                    · simp only [List.mem_cons, List.not_mem_nil, or_false] at hw
                      rcases hw with rfl | rfl | rfl
                      · exact mm_wd_in w0
                      · exact mm_wd_in w1
                      · rw [hcls]; exact mm_ini hown9
                    · exact hws w hw)) rfl rfl rfl ⟨hmh.1, hmh.2, w3⟩ ⟨by show mm_rf e1.1 + 1 ≤ _; have := hroom.1; omega, by show 8 + (mm_maxL e1.1 + 11) + mm_rl e1.1 ≤ _; have := hroom.2.1; omega⟩)
                    hpre rfl hlenA hl.2.1 hstk (mm_sumle _ hr8 htl) hd ⟨Nat.le_trans hmc hroom.2.2.1, Nat.le_trans hms hroom.2.2.2⟩)
              all_goals exact absurd hw (by simp [mm_okML1, show mt_ents[k1]? = some e1 from he1])
            · rcases ps with _ | ⟨p0, _ | ⟨p1, ps⟩⟩
              case cons.nil =>
                simp only [mm_okML1, show mt_ents[k1]? = some e1 from he1, Bool.and_eq_true, Bool.not_eq_true', beq_eq_false_iff_ne, decide_eq_true_eq] at hw
                obtain ⟨⟨w0, w1⟩, w3⟩ := hw
                have hfit2 : mm_fit I e1.1 = true := by
                  simp only [mm_fitM, show mm_fm (mt_ml.getD (mm_own I) []) i = some (3, k1, [p0]) from hq, show mt_ents[k1]? = some e1 from he1] at hfit
                  exact hfit
                unfold mm_fit at hfit2
                rw [Bool.and_eq_true] at hfit2
                have hfa := Nat.le_of_ble_eq_true hfit2.1
                have hfb := Nat.le_of_ble_eq_true hfit2.2
                exact mm_backG (r := st.drop (mm_nargs e1.1)) (e1 := e1) hG0 hrin hmc hms kk
                  (va_runSN (As := ((st.take (mm_nargs e1.1)).reverse).map (mm_phi base b)) ⟨hexec, hb, hml, hown, hts⟩ hmet ⟨va_cnB (mm_nargs e1.1) hts (mm_gi (fun w hw => hws w hw)) rfl rfl rfl (hWd.2.2.1 _ w0) (hts _ (by rw [hcls]; exact mm_ini hown9)) ⟨hmh.1, hmh.2, w3⟩ ⟨by show mm_rf e1.1 + 1 ≤ _; have := hroom.1; omega, by show 8 + (mm_maxL e1.1 + 11) + mm_rl e1.1 ≤ _; have := hroom.2.1; omega⟩, hts _ (mm_wd_in w1), trivial⟩
                    hpre rfl hlenA hl.2.1 hstk (mm_sumle _ hr8 htl) hd ⟨Nat.le_trans hmc hroom.2.2.1, Nat.le_trans hms hroom.2.2.2⟩)
              all_goals exact absurd hw (by simp [mm_okML1, show mt_ents[k1]? = some e1 from he1])
  | _ => cases hpl
end MMC2
set_option maxHeartbeats 8000000 in
theorem mm_sim (X : Nat × (Nat → Int)) (hok : mm_okAll) : ∀ n, mm_Says X n := by
  intro n
  induction n with
  | zero => intro k e0 pc L st S cu su v S1 he h; cases h
  | succ n ih =>
    intro k e0 pc L st S cu su v S2 he h p l e R s m args below meth c H locs Q D cA base b H00 ls hx hG hend
    unfold mm_run at h
    have hk : mt.1[k]? = some e0 := he
    rw [hk] at h
    dsimp only at h
    cases ha : mm_at e0.2 pc with
    | none => rw [ha] at h; cases h
    | some q =>
      obtain ⟨ins, len, tgt⟩ := q
      rw [ha] at h
      dsimp only at h
      obtain ⟨hd, hf⟩ := mm_row hok he ha
      cases hs : mm_step mt X e0.1 ins len tgt (pc, L, st, S, cu, su) with
      | none => rw [hs] at h; cases h
      | some o =>
        rw [hs] at h
        cases hpl : mm_plain ins with
        | true =>
          rcases o with C' | o
          · exact mm_go hpl hx hG hd hf hs (fun ls' H' locs' hG' => ih k e0 _ _ _ _ _ _ v S2 he h p l e R s m args below meth c H' locs' Q D cA base b H00 ls' hx (by rw [mm_exi_nil] at hG'; exact hG') hend)
          · exact absurd hs (fun z => mm_plain_next hpl z)
        | false =>
          cases o with
          | inr o =>
            rcases o with ⟨k1, as, pc2, L2, st2, Sb, cu2, su2⟩ | ⟨vv, SS⟩
            · dsimp only at h
              cases hk1 : mt.1[k1]? with
              | none => rw [hk1] at h; cases h
              | some e1 =>
                rw [hk1] at h
                dsimp only at h
                cases hrun1 : mm_run mt X n k1 (0, mm_entry e1.1 as, [], Sb, 0, 0) with
                | none => rw [hrun1] at h; cases h
                | some q =>
                  obtain ⟨v1, S1⟩ := q
                  rw [hrun1] at h
                  exact mm_callS hok ih hx hG hd hf hs hk1 hrun1 (Or.inl rfl) (fun ls' H' locs' hG' => ih k e0 _ _ _ _ _ _ v S2 he h p l e R s m args below meth c H' locs' Q D cA base b H00 ls' hx hG' hend)
            · have hx0 := hx
              obtain ⟨hexec, hb, hml, hown, hts, hlk, hct, hroom, hWd⟩ := hx
              obtain ⟨hl, hst, hlr, hR, hn, hc, hsu⟩ := hG
              cases ins with
              | ireturn =>
                simp only [mm_fine, Bool.and_eq_true, beq_iff_eq, decide_eq_true_eq] at hf
                obtain ⟨rfl, hrn⟩ := hf
                rcases st with _ | ⟨z | a, _ | ⟨w, r⟩⟩ <;> try (cases (show (none : Option mm_O) = some (.inr (.inr (vv, SS))) from hs); done)
                have hs : (if cu = mm_mc e0.1 ∧ (mm_bool e0.1 = false ∨ z = 0 ∨ z = 1) then (some (.inr (.inr (some (.inl z), S))) : Option mm_O) else none) = some (.inr (.inr (vv, SS))) := hs
                by_cases hq : cu = mm_mc e0.1 ∧ (mm_bool e0.1 = false ∨ z = 0 ∨ z = 1)
                · rw [if_pos hq] at hs
                  cases hs
                  dsimp only at h
                  cases h
                  have h2 := (hend H locs su pc ls hR (by rw [hn, hq.1]) hsu).1 z rfl (hst _ List.mem_cons_self) hq.2 hrn hd
                  rw [← hq.1] at h2
                  exact h2
                · rw [if_neg hq] at hs
                  cases hs
              | return_ =>
                simp only [mm_fine, Bool.and_eq_true, beq_iff_eq, decide_eq_true_eq] at hf
                obtain ⟨rfl, hrn⟩ := hf
                rcases st with _ | ⟨w, r⟩ <;> try (cases (show (none : Option mm_O) = some (.inr (.inr (vv, SS))) from hs); done)
                have hs : (if cu = mm_mc e0.1 then (some (.inr (.inr (none, S))) : Option mm_O) else none) = some (.inr (.inr (vv, SS))) := hs
                by_cases hq : cu = mm_mc e0.1
                · rw [if_pos hq] at hs
                  cases hs
                  dsimp only at h
                  cases h
                  have h2 := (hend H locs su pc ls hR (by rw [hn, hq]) hsu).2 rfl hrn hd
                  rw [← hq] at h2
                  exact h2
                · rw [if_neg hq] at hs
                  cases hs
              | invokevirtual i =>
                dsimp only [mm_step] at hs
                simp only [mm_nx, Bool.cond_eq_ite] at hs
                (repeat' split at hs) <;> cases hs
              | invokespecial i =>
                dsimp only [mm_step] at hs
                simp only [mm_nx, Bool.cond_eq_ite] at hs
                (repeat' split at hs) <;> cases hs
              | invokestatic i =>
                dsimp only [mm_step] at hs
                simp only [mm_nx, Bool.cond_eq_ite] at hs
                (repeat' split at hs) <;> cases hs
              | _ => cases hpl
          | inl C' =>
          have hx0 := hx
          obtain ⟨hexec, hb, hml, hown, hts, hlk, hct, hroom, hWd⟩ := hx
          have hG0 := hG
          obtain ⟨hl, hst, hlr, hR, hn, hc, hsu⟩ := hG
          refine W.sizeLe (fun hsz => ?_)
          have hz := mm_size hR hWd.2.2.2.2.2.1 hsz hn
          cases ins with
          | ireturn =>
            exfalso
            dsimp only [mm_step] at hs
            (repeat' split at hs) <;> cases hs
          | return_ =>
            exfalso
            dsimp only [mm_step] at hs
            (repeat' split at hs) <;> cases hs
          | invokevirtual i =>
            exfalso
            dsimp only [mm_step] at hs
            simp only [mm_nx, Bool.cond_eq_ite] at hs
            (repeat' split at hs) <;> cases hs
          | invokespecial i =>
            simp only [mm_fine, Bool.and_eq_true, beq_iff_eq] at hf
            obtain ⟨rfl, hfit⟩ := hf
            dsimp only [mm_step] at hs
            cases hq : mm_fm (mt.2.2.1.getD (mm_own e0.1) []) i with
            | none => rw [hq] at hs; cases hs
            | some q =>
              obtain ⟨kd, k1, ps⟩ := q
              rw [hq] at hs
              dsimp only at hs
              rcases st with _ | ⟨z | _ | a, r⟩ <;> try (cases (show (none : Option mm_O) = some (.inl C') from hs); done)
              dsimp only at hs
              have hri := (List.forall_mem_cons.mp hst).2
              cases h4 : (kd == 4) with
              | true =>
                rw [h4] at hs
                dsimp only [cond_true] at hs
                have hkd := eq_of_beq h4
                subst hkd
                cases hr8 : Nat.ble r.length 8 with
                | false => rw [hr8] at hs; cases hs
                | true =>
                  rw [hr8] at hs
                  cases (show (some (.inl (pc + 3, L, r, S, cu, su)) : Option mm_O) = some (.inl C') from hs)
                  have hr8 := Nat.le_of_ble_eq_true hr8
                  have hfit2 : Nat.ble 1 (mm_rf e0.1) = true ∧ Nat.ble 20 (mm_rl e0.1) = true := by
                    simp only [mm_fitM, show mm_fm (mt_ml.getD (mm_own e0.1) []) i = some (4, k1, ps) from hq, Bool.and_eq_true] at hfit
                    exact hfit
                  exact mm_s_objinit hx0 hG0 hd hq ⟨Nat.le_of_ble_eq_true hfit2.1, Nat.le_of_ble_eq_true hfit2.2⟩ hr8 (fun ls' H' locs' hG' => ih k e0 _ _ _ _ _ _ v S2 he h p l e R s m args below meth c H' locs' Q D cA base b H00 ls' hx0 hG' hend)
              | false =>
                rw [h4] at hs
                dsimp only [cond_false] at hs
                exfalso
                simp only [Bool.cond_eq_ite] at hs
                (repeat' split at hs) <;> cases hs
          | invokestatic i =>
            simp only [mm_fine, Bool.and_eq_true, beq_iff_eq] at hf
            obtain ⟨rfl, hfit⟩ := hf
            dsimp only [mm_step] at hs
            cases hq : mm_fm (mt.2.2.1.getD (mm_own e0.1) []) i with
            | none => rw [hq] at hs; cases hs
            | some q =>
              obtain ⟨kd, k1, ps⟩ := q
              rw [hq] at hs
              dsimp only at hs
              cases h5 : (kd == 5) with
              | true =>
                rw [h5] at hs
                dsimp only [cond_true] at hs
                have hkd := eq_of_beq h5
                subst hkd
                rcases st with _ | ⟨nn | _ | _, _ | ⟨dp | _ | _, _ | ⟨_ | _ | d, _ | ⟨sp | _ | _, _ | ⟨_ | _ | a, r⟩⟩⟩⟩⟩ <;> try (cases (show (none : Option mm_O) = some (.inl C') from hs); done)
                dsimp only at hs
                cases hsa : S.1[a]? with
                | none => rw [hsa] at hs; cases hs
                | some qa =>
                  obtain ⟨k0, n0⟩ := qa
                  cases hsd : S.1[d]? with
                  | none => rw [hsa, hsd] at hs; cases hs
                  | some qd =>
                    obtain ⟨k2, n1⟩ := qd
                    rw [hsa, hsd] at hs
                    dsimp only at hs
                    by_cases hc5 : k0 = 10 ∧ k2 = 10 ∧ r.length ≤ 8 ∧ 0 ≤ sp ∧ 0 ≤ dp ∧ 0 ≤ nn ∧ sp.toNat + nn.toNat ≤ n0 ∧ dp.toNat + nn.toNat ≤ n1
                    · rw [if_pos hc5] at hs
                      cases (show (some (.inl (pc + 3, L, r, (S.1, mm_cpy S.2.1 a sp.toNat d dp.toNat nn.toNat, S.2.2), cu, su)) : Option mm_O) = some (.inl C') from hs)
                      have hfit2 : Nat.ble 1 (mm_rf e0.1) = true ∧ Nat.ble 26 (mm_rl e0.1) = true := by
                        simp only [mm_fitM, show mm_fm (mt_ml.getD (mm_own e0.1) []) i = some (5, k1, ps) from hq, Bool.and_eq_true] at hfit
                        exact hfit
                      exact mm_s_arraycopy hx0 hG0 hd hq ⟨Nat.le_of_ble_eq_true hfit2.1, Nat.le_of_ble_eq_true hfit2.2⟩ (by rw [hsa, hc5.1]) (by rw [hsd, hc5.2.1]) hc5.2.2 (fun ls' H' locs' hG' => ih k e0 _ _ _ _ _ _ v S2 he h p l e R s m args below meth c H' locs' Q D cA base b H00 ls' hx0 hG' hend)
                    · rw [if_neg hc5] at hs; cases hs
              | false =>
                rw [h5] at hs
                dsimp only [cond_false] at hs
                exfalso
                simp only [Bool.cond_eq_ite] at hs
                (repeat' split at hs) <;> cases hs
          | _ => cases hpl
end
