-- PART A of the kit's skeleton (starting text), then the names and fields as TURN prints them
/-- a private method of a class that the tables say can be made, by its rows of tables_1 -/
def lw_okq (q : MethodName × Nat) : Prop := (q.1.cls ≠ "java/lang/invoke/MethodHandle" ∧ q.1.cls ≠ "java/lang/invoke/VarHandle") ∧ Cond.instantiable q.1.cls q.2 ∈ tables_1 ∧ Cond.privateMethod q.1 ∈ tables_1 ∧ Cond.instanceMethod q.1 ∈ tables_1
theorem lw_p0 : lw_okq (⟨"SpreadingDeletes$History", "dropOldest", "()V"⟩, 2) := ⟨⟨by decide +kernel, by decide +kernel⟩, List.mem_of_getElem? (i := 83) (by decide +kernel), List.mem_of_getElem? (i := 233) (by decide +kernel), List.mem_of_getElem? (i := 234) (by decide +kernel)⟩
theorem lw_p1 : lw_okq (⟨"SpreadingDeletes$State", "fits", "(III)Z"⟩, 13) := ⟨⟨by decide +kernel, by decide +kernel⟩, List.mem_of_getElem? (i := 19) (by decide +kernel), List.mem_of_getElem? (i := 291) (by decide +kernel), List.mem_of_getElem? (i := 292) (by decide +kernel)⟩
theorem lw_p2 : lw_okq (⟨"SpreadingDeletes$State", "isMissing", "(III)Z"⟩, 13) := ⟨⟨by decide +kernel, by decide +kernel⟩, List.mem_of_getElem? (i := 19) (by decide +kernel), List.mem_of_getElem? (i := 307) (by decide +kernel), List.mem_of_getElem? (i := 308) (by decide +kernel)⟩
theorem lw_p3 : lw_okq (⟨"SpreadingDeletes$State", "hasNoParent", "(IIII)Z"⟩, 13) := ⟨⟨by decide +kernel, by decide +kernel⟩, List.mem_of_getElem? (i := 19) (by decide +kernel), List.mem_of_getElem? (i := 316) (by decide +kernel), List.mem_of_getElem? (i := 317) (by decide +kernel)⟩
theorem lw_p4 : lw_okq (⟨"SpreadingDeletes$State", "moveRow", "(II)V"⟩, 13) := ⟨⟨by decide +kernel, by decide +kernel⟩, List.mem_of_getElem? (i := 19) (by decide +kernel), List.mem_of_getElem? (i := 324) (by decide +kernel), List.mem_of_getElem? (i := 325) (by decide +kernel)⟩
theorem lw_p5 : lw_okq (⟨"SpreadingDeletes$Deletion", "gather", "(LSpreadingDeletes$State;I)V"⟩, 9) := ⟨⟨by decide +kernel, by decide +kernel⟩, List.mem_of_getElem? (i := 145) (by decide +kernel), List.mem_of_getElem? (i := 357) (by decide +kernel), List.mem_of_getElem? (i := 358) (by decide +kernel)⟩
theorem lw_p6 : lw_okq (⟨"SpreadingDeletes$Deletion", "begin", "(I)V"⟩, 9) := ⟨⟨by decide +kernel, by decide +kernel⟩, List.mem_of_getElem? (i := 145) (by decide +kernel), List.mem_of_getElem? (i := 364) (by decide +kernel), List.mem_of_getElem? (i := 365) (by decide +kernel)⟩
theorem lw_p7 : lw_okq (⟨"SpreadingDeletes$Deletion", "nextChild", "(LSpreadingDeletes$State;)I"⟩, 9) := ⟨⟨by decide +kernel, by decide +kernel⟩, List.mem_of_getElem? (i := 145) (by decide +kernel), List.mem_of_getElem? (i := 368) (by decide +kernel), List.mem_of_getElem? (i := 369) (by decide +kernel)⟩
theorem lw_p8 : lw_okq (⟨"SpreadingDeletes$Deletion", "isMarked", "(I)Z"⟩, 9) := ⟨⟨by decide +kernel, by decide +kernel⟩, List.mem_of_getElem? (i := 145) (by decide +kernel), List.mem_of_getElem? (i := 382) (by decide +kernel), List.mem_of_getElem? (i := 383) (by decide +kernel)⟩
theorem lw_p9 : lw_okq (⟨"SpreadingDeletes$Deletion", "end", "()V"⟩, 9) := ⟨⟨by decide +kernel, by decide +kernel⟩, List.mem_of_getElem? (i := 145) (by decide +kernel), List.mem_of_getElem? (i := 386) (by decide +kernel), List.mem_of_getElem? (i := 387) (by decide +kernel)⟩
theorem lw_p10 : lw_okq (⟨"SpreadingDeletes$Deletion", "judge", "(LSpreadingDeletes$State;)V"⟩, 9) := ⟨⟨by decide +kernel, by decide +kernel⟩, List.mem_of_getElem? (i := 145) (by decide +kernel), List.mem_of_getElem? (i := 390) (by decide +kernel), List.mem_of_getElem? (i := 391) (by decide +kernel)⟩
theorem lw_p11 : lw_okq (⟨"SpreadingDeletes$Deletion", "losesParent", "(LSpreadingDeletes$State;II)Z"⟩, 9) := ⟨⟨by decide +kernel, by decide +kernel⟩, List.mem_of_getElem? (i := 145) (by decide +kernel), List.mem_of_getElem? (i := 394) (by decide +kernel), List.mem_of_getElem? (i := 395) (by decide +kernel)⟩
theorem lw_p12 : lw_okq (⟨"SpreadingDeletes$Deletion", "refusalAt", "(LSpreadingDeletes$State;II)I"⟩, 9) := ⟨⟨by decide +kernel, by decide +kernel⟩, List.mem_of_getElem? (i := 145) (by decide +kernel), List.mem_of_getElem? (i := 398) (by decide +kernel), List.mem_of_getElem? (i := 399) (by decide +kernel)⟩
theorem lw_p13 : lw_okq (⟨"SpreadingDeletes$Deletion", "changeValues", "(LSpreadingDeletes$State;I)V"⟩, 9) := ⟨⟨by decide +kernel, by decide +kernel⟩, List.mem_of_getElem? (i := 145) (by decide +kernel), List.mem_of_getElem? (i := 409) (by decide +kernel), List.mem_of_getElem? (i := 410) (by decide +kernel)⟩
theorem lw_p14 : lw_okq (⟨"SpreadingDeletes$Script", "readRow", "()Z"⟩, 10) := ⟨⟨by decide +kernel, by decide +kernel⟩, List.mem_of_getElem? (i := 100) (by decide +kernel), List.mem_of_getElem? (i := 451) (by decide +kernel), List.mem_of_getElem? (i := 452) (by decide +kernel)⟩
theorem lw_p15 : lw_okq (⟨"SpreadingDeletes$Script", "takeDigit", "(C)Z"⟩, 10) := ⟨⟨by decide +kernel, by decide +kernel⟩, List.mem_of_getElem? (i := 100) (by decide +kernel), List.mem_of_getElem? (i := 455) (by decide +kernel), List.mem_of_getElem? (i := 456) (by decide +kernel)⟩
def lw_privs_1 : List (MethodName × Nat) := [(⟨"SpreadingDeletes$History", "dropOldest", "()V"⟩, 2), (⟨"SpreadingDeletes$State", "fits", "(III)Z"⟩, 13), (⟨"SpreadingDeletes$State", "isMissing", "(III)Z"⟩, 13), (⟨"SpreadingDeletes$State", "hasNoParent", "(IIII)Z"⟩, 13), (⟨"SpreadingDeletes$State", "moveRow", "(II)V"⟩, 13), (⟨"SpreadingDeletes$Deletion", "gather", "(LSpreadingDeletes$State;I)V"⟩, 9), (⟨"SpreadingDeletes$Deletion", "begin", "(I)V"⟩, 9), (⟨"SpreadingDeletes$Deletion", "nextChild", "(LSpreadingDeletes$State;)I"⟩, 9), (⟨"SpreadingDeletes$Deletion", "isMarked", "(I)Z"⟩, 9), (⟨"SpreadingDeletes$Deletion", "end", "()V"⟩, 9), (⟨"SpreadingDeletes$Deletion", "judge", "(LSpreadingDeletes$State;)V"⟩, 9), (⟨"SpreadingDeletes$Deletion", "losesParent", "(LSpreadingDeletes$State;II)Z"⟩, 9), (⟨"SpreadingDeletes$Deletion", "refusalAt", "(LSpreadingDeletes$State;II)I"⟩, 9), (⟨"SpreadingDeletes$Deletion", "changeValues", "(LSpreadingDeletes$State;I)V"⟩, 9), (⟨"SpreadingDeletes$Script", "readRow", "()Z"⟩, 10), (⟨"SpreadingDeletes$Script", "takeDigit", "(C)Z"⟩, 10)]
theorem lw_r1 : ∀ q ∈ lw_privs_1, lw_okq q := List.forall_mem_cons.mpr ⟨lw_p0, List.forall_mem_cons.mpr ⟨lw_p1, List.forall_mem_cons.mpr ⟨lw_p2, List.forall_mem_cons.mpr ⟨lw_p3, List.forall_mem_cons.mpr ⟨lw_p4, List.forall_mem_cons.mpr ⟨lw_p5, List.forall_mem_cons.mpr ⟨lw_p6, List.forall_mem_cons.mpr ⟨lw_p7, List.forall_mem_cons.mpr ⟨lw_p8, List.forall_mem_cons.mpr ⟨lw_p9, List.forall_mem_cons.mpr ⟨lw_p10, List.forall_mem_cons.mpr ⟨lw_p11, List.forall_mem_cons.mpr ⟨lw_p12, List.forall_mem_cons.mpr ⟨lw_p13, List.forall_mem_cons.mpr ⟨lw_p14, List.forall_mem_cons.mpr ⟨lw_p15, fun _ h => absurd h List.not_mem_nil⟩⟩⟩⟩⟩⟩⟩⟩⟩⟩⟩⟩⟩⟩⟩⟩
theorem lw_p16 : lw_okq (⟨"SpreadingDeletes$Script", "readKey", "()Z"⟩, 10) := ⟨⟨by decide +kernel, by decide +kernel⟩, List.mem_of_getElem? (i := 100) (by decide +kernel), List.mem_of_getElem? (i := 459) (by decide +kernel), List.mem_of_getElem? (i := 460) (by decide +kernel)⟩
theorem lw_p17 : lw_okq (⟨"SpreadingDeletes$Script", "readInsertedValues", "()Z"⟩, 10) := ⟨⟨by decide +kernel, by decide +kernel⟩, List.mem_of_getElem? (i := 100) (by decide +kernel), List.mem_of_getElem? (i := 463) (by decide +kernel), List.mem_of_getElem? (i := 464) (by decide +kernel)⟩
theorem lw_p18 : lw_okq (⟨"SpreadingDeletes$Script", "readValue", "()Z"⟩, 10) := ⟨⟨by decide +kernel, by decide +kernel⟩, List.mem_of_getElem? (i := 100) (by decide +kernel), List.mem_of_getElem? (i := 467) (by decide +kernel), List.mem_of_getElem? (i := 468) (by decide +kernel)⟩
theorem lw_p19 : lw_okq (⟨"SpreadingDeletes$Script", "readChange", "()Z"⟩, 10) := ⟨⟨by decide +kernel, by decide +kernel⟩, List.mem_of_getElem? (i := 100) (by decide +kernel), List.mem_of_getElem? (i := 471) (by decide +kernel), List.mem_of_getElem? (i := 472) (by decide +kernel)⟩
theorem lw_p20 : lw_okq (⟨"SpreadingDeletes", "performStatement", "()I"⟩, 8) := ⟨⟨by decide +kernel, by decide +kernel⟩, List.mem_of_getElem? (i := 11) (by decide +kernel), List.mem_of_getElem? (i := 479) (by decide +kernel), List.mem_of_getElem? (i := 480) (by decide +kernel)⟩
theorem lw_p21 : lw_okq (⟨"SpreadingDeletes$Climb", "reachParents", "(LSpreadingDeletes$State;I)V"⟩, 3) := ⟨⟨by decide +kernel, by decide +kernel⟩, List.mem_of_getElem? (i := 184) (by decide +kernel), List.mem_of_getElem? (i := 570) (by decide +kernel), List.mem_of_getElem? (i := 571) (by decide +kernel)⟩
theorem lw_p22 : lw_okq (⟨"SpreadingDeletes$Climb", "reach", "(I)V"⟩, 3) := ⟨⟨by decide +kernel, by decide +kernel⟩, List.mem_of_getElem? (i := 184) (by decide +kernel), List.mem_of_getElem? (i := 579) (by decide +kernel), List.mem_of_getElem? (i := 580) (by decide +kernel)⟩
theorem lw_p23 : lw_okq (⟨"SpreadingDeletesModel", "copies", "(II)V"⟩, 18) := ⟨⟨by decide +kernel, by decide +kernel⟩, List.mem_of_getElem? (i := 587) (by decide +kernel), List.mem_of_getElem? (i := 653) (by decide +kernel), List.mem_of_getElem? (i := 654) (by decide +kernel)⟩
theorem lw_p24 : lw_okq (⟨"SpreadingDeletesModel", "accepts", "(I)I"⟩, 18) := ⟨⟨by decide +kernel, by decide +kernel⟩, List.mem_of_getElem? (i := 587) (by decide +kernel), List.mem_of_getElem? (i := 657) (by decide +kernel), List.mem_of_getElem? (i := 658) (by decide +kernel)⟩
theorem lw_p25 : lw_okq (⟨"SpreadingDeletesModel", "isTable", "(II)Z"⟩, 18) := ⟨⟨by decide +kernel, by decide +kernel⟩, List.mem_of_getElem? (i := 587) (by decide +kernel), List.mem_of_getElem? (i := 665) (by decide +kernel), List.mem_of_getElem? (i := 666) (by decide +kernel)⟩
theorem lw_p26 : lw_okq (⟨"SpreadingDeletesModel", "columns", "(II)I"⟩, 18) := ⟨⟨by decide +kernel, by decide +kernel⟩, List.mem_of_getElem? (i := 587) (by decide +kernel), List.mem_of_getElem? (i := 672) (by decide +kernel), List.mem_of_getElem? (i := 673) (by decide +kernel)⟩
theorem lw_p27 : lw_okq (⟨"SpreadingDeletesModel", "of", "(III)I"⟩, 18) := ⟨⟨by decide +kernel, by decide +kernel⟩, List.mem_of_getElem? (i := 587) (by decide +kernel), List.mem_of_getElem? (i := 676) (by decide +kernel), List.mem_of_getElem? (i := 677) (by decide +kernel)⟩
theorem lw_p28 : lw_okq (⟨"SpreadingDeletesModel", "rowsOf", "(II)I"⟩, 18) := ⟨⟨by decide +kernel, by decide +kernel⟩, List.mem_of_getElem? (i := 587) (by decide +kernel), List.mem_of_getElem? (i := 680) (by decide +kernel), List.mem_of_getElem? (i := 681) (by decide +kernel)⟩
theorem lw_p29 : lw_okq (⟨"SpreadingDeletesModel", "isReference", "(I)Z"⟩, 18) := ⟨⟨by decide +kernel, by decide +kernel⟩, List.mem_of_getElem? (i := 587) (by decide +kernel), List.mem_of_getElem? (i := 688) (by decide +kernel), List.mem_of_getElem? (i := 689) (by decide +kernel)⟩
theorem lw_p30 : lw_okq (⟨"SpreadingDeletesModel", "inserts", "(IIIII)I"⟩, 18) := ⟨⟨by decide +kernel, by decide +kernel⟩, List.mem_of_getElem? (i := 587) (by decide +kernel), List.mem_of_getElem? (i := 696) (by decide +kernel), List.mem_of_getElem? (i := 697) (by decide +kernel)⟩
theorem lw_p31 : lw_okq (⟨"SpreadingDeletesModel", "isRow", "(III)Z"⟩, 18) := ⟨⟨by decide +kernel, by decide +kernel⟩, List.mem_of_getElem? (i := 587) (by decide +kernel), List.mem_of_getElem? (i := 700) (by decide +kernel), List.mem_of_getElem? (i := 701) (by decide +kernel)⟩
def lw_privs_2 : List (MethodName × Nat) := [(⟨"SpreadingDeletes$Script", "readKey", "()Z"⟩, 10), (⟨"SpreadingDeletes$Script", "readInsertedValues", "()Z"⟩, 10), (⟨"SpreadingDeletes$Script", "readValue", "()Z"⟩, 10), (⟨"SpreadingDeletes$Script", "readChange", "()Z"⟩, 10), (⟨"SpreadingDeletes", "performStatement", "()I"⟩, 8), (⟨"SpreadingDeletes$Climb", "reachParents", "(LSpreadingDeletes$State;I)V"⟩, 3), (⟨"SpreadingDeletes$Climb", "reach", "(I)V"⟩, 3), (⟨"SpreadingDeletesModel", "copies", "(II)V"⟩, 18), (⟨"SpreadingDeletesModel", "accepts", "(I)I"⟩, 18), (⟨"SpreadingDeletesModel", "isTable", "(II)Z"⟩, 18), (⟨"SpreadingDeletesModel", "columns", "(II)I"⟩, 18), (⟨"SpreadingDeletesModel", "of", "(III)I"⟩, 18), (⟨"SpreadingDeletesModel", "rowsOf", "(II)I"⟩, 18), (⟨"SpreadingDeletesModel", "isReference", "(I)Z"⟩, 18), (⟨"SpreadingDeletesModel", "inserts", "(IIIII)I"⟩, 18), (⟨"SpreadingDeletesModel", "isRow", "(III)Z"⟩, 18)]
theorem lw_r2 : ∀ q ∈ lw_privs_2, lw_okq q := List.forall_mem_cons.mpr ⟨lw_p16, List.forall_mem_cons.mpr ⟨lw_p17, List.forall_mem_cons.mpr ⟨lw_p18, List.forall_mem_cons.mpr ⟨lw_p19, List.forall_mem_cons.mpr ⟨lw_p20, List.forall_mem_cons.mpr ⟨lw_p21, List.forall_mem_cons.mpr ⟨lw_p22, List.forall_mem_cons.mpr ⟨lw_p23, List.forall_mem_cons.mpr ⟨lw_p24, List.forall_mem_cons.mpr ⟨lw_p25, List.forall_mem_cons.mpr ⟨lw_p26, List.forall_mem_cons.mpr ⟨lw_p27, List.forall_mem_cons.mpr ⟨lw_p28, List.forall_mem_cons.mpr ⟨lw_p29, List.forall_mem_cons.mpr ⟨lw_p30, List.forall_mem_cons.mpr ⟨lw_p31, fun _ h => absurd h List.not_mem_nil⟩⟩⟩⟩⟩⟩⟩⟩⟩⟩⟩⟩⟩⟩⟩⟩
theorem lw_p32 : lw_okq (⟨"SpreadingDeletesModel", "isNeeded", "(III)Z"⟩, 18) := ⟨⟨by decide +kernel, by decide +kernel⟩, List.mem_of_getElem? (i := 587) (by decide +kernel), List.mem_of_getElem? (i := 704) (by decide +kernel), List.mem_of_getElem? (i := 705) (by decide +kernel)⟩
theorem lw_p33 : lw_okq (⟨"SpreadingDeletesModel", "referenceOf", "(III)I"⟩, 18) := ⟨⟨by decide +kernel, by decide +kernel⟩, List.mem_of_getElem? (i := 587) (by decide +kernel), List.mem_of_getElem? (i := 708) (by decide +kernel), List.mem_of_getElem? (i := 709) (by decide +kernel)⟩
theorem lw_p34 : lw_okq (⟨"SpreadingDeletesModel", "hasParent", "(IIII)Z"⟩, 18) := ⟨⟨by decide +kernel, by decide +kernel⟩, List.mem_of_getElem? (i := 587) (by decide +kernel), List.mem_of_getElem? (i := 712) (by decide +kernel), List.mem_of_getElem? (i := 713) (by decide +kernel)⟩
theorem lw_p35 : lw_okq (⟨"SpreadingDeletesModel", "updates", "(IIIII)I"⟩, 18) := ⟨⟨by decide +kernel, by decide +kernel⟩, List.mem_of_getElem? (i := 587) (by decide +kernel), List.mem_of_getElem? (i := 720) (by decide +kernel), List.mem_of_getElem? (i := 721) (by decide +kernel)⟩
theorem lw_p36 : lw_okq (⟨"SpreadingDeletesModel", "valueOf", "(III)I"⟩, 18) := ⟨⟨by decide +kernel, by decide +kernel⟩, List.mem_of_getElem? (i := 587) (by decide +kernel), List.mem_of_getElem? (i := 724) (by decide +kernel), List.mem_of_getElem? (i := 725) (by decide +kernel)⟩
theorem lw_p37 : lw_okq (⟨"SpreadingDeletesModel", "lay", "(IIII)V"⟩, 18) := ⟨⟨by decide +kernel, by decide +kernel⟩, List.mem_of_getElem? (i := 587) (by decide +kernel), List.mem_of_getElem? (i := 728) (by decide +kernel), List.mem_of_getElem? (i := 729) (by decide +kernel)⟩
theorem lw_p38 : lw_okq (⟨"SpreadingDeletesModel", "deletes", "(III)I"⟩, 18) := ⟨⟨by decide +kernel, by decide +kernel⟩, List.mem_of_getElem? (i := 587) (by decide +kernel), List.mem_of_getElem? (i := 736) (by decide +kernel), List.mem_of_getElem? (i := 737) (by decide +kernel)⟩
theorem lw_p39 : lw_okq (⟨"SpreadingDeletesModel", "gathers", "(II)V"⟩, 18) := ⟨⟨by decide +kernel, by decide +kernel⟩, List.mem_of_getElem? (i := 587) (by decide +kernel), List.mem_of_getElem? (i := 740) (by decide +kernel), List.mem_of_getElem? (i := 741) (by decide +kernel)⟩
theorem lw_p40 : lw_okq (⟨"SpreadingDeletesModel", "begins", "(II)V"⟩, 18) := ⟨⟨by decide +kernel, by decide +kernel⟩, List.mem_of_getElem? (i := 587) (by decide +kernel), List.mem_of_getElem? (i := 744) (by decide +kernel), List.mem_of_getElem? (i := 745) (by decide +kernel)⟩
theorem lw_p41 : lw_okq (⟨"SpreadingDeletesModel", "isChild", "(IIII)Z"⟩, 18) := ⟨⟨by decide +kernel, by decide +kernel⟩, List.mem_of_getElem? (i := 587) (by decide +kernel), List.mem_of_getElem? (i := 748) (by decide +kernel), List.mem_of_getElem? (i := 749) (by decide +kernel)⟩
theorem lw_p42 : lw_okq (⟨"SpreadingDeletesModel", "reasonOf", "(I)I"⟩, 18) := ⟨⟨by decide +kernel, by decide +kernel⟩, List.mem_of_getElem? (i := 587) (by decide +kernel), List.mem_of_getElem? (i := 752) (by decide +kernel), List.mem_of_getElem? (i := 753) (by decide +kernel)⟩
theorem lw_p43 : lw_okq (⟨"SpreadingDeletesModel", "whyNot", "(IIII)I"⟩, 18) := ⟨⟨by decide +kernel, by decide +kernel⟩, List.mem_of_getElem? (i := 587) (by decide +kernel), List.mem_of_getElem? (i := 756) (by decide +kernel), List.mem_of_getElem? (i := 757) (by decide +kernel)⟩
theorem lw_p44 : lw_okq (⟨"SpreadingDeletesModel", "isLacking", "(II)Z"⟩, 18) := ⟨⟨by decide +kernel, by decide +kernel⟩, List.mem_of_getElem? (i := 587) (by decide +kernel), List.mem_of_getElem? (i := 760) (by decide +kernel), List.mem_of_getElem? (i := 761) (by decide +kernel)⟩
theorem lw_p45 : lw_okq (⟨"SpreadingDeletesModel", "changes", "(IZ)I"⟩, 18) := ⟨⟨by decide +kernel, by decide +kernel⟩, List.mem_of_getElem? (i := 587) (by decide +kernel), List.mem_of_getElem? (i := 764) (by decide +kernel), List.mem_of_getElem? (i := 765) (by decide +kernel)⟩
theorem lw_p46 : lw_okq (⟨"SpreadingDeletesModel", "fault", "()I"⟩, 18) := ⟨⟨by decide +kernel, by decide +kernel⟩, List.mem_of_getElem? (i := 587) (by decide +kernel), List.mem_of_getElem? (i := 780) (by decide +kernel), List.mem_of_getElem? (i := 781) (by decide +kernel)⟩
theorem lw_p47 : lw_okq (⟨"SpreadingDeletesModel", "reads", "()Z"⟩, 18) := ⟨⟨by decide +kernel, by decide +kernel⟩, List.mem_of_getElem? (i := 587) (by decide +kernel), List.mem_of_getElem? (i := 784) (by decide +kernel), List.mem_of_getElem? (i := 785) (by decide +kernel)⟩
def lw_privs_3 : List (MethodName × Nat) := [(⟨"SpreadingDeletesModel", "isNeeded", "(III)Z"⟩, 18), (⟨"SpreadingDeletesModel", "referenceOf", "(III)I"⟩, 18), (⟨"SpreadingDeletesModel", "hasParent", "(IIII)Z"⟩, 18), (⟨"SpreadingDeletesModel", "updates", "(IIIII)I"⟩, 18), (⟨"SpreadingDeletesModel", "valueOf", "(III)I"⟩, 18), (⟨"SpreadingDeletesModel", "lay", "(IIII)V"⟩, 18), (⟨"SpreadingDeletesModel", "deletes", "(III)I"⟩, 18), (⟨"SpreadingDeletesModel", "gathers", "(II)V"⟩, 18), (⟨"SpreadingDeletesModel", "begins", "(II)V"⟩, 18), (⟨"SpreadingDeletesModel", "isChild", "(IIII)Z"⟩, 18), (⟨"SpreadingDeletesModel", "reasonOf", "(I)I"⟩, 18), (⟨"SpreadingDeletesModel", "whyNot", "(IIII)I"⟩, 18), (⟨"SpreadingDeletesModel", "isLacking", "(II)Z"⟩, 18), (⟨"SpreadingDeletesModel", "changes", "(IZ)I"⟩, 18), (⟨"SpreadingDeletesModel", "fault", "()I"⟩, 18), (⟨"SpreadingDeletesModel", "reads", "()Z"⟩, 18)]
theorem lw_r3 : ∀ q ∈ lw_privs_3, lw_okq q := List.forall_mem_cons.mpr ⟨lw_p32, List.forall_mem_cons.mpr ⟨lw_p33, List.forall_mem_cons.mpr ⟨lw_p34, List.forall_mem_cons.mpr ⟨lw_p35, List.forall_mem_cons.mpr ⟨lw_p36, List.forall_mem_cons.mpr ⟨lw_p37, List.forall_mem_cons.mpr ⟨lw_p38, List.forall_mem_cons.mpr ⟨lw_p39, List.forall_mem_cons.mpr ⟨lw_p40, List.forall_mem_cons.mpr ⟨lw_p41, List.forall_mem_cons.mpr ⟨lw_p42, List.forall_mem_cons.mpr ⟨lw_p43, List.forall_mem_cons.mpr ⟨lw_p44, List.forall_mem_cons.mpr ⟨lw_p45, List.forall_mem_cons.mpr ⟨lw_p46, List.forall_mem_cons.mpr ⟨lw_p47, fun _ h => absurd h List.not_mem_nil⟩⟩⟩⟩⟩⟩⟩⟩⟩⟩⟩⟩⟩⟩⟩⟩
theorem lw_p48 : lw_okq (⟨"SpreadingDeletesModel", "takes", "(I)Z"⟩, 18) := ⟨⟨by decide +kernel, by decide +kernel⟩, List.mem_of_getElem? (i := 587) (by decide +kernel), List.mem_of_getElem? (i := 788) (by decide +kernel), List.mem_of_getElem? (i := 789) (by decide +kernel)⟩
theorem lw_p49 : lw_okq (⟨"SpreadingDeletesModel", "isHere", "(II)Z"⟩, 18) := ⟨⟨by decide +kernel, by decide +kernel⟩, List.mem_of_getElem? (i := 587) (by decide +kernel), List.mem_of_getElem? (i := 792) (by decide +kernel), List.mem_of_getElem? (i := 793) (by decide +kernel)⟩
theorem lw_p50 : lw_okq (⟨"SpreadingDeletesModel", "digit", "(I)I"⟩, 18) := ⟨⟨by decide +kernel, by decide +kernel⟩, List.mem_of_getElem? (i := 587) (by decide +kernel), List.mem_of_getElem? (i := 796) (by decide +kernel), List.mem_of_getElem? (i := 797) (by decide +kernel)⟩
theorem lw_p51 : lw_okq (⟨"SpreadingDeletesModel", "number", "()I"⟩, 18) := ⟨⟨by decide +kernel, by decide +kernel⟩, List.mem_of_getElem? (i := 587) (by decide +kernel), List.mem_of_getElem? (i := 800) (by decide +kernel), List.mem_of_getElem? (i := 801) (by decide +kernel)⟩
theorem lw_p52 : lw_okq (⟨"SpreadingDeletesModel", "readsValues", "()Z"⟩, 18) := ⟨⟨by decide +kernel, by decide +kernel⟩, List.mem_of_getElem? (i := 587) (by decide +kernel), List.mem_of_getElem? (i := 804) (by decide +kernel), List.mem_of_getElem? (i := 805) (by decide +kernel)⟩
theorem lw_p53 : lw_okq (⟨"SpreadingDeletesModel", "value", "()I"⟩, 18) := ⟨⟨by decide +kernel, by decide +kernel⟩, List.mem_of_getElem? (i := 587) (by decide +kernel), List.mem_of_getElem? (i := 808) (by decide +kernel), List.mem_of_getElem? (i := 809) (by decide +kernel)⟩
theorem lw_p54 : lw_okq (⟨"SpreadingDeletesModel", "readsUpdate", "()Z"⟩, 18) := ⟨⟨by decide +kernel, by decide +kernel⟩, List.mem_of_getElem? (i := 587) (by decide +kernel), List.mem_of_getElem? (i := 812) (by decide +kernel), List.mem_of_getElem? (i := 813) (by decide +kernel)⟩
theorem lw_p55 : lw_okq (⟨"SpreadingDeletesModel", "carries", "()I"⟩, 18) := ⟨⟨by decide +kernel, by decide +kernel⟩, List.mem_of_getElem? (i := 587) (by decide +kernel), List.mem_of_getElem? (i := 816) (by decide +kernel), List.mem_of_getElem? (i := 817) (by decide +kernel)⟩
theorem lw_p56 : lw_okq (⟨"SpreadingDeletesModel", "allRows", "(I)I"⟩, 18) := ⟨⟨by decide +kernel, by decide +kernel⟩, List.mem_of_getElem? (i := 587) (by decide +kernel), List.mem_of_getElem? (i := 828) (by decide +kernel), List.mem_of_getElem? (i := 829) (by decide +kernel)⟩
theorem lw_p57 : lw_okq (⟨"SpreadingDeletesModel", "nulls", "()I"⟩, 18) := ⟨⟨by decide +kernel, by decide +kernel⟩, List.mem_of_getElem? (i := 587) (by decide +kernel), List.mem_of_getElem? (i := 864) (by decide +kernel), List.mem_of_getElem? (i := 865) (by decide +kernel)⟩
theorem lw_p58 : lw_okq (⟨"SpreadingDeletesModel", "leadsBack", "(I)Z"⟩, 18) := ⟨⟨by decide +kernel, by decide +kernel⟩, List.mem_of_getElem? (i := 587) (by decide +kernel), List.mem_of_getElem? (i := 889) (by decide +kernel), List.mem_of_getElem? (i := 890) (by decide +kernel)⟩
def lw_privs_4 : List (MethodName × Nat) := [(⟨"SpreadingDeletesModel", "takes", "(I)Z"⟩, 18), (⟨"SpreadingDeletesModel", "isHere", "(II)Z"⟩, 18), (⟨"SpreadingDeletesModel", "digit", "(I)I"⟩, 18), (⟨"SpreadingDeletesModel", "number", "()I"⟩, 18), (⟨"SpreadingDeletesModel", "readsValues", "()Z"⟩, 18), (⟨"SpreadingDeletesModel", "value", "()I"⟩, 18), (⟨"SpreadingDeletesModel", "readsUpdate", "()Z"⟩, 18), (⟨"SpreadingDeletesModel", "carries", "()I"⟩, 18), (⟨"SpreadingDeletesModel", "allRows", "(I)I"⟩, 18), (⟨"SpreadingDeletesModel", "nulls", "()I"⟩, 18), (⟨"SpreadingDeletesModel", "leadsBack", "(I)Z"⟩, 18)]
theorem lw_r4 : ∀ q ∈ lw_privs_4, lw_okq q := List.forall_mem_cons.mpr ⟨lw_p48, List.forall_mem_cons.mpr ⟨lw_p49, List.forall_mem_cons.mpr ⟨lw_p50, List.forall_mem_cons.mpr ⟨lw_p51, List.forall_mem_cons.mpr ⟨lw_p52, List.forall_mem_cons.mpr ⟨lw_p53, List.forall_mem_cons.mpr ⟨lw_p54, List.forall_mem_cons.mpr ⟨lw_p55, List.forall_mem_cons.mpr ⟨lw_p56, List.forall_mem_cons.mpr ⟨lw_p57, List.forall_mem_cons.mpr ⟨lw_p58, fun _ h => absurd h List.not_mem_nil⟩⟩⟩⟩⟩⟩⟩⟩⟩⟩⟩
def lw_privs : List (MethodName × Nat) := lw_privs_1 ++ (lw_privs_2 ++ (lw_privs_3 ++ (lw_privs_4)))
def lw_tbl : List Cond := k2_sels lw_privs ++ tables_1
theorem lw_privs_ok : ∀ q ∈ lw_privs, lw_okq q := by
  show ∀ q ∈ lw_privs_1 ++ (lw_privs_2 ++ (lw_privs_3 ++ (lw_privs_4))), lw_okq q
  exact List.forall_mem_append.mpr ⟨lw_r1, List.forall_mem_append.mpr ⟨lw_r2, List.forall_mem_append.mpr ⟨lw_r3, lw_r4⟩⟩⟩
def RX0 : String := "SpreadingDeletes$Climb"
def TX0 : u_T := fun k => match k with
  | 0 => ("SpreadingDeletes$Climb", "marks", "[I", true)
  | 1 => ("SpreadingDeletes$Climb", "reached", "[I", true)
  | _ => ("SpreadingDeletes$Climb", "count", "I", false)
def tyX0 : Nat → FieldType := fun k => match k with
  | 0 => .array .int
  | 1 => .array .int
  | _ => .int
abbrev wsX00 : List Cond := u_ws RX0 TX0 3
theorem nmX0 : ∀ a, a < 3 → ∀ b, b < 3 → a ≠ b → (TX0 a).2.1 ≠ (TX0 b).2.1 := by decide +kernel
theorem tyX0_ok : ∀ k, k < 3 → parseFieldDescriptor (TX0 k).2.2.1 = some (tyX0 k) := by decide +kernel
def RX1 : String := "SpreadingDeletes$Deletion"
def TX1 : u_T := fun k => match k with
  | 0 => ("SpreadingDeletes$Deletion", "order", "[I", true)
  | 1 => ("SpreadingDeletes$Deletion", "count", "I", false)
  | 2 => ("SpreadingDeletes$Deletion", "refusal", "I", false)
  | 3 => ("SpreadingDeletes$Deletion", "blocker", "I", false)
  | 4 => ("SpreadingDeletes$Deletion", "changes", "I", false)
  | 5 => ("SpreadingDeletes$Deletion", "marks", "[I", true)
  | 6 => ("SpreadingDeletes$Deletion", "open", "[I", true)
  | 7 => ("SpreadingDeletes$Deletion", "places", "[I", true)
  | _ => ("SpreadingDeletes$Deletion", "depth", "I", false)
def tyX1 : Nat → FieldType := fun k => match k with
  | 0 => .array .int
  | 1 => .int
  | 2 => .int
  | 3 => .int
  | 4 => .int
  | 5 => .array .int
  | 6 => .array .int
  | 7 => .array .int
  | _ => .int
abbrev wsX10 : List Cond := u_ws RX1 TX1 9
theorem nmX1 : ∀ a, a < 9 → ∀ b, b < 9 → a ≠ b → (TX1 a).2.1 ≠ (TX1 b).2.1 := by decide +kernel
theorem tyX1_ok : ∀ k, k < 9 → parseFieldDescriptor (TX1 k).2.2.1 = some (tyX1 k) := by decide +kernel
def RX2 : String := "SpreadingDeletes$History"
def TX2 : u_T := fun k => match k with
  | 0 => ("SpreadingDeletes$History", "states", "[LSpreadingDeletes$State;", true)
  | _ => ("SpreadingDeletes$History", "count", "I", false)
def tyX2 : Nat → FieldType := fun k => match k with
  | 0 => .array (.object "SpreadingDeletes$State")
  | _ => .int
abbrev wsX20 : List Cond := u_ws RX2 TX2 2
theorem nmX2 : ∀ a, a < 2 → ∀ b, b < 2 → a ≠ b → (TX2 a).2.1 ≠ (TX2 b).2.1 := by decide +kernel
theorem tyX2_ok : ∀ k, k < 2 → parseFieldDescriptor (TX2 k).2.2.1 = some (tyX2 k) := by decide +kernel
def RX3 : String := "SpreadingDeletes$Script"
def TX3 : u_T := fun k => match k with
  | 0 => ("SpreadingDeletes$Script", "characters", "[C", true)
  | 1 => ("SpreadingDeletes$Script", "length", "I", false)
  | 2 => ("SpreadingDeletes$Script", "kind", "I", false)
  | 3 => ("SpreadingDeletes$Script", "table", "I", false)
  | 4 => ("SpreadingDeletes$Script", "key", "I", false)
  | 5 => ("SpreadingDeletes$Script", "column", "I", false)
  | 6 => ("SpreadingDeletes$Script", "first", "I", false)
  | 7 => ("SpreadingDeletes$Script", "second", "I", false)
  | 8 => ("SpreadingDeletes$Script", "place", "I", false)
  | _ => ("SpreadingDeletes$Script", "number", "I", false)
def tyX3 : Nat → FieldType := fun k => match k with
  | 0 => .array .char
  | 1 => .int
  | 2 => .int
  | 3 => .int
  | 4 => .int
  | 5 => .int
  | 6 => .int
  | 7 => .int
  | 8 => .int
  | _ => .int
abbrev wsX30 : List Cond := u_ws RX3 TX3 10
theorem nmX3 : ∀ a, a < 10 → ∀ b, b < 10 → a ≠ b → (TX3 a).2.1 ≠ (TX3 b).2.1 := by decide +kernel
theorem tyX3_ok : ∀ k, k < 10 → parseFieldDescriptor (TX3 k).2.2.1 = some (tyX3 k) := by decide +kernel
def RX4 : String := "SpreadingDeletes$State"
def TX4 : u_T := fun k => match k with
  | 0 => ("SpreadingDeletes$State", "tables", "I", false)
  | 1 => ("SpreadingDeletes$State", "references", "I", false)
  | 2 => ("SpreadingDeletes$State", "rowCounts", "[I", true)
  | 3 => ("SpreadingDeletes$State", "columnCounts", "[I", true)
  | 4 => ("SpreadingDeletes$State", "columnReferences", "[I", true)
  | 5 => ("SpreadingDeletes$State", "facts", "[I", true)
  | 6 => ("SpreadingDeletes$State", "keys", "[I", true)
  | 7 => ("SpreadingDeletes$State", "values", "[I", true)
  | 8 => ("SpreadingDeletes$State", "latest", "[I", true)
  | 9 => ("SpreadingDeletes$State", "latestCount", "I", false)
  | 10 => ("SpreadingDeletes$State", "insertedSoFar", "I", false)
  | 11 => ("SpreadingDeletes$State", "deletedSoFar", "I", false)
  | _ => ("SpreadingDeletes$State", "changedSoFar", "I", false)
def tyX4 : Nat → FieldType := fun k => match k with
  | 0 => .int
  | 1 => .int
  | 2 => .array .int
  | 3 => .array .int
  | 4 => .array .int
  | 5 => .array .int
  | 6 => .array .int
  | 7 => .array .int
  | 8 => .array .int
  | 9 => .int
  | 10 => .int
  | 11 => .int
  | _ => .int
abbrev wsX40 : List Cond := u_ws RX4 TX4 13
theorem nmX4 : ∀ a, a < 13 → ∀ b, b < 13 → a ≠ b → (TX4 a).2.1 ≠ (TX4 b).2.1 := by decide +kernel
theorem tyX4_ok : ∀ k, k < 13 → parseFieldDescriptor (TX4 k).2.2.1 = some (tyX4 k) := by decide +kernel
def RX5 : String := "SpreadingDeletes"
def TX5 : u_T := fun k => match k with
  | 0 => ("SpreadingDeletes", "now", "LSpreadingDeletes$State;", true)
  | 1 => ("SpreadingDeletes", "before", "LSpreadingDeletes$State;", true)
  | 2 => ("SpreadingDeletes", "snapshot", "LSpreadingDeletes$State;", true)
  | 3 => ("SpreadingDeletes", "snapshotTaken", "Z", false)
  | 4 => ("SpreadingDeletes", "history", "LSpreadingDeletes$History;", true)
  | 5 => ("SpreadingDeletes", "script", "LSpreadingDeletes$Script;", true)
  | 6 => ("SpreadingDeletes", "deletion", "LSpreadingDeletes$Deletion;", true)
  | _ => ("SpreadingDeletes", "climb", "LSpreadingDeletes$Climb;", true)
def tyX5 : Nat → FieldType := fun k => match k with
  | 0 => .object "SpreadingDeletes$State"
  | 1 => .object "SpreadingDeletes$State"
  | 2 => .object "SpreadingDeletes$State"
  | 3 => .boolean
  | 4 => .object "SpreadingDeletes$History"
  | 5 => .object "SpreadingDeletes$Script"
  | 6 => .object "SpreadingDeletes$Deletion"
  | _ => .object "SpreadingDeletes$Climb"
abbrev wsX50 : List Cond := u_ws RX5 TX5 8
theorem nmX5 : ∀ a, a < 8 → ∀ b, b < 8 → a ≠ b → (TX5 a).2.1 ≠ (TX5 b).2.1 := by decide +kernel
theorem tyX5_ok : ∀ k, k < 8 → parseFieldDescriptor (TX5 k).2.2.1 = some (tyX5 k) := by decide +kernel
def RX6 : String := "SpreadingDeletesModel"
def TX6 : u_T := fun k => match k with
  | 0 => ("SpreadingDeletesModel", "s", "[I", true)
  | 1 => ("SpreadingDeletesModel", "states", "I", false)
  | 2 => ("SpreadingDeletesModel", "isKept", "Z", false)
  | 3 => ("SpreadingDeletesModel", "text", "[I", true)
  | 4 => ("SpreadingDeletesModel", "typed", "I", false)
  | 5 => ("SpreadingDeletesModel", "at", "I", false)
  | 6 => ("SpreadingDeletesModel", "kind", "I", false)
  | 7 => ("SpreadingDeletesModel", "table", "I", false)
  | 8 => ("SpreadingDeletesModel", "key", "I", false)
  | 9 => ("SpreadingDeletesModel", "column", "I", false)
  | 10 => ("SpreadingDeletesModel", "first", "I", false)
  | 11 => ("SpreadingDeletesModel", "second", "I", false)
  | 12 => ("SpreadingDeletesModel", "isBegun", "[Z", true)
  | 13 => ("SpreadingDeletesModel", "work", "[I", true)
  | 14 => ("SpreadingDeletesModel", "next", "[I", true)
  | 15 => ("SpreadingDeletesModel", "list", "[I", true)
  | 16 => ("SpreadingDeletesModel", "many", "I", false)
  | _ => ("SpreadingDeletesModel", "blocked", "I", false)
def tyX6 : Nat → FieldType := fun k => match k with
  | 0 => .array .int
  | 1 => .int
  | 2 => .boolean
  | 3 => .array .int
  | 4 => .int
  | 5 => .int
  | 6 => .int
  | 7 => .int
  | 8 => .int
  | 9 => .int
  | 10 => .int
  | 11 => .int
  | 12 => .array .boolean
  | 13 => .array .int
  | 14 => .array .int
  | 15 => .array .int
  | 16 => .int
  | _ => .int
abbrev wsX60 : List Cond := u_ws RX6 TX6 18
theorem nmX6 : ∀ a, a < 18 → ∀ b, b < 18 → a ≠ b → (TX6 a).2.1 ≠ (TX6 b).2.1 := by decide +kernel
theorem tyX6_ok : ∀ k, k < 18 → parseFieldDescriptor (TX6 k).2.2.1 = some (tyX6 k) := by decide +kernel
def RJ7 : String := "java/util/Arrays"
def RL : String := "SpreadingDeletesLaw"
abbrev cX0_init : ByteArray := prog_2_method_1_code
def yX0_init : MethodName := ⟨RX0, "<init>", "()V"⟩
abbrev cX0_leadsBack : ByteArray := prog_2_method_2_code
def yX0_leadsBack : MethodName := ⟨RX0, "leadsBack", "(LSpreadingDeletes$State;I)Z"⟩
abbrev cX0_reachParents : ByteArray := prog_2_method_3_code
def yX0_reachParents : MethodName := ⟨RX0, "reachParents", "(LSpreadingDeletes$State;I)V"⟩
abbrev cX0_reach : ByteArray := prog_2_method_4_code
def yX0_reach : MethodName := ⟨RX0, "reach", "(I)V"⟩
abbrev cX1_init : ByteArray := prog_3_method_1_code
def yX1_init : MethodName := ⟨RX1, "<init>", "()V"⟩
abbrev cX1_plan : ByteArray := prog_3_method_2_code
def yX1_plan : MethodName := ⟨RX1, "plan", "(LSpreadingDeletes$State;II)I"⟩
abbrev cX1_gather : ByteArray := prog_3_method_3_code
def yX1_gather : MethodName := ⟨RX1, "gather", "(LSpreadingDeletes$State;I)V"⟩
abbrev cX1_begin : ByteArray := prog_3_method_4_code
def yX1_begin : MethodName := ⟨RX1, "begin", "(I)V"⟩
abbrev cX1_end : ByteArray := prog_3_method_5_code
def yX1_end : MethodName := ⟨RX1, "end", "()V"⟩
abbrev cX1_nextChild : ByteArray := prog_3_method_6_code
def yX1_nextChild : MethodName := ⟨RX1, "nextChild", "(LSpreadingDeletes$State;)I"⟩
abbrev cX1_judge : ByteArray := prog_3_method_7_code
def yX1_judge : MethodName := ⟨RX1, "judge", "(LSpreadingDeletes$State;)V"⟩
abbrev cX1_losesParent : ByteArray := prog_3_method_8_code
def yX1_losesParent : MethodName := ⟨RX1, "losesParent", "(LSpreadingDeletes$State;II)Z"⟩
abbrev cX1_isMarked : ByteArray := prog_3_method_9_code
def yX1_isMarked : MethodName := ⟨RX1, "isMarked", "(I)Z"⟩
abbrev cX1_refusalAt : ByteArray := prog_3_method_10_code
def yX1_refusalAt : MethodName := ⟨RX1, "refusalAt", "(LSpreadingDeletes$State;II)I"⟩
abbrev cX1_newValue : ByteArray := prog_3_method_11_code
def yX1_newValue : MethodName := ⟨RX1, "newValue", "(LSpreadingDeletes$State;I)I"⟩
abbrev cX1_carryOut : ByteArray := prog_3_method_12_code
def yX1_carryOut : MethodName := ⟨RX1, "carryOut", "(LSpreadingDeletes$State;)I"⟩
abbrev cX1_changeValues : ByteArray := prog_3_method_13_code
def yX1_changeValues : MethodName := ⟨RX1, "changeValues", "(LSpreadingDeletes$State;I)V"⟩
abbrev cX2_init : ByteArray := prog_4_method_1_code
def yX2_init : MethodName := ⟨RX2, "<init>", "()V"⟩
abbrev cX2_remember : ByteArray := prog_4_method_2_code
def yX2_remember : MethodName := ⟨RX2, "remember", "(LSpreadingDeletes$State;)V"⟩
abbrev cX2_dropOldest : ByteArray := prog_4_method_3_code
def yX2_dropOldest : MethodName := ⟨RX2, "dropOldest", "()V"⟩
abbrev cX2_bringBack : ByteArray := prog_4_method_4_code
def yX2_bringBack : MethodName := ⟨RX2, "bringBack", "(LSpreadingDeletes$State;)I"⟩
abbrev cX3_init : ByteArray := prog_5_method_1_code
def yX3_init : MethodName := ⟨RX3, "<init>", "()V"⟩
abbrev cX3_append : ByteArray := prog_5_method_2_code
def yX3_append : MethodName := ⟨RX3, "append", "(C)I"⟩
abbrev cX3_rewind : ByteArray := prog_5_method_3_code
def yX3_rewind : MethodName := ⟨RX3, "rewind", "()V"⟩
abbrev cX3_survey : ByteArray := prog_5_method_4_code
def yX3_survey : MethodName := ⟨RX3, "survey", "()I"⟩
abbrev cX3_readStatement : ByteArray := prog_5_method_5_code
def yX3_readStatement : MethodName := ⟨RX3, "readStatement", "()Z"⟩
abbrev cX3_readRow : ByteArray := prog_5_method_6_code
def yX3_readRow : MethodName := ⟨RX3, "readRow", "()Z"⟩
abbrev cX3_readInsertedValues : ByteArray := prog_5_method_7_code
def yX3_readInsertedValues : MethodName := ⟨RX3, "readInsertedValues", "()Z"⟩
abbrev cX3_readChange : ByteArray := prog_5_method_8_code
def yX3_readChange : MethodName := ⟨RX3, "readChange", "()Z"⟩
abbrev cX3_readValue : ByteArray := prog_5_method_9_code
def yX3_readValue : MethodName := ⟨RX3, "readValue", "()Z"⟩
abbrev cX3_readKey : ByteArray := prog_5_method_10_code
def yX3_readKey : MethodName := ⟨RX3, "readKey", "()Z"⟩
abbrev cX3_takeDigit : ByteArray := prog_5_method_11_code
def yX3_takeDigit : MethodName := ⟨RX3, "takeDigit", "(C)Z"⟩
abbrev cX3_take : ByteArray := prog_5_method_12_code
def yX3_take : MethodName := ⟨RX3, "take", "(C)Z"⟩
abbrev cX4_init : ByteArray := prog_6_method_1_code
def yX4_init : MethodName := ⟨RX4, "<init>", "()V"⟩
abbrev cX4_copyFrom : ByteArray := prog_6_method_2_code
def yX4_copyFrom : MethodName := ⟨RX4, "copyFrom", "(LSpreadingDeletes$State;)V"⟩
abbrev cX4_hasTable : ByteArray := prog_6_method_3_code
def yX4_hasTable : MethodName := ⟨RX4, "hasTable", "(I)Z"⟩
abbrev cX4_hasReference : ByteArray := prog_6_method_4_code
def yX4_hasReference : MethodName := ⟨RX4, "hasReference", "(I)Z"⟩
abbrev cX4_hasColumn : ByteArray := prog_6_method_5_code
def yX4_hasColumn : MethodName := ⟨RX4, "hasColumn", "(II)Z"⟩
abbrev cX4_hasRow : ByteArray := prog_6_method_6_code
def yX4_hasRow : MethodName := ⟨RX4, "hasRow", "(II)Z"⟩
abbrev cX4_slotOf : ByteArray := prog_6_method_7_code
def yX4_slotOf : MethodName := ⟨RX4, "slotOf", "(II)I"⟩
abbrev cX4_valueAt : ByteArray := prog_6_method_8_code
def yX4_valueAt : MethodName := ⟨RX4, "valueAt", "(II)I"⟩
abbrev cX4_fact : ByteArray := prog_6_method_9_code
def yX4_fact : MethodName := ⟨RX4, "fact", "(II)I"⟩
abbrev cX4_referenceOf : ByteArray := prog_6_method_10_code
def yX4_referenceOf : MethodName := ⟨RX4, "referenceOf", "(II)I"⟩
abbrev cX4_childAt : ByteArray := prog_6_method_11_code
def yX4_childAt : MethodName := ⟨RX4, "childAt", "(II)I"⟩
abbrev cX4_parentAt : ByteArray := prog_6_method_12_code
def yX4_parentAt : MethodName := ⟨RX4, "parentAt", "(II)I"⟩
abbrev cX4_countRows : ByteArray := prog_6_method_13_code
def yX4_countRows : MethodName := ⟨RX4, "countRows", "()I"⟩
abbrev cX4_countNulls : ByteArray := prog_6_method_14_code
def yX4_countNulls : MethodName := ⟨RX4, "countNulls", "()I"⟩
abbrev cX4_countChildren : ByteArray := prog_6_method_15_code
def yX4_countChildren : MethodName := ⟨RX4, "countChildren", "(II)I"⟩
abbrev cX4_appendTable : ByteArray := prog_6_method_16_code
def yX4_appendTable : MethodName := ⟨RX4, "appendTable", "()I"⟩
abbrev cX4_appendReference : ByteArray := prog_6_method_17_code
def yX4_appendReference : MethodName := ⟨RX4, "appendReference", "(IIIZI)I"⟩
abbrev cX4_checkInsert : ByteArray := prog_6_method_18_code
def yX4_checkInsert : MethodName := ⟨RX4, "checkInsert", "(IIII)I"⟩
abbrev cX4_checkUpdate : ByteArray := prog_6_method_19_code
def yX4_checkUpdate : MethodName := ⟨RX4, "checkUpdate", "(IIII)I"⟩
abbrev cX4_fits : ByteArray := prog_6_method_20_code
def yX4_fits : MethodName := ⟨RX4, "fits", "(III)Z"⟩
abbrev cX4_isMissing : ByteArray := prog_6_method_21_code
def yX4_isMissing : MethodName := ⟨RX4, "isMissing", "(III)Z"⟩
abbrev cX4_hasNoParent : ByteArray := prog_6_method_22_code
def yX4_hasNoParent : MethodName := ⟨RX4, "hasNoParent", "(IIII)Z"⟩
abbrev cX4_addRow : ByteArray := prog_6_method_23_code
def yX4_addRow : MethodName := ⟨RX4, "addRow", "(IIII)I"⟩
abbrev cX4_changeValue : ByteArray := prog_6_method_24_code
def yX4_changeValue : MethodName := ⟨RX4, "changeValue", "(IIII)I"⟩
abbrev cX4_removeRow : ByteArray := prog_6_method_25_code
def yX4_removeRow : MethodName := ⟨RX4, "removeRow", "(I)V"⟩
abbrev cX4_moveRow : ByteArray := prog_6_method_26_code
def yX4_moveRow : MethodName := ⟨RX4, "moveRow", "(II)V"⟩
abbrev cX5_init : ByteArray := prog_1_method_1_code
def yX5_init : MethodName := ⟨RX5, "<init>", "()V"⟩
abbrev cX5_addTable : ByteArray := prog_1_method_2_code
def yX5_addTable : MethodName := ⟨RX5, "addTable", "()I"⟩
abbrev cX5_addReference : ByteArray := prog_1_method_3_code
def yX5_addReference : MethodName := ⟨RX5, "addReference", "(IIIZI)I"⟩
abbrev cX5_setRule : ByteArray := prog_1_method_4_code
def yX5_setRule : MethodName := ⟨RX5, "setRule", "(II)I"⟩
abbrev cX5_insert : ByteArray := prog_1_method_5_code
def yX5_insert : MethodName := ⟨RX5, "insert", "(IIII)I"⟩
abbrev cX5_update : ByteArray := prog_1_method_6_code
def yX5_update : MethodName := ⟨RX5, "update", "(IIII)I"⟩
abbrev cX5_delete : ByteArray := prog_1_method_7_code
def yX5_delete : MethodName := ⟨RX5, "delete", "(II)I"⟩
abbrev cX5_type : ByteArray := prog_1_method_8_code
def yX5_type : MethodName := ⟨RX5, "type", "(C)I"⟩
abbrev cX5_clearText : ByteArray := prog_1_method_9_code
def yX5_clearText : MethodName := ⟨RX5, "clearText", "()I"⟩
abbrev cX5_perform : ByteArray := prog_1_method_10_code
def yX5_perform : MethodName := ⟨RX5, "perform", "()I"⟩
abbrev cX5_undo : ByteArray := prog_1_method_11_code
def yX5_undo : MethodName := ⟨RX5, "undo", "()I"⟩
abbrev cX5_keep : ByteArray := prog_1_method_12_code
def yX5_keep : MethodName := ⟨RX5, "keep", "()I"⟩
abbrev cX5_restore : ByteArray := prog_1_method_13_code
def yX5_restore : MethodName := ⟨RX5, "restore", "()I"⟩
abbrev cX5_rows : ByteArray := prog_1_method_14_code
def yX5_rows : MethodName := ⟨RX5, "rows", "(I)I"⟩
abbrev cX5_keyAt : ByteArray := prog_1_method_15_code
def yX5_keyAt : MethodName := ⟨RX5, "keyAt", "(II)I"⟩
abbrev cX5_value : ByteArray := prog_1_method_16_code
def yX5_value : MethodName := ⟨RX5, "value", "(III)I"⟩
abbrev cX5_children : ByteArray := prog_1_method_17_code
def yX5_children : MethodName := ⟨RX5, "children", "(II)I"⟩
abbrev cX5_reference : ByteArray := prog_1_method_18_code
def yX5_reference : MethodName := ⟨RX5, "reference", "(II)I"⟩
abbrev cX5_deleted : ByteArray := prog_1_method_19_code
def yX5_deleted : MethodName := ⟨RX5, "deleted", "(I)I"⟩
abbrev cX5_total : ByteArray := prog_1_method_20_code
def yX5_total : MethodName := ⟨RX5, "total", "(I)I"⟩
abbrev cX5_gathered : ByteArray := prog_1_method_21_code
def yX5_gathered : MethodName := ⟨RX5, "gathered", "(III)I"⟩
abbrev cX5_reason : ByteArray := prog_1_method_22_code
def yX5_reason : MethodName := ⟨RX5, "reason", "(II)I"⟩
abbrev cX5_blocking : ByteArray := prog_1_method_23_code
def yX5_blocking : MethodName := ⟨RX5, "blocking", "(II)I"⟩
abbrev cX5_wouldChange : ByteArray := prog_1_method_24_code
def yX5_wouldChange : MethodName := ⟨RX5, "wouldChange", "(II)I"⟩
abbrev cX5_isInRing : ByteArray := prog_1_method_25_code
def yX5_isInRing : MethodName := ⟨RX5, "isInRing", "(II)I"⟩
abbrev cX5_deletable : ByteArray := prog_1_method_26_code
def yX5_deletable : MethodName := ⟨RX5, "deletable", "(I)I"⟩
abbrev cX5_performStatement : ByteArray := prog_1_method_27_code
def yX5_performStatement : MethodName := ⟨RX5, "performStatement", "()I"⟩
abbrev cX5_isRule : ByteArray := prog_1_method_28_code
def yX5_isRule : MethodName := ⟨RX5, "isRule", "(I)Z"⟩
abbrev cX5_isKey : ByteArray := prog_1_method_29_code
def yX5_isKey : MethodName := ⟨RX5, "isKey", "(I)Z"⟩
abbrev cX5_isValue : ByteArray := prog_1_method_30_code
def yX5_isValue : MethodName := ⟨RX5, "isValue", "(I)Z"⟩
abbrev cX5_rowNumber : ByteArray := prog_1_method_31_code
def yX5_rowNumber : MethodName := ⟨RX5, "rowNumber", "(II)I"⟩
abbrev cX6_init : ByteArray := prog_8_method_1_code
def yX6_init : MethodName := ⟨RX6, "<init>", "()V"⟩
abbrev cX6_in : ByteArray := prog_8_method_2_code
def yX6_in : MethodName := ⟨RX6, "in", "(III)Z"⟩
abbrev cX6_isTable : ByteArray := prog_8_method_3_code
def yX6_isTable : MethodName := ⟨RX6, "isTable", "(II)Z"⟩
abbrev cX6_isReference : ByteArray := prog_8_method_4_code
def yX6_isReference : MethodName := ⟨RX6, "isReference", "(I)Z"⟩
abbrev cX6_isRow : ByteArray := prog_8_method_5_code
def yX6_isRow : MethodName := ⟨RX6, "isRow", "(III)Z"⟩
abbrev cX6_of : ByteArray := prog_8_method_6_code
def yX6_of : MethodName := ⟨RX6, "of", "(III)I"⟩
abbrev cX6_valueOf : ByteArray := prog_8_method_7_code
def yX6_valueOf : MethodName := ⟨RX6, "valueOf", "(III)I"⟩
abbrev cX6_lay : ByteArray := prog_8_method_8_code
def yX6_lay : MethodName := ⟨RX6, "lay", "(IIII)V"⟩
abbrev cX6_columns : ByteArray := prog_8_method_9_code
def yX6_columns : MethodName := ⟨RX6, "columns", "(II)I"⟩
abbrev cX6_referenceOf : ByteArray := prog_8_method_10_code
def yX6_referenceOf : MethodName := ⟨RX6, "referenceOf", "(III)I"⟩
abbrev cX6_rowsOf : ByteArray := prog_8_method_11_code
def yX6_rowsOf : MethodName := ⟨RX6, "rowsOf", "(II)I"⟩
abbrev cX6_allRows : ByteArray := prog_8_method_12_code
def yX6_allRows : MethodName := ⟨RX6, "allRows", "(I)I"⟩
abbrev cX6_isChild : ByteArray := prog_8_method_13_code
def yX6_isChild : MethodName := ⟨RX6, "isChild", "(IIII)Z"⟩
abbrev cX6_begins : ByteArray := prog_8_method_14_code
def yX6_begins : MethodName := ⟨RX6, "begins", "(II)V"⟩
abbrev cX6_gathers : ByteArray := prog_8_method_15_code
def yX6_gathers : MethodName := ⟨RX6, "gathers", "(II)V"⟩
abbrev cX6_isLacking : ByteArray := prog_8_method_16_code
def yX6_isLacking : MethodName := ⟨RX6, "isLacking", "(II)Z"⟩
abbrev cX6_whyNot : ByteArray := prog_8_method_17_code
def yX6_whyNot : MethodName := ⟨RX6, "whyNot", "(IIII)I"⟩
abbrev cX6_reasonOf : ByteArray := prog_8_method_18_code
def yX6_reasonOf : MethodName := ⟨RX6, "reasonOf", "(I)I"⟩
abbrev cX6_changes : ByteArray := prog_8_method_19_code
def yX6_changes : MethodName := ⟨RX6, "changes", "(IZ)I"⟩
abbrev cX6_deletes : ByteArray := prog_8_method_20_code
def yX6_deletes : MethodName := ⟨RX6, "deletes", "(III)I"⟩
abbrev cX6_hasParent : ByteArray := prog_8_method_21_code
def yX6_hasParent : MethodName := ⟨RX6, "hasParent", "(IIII)Z"⟩
abbrev cX6_isNeeded : ByteArray := prog_8_method_22_code
def yX6_isNeeded : MethodName := ⟨RX6, "isNeeded", "(III)Z"⟩
abbrev cX6_inserts : ByteArray := prog_8_method_23_code
def yX6_inserts : MethodName := ⟨RX6, "inserts", "(IIIII)I"⟩
abbrev cX6_updates : ByteArray := prog_8_method_24_code
def yX6_updates : MethodName := ⟨RX6, "updates", "(IIIII)I"⟩
abbrev cX6_copies : ByteArray := prog_8_method_25_code
def yX6_copies : MethodName := ⟨RX6, "copies", "(II)V"⟩
abbrev cX6_accepts : ByteArray := prog_8_method_26_code
def yX6_accepts : MethodName := ⟨RX6, "accepts", "(I)I"⟩
abbrev cX6_addTable : ByteArray := prog_8_method_27_code
def yX6_addTable : MethodName := ⟨RX6, "addTable", "()I"⟩
abbrev cX6_addReference : ByteArray := prog_8_method_28_code
def yX6_addReference : MethodName := ⟨RX6, "addReference", "(IIIZI)I"⟩
abbrev cX6_setRule : ByteArray := prog_8_method_29_code
def yX6_setRule : MethodName := ⟨RX6, "setRule", "(II)I"⟩
abbrev cX6_insert : ByteArray := prog_8_method_30_code
def yX6_insert : MethodName := ⟨RX6, "insert", "(IIII)I"⟩
abbrev cX6_update : ByteArray := prog_8_method_31_code
def yX6_update : MethodName := ⟨RX6, "update", "(IIII)I"⟩
abbrev cX6_delete : ByteArray := prog_8_method_32_code
def yX6_delete : MethodName := ⟨RX6, "delete", "(II)I"⟩
abbrev cX6_type : ByteArray := prog_8_method_33_code
def yX6_type : MethodName := ⟨RX6, "type", "(C)I"⟩
abbrev cX6_clearText : ByteArray := prog_8_method_34_code
def yX6_clearText : MethodName := ⟨RX6, "clearText", "()I"⟩
abbrev cX6_isHere : ByteArray := prog_8_method_35_code
def yX6_isHere : MethodName := ⟨RX6, "isHere", "(II)Z"⟩
abbrev cX6_takes : ByteArray := prog_8_method_36_code
def yX6_takes : MethodName := ⟨RX6, "takes", "(I)Z"⟩
abbrev cX6_digit : ByteArray := prog_8_method_37_code
def yX6_digit : MethodName := ⟨RX6, "digit", "(I)I"⟩
abbrev cX6_number : ByteArray := prog_8_method_38_code
def yX6_number : MethodName := ⟨RX6, "number", "()I"⟩
abbrev cX6_value : ByteArray := prog_8_method_39_code
def yX6_value : MethodName := ⟨RX6, "value", "()I"⟩
abbrev cX6_readsValues : ByteArray := prog_8_method_40_code
def yX6_readsValues : MethodName := ⟨RX6, "readsValues", "()Z"⟩
abbrev cX6_readsUpdate : ByteArray := prog_8_method_41_code
def yX6_readsUpdate : MethodName := ⟨RX6, "readsUpdate", "()Z"⟩
abbrev cX6_reads : ByteArray := prog_8_method_42_code
def yX6_reads : MethodName := ⟨RX6, "reads", "()Z"⟩
abbrev cX6_fault : ByteArray := prog_8_method_43_code
def yX6_fault : MethodName := ⟨RX6, "fault", "()I"⟩
abbrev cX6_carries : ByteArray := prog_8_method_44_code
def yX6_carries : MethodName := ⟨RX6, "carries", "()I"⟩
abbrev cX6_perform : ByteArray := prog_8_method_45_code
def yX6_perform : MethodName := ⟨RX6, "perform", "()I"⟩
abbrev cX6_undo : ByteArray := prog_8_method_46_code
def yX6_undo : MethodName := ⟨RX6, "undo", "()I"⟩
abbrev cX6_keep : ByteArray := prog_8_method_47_code
def yX6_keep : MethodName := ⟨RX6, "keep", "()I"⟩
abbrev cX6_restore : ByteArray := prog_8_method_48_code
def yX6_restore : MethodName := ⟨RX6, "restore", "()I"⟩
abbrev cX6_rows : ByteArray := prog_8_method_49_code
def yX6_rows : MethodName := ⟨RX6, "rows", "(I)I"⟩
abbrev cX6_keyAt : ByteArray := prog_8_method_50_code
def yX6_keyAt : MethodName := ⟨RX6, "keyAt", "(II)I"⟩
abbrev cX6_value_ : ByteArray := prog_8_method_51_code
def yX6_value_ : MethodName := ⟨RX6, "value", "(III)I"⟩
abbrev cX6_children : ByteArray := prog_8_method_52_code
def yX6_children : MethodName := ⟨RX6, "children", "(II)I"⟩
abbrev cX6_reference : ByteArray := prog_8_method_53_code
def yX6_reference : MethodName := ⟨RX6, "reference", "(II)I"⟩
abbrev cX6_deleted : ByteArray := prog_8_method_54_code
def yX6_deleted : MethodName := ⟨RX6, "deleted", "(I)I"⟩
abbrev cX6_nulls : ByteArray := prog_8_method_55_code
def yX6_nulls : MethodName := ⟨RX6, "nulls", "()I"⟩
abbrev cX6_total : ByteArray := prog_8_method_56_code
def yX6_total : MethodName := ⟨RX6, "total", "(I)I"⟩
abbrev cX6_gathered : ByteArray := prog_8_method_57_code
def yX6_gathered : MethodName := ⟨RX6, "gathered", "(III)I"⟩
abbrev cX6_reason : ByteArray := prog_8_method_58_code
def yX6_reason : MethodName := ⟨RX6, "reason", "(II)I"⟩
abbrev cX6_blocking : ByteArray := prog_8_method_59_code
def yX6_blocking : MethodName := ⟨RX6, "blocking", "(II)I"⟩
abbrev cX6_wouldChange : ByteArray := prog_8_method_60_code
def yX6_wouldChange : MethodName := ⟨RX6, "wouldChange", "(II)I"⟩
abbrev cX6_leadsBack : ByteArray := prog_8_method_61_code
def yX6_leadsBack : MethodName := ⟨RX6, "leadsBack", "(I)Z"⟩
abbrev cX6_isInRing : ByteArray := prog_8_method_62_code
def yX6_isInRing : MethodName := ⟨RX6, "isInRing", "(II)I"⟩
abbrev cX6_deletable : ByteArray := prog_8_method_63_code
def yX6_deletable : MethodName := ⟨RX6, "deletable", "(I)I"⟩
abbrev cJ7_fill_53178 : ByteArray := prog_10_method_103_code
def yJ7_fill_53178 : MethodName := ⟨RJ7, "fill", "([II)V"⟩
abbrev cL_law : ByteArray := code
def yL_law : MethodName := ⟨RL, "law", "([I)Z"⟩
abbrev classes : List vw_C := [(RX0, TX0, 3), (RX1, TX1, 9), (RX2, TX2, 2), (RX3, TX3, 10), (RX4, TX4, 13), (RX5, TX5, 8), (RX6, TX6, 18)]
theorem goodIn_r_ {big : List Cond} (ws : List Cond) (ps : List Nat) (hp : ws = ps.filterMap (fun i => big[i]?)) (h : ws.all goodWord = true) : GoodIn big ws := by
  intro w hw
  have h1 := List.all_eq_true.mp h w hw
  rw [hp] at hw
  obtain ⟨i, -, hi⟩ := List.mem_filterMap.mp hw
  exact ⟨List.mem_of_getElem? hi, good_of_word h1⟩
/-- the words that stay true under warmer tables -/
def lw_u : List Cond := lw_tbl.filter goodWord
theorem lw_u_good : lw_u.all goodWord = true := List.all_eq_true.mpr fun w hw => (List.mem_filter.mp hw).2
theorem lw_u_in : ∀ w ∈ lw_u, w ∈ lw_tbl := fun w hw => (List.mem_filter.mp hw).1
theorem lw_u_goodIn : GoodIn lw_u lw_u := fun w hw => ⟨hw, good_of_word (List.all_eq_true.mp lw_u_good w hw)⟩

set_option maxRecDepth 20000 in
theorem inX0 : ∀ w ∈ wsX00, w ∈ lw_u := fun w h => List.mem_filter.mpr ⟨(goodIn_r_ wsX00 [251, 253, 255] (by decide +kernel) (by decide +kernel) w h).1, List.all_eq_true.mp (show List.all wsX00 goodWord = true by decide +kernel) w h⟩
set_option maxRecDepth 20000 in
theorem inX1 : ∀ w ∈ wsX10, w ∈ lw_u := fun w h => List.mem_filter.mpr ⟨(goodIn_r_ wsX10 [223, 225, 227, 229, 231, 233, 235, 237, 239] (by decide +kernel) (by decide +kernel) w h).1, List.all_eq_true.mp (show List.all wsX10 goodWord = true by decide +kernel) w h⟩
set_option maxRecDepth 20000 in
theorem inX2 : ∀ w ∈ wsX20, w ∈ lw_u := fun w h => List.mem_filter.mpr ⟨(goodIn_r_ wsX20 [153, 155] (by decide +kernel) (by decide +kernel) w h).1, List.all_eq_true.mp (show List.all wsX20 goodWord = true by decide +kernel) w h⟩
set_option maxRecDepth 20000 in
theorem inX3 : ∀ w ∈ wsX30, w ∈ lw_u := fun w h => List.mem_filter.mpr ⟨(goodIn_r_ wsX30 [181, 183, 185, 187, 189, 191, 193, 195, 197, 199] (by decide +kernel) (by decide +kernel) w h).1, List.all_eq_true.mp (show List.all wsX30 goodWord = true by decide +kernel) w h⟩
set_option maxRecDepth 20000 in
theorem inX4 : ∀ w ∈ wsX40, w ∈ lw_u := fun w h => List.mem_filter.mpr ⟨(goodIn_r_ wsX40 [113, 115, 117, 119, 121, 123, 125, 127, 129, 131, 133, 135, 137] (by decide +kernel) (by decide +kernel) w h).1, List.all_eq_true.mp (show List.all wsX40 goodWord = true by decide +kernel) w h⟩
set_option maxRecDepth 20000 in
theorem inX5 : ∀ w ∈ wsX50, w ∈ lw_u := fun w h => List.mem_filter.mpr ⟨(goodIn_r_ wsX50 [266, 268, 270, 272, 274, 276, 278, 280] (by decide +kernel) (by decide +kernel) w h).1, List.all_eq_true.mp (show List.all wsX50 goodWord = true by decide +kernel) w h⟩
set_option maxRecDepth 20000 in
theorem inX6 : ∀ w ∈ wsX60, w ∈ lw_u := fun w h => List.mem_filter.mpr ⟨(goodIn_r_ wsX60 [669, 671, 673, 675, 677, 679, 681, 683, 685, 687, 689, 691, 693, 695, 697, 699, 701, 703] (by decide +kernel) (by decide +kernel) w h).1, List.all_eq_true.mp (show List.all wsX60 goodWord = true by decide +kernel) w h⟩
