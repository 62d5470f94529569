set_option maxRecDepth 100000 in
theorem okL_0 : mm_okC mi_L_law mk_L0 = true := by decide +kernel
set_option maxRecDepth 100000 in
theorem okL_1 : mm_okC mi_L_law mk_L1 = true := by decide +kernel
set_option maxRecDepth 100000 in
theorem okL_2 : mm_okC mi_L_law mk_L2 = true := by decide +kernel
set_option maxRecDepth 100000 in
theorem okL_3 : mm_okC mi_L_law mk_L3 = true := by decide +kernel
set_option maxRecDepth 100000 in
theorem okL_4 : mm_okC mi_L_law mk_L4 = true := by decide +kernel
set_option maxRecDepth 100000 in
theorem okL_5 : mm_okC mi_L_law mk_L5 = true := by decide +kernel
set_option maxRecDepth 100000 in
theorem okL_6 : mm_okC mi_L_law mk_L6 = true := by decide +kernel
set_option maxRecDepth 100000 in
theorem okL_7 : mm_okC mi_L_law mk_L7 = true := by decide +kernel
set_option maxRecDepth 100000 in
theorem okL_8 : mm_okC mi_L_law mk_L8 = true := by decide +kernel
set_option maxRecDepth 100000 in
theorem okL_9 : mm_okC mi_L_law mk_L9 = true := by decide +kernel
set_option maxRecDepth 100000 in
theorem okL_10 : mm_okC mi_L_law mk_L10 = true := by decide +kernel
set_option maxRecDepth 100000 in
theorem okL_11 : mm_okC mi_L_law mk_L11 = true := by decide +kernel
set_option maxRecDepth 100000 in
theorem okL_12 : mm_okC mi_L_law mk_L12 = true := by decide +kernel
set_option maxRecDepth 100000 in
theorem okL_13 : mm_okC mi_L_law mk_L13 = true := by decide +kernel
set_option maxRecDepth 100000 in
theorem okL_14 : mm_okC mi_L_law mk_L14 = true := by decide +kernel
set_option maxRecDepth 100000 in
theorem okL_15 : mm_okC mi_L_law mk_L15 = true := by decide +kernel
set_option maxRecDepth 100000 in
theorem okL_16 : mm_okC mi_L_law mk_L16 = true := by decide +kernel
set_option maxRecDepth 100000 in
theorem okL_17 : mm_okC mi_L_law mk_L17 = true := by decide +kernel
set_option maxRecDepth 100000 in
theorem okL_18 : mm_okC mi_L_law mk_L18 = true := by decide +kernel
set_option maxRecDepth 100000 in
theorem okL_19 : mm_okC mi_L_law mk_L19 = true := by decide +kernel
set_option maxRecDepth 100000 in
theorem okL_20 : mm_okC mi_L_law mk_L20 = true := by decide +kernel
set_option maxRecDepth 100000 in
theorem okL_21 : mm_okC mi_L_law mk_L21 = true := by decide +kernel
set_option maxRecDepth 100000 in
theorem okL_22 : mm_okC mi_L_law mk_L22 = true := by decide +kernel
set_option maxRecDepth 100000 in
theorem okL_23 : mm_okC mi_L_law mk_L23 = true := by decide +kernel
set_option maxRecDepth 100000 in
theorem okL_24 : mm_okC mi_L_law mk_L24 = true := by decide +kernel
set_option maxRecDepth 100000 in
theorem okL_25 : mm_okC mi_L_law mk_L25 = true := by decide +kernel
set_option maxRecDepth 100000 in
theorem okL_26 : mm_okC mi_L_law mk_L26 = true := by decide +kernel
set_option maxRecDepth 100000 in
theorem okL_27 : mm_okC mi_L_law mk_L27 = true := by decide +kernel
set_option maxRecDepth 100000 in
theorem okL_28 : mm_okC mi_L_law mk_L28 = true := by decide +kernel
set_option maxRecDepth 100000 in
theorem okL_h : mm_okH (mi_L_law, mk_L_law) 0 = true := by decide +kernel
theorem okL_c : ∀ ch ∈ mk_L_law, mm_okC mi_L_law ch = true := List.forall_mem_cons.mpr ⟨okL_0, List.forall_mem_cons.mpr ⟨okL_1, List.forall_mem_cons.mpr ⟨okL_2, List.forall_mem_cons.mpr ⟨okL_3, List.forall_mem_cons.mpr ⟨okL_4, List.forall_mem_cons.mpr ⟨okL_5, List.forall_mem_cons.mpr ⟨okL_6, List.forall_mem_cons.mpr ⟨okL_7, List.forall_mem_cons.mpr ⟨okL_8, List.forall_mem_cons.mpr ⟨okL_9, List.forall_mem_cons.mpr ⟨okL_10, List.forall_mem_cons.mpr ⟨okL_11, List.forall_mem_cons.mpr ⟨okL_12, List.forall_mem_cons.mpr ⟨okL_13, List.forall_mem_cons.mpr ⟨okL_14, List.forall_mem_cons.mpr ⟨okL_15, List.forall_mem_cons.mpr ⟨okL_16, List.forall_mem_cons.mpr ⟨okL_17, List.forall_mem_cons.mpr ⟨okL_18, List.forall_mem_cons.mpr ⟨okL_19, List.forall_mem_cons.mpr ⟨okL_20, List.forall_mem_cons.mpr ⟨okL_21, List.forall_mem_cons.mpr ⟨okL_22, List.forall_mem_cons.mpr ⟨okL_23, List.forall_mem_cons.mpr ⟨okL_24, List.forall_mem_cons.mpr ⟨okL_25, List.forall_mem_cons.mpr ⟨okL_26, List.forall_mem_cons.mpr ⟨okL_27, List.forall_mem_cons.mpr ⟨okL_28, fun _ h => absurd h List.not_mem_nil⟩⟩⟩⟩⟩⟩⟩⟩⟩⟩⟩⟩⟩⟩⟩⟩⟩⟩⟩⟩⟩⟩⟩⟩⟩⟩⟩⟩⟩
theorem ok_L_law : mm_okE (mi_L_law, mk_L_law) 0 = true := by
  show (mk_L_law.all (mm_okC mi_L_law) && mm_okH (mi_L_law, mk_L_law) 0) = true
  rw [List.all_eq_true.mpr okL_c, okL_h]; rfl
theorem ok_g0 : ∀ e ∈ (mt_ents.drop 0).take 20, ∃ p, mm_okE e p = true := List.forall_mem_cons.mpr ⟨⟨246, ok_X0_init⟩, List.forall_mem_cons.mpr ⟨⟨626, ok_X0_leadsBack⟩, List.forall_mem_cons.mpr ⟨⟨631, ok_X0_reachParents⟩, List.forall_mem_cons.mpr ⟨⟨640, ok_X0_reach⟩, List.forall_mem_cons.mpr ⟨⟨207, ok_X1_init⟩, List.forall_mem_cons.mpr ⟨⟨410, ok_X1_plan⟩, List.forall_mem_cons.mpr ⟨⟨418, ok_X1_gather⟩, List.forall_mem_cons.mpr ⟨⟨425, ok_X1_begin⟩, List.forall_mem_cons.mpr ⟨⟨447, ok_X1_end⟩, List.forall_mem_cons.mpr ⟨⟨429, ok_X1_nextChild⟩, List.forall_mem_cons.mpr ⟨⟨451, ok_X1_judge⟩, List.forall_mem_cons.mpr ⟨⟨455, ok_X1_losesParent⟩, List.forall_mem_cons.mpr ⟨⟨443, ok_X1_isMarked⟩, List.forall_mem_cons.mpr ⟨⟨459, ok_X1_refusalAt⟩, List.forall_mem_cons.mpr ⟨⟨462, ok_X1_newValue⟩, List.forall_mem_cons.mpr ⟨⟨466, ok_X1_carryOut⟩, List.forall_mem_cons.mpr ⟨⟨470, ok_X1_changeValues⟩, List.forall_mem_cons.mpr ⟨⟨145, ok_X2_init⟩, List.forall_mem_cons.mpr ⟨⟨290, ok_X2_remember⟩, List.forall_mem_cons.mpr ⟨⟨294, ok_X2_dropOldest⟩, fun _ h => absurd h List.not_mem_nil⟩⟩⟩⟩⟩⟩⟩⟩⟩⟩⟩⟩⟩⟩⟩⟩⟩⟩⟩⟩
theorem ok_g1 : ∀ e ∈ (mt_ents.drop 20).take 20, ∃ p, mm_okE e p = true := List.forall_mem_cons.mpr ⟨⟨548, ok_X2_bringBack⟩, List.forall_mem_cons.mpr ⟨⟨162, ok_X3_init⟩, List.forall_mem_cons.mpr ⟨⟨484, ok_X3_append⟩, List.forall_mem_cons.mpr ⟨⟨500, ok_X3_rewind⟩, List.forall_mem_cons.mpr ⟨⟨496, ok_X3_survey⟩, List.forall_mem_cons.mpr ⟨⟨504, ok_X3_readStatement⟩, List.forall_mem_cons.mpr ⟨⟨512, ok_X3_readRow⟩, List.forall_mem_cons.mpr ⟨⟨524, ok_X3_readInsertedValues⟩, List.forall_mem_cons.mpr ⟨⟨532, ok_X3_readChange⟩, List.forall_mem_cons.mpr ⟨⟨528, ok_X3_readValue⟩, List.forall_mem_cons.mpr ⟨⟨520, ok_X3_readKey⟩, List.forall_mem_cons.mpr ⟨⟨516, ok_X3_takeDigit⟩, List.forall_mem_cons.mpr ⟨⟨508, ok_X3_take⟩, List.forall_mem_cons.mpr ⟨⟨81, ok_X4_init⟩, List.forall_mem_cons.mpr ⟨⟨298, ok_X4_copyFrom⟩, List.forall_mem_cons.mpr ⟨⟨313, ok_X4_hasTable⟩, List.forall_mem_cons.mpr ⟨⟨334, ok_X4_hasReference⟩, List.forall_mem_cons.mpr ⟨⟨356, ok_X4_hasColumn⟩, List.forall_mem_cons.mpr ⟨⟨360, ok_X4_hasRow⟩, List.forall_mem_cons.mpr ⟨⟨364, ok_X4_slotOf⟩, fun _ h => absurd h List.not_mem_nil⟩⟩⟩⟩⟩⟩⟩⟩⟩⟩⟩⟩⟩⟩⟩⟩⟩⟩⟩⟩
theorem ok_g2 : ∀ e ∈ (mt_ents.drop 40).take 20, ∃ p, mm_okE e p = true := List.forall_mem_cons.mpr ⟨⟨389, ok_X4_valueAt⟩, List.forall_mem_cons.mpr ⟨⟨338, ok_X4_fact⟩, List.forall_mem_cons.mpr ⟨⟨372, ok_X4_referenceOf⟩, List.forall_mem_cons.mpr ⟨⟨439, ok_X4_childAt⟩, List.forall_mem_cons.mpr ⟨⟨434, ok_X4_parentAt⟩, List.forall_mem_cons.mpr ⟨⟨556, ok_X4_countRows⟩, List.forall_mem_cons.mpr ⟨⟨600, ok_X4_countNulls⟩, List.forall_mem_cons.mpr ⟨⟨584, ok_X4_countChildren⟩, List.forall_mem_cons.mpr ⟨⟨305, ok_X4_appendTable⟩, List.forall_mem_cons.mpr ⟨⟨326, ok_X4_appendReference⟩, List.forall_mem_cons.mpr ⟨⟨346, ok_X4_checkInsert⟩, List.forall_mem_cons.mpr ⟨⟨397, ok_X4_checkUpdate⟩, List.forall_mem_cons.mpr ⟨⟨352, ok_X4_fits⟩, List.forall_mem_cons.mpr ⟨⟨368, ok_X4_isMissing⟩, List.forall_mem_cons.mpr ⟨⟨377, ok_X4_hasNoParent⟩, List.forall_mem_cons.mpr ⟨⟨381, ok_X4_addRow⟩, List.forall_mem_cons.mpr ⟨⟨402, ok_X4_changeValue⟩, List.forall_mem_cons.mpr ⟨⟨475, ok_X4_removeRow⟩, List.forall_mem_cons.mpr ⟨⟨385, ok_X4_moveRow⟩, List.forall_mem_cons.mpr ⟨⟨73, ok_X5_init⟩, fun _ h => absurd h List.not_mem_nil⟩⟩⟩⟩⟩⟩⟩⟩⟩⟩⟩⟩⟩⟩⟩⟩⟩⟩⟩⟩
theorem ok_g3 : ∀ e ∈ (mt_ents.drop 60).take 20, ∃ p, mm_okE e p = true := List.forall_mem_cons.mpr ⟨⟨286, ok_X5_addTable⟩, List.forall_mem_cons.mpr ⟨⟨309, ok_X5_addReference⟩, List.forall_mem_cons.mpr ⟨⟨330, ok_X5_setRule⟩, List.forall_mem_cons.mpr ⟨⟨342, ok_X5_insert⟩, List.forall_mem_cons.mpr ⟨⟨393, ok_X5_update⟩, List.forall_mem_cons.mpr ⟨⟨406, ok_X5_delete⟩, List.forall_mem_cons.mpr ⟨⟨480, ok_X5_type⟩, List.forall_mem_cons.mpr ⟨⟨488, ok_X5_clearText⟩, List.forall_mem_cons.mpr ⟨⟨492, ok_X5_perform⟩, List.forall_mem_cons.mpr ⟨⟨544, ok_X5_undo⟩, List.forall_mem_cons.mpr ⟨⟨552, ok_X5_keep⟩, List.forall_mem_cons.mpr ⟨⟨560, ok_X5_restore⟩, List.forall_mem_cons.mpr ⟨⟨564, ok_X5_rows⟩, List.forall_mem_cons.mpr ⟨⟨568, ok_X5_keyAt⟩, List.forall_mem_cons.mpr ⟨⟨572, ok_X5_value⟩, List.forall_mem_cons.mpr ⟨⟨579, ok_X5_children⟩, List.forall_mem_cons.mpr ⟨⟨588, ok_X5_reference⟩, List.forall_mem_cons.mpr ⟨⟨592, ok_X5_deleted⟩, List.forall_mem_cons.mpr ⟨⟨596, ok_X5_total⟩, List.forall_mem_cons.mpr ⟨⟨605, ok_X5_gathered⟩, fun _ h => absurd h List.not_mem_nil⟩⟩⟩⟩⟩⟩⟩⟩⟩⟩⟩⟩⟩⟩⟩⟩⟩⟩⟩⟩
theorem ok_g4 : ∀ e ∈ (mt_ents.drop 80).take 20, ∃ p, mm_okE e p = true := List.forall_mem_cons.mpr ⟨⟨609, ok_X5_reason⟩, List.forall_mem_cons.mpr ⟨⟨613, ok_X5_blocking⟩, List.forall_mem_cons.mpr ⟨⟨617, ok_X5_wouldChange⟩, List.forall_mem_cons.mpr ⟨⟨621, ok_X5_isInRing⟩, List.forall_mem_cons.mpr ⟨⟨644, ok_X5_deletable⟩, List.forall_mem_cons.mpr ⟨⟨540, ok_X5_performStatement⟩, List.forall_mem_cons.mpr ⟨⟨316, ok_X5_isRule⟩, List.forall_mem_cons.mpr ⟨⟨322, ok_X5_isKey⟩, List.forall_mem_cons.mpr ⟨⟨319, ok_X5_isValue⟩, List.forall_mem_cons.mpr ⟨⟨414, ok_X5_rowNumber⟩, List.forall_mem_cons.mpr ⟨⟨649, ok_X6_init⟩, List.forall_mem_cons.mpr ⟨⟨729, ok_X6_in⟩, List.forall_mem_cons.mpr ⟨⟨726, ok_X6_isTable⟩, List.forall_mem_cons.mpr ⟨⟨749, ok_X6_isReference⟩, List.forall_mem_cons.mpr ⟨⟨761, ok_X6_isRow⟩, List.forall_mem_cons.mpr ⟨⟨737, ok_X6_of⟩, List.forall_mem_cons.mpr ⟨⟨785, ok_X6_valueOf⟩, List.forall_mem_cons.mpr ⟨⟨789, ok_X6_lay⟩, List.forall_mem_cons.mpr ⟨⟨733, ok_X6_columns⟩, List.forall_mem_cons.mpr ⟨⟨769, ok_X6_referenceOf⟩, fun _ h => absurd h List.not_mem_nil⟩⟩⟩⟩⟩⟩⟩⟩⟩⟩⟩⟩⟩⟩⟩⟩⟩⟩⟩⟩
theorem ok_g5 : ∀ e ∈ (mt_ents.drop 100).take 20, ∃ p, mm_okE e p = true := List.forall_mem_cons.mpr ⟨⟨741, ok_X6_rowsOf⟩, List.forall_mem_cons.mpr ⟨⟨889, ok_X6_allRows⟩, List.forall_mem_cons.mpr ⟨⟨809, ok_X6_isChild⟩, List.forall_mem_cons.mpr ⟨⟨805, ok_X6_begins⟩, List.forall_mem_cons.mpr ⟨⟨801, ok_X6_gathers⟩, List.forall_mem_cons.mpr ⟨⟨821, ok_X6_isLacking⟩, List.forall_mem_cons.mpr ⟨⟨817, ok_X6_whyNot⟩, List.forall_mem_cons.mpr ⟨⟨813, ok_X6_reasonOf⟩, List.forall_mem_cons.mpr ⟨⟨825, ok_X6_changes⟩, List.forall_mem_cons.mpr ⟨⟨797, ok_X6_deletes⟩, List.forall_mem_cons.mpr ⟨⟨773, ok_X6_hasParent⟩, List.forall_mem_cons.mpr ⟨⟨765, ok_X6_isNeeded⟩, List.forall_mem_cons.mpr ⟨⟨757, ok_X6_inserts⟩, List.forall_mem_cons.mpr ⟨⟨781, ok_X6_updates⟩, List.forall_mem_cons.mpr ⟨⟨714, ok_X6_copies⟩, List.forall_mem_cons.mpr ⟨⟨718, ok_X6_accepts⟩, List.forall_mem_cons.mpr ⟨⟨710, ok_X6_addTable⟩, List.forall_mem_cons.mpr ⟨⟨722, ok_X6_addReference⟩, List.forall_mem_cons.mpr ⟨⟨745, ok_X6_setRule⟩, List.forall_mem_cons.mpr ⟨⟨753, ok_X6_insert⟩, fun _ h => absurd h List.not_mem_nil⟩⟩⟩⟩⟩⟩⟩⟩⟩⟩⟩⟩⟩⟩⟩⟩⟩⟩⟩⟩
theorem ok_g6 : ∀ e ∈ (mt_ents.drop 120).take 20, ∃ p, mm_okE e p = true := List.forall_mem_cons.mpr ⟨⟨777, ok_X6_update⟩, List.forall_mem_cons.mpr ⟨⟨793, ok_X6_delete⟩, List.forall_mem_cons.mpr ⟨⟨829, ok_X6_type⟩, List.forall_mem_cons.mpr ⟨⟨833, ok_X6_clearText⟩, List.forall_mem_cons.mpr ⟨⟨853, ok_X6_isHere⟩, List.forall_mem_cons.mpr ⟨⟨849, ok_X6_takes⟩, List.forall_mem_cons.mpr ⟨⟨857, ok_X6_digit⟩, List.forall_mem_cons.mpr ⟨⟨861, ok_X6_number⟩, List.forall_mem_cons.mpr ⟨⟨869, ok_X6_value⟩, List.forall_mem_cons.mpr ⟨⟨865, ok_X6_readsValues⟩, List.forall_mem_cons.mpr ⟨⟨873, ok_X6_readsUpdate⟩, List.forall_mem_cons.mpr ⟨⟨845, ok_X6_reads⟩, List.forall_mem_cons.mpr ⟨⟨841, ok_X6_fault⟩, List.forall_mem_cons.mpr ⟨⟨877, ok_X6_carries⟩, List.forall_mem_cons.mpr ⟨⟨837, ok_X6_perform⟩, List.forall_mem_cons.mpr ⟨⟨881, ok_X6_undo⟩, List.forall_mem_cons.mpr ⟨⟨885, ok_X6_keep⟩, List.forall_mem_cons.mpr ⟨⟨893, ok_X6_restore⟩, List.forall_mem_cons.mpr ⟨⟨897, ok_X6_rows⟩, List.forall_mem_cons.mpr ⟨⟨901, ok_X6_keyAt⟩, fun _ h => absurd h List.not_mem_nil⟩⟩⟩⟩⟩⟩⟩⟩⟩⟩⟩⟩⟩⟩⟩⟩⟩⟩⟩⟩
theorem ok_g7 : ∀ e ∈ (mt_ents.drop 140).take 20, ∃ p, mm_okE e p = true := List.forall_mem_cons.mpr ⟨⟨905, ok_X6_value_⟩, List.forall_mem_cons.mpr ⟨⟨909, ok_X6_children⟩, List.forall_mem_cons.mpr ⟨⟨913, ok_X6_reference⟩, List.forall_mem_cons.mpr ⟨⟨917, ok_X6_deleted⟩, List.forall_mem_cons.mpr ⟨⟨925, ok_X6_nulls⟩, List.forall_mem_cons.mpr ⟨⟨921, ok_X6_total⟩, List.forall_mem_cons.mpr ⟨⟨929, ok_X6_gathered⟩, List.forall_mem_cons.mpr ⟨⟨933, ok_X6_reason⟩, List.forall_mem_cons.mpr ⟨⟨937, ok_X6_blocking⟩, List.forall_mem_cons.mpr ⟨⟨942, ok_X6_wouldChange⟩, List.forall_mem_cons.mpr ⟨⟨950, ok_X6_leadsBack⟩, List.forall_mem_cons.mpr ⟨⟨946, ok_X6_isInRing⟩, List.forall_mem_cons.mpr ⟨⟨954, ok_X6_deletable⟩, List.forall_mem_cons.mpr ⟨⟨421, ok_J7_fill_53178⟩, List.forall_mem_cons.mpr ⟨⟨0, ok_L_law⟩, fun _ h => absurd h List.not_mem_nil⟩⟩⟩⟩⟩⟩⟩⟩⟩⟩⟩⟩⟩⟩⟩
theorem mt_ok : ∀ e ∈ mt_ents, ∃ p, mm_okE e p = true := by
  have h : ∀ e ∈ (mt_ents.drop 0).take 20 ++ ((mt_ents.drop 20).take 20 ++ ((mt_ents.drop 40).take 20 ++ ((mt_ents.drop 60).take 20 ++ ((mt_ents.drop 80).take 20 ++ ((mt_ents.drop 100).take 20 ++ ((mt_ents.drop 120).take 20 ++ ((mt_ents.drop 140).take 20))))))), ∃ p, mm_okE e p = true := List.forall_mem_append.mpr ⟨ok_g0, List.forall_mem_append.mpr ⟨ok_g1, List.forall_mem_append.mpr ⟨ok_g2, List.forall_mem_append.mpr ⟨ok_g3, List.forall_mem_append.mpr ⟨ok_g4, List.forall_mem_append.mpr ⟨ok_g5, List.forall_mem_append.mpr ⟨ok_g6, ok_g7⟩⟩⟩⟩⟩⟩⟩
  exact h
