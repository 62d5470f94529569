-- EACH ROW of the tables against the bytes
set_option maxRecDepth 100000 in
theorem ok_X0_init : mm_okE (mi_X0_init, mk_X0_init) 196 = true := by decide +kernel
set_option maxRecDepth 100000 in
theorem ok_X0_leadsBack : mm_okE (mi_X0_leadsBack, mk_X0_leadsBack) 548 = true := by decide +kernel
set_option maxRecDepth 100000 in
theorem ok_X0_reachParents : mm_okE (mi_X0_reachParents, mk_X0_reachParents) 553 = true := by decide +kernel
set_option maxRecDepth 100000 in
theorem ok_X0_reach : mm_okE (mi_X0_reach, mk_X0_reach) 562 = true := by decide +kernel
set_option maxRecDepth 100000 in
theorem ok_X1_init : mm_okE (mi_X1_init, mk_X1_init) 157 = true := by decide +kernel
set_option maxRecDepth 100000 in
theorem ok_X1_plan : mm_okE (mi_X1_plan, mk_X1_plan) 411 = true := by decide +kernel
set_option maxRecDepth 100000 in
theorem ok_X1_gather : mm_okE (mi_X1_gather, mk_X1_gather) 419 = true := by decide +kernel
set_option maxRecDepth 100000 in
theorem ok_X1_begin : mm_okE (mi_X1_begin, mk_X1_begin) 426 = true := by decide +kernel
set_option maxRecDepth 100000 in
theorem ok_X1_end : mm_okE (mi_X1_end, mk_X1_end) 448 = true := by decide +kernel
set_option maxRecDepth 100000 in
theorem ok_X1_nextChild : mm_okE (mi_X1_nextChild, mk_X1_nextChild) 430 = true := by decide +kernel
set_option maxRecDepth 100000 in
theorem ok_X1_judge : mm_okE (mi_X1_judge, mk_X1_judge) 452 = true := by decide +kernel
set_option maxRecDepth 100000 in
theorem ok_X1_losesParent : mm_okE (mi_X1_losesParent, mk_X1_losesParent) 456 = true := by decide +kernel
set_option maxRecDepth 100000 in
theorem ok_X1_isMarked : mm_okE (mi_X1_isMarked, mk_X1_isMarked) 444 = true := by decide +kernel
set_option maxRecDepth 100000 in
theorem ok_X1_refusalAt : mm_okE (mi_X1_refusalAt, mk_X1_refusalAt) 460 = true := by decide +kernel
set_option maxRecDepth 100000 in
theorem ok_X1_newValue : mm_okE (mi_X1_newValue, mk_X1_newValue) 463 = true := by decide +kernel
set_option maxRecDepth 100000 in
theorem ok_X1_carryOut : mm_okE (mi_X1_carryOut, mk_X1_carryOut) 467 = true := by decide +kernel
set_option maxRecDepth 100000 in
theorem ok_X1_changeValues : mm_okE (mi_X1_changeValues, mk_X1_changeValues) 471 = true := by decide +kernel
set_option maxRecDepth 100000 in
theorem ok_X2_init : mm_okE (mi_X2_init, mk_X2_init) 101 = true := by decide +kernel
set_option maxRecDepth 100000 in
theorem ok_X2_remember : mm_okE (mi_X2_remember, mk_X2_remember) 240 = true := by decide +kernel
set_option maxRecDepth 100000 in
theorem ok_X2_dropOldest : mm_okE (mi_X2_dropOldest, mk_X2_dropOldest) 244 = true := by decide +kernel
set_option maxRecDepth 100000 in
theorem ok_X2_bringBack : mm_okE (mi_X2_bringBack, mk_X2_bringBack) 284 = true := by decide +kernel
set_option maxRecDepth 100000 in
theorem ok_X3_init : mm_okE (mi_X3_init, mk_X3_init) 118 = true := by decide +kernel
set_option maxRecDepth 100000 in
theorem ok_X4_init : mm_okE (mi_X4_init, mk_X4_init) 37 = true := by decide +kernel
set_option maxRecDepth 100000 in
theorem ok_X4_copyFrom : mm_okE (mi_X4_copyFrom, mk_X4_copyFrom) 248 = true := by decide +kernel
set_option maxRecDepth 100000 in
theorem ok_X4_hasTable : mm_okE (mi_X4_hasTable, mk_X4_hasTable) 263 = true := by decide +kernel
set_option maxRecDepth 100000 in
theorem ok_X4_hasReference : mm_okE (mi_X4_hasReference, mk_X4_hasReference) 360 = true := by decide +kernel
set_option maxRecDepth 100000 in
theorem ok_X4_hasColumn : mm_okE (mi_X4_hasColumn, mk_X4_hasColumn) 351 = true := by decide +kernel
set_option maxRecDepth 100000 in
theorem ok_X4_hasRow : mm_okE (mi_X4_hasRow, mk_X4_hasRow) 399 = true := by decide +kernel
set_option maxRecDepth 100000 in
theorem ok_X4_slotOf : mm_okE (mi_X4_slotOf, mk_X4_slotOf) 346 = true := by decide +kernel
set_option maxRecDepth 100000 in
theorem ok_X4_valueAt : mm_okE (mi_X4_valueAt, mk_X4_valueAt) 317 = true := by decide +kernel
set_option maxRecDepth 100000 in
theorem ok_X4_fact : mm_okE (mi_X4_fact, mk_X4_fact) 313 = true := by decide +kernel
set_option maxRecDepth 100000 in
theorem ok_X4_referenceOf : mm_okE (mi_X4_referenceOf, mk_X4_referenceOf) 391 = true := by decide +kernel
set_option maxRecDepth 100000 in
theorem ok_X4_childAt : mm_okE (mi_X4_childAt, mk_X4_childAt) 440 = true := by decide +kernel
set_option maxRecDepth 100000 in
theorem ok_X4_parentAt : mm_okE (mi_X4_parentAt, mk_X4_parentAt) 435 = true := by decide +kernel
set_option maxRecDepth 100000 in
theorem ok_X4_countRows : mm_okE (mi_X4_countRows, mk_X4_countRows) 293 = true := by decide +kernel
set_option maxRecDepth 100000 in
theorem ok_X4_countNulls : mm_okE (mi_X4_countNulls, mk_X4_countNulls) 305 = true := by decide +kernel
set_option maxRecDepth 100000 in
theorem ok_X4_countChildren : mm_okE (mi_X4_countChildren, mk_X4_countChildren) 309 = true := by decide +kernel
set_option maxRecDepth 100000 in
theorem ok_X4_appendTable : mm_okE (mi_X4_appendTable, mk_X4_appendTable) 255 = true := by decide +kernel
set_option maxRecDepth 100000 in
theorem ok_X4_appendReference : mm_okE (mi_X4_appendReference, mk_X4_appendReference) 276 = true := by decide +kernel
set_option maxRecDepth 100000 in
theorem ok_X4_checkInsert : mm_okE (mi_X4_checkInsert, mk_X4_checkInsert) 492 = true := by decide +kernel
set_option maxRecDepth 100000 in
theorem ok_X4_checkUpdate : mm_okE (mi_X4_checkUpdate, mk_X4_checkUpdate) 380 = true := by decide +kernel
set_option maxRecDepth 100000 in
theorem ok_X4_fits : mm_okE (mi_X4_fits, mk_X4_fits) 497 = true := by decide +kernel
set_option maxRecDepth 100000 in
theorem ok_X4_isMissing : mm_okE (mi_X4_isMissing, mk_X4_isMissing) 387 = true := by decide +kernel
set_option maxRecDepth 100000 in
theorem ok_X4_hasNoParent : mm_okE (mi_X4_hasNoParent, mk_X4_hasNoParent) 395 = true := by decide +kernel
set_option maxRecDepth 100000 in
theorem ok_X4_addRow : mm_okE (mi_X4_addRow, mk_X4_addRow) 501 = true := by decide +kernel
set_option maxRecDepth 100000 in
theorem ok_X4_changeValue : mm_okE (mi_X4_changeValue, mk_X4_changeValue) 403 = true := by decide +kernel
set_option maxRecDepth 100000 in
theorem ok_X4_removeRow : mm_okE (mi_X4_removeRow, mk_X4_removeRow) 476 = true := by decide +kernel
set_option maxRecDepth 100000 in
theorem ok_X4_moveRow : mm_okE (mi_X4_moveRow, mk_X4_moveRow) 480 = true := by decide +kernel
set_option maxRecDepth 100000 in
theorem ok_X5_init : mm_okE (mi_X5_init, mk_X5_init) 29 = true := by decide +kernel
set_option maxRecDepth 100000 in
theorem ok_X5_addTable : mm_okE (mi_X5_addTable, mk_X5_addTable) 236 = true := by decide +kernel
set_option maxRecDepth 100000 in
theorem ok_X5_addReference : mm_okE (mi_X5_addReference, mk_X5_addReference) 259 = true := by decide +kernel
set_option maxRecDepth 100000 in
theorem ok_X5_setRule : mm_okE (mi_X5_setRule, mk_X5_setRule) 372 = true := by decide +kernel
set_option maxRecDepth 100000 in
theorem ok_X5_insert : mm_okE (mi_X5_insert, mk_X5_insert) 488 = true := by decide +kernel
set_option maxRecDepth 100000 in
theorem ok_X5_update : mm_okE (mi_X5_update, mk_X5_update) 376 = true := by decide +kernel
set_option maxRecDepth 100000 in
theorem ok_X5_delete : mm_okE (mi_X5_delete, mk_X5_delete) 407 = true := by decide +kernel
set_option maxRecDepth 100000 in
theorem ok_X5_undo : mm_okE (mi_X5_undo, mk_X5_undo) 280 = true := by decide +kernel
set_option maxRecDepth 100000 in
theorem ok_X5_keep : mm_okE (mi_X5_keep, mk_X5_keep) 288 = true := by decide +kernel
set_option maxRecDepth 100000 in
theorem ok_X5_restore : mm_okE (mi_X5_restore, mk_X5_restore) 297 = true := by decide +kernel
set_option maxRecDepth 100000 in
theorem ok_X5_rows : mm_okE (mi_X5_rows, mk_X5_rows) 334 = true := by decide +kernel
set_option maxRecDepth 100000 in
theorem ok_X5_keyAt : mm_okE (mi_X5_keyAt, mk_X5_keyAt) 338 = true := by decide +kernel
set_option maxRecDepth 100000 in
theorem ok_X5_value : mm_okE (mi_X5_value, mk_X5_value) 342 = true := by decide +kernel
set_option maxRecDepth 100000 in
theorem ok_X5_children : mm_okE (mi_X5_children, mk_X5_children) 515 = true := by decide +kernel
set_option maxRecDepth 100000 in
theorem ok_X5_reference : mm_okE (mi_X5_reference, mk_X5_reference) 356 = true := by decide +kernel
set_option maxRecDepth 100000 in
theorem ok_X5_deleted : mm_okE (mi_X5_deleted, mk_X5_deleted) 365 = true := by decide +kernel
set_option maxRecDepth 100000 in
theorem ok_X5_total : mm_okE (mi_X5_total, mk_X5_total) 301 = true := by decide +kernel
set_option maxRecDepth 100000 in
theorem ok_X5_gathered : mm_okE (mi_X5_gathered, mk_X5_gathered) 532 = true := by decide +kernel
set_option maxRecDepth 100000 in
theorem ok_X5_reason : mm_okE (mi_X5_reason, mk_X5_reason) 524 = true := by decide +kernel
set_option maxRecDepth 100000 in
theorem ok_X5_blocking : mm_okE (mi_X5_blocking, mk_X5_blocking) 536 = true := by decide +kernel
set_option maxRecDepth 100000 in
theorem ok_X5_wouldChange : mm_okE (mi_X5_wouldChange, mk_X5_wouldChange) 528 = true := by decide +kernel
set_option maxRecDepth 100000 in
theorem ok_X5_isInRing : mm_okE (mi_X5_isInRing, mk_X5_isInRing) 543 = true := by decide +kernel
set_option maxRecDepth 100000 in
theorem ok_X5_deletable : mm_okE (mi_X5_deletable, mk_X5_deletable) 508 = true := by decide +kernel
set_option maxRecDepth 100000 in
theorem ok_X5_isRule : mm_okE (mi_X5_isRule, mk_X5_isRule) 266 = true := by decide +kernel
set_option maxRecDepth 100000 in
theorem ok_X5_isKey : mm_okE (mi_X5_isKey, mk_X5_isKey) 272 = true := by decide +kernel
set_option maxRecDepth 100000 in
theorem ok_X5_isValue : mm_okE (mi_X5_isValue, mk_X5_isValue) 269 = true := by decide +kernel
set_option maxRecDepth 100000 in
theorem ok_X5_rowNumber : mm_okE (mi_X5_rowNumber, mk_X5_rowNumber) 415 = true := by decide +kernel
set_option maxRecDepth 100000 in
theorem ok_J7_fill_53178 : mm_okE (mi_J7_fill_53178, mk_J7_fill_53178) 422 = true := by decide +kernel
set_option maxRecDepth 100000 in
theorem ok_L_cell : mm_okE (mi_L_cell, mk_L_cell) 320 = true := by decide +kernel
set_option maxRecDepth 100000 in
theorem ok_L_up : mm_okE (mi_L_up, mk_L_up) 324 = true := by decide +kernel
set_option maxRecDepth 100000 in
theorem ok_L_act : mm_okE (mi_L_act, mk_L_act) 368 = true := by decide +kernel
set_option maxRecDepth 100000 in
theorem ok_L_columns : mm_okE (mi_L_columns, mk_L_columns) 484 = true := by decide +kernel
set_option maxRecDepth 100000 in
theorem ok_L_isRow : mm_okE (mi_L_isRow, mk_L_isRow) 511 = true := by decide +kernel
set_option maxRecDepth 100000 in
theorem ok_L_holds : mm_okE (mi_L_holds, mk_L_holds) 504 = true := by decide +kernel
set_option maxRecDepth 100000 in
theorem ok_L_isRing : mm_okE (mi_L_isRing, mk_L_isRing) 539 = true := by decide +kernel
set_option maxRecDepth 100000 in
theorem ok_L_told : ml_okE (mi_L_told, mk_L_told) 328 = true := by decide +kernel
set_option maxRecDepth 100000 in
theorem ok_L_isAhead : ml_okE (mi_L_isAhead, mk_L_isAhead) 520 = true := by decide +kernel
set_option maxRecDepth 100000 in
theorem ok_L_law : ml_okB (mi_L_law, mk_L_law) = true := by decide +kernel
