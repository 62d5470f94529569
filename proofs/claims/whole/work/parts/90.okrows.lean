set_option maxRecDepth 100000 in
theorem ok_X0_init : mm_okE (mi_X0_init, mk_X0_init) 246 = true := by decide +kernel
set_option maxRecDepth 100000 in
theorem ok_X0_leadsBack : mm_okE (mi_X0_leadsBack, mk_X0_leadsBack) 626 = true := by decide +kernel
set_option maxRecDepth 100000 in
theorem ok_X0_reachParents : mm_okE (mi_X0_reachParents, mk_X0_reachParents) 631 = true := by decide +kernel
set_option maxRecDepth 100000 in
theorem ok_X0_reach : mm_okE (mi_X0_reach, mk_X0_reach) 640 = true := by decide +kernel
set_option maxRecDepth 100000 in
theorem ok_X1_init : mm_okE (mi_X1_init, mk_X1_init) 207 = true := by decide +kernel
set_option maxRecDepth 100000 in
theorem ok_X1_plan : mm_okE (mi_X1_plan, mk_X1_plan) 410 = true := by decide +kernel
set_option maxRecDepth 100000 in
theorem ok_X1_gather : mm_okE (mi_X1_gather, mk_X1_gather) 418 = true := by decide +kernel
set_option maxRecDepth 100000 in
theorem ok_X1_begin : mm_okE (mi_X1_begin, mk_X1_begin) 425 = true := by decide +kernel
set_option maxRecDepth 100000 in
theorem ok_X1_end : mm_okE (mi_X1_end, mk_X1_end) 447 = true := by decide +kernel
set_option maxRecDepth 100000 in
theorem ok_X1_nextChild : mm_okE (mi_X1_nextChild, mk_X1_nextChild) 429 = true := by decide +kernel
set_option maxRecDepth 100000 in
theorem ok_X1_judge : mm_okE (mi_X1_judge, mk_X1_judge) 451 = true := by decide +kernel
set_option maxRecDepth 100000 in
theorem ok_X1_losesParent : mm_okE (mi_X1_losesParent, mk_X1_losesParent) 455 = true := by decide +kernel
set_option maxRecDepth 100000 in
theorem ok_X1_isMarked : mm_okE (mi_X1_isMarked, mk_X1_isMarked) 443 = true := by decide +kernel
set_option maxRecDepth 100000 in
theorem ok_X1_refusalAt : mm_okE (mi_X1_refusalAt, mk_X1_refusalAt) 459 = true := by decide +kernel
set_option maxRecDepth 100000 in
theorem ok_X1_newValue : mm_okE (mi_X1_newValue, mk_X1_newValue) 462 = true := by decide +kernel
set_option maxRecDepth 100000 in
theorem ok_X1_carryOut : mm_okE (mi_X1_carryOut, mk_X1_carryOut) 466 = true := by decide +kernel
set_option maxRecDepth 100000 in
theorem ok_X1_changeValues : mm_okE (mi_X1_changeValues, mk_X1_changeValues) 470 = true := by decide +kernel
set_option maxRecDepth 100000 in
theorem ok_X2_init : mm_okE (mi_X2_init, mk_X2_init) 145 = true := by decide +kernel
set_option maxRecDepth 100000 in
theorem ok_X2_remember : mm_okE (mi_X2_remember, mk_X2_remember) 290 = true := by decide +kernel
set_option maxRecDepth 100000 in
theorem ok_X2_dropOldest : mm_okE (mi_X2_dropOldest, mk_X2_dropOldest) 294 = true := by decide +kernel
set_option maxRecDepth 100000 in
theorem ok_X2_bringBack : mm_okE (mi_X2_bringBack, mk_X2_bringBack) 548 = true := by decide +kernel
set_option maxRecDepth 100000 in
theorem ok_X3_init : mm_okE (mi_X3_init, mk_X3_init) 162 = true := by decide +kernel
set_option maxRecDepth 100000 in
theorem ok_X3_append : mm_okE (mi_X3_append, mk_X3_append) 484 = true := by decide +kernel
set_option maxRecDepth 100000 in
theorem ok_X3_rewind : mm_okE (mi_X3_rewind, mk_X3_rewind) 500 = true := by decide +kernel
set_option maxRecDepth 100000 in
theorem ok_X3_survey : mm_okE (mi_X3_survey, mk_X3_survey) 496 = true := by decide +kernel
set_option maxRecDepth 100000 in
theorem ok_X3_readStatement : mm_okE (mi_X3_readStatement, mk_X3_readStatement) 504 = true := by decide +kernel
set_option maxRecDepth 100000 in
theorem ok_X3_readRow : mm_okE (mi_X3_readRow, mk_X3_readRow) 512 = true := by decide +kernel
set_option maxRecDepth 100000 in
theorem ok_X3_readInsertedValues : mm_okE (mi_X3_readInsertedValues, mk_X3_readInsertedValues) 524 = true := by decide +kernel
set_option maxRecDepth 100000 in
theorem ok_X3_readChange : mm_okE (mi_X3_readChange, mk_X3_readChange) 532 = true := by decide +kernel
set_option maxRecDepth 100000 in
theorem ok_X3_readValue : mm_okE (mi_X3_readValue, mk_X3_readValue) 528 = true := by decide +kernel
set_option maxRecDepth 100000 in
theorem ok_X3_readKey : mm_okE (mi_X3_readKey, mk_X3_readKey) 520 = true := by decide +kernel
set_option maxRecDepth 100000 in
theorem ok_X3_takeDigit : mm_okE (mi_X3_takeDigit, mk_X3_takeDigit) 516 = true := by decide +kernel
set_option maxRecDepth 100000 in
theorem ok_X3_take : mm_okE (mi_X3_take, mk_X3_take) 508 = true := by decide +kernel
set_option maxRecDepth 100000 in
theorem ok_X4_init : mm_okE (mi_X4_init, mk_X4_init) 81 = true := by decide +kernel
set_option maxRecDepth 100000 in
theorem ok_X4_copyFrom : mm_okE (mi_X4_copyFrom, mk_X4_copyFrom) 298 = true := by decide +kernel
set_option maxRecDepth 100000 in
theorem ok_X4_hasTable : mm_okE (mi_X4_hasTable, mk_X4_hasTable) 313 = true := by decide +kernel
set_option maxRecDepth 100000 in
theorem ok_X4_hasReference : mm_okE (mi_X4_hasReference, mk_X4_hasReference) 334 = true := by decide +kernel
set_option maxRecDepth 100000 in
theorem ok_X4_hasColumn : mm_okE (mi_X4_hasColumn, mk_X4_hasColumn) 356 = true := by decide +kernel
set_option maxRecDepth 100000 in
theorem ok_X4_hasRow : mm_okE (mi_X4_hasRow, mk_X4_hasRow) 360 = true := by decide +kernel
set_option maxRecDepth 100000 in
theorem ok_X4_slotOf : mm_okE (mi_X4_slotOf, mk_X4_slotOf) 364 = true := by decide +kernel
set_option maxRecDepth 100000 in
theorem ok_X4_valueAt : mm_okE (mi_X4_valueAt, mk_X4_valueAt) 389 = true := by decide +kernel
set_option maxRecDepth 100000 in
theorem ok_X4_fact : mm_okE (mi_X4_fact, mk_X4_fact) 338 = true := by decide +kernel
set_option maxRecDepth 100000 in
theorem ok_X4_referenceOf : mm_okE (mi_X4_referenceOf, mk_X4_referenceOf) 372 = true := by decide +kernel
set_option maxRecDepth 100000 in
theorem ok_X4_childAt : mm_okE (mi_X4_childAt, mk_X4_childAt) 439 = true := by decide +kernel
set_option maxRecDepth 100000 in
theorem ok_X4_parentAt : mm_okE (mi_X4_parentAt, mk_X4_parentAt) 434 = true := by decide +kernel
set_option maxRecDepth 100000 in
theorem ok_X4_countRows : mm_okE (mi_X4_countRows, mk_X4_countRows) 556 = true := by decide +kernel
set_option maxRecDepth 100000 in
theorem ok_X4_countNulls : mm_okE (mi_X4_countNulls, mk_X4_countNulls) 600 = true := by decide +kernel
set_option maxRecDepth 100000 in
theorem ok_X4_countChildren : mm_okE (mi_X4_countChildren, mk_X4_countChildren) 584 = true := by decide +kernel
set_option maxRecDepth 100000 in
theorem ok_X4_appendTable : mm_okE (mi_X4_appendTable, mk_X4_appendTable) 305 = true := by decide +kernel
set_option maxRecDepth 100000 in
theorem ok_X4_appendReference : mm_okE (mi_X4_appendReference, mk_X4_appendReference) 326 = true := by decide +kernel
set_option maxRecDepth 100000 in
theorem ok_X4_checkInsert : mm_okE (mi_X4_checkInsert, mk_X4_checkInsert) 346 = true := by decide +kernel
set_option maxRecDepth 100000 in
theorem ok_X4_checkUpdate : mm_okE (mi_X4_checkUpdate, mk_X4_checkUpdate) 397 = true := by decide +kernel
set_option maxRecDepth 100000 in
theorem ok_X4_fits : mm_okE (mi_X4_fits, mk_X4_fits) 352 = true := by decide +kernel
set_option maxRecDepth 100000 in
theorem ok_X4_isMissing : mm_okE (mi_X4_isMissing, mk_X4_isMissing) 368 = true := by decide +kernel
set_option maxRecDepth 100000 in
theorem ok_X4_hasNoParent : mm_okE (mi_X4_hasNoParent, mk_X4_hasNoParent) 377 = true := by decide +kernel
set_option maxRecDepth 100000 in
theorem ok_X4_addRow : mm_okE (mi_X4_addRow, mk_X4_addRow) 381 = true := by decide +kernel
set_option maxRecDepth 100000 in
theorem ok_X4_changeValue : mm_okE (mi_X4_changeValue, mk_X4_changeValue) 402 = true := by decide +kernel
set_option maxRecDepth 100000 in
theorem ok_X4_removeRow : mm_okE (mi_X4_removeRow, mk_X4_removeRow) 475 = true := by decide +kernel
set_option maxRecDepth 100000 in
theorem ok_X4_moveRow : mm_okE (mi_X4_moveRow, mk_X4_moveRow) 385 = true := by decide +kernel
set_option maxRecDepth 100000 in
theorem ok_X5_init : mm_okE (mi_X5_init, mk_X5_init) 73 = true := by decide +kernel
set_option maxRecDepth 100000 in
theorem ok_X5_addTable : mm_okE (mi_X5_addTable, mk_X5_addTable) 286 = true := by decide +kernel
set_option maxRecDepth 100000 in
theorem ok_X5_addReference : mm_okE (mi_X5_addReference, mk_X5_addReference) 309 = true := by decide +kernel
set_option maxRecDepth 100000 in
theorem ok_X5_setRule : mm_okE (mi_X5_setRule, mk_X5_setRule) 330 = true := by decide +kernel
set_option maxRecDepth 100000 in
theorem ok_X5_insert : mm_okE (mi_X5_insert, mk_X5_insert) 342 = true := by decide +kernel
set_option maxRecDepth 100000 in
theorem ok_X5_update : mm_okE (mi_X5_update, mk_X5_update) 393 = true := by decide +kernel
set_option maxRecDepth 100000 in
theorem ok_X5_delete : mm_okE (mi_X5_delete, mk_X5_delete) 406 = true := by decide +kernel
set_option maxRecDepth 100000 in
theorem ok_X5_type : mm_okE (mi_X5_type, mk_X5_type) 480 = true := by decide +kernel
set_option maxRecDepth 100000 in
theorem ok_X5_clearText : mm_okE (mi_X5_clearText, mk_X5_clearText) 488 = true := by decide +kernel
set_option maxRecDepth 100000 in
theorem ok_X5_perform : mm_okE (mi_X5_perform, mk_X5_perform) 492 = true := by decide +kernel
set_option maxRecDepth 100000 in
theorem ok_X5_undo : mm_okE (mi_X5_undo, mk_X5_undo) 544 = true := by decide +kernel
set_option maxRecDepth 100000 in
theorem ok_X5_keep : mm_okE (mi_X5_keep, mk_X5_keep) 552 = true := by decide +kernel
set_option maxRecDepth 100000 in
theorem ok_X5_restore : mm_okE (mi_X5_restore, mk_X5_restore) 560 = true := by decide +kernel
set_option maxRecDepth 100000 in
theorem ok_X5_rows : mm_okE (mi_X5_rows, mk_X5_rows) 564 = true := by decide +kernel
set_option maxRecDepth 100000 in
theorem ok_X5_keyAt : mm_okE (mi_X5_keyAt, mk_X5_keyAt) 568 = true := by decide +kernel
set_option maxRecDepth 100000 in
theorem ok_X5_value : mm_okE (mi_X5_value, mk_X5_value) 572 = true := by decide +kernel
set_option maxRecDepth 100000 in
theorem ok_X5_children : mm_okE (mi_X5_children, mk_X5_children) 579 = true := by decide +kernel
set_option maxRecDepth 100000 in
theorem ok_X5_reference : mm_okE (mi_X5_reference, mk_X5_reference) 588 = true := by decide +kernel
set_option maxRecDepth 100000 in
theorem ok_X5_deleted : mm_okE (mi_X5_deleted, mk_X5_deleted) 592 = true := by decide +kernel
set_option maxRecDepth 100000 in
theorem ok_X5_total : mm_okE (mi_X5_total, mk_X5_total) 596 = true := by decide +kernel
set_option maxRecDepth 100000 in
theorem ok_X5_gathered : mm_okE (mi_X5_gathered, mk_X5_gathered) 605 = true := by decide +kernel
set_option maxRecDepth 100000 in
theorem ok_X5_reason : mm_okE (mi_X5_reason, mk_X5_reason) 609 = true := by decide +kernel
set_option maxRecDepth 100000 in
theorem ok_X5_blocking : mm_okE (mi_X5_blocking, mk_X5_blocking) 613 = true := by decide +kernel
set_option maxRecDepth 100000 in
theorem ok_X5_wouldChange : mm_okE (mi_X5_wouldChange, mk_X5_wouldChange) 617 = true := by decide +kernel
set_option maxRecDepth 100000 in
theorem ok_X5_isInRing : mm_okE (mi_X5_isInRing, mk_X5_isInRing) 621 = true := by decide +kernel
set_option maxRecDepth 100000 in
theorem ok_X5_deletable : mm_okE (mi_X5_deletable, mk_X5_deletable) 644 = true := by decide +kernel
set_option maxRecDepth 100000 in
theorem ok_X5_performStatement : mm_okE (mi_X5_performStatement, mk_X5_performStatement) 540 = true := by decide +kernel
set_option maxRecDepth 100000 in
theorem ok_X5_isRule : mm_okE (mi_X5_isRule, mk_X5_isRule) 316 = true := by decide +kernel
set_option maxRecDepth 100000 in
theorem ok_X5_isKey : mm_okE (mi_X5_isKey, mk_X5_isKey) 322 = true := by decide +kernel
set_option maxRecDepth 100000 in
theorem ok_X5_isValue : mm_okE (mi_X5_isValue, mk_X5_isValue) 319 = true := by decide +kernel
set_option maxRecDepth 100000 in
theorem ok_X5_rowNumber : mm_okE (mi_X5_rowNumber, mk_X5_rowNumber) 414 = true := by decide +kernel
set_option maxRecDepth 100000 in
theorem ok_X6_init : mm_okE (mi_X6_init, mk_X6_init) 649 = true := by decide +kernel
set_option maxRecDepth 100000 in
theorem ok_X6_in : mm_okE (mi_X6_in, mk_X6_in) 729 = true := by decide +kernel
set_option maxRecDepth 100000 in
theorem ok_X6_isTable : mm_okE (mi_X6_isTable, mk_X6_isTable) 726 = true := by decide +kernel
set_option maxRecDepth 100000 in
theorem ok_X6_isReference : mm_okE (mi_X6_isReference, mk_X6_isReference) 749 = true := by decide +kernel
set_option maxRecDepth 100000 in
theorem ok_X6_isRow : mm_okE (mi_X6_isRow, mk_X6_isRow) 761 = true := by decide +kernel
set_option maxRecDepth 100000 in
theorem ok_X6_of : mm_okE (mi_X6_of, mk_X6_of) 737 = true := by decide +kernel
set_option maxRecDepth 100000 in
theorem ok_X6_valueOf : mm_okE (mi_X6_valueOf, mk_X6_valueOf) 785 = true := by decide +kernel
set_option maxRecDepth 100000 in
theorem ok_X6_lay : mm_okE (mi_X6_lay, mk_X6_lay) 789 = true := by decide +kernel
set_option maxRecDepth 100000 in
theorem ok_X6_columns : mm_okE (mi_X6_columns, mk_X6_columns) 733 = true := by decide +kernel
set_option maxRecDepth 100000 in
theorem ok_X6_referenceOf : mm_okE (mi_X6_referenceOf, mk_X6_referenceOf) 769 = true := by decide +kernel
set_option maxRecDepth 100000 in
theorem ok_X6_rowsOf : mm_okE (mi_X6_rowsOf, mk_X6_rowsOf) 741 = true := by decide +kernel
set_option maxRecDepth 100000 in
theorem ok_X6_allRows : mm_okE (mi_X6_allRows, mk_X6_allRows) 889 = true := by decide +kernel
set_option maxRecDepth 100000 in
theorem ok_X6_isChild : mm_okE (mi_X6_isChild, mk_X6_isChild) 809 = true := by decide +kernel
set_option maxRecDepth 100000 in
theorem ok_X6_begins : mm_okE (mi_X6_begins, mk_X6_begins) 805 = true := by decide +kernel
set_option maxRecDepth 100000 in
theorem ok_X6_gathers : mm_okE (mi_X6_gathers, mk_X6_gathers) 801 = true := by decide +kernel
set_option maxRecDepth 100000 in
theorem ok_X6_isLacking : mm_okE (mi_X6_isLacking, mk_X6_isLacking) 821 = true := by decide +kernel
set_option maxRecDepth 100000 in
theorem ok_X6_whyNot : mm_okE (mi_X6_whyNot, mk_X6_whyNot) 817 = true := by decide +kernel
set_option maxRecDepth 100000 in
theorem ok_X6_reasonOf : mm_okE (mi_X6_reasonOf, mk_X6_reasonOf) 813 = true := by decide +kernel
set_option maxRecDepth 100000 in
theorem ok_X6_changes : mm_okE (mi_X6_changes, mk_X6_changes) 825 = true := by decide +kernel
set_option maxRecDepth 100000 in
theorem ok_X6_deletes : mm_okE (mi_X6_deletes, mk_X6_deletes) 797 = true := by decide +kernel
set_option maxRecDepth 100000 in
theorem ok_X6_hasParent : mm_okE (mi_X6_hasParent, mk_X6_hasParent) 773 = true := by decide +kernel
set_option maxRecDepth 100000 in
theorem ok_X6_isNeeded : mm_okE (mi_X6_isNeeded, mk_X6_isNeeded) 765 = true := by decide +kernel
set_option maxRecDepth 100000 in
theorem ok_X6_inserts : mm_okE (mi_X6_inserts, mk_X6_inserts) 757 = true := by decide +kernel
set_option maxRecDepth 100000 in
theorem ok_X6_updates : mm_okE (mi_X6_updates, mk_X6_updates) 781 = true := by decide +kernel
set_option maxRecDepth 100000 in
theorem ok_X6_copies : mm_okE (mi_X6_copies, mk_X6_copies) 714 = true := by decide +kernel
set_option maxRecDepth 100000 in
theorem ok_X6_accepts : mm_okE (mi_X6_accepts, mk_X6_accepts) 718 = true := by decide +kernel
set_option maxRecDepth 100000 in
theorem ok_X6_addTable : mm_okE (mi_X6_addTable, mk_X6_addTable) 710 = true := by decide +kernel
set_option maxRecDepth 100000 in
theorem ok_X6_addReference : mm_okE (mi_X6_addReference, mk_X6_addReference) 722 = true := by decide +kernel
set_option maxRecDepth 100000 in
theorem ok_X6_setRule : mm_okE (mi_X6_setRule, mk_X6_setRule) 745 = true := by decide +kernel
set_option maxRecDepth 100000 in
theorem ok_X6_insert : mm_okE (mi_X6_insert, mk_X6_insert) 753 = true := by decide +kernel
set_option maxRecDepth 100000 in
theorem ok_X6_update : mm_okE (mi_X6_update, mk_X6_update) 777 = true := by decide +kernel
set_option maxRecDepth 100000 in
theorem ok_X6_delete : mm_okE (mi_X6_delete, mk_X6_delete) 793 = true := by decide +kernel
set_option maxRecDepth 100000 in
theorem ok_X6_type : mm_okE (mi_X6_type, mk_X6_type) 829 = true := by decide +kernel
set_option maxRecDepth 100000 in
theorem ok_X6_clearText : mm_okE (mi_X6_clearText, mk_X6_clearText) 833 = true := by decide +kernel
set_option maxRecDepth 100000 in
theorem ok_X6_isHere : mm_okE (mi_X6_isHere, mk_X6_isHere) 853 = true := by decide +kernel
set_option maxRecDepth 100000 in
theorem ok_X6_takes : mm_okE (mi_X6_takes, mk_X6_takes) 849 = true := by decide +kernel
set_option maxRecDepth 100000 in
theorem ok_X6_digit : mm_okE (mi_X6_digit, mk_X6_digit) 857 = true := by decide +kernel
set_option maxRecDepth 100000 in
theorem ok_X6_number : mm_okE (mi_X6_number, mk_X6_number) 861 = true := by decide +kernel
set_option maxRecDepth 100000 in
theorem ok_X6_value : mm_okE (mi_X6_value, mk_X6_value) 869 = true := by decide +kernel
set_option maxRecDepth 100000 in
theorem ok_X6_readsValues : mm_okE (mi_X6_readsValues, mk_X6_readsValues) 865 = true := by decide +kernel
set_option maxRecDepth 100000 in
theorem ok_X6_readsUpdate : mm_okE (mi_X6_readsUpdate, mk_X6_readsUpdate) 873 = true := by decide +kernel
set_option maxRecDepth 100000 in
theorem ok_X6_reads : mm_okE (mi_X6_reads, mk_X6_reads) 845 = true := by decide +kernel
set_option maxRecDepth 100000 in
theorem ok_X6_fault : mm_okE (mi_X6_fault, mk_X6_fault) 841 = true := by decide +kernel
set_option maxRecDepth 100000 in
theorem ok_X6_carries : mm_okE (mi_X6_carries, mk_X6_carries) 877 = true := by decide +kernel
set_option maxRecDepth 100000 in
theorem ok_X6_perform : mm_okE (mi_X6_perform, mk_X6_perform) 837 = true := by decide +kernel
set_option maxRecDepth 100000 in
theorem ok_X6_undo : mm_okE (mi_X6_undo, mk_X6_undo) 881 = true := by decide +kernel
set_option maxRecDepth 100000 in
theorem ok_X6_keep : mm_okE (mi_X6_keep, mk_X6_keep) 885 = true := by decide +kernel
set_option maxRecDepth 100000 in
theorem ok_X6_restore : mm_okE (mi_X6_restore, mk_X6_restore) 893 = true := by decide +kernel
set_option maxRecDepth 100000 in
theorem ok_X6_rows : mm_okE (mi_X6_rows, mk_X6_rows) 897 = true := by decide +kernel
set_option maxRecDepth 100000 in
theorem ok_X6_keyAt : mm_okE (mi_X6_keyAt, mk_X6_keyAt) 901 = true := by decide +kernel
set_option maxRecDepth 100000 in
theorem ok_X6_value_ : mm_okE (mi_X6_value_, mk_X6_value_) 905 = true := by decide +kernel
set_option maxRecDepth 100000 in
theorem ok_X6_children : mm_okE (mi_X6_children, mk_X6_children) 909 = true := by decide +kernel
set_option maxRecDepth 100000 in
theorem ok_X6_reference : mm_okE (mi_X6_reference, mk_X6_reference) 913 = true := by decide +kernel
set_option maxRecDepth 100000 in
theorem ok_X6_deleted : mm_okE (mi_X6_deleted, mk_X6_deleted) 917 = true := by decide +kernel
set_option maxRecDepth 100000 in
theorem ok_X6_nulls : mm_okE (mi_X6_nulls, mk_X6_nulls) 925 = true := by decide +kernel
set_option maxRecDepth 100000 in
theorem ok_X6_total : mm_okE (mi_X6_total, mk_X6_total) 921 = true := by decide +kernel
set_option maxRecDepth 100000 in
theorem ok_X6_gathered : mm_okE (mi_X6_gathered, mk_X6_gathered) 929 = true := by decide +kernel
set_option maxRecDepth 100000 in
theorem ok_X6_reason : mm_okE (mi_X6_reason, mk_X6_reason) 933 = true := by decide +kernel
set_option maxRecDepth 100000 in
theorem ok_X6_blocking : mm_okE (mi_X6_blocking, mk_X6_blocking) 937 = true := by decide +kernel
set_option maxRecDepth 100000 in
theorem ok_X6_wouldChange : mm_okE (mi_X6_wouldChange, mk_X6_wouldChange) 942 = true := by decide +kernel
set_option maxRecDepth 100000 in
theorem ok_X6_leadsBack : mm_okE (mi_X6_leadsBack, mk_X6_leadsBack) 950 = true := by decide +kernel
set_option maxRecDepth 100000 in
theorem ok_X6_isInRing : mm_okE (mi_X6_isInRing, mk_X6_isInRing) 946 = true := by decide +kernel
set_option maxRecDepth 100000 in
theorem ok_X6_deletable : mm_okE (mi_X6_deletable, mk_X6_deletable) 954 = true := by decide +kernel
set_option maxRecDepth 100000 in
theorem ok_J7_fill_53178 : mm_okE (mi_J7_fill_53178, mk_J7_fill_53178) 421 = true := by decide +kernel
