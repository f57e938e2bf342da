set_option maxRecDepth 100000 in
theorem cd_X0_init : Cond.code yX0_init cX0_init 1 (none) ∈ lw_tbl := List.mem_of_getElem? (i := 195) rfl
set_option maxRecDepth 100000 in
theorem cd_X0_cell : Cond.code yX0_cell cX0_cell 6 (some .int) ∈ lw_tbl := List.mem_of_getElem? (i := 478) rfl
set_option maxRecDepth 100000 in
theorem cd_X0_fewest : Cond.code yX0_fewest cX0_fewest 6 (some .int) ∈ lw_tbl := List.mem_of_getElem? (i := 543) rfl
set_option maxRecDepth 100000 in
theorem cd_X0_canLeave : Cond.code yX0_canLeave cX0_canLeave 5 (some .boolean) ∈ lw_tbl := List.mem_of_getElem? (i := 627) rfl
set_option maxRecDepth 100000 in
theorem cd_X0_put : Cond.code yX0_put cX0_put 7 (some .boolean) ∈ lw_tbl := List.mem_of_getElem? (i := 474) rfl
set_option maxRecDepth 100000 in
theorem cd_X0_clear : Cond.code yX0_clear cX0_clear 5 (none) ∈ lw_tbl := List.mem_of_getElem? (i := 469) rfl
set_option maxRecDepth 100000 in
theorem cd_X1_init : Cond.code yX1_init cX1_init 1 (none) ∈ lw_tbl := List.mem_of_getElem? (i := 170) rfl
set_option maxRecDepth 100000 in
theorem cd_X1_above : Cond.code yX1_above cX1_above 2 (some .int) ∈ lw_tbl := List.mem_of_getElem? (i := 446) rfl
set_option maxRecDepth 100000 in
theorem cd_X1_place : Cond.code yX1_place cX1_place 3 (some .boolean) ∈ lw_tbl := List.mem_of_getElem? (i := 442) rfl
set_option maxRecDepth 100000 in
theorem cd_X1_findAbove : Cond.code yX1_findAbove cX1_findAbove 4 (none) ∈ lw_tbl := List.mem_of_getElem? (i := 178) rfl
set_option maxRecDepth 100000 in
theorem cd_X2_init : Cond.code yX2_init cX2_init 3 (none) ∈ lw_tbl := List.mem_of_getElem? (i := 205) rfl
set_option maxRecDepth 100000 in
theorem cd_X2_measureAll : Cond.code yX2_measureAll cX2_measureAll 5 (none) ∈ lw_tbl := List.mem_of_getElem? (i := 485) rfl
set_option maxRecDepth 100000 in
theorem cd_X2_tellExits : Cond.code yX2_tellExits cX2_tellExits 8 (some .boolean) ∈ lw_tbl := List.mem_of_getElem? (i := 606) rfl
set_option maxRecDepth 100000 in
theorem cd_X2_waysOf : Cond.code yX2_waysOf cX2_waysOf 7 (some .int) ∈ lw_tbl := List.mem_of_getElem? (i := 688) rfl
set_option maxRecDepth 100000 in
theorem cd_X2_matters : Cond.code yX2_matters cX2_matters 3 (some .boolean) ∈ lw_tbl := List.mem_of_getElem? (i := 493) rfl
set_option maxRecDepth 100000 in
theorem cd_X2_rowOf : Cond.code yX2_rowOf cX2_rowOf 5 (some .int) ∈ lw_tbl := List.mem_of_getElem? (i := 563) rfl
set_option maxRecDepth 100000 in
theorem cd_X2_cell : Cond.code yX2_cell cX2_cell 5 (some .int) ∈ lw_tbl := List.mem_of_getElem? (i := 578) rfl
set_option maxRecDepth 100000 in
theorem cd_X2_measureBlock : Cond.code yX2_measureBlock cX2_measureBlock 8 (none) ∈ lw_tbl := List.mem_of_getElem? (i := 501) rfl
set_option maxRecDepth 100000 in
theorem cd_X2_begin : Cond.code yX2_begin cX2_begin 2 (none) ∈ lw_tbl := List.mem_of_getElem? (i := 505) rfl
set_option maxRecDepth 100000 in
theorem cd_X2_isReached : Cond.code yX2_isReached cX2_isReached 2 (some .boolean) ∈ lw_tbl := List.mem_of_getElem? (i := 523) rfl
set_option maxRecDepth 100000 in
theorem cd_X2_store : Cond.code yX2_store cX2_store 3 (none) ∈ lw_tbl := List.mem_of_getElem? (i := 602) rfl
set_option maxRecDepth 100000 in
theorem cd_X2_leaveBy : Cond.code yX2_leaveBy cX2_leaveBy 3 (none) ∈ lw_tbl := List.mem_of_getElem? (i := 528) rfl
set_option maxRecDepth 100000 in
theorem cd_X2_turn : Cond.code yX2_turn cX2_turn 4 (none) ∈ lw_tbl := List.mem_of_getElem? (i := 532) rfl
set_option maxRecDepth 100000 in
theorem cd_X2_call : Cond.code yX2_call cX2_call 5 (none) ∈ lw_tbl := List.mem_of_getElem? (i := 539) rfl
set_option maxRecDepth 100000 in
theorem cd_X2_choose : Cond.code yX2_choose cX2_choose 5 (some .int) ∈ lw_tbl := List.mem_of_getElem? (i := 551) rfl
set_option maxRecDepth 100000 in
theorem cd_X2_repeat : Cond.code yX2_repeat cX2_repeat 8 (some .int) ∈ lw_tbl := List.mem_of_getElem? (i := 574) rfl
set_option maxRecDepth 100000 in
theorem cd_X2_take : Cond.code yX2_take cX2_take 9 (some .int) ∈ lw_tbl := List.mem_of_getElem? (i := 582) rfl
set_option maxRecDepth 100000 in
theorem cd_X2_end : Cond.code yX2_end cX2_end 7 (none) ∈ lw_tbl := List.mem_of_getElem? (i := 598) rfl
set_option maxRecDepth 100000 in
theorem cd_X2_enter : Cond.code yX2_enter cX2_enter 4 (none) ∈ lw_tbl := List.mem_of_getElem? (i := 559) rfl
set_option maxRecDepth 100000 in
theorem cd_X2_addRow : Cond.code yX2_addRow cX2_addRow 5 (none) ∈ lw_tbl := List.mem_of_getElem? (i := 570) rfl
set_option maxRecDepth 100000 in
theorem cd_X2_goOn : Cond.code yX2_goOn cX2_goOn 3 (none) ∈ lw_tbl := List.mem_of_getElem? (i := 547) rfl
set_option maxRecDepth 100000 in
theorem cd_X3_init : Cond.code yX3_init cX3_init 1 (none) ∈ lw_tbl := List.mem_of_getElem? (i := 107) rfl
set_option maxRecDepth 100000 in
theorem cd_X3_number : Cond.code yX3_number cX3_number 1 (some .int) ∈ lw_tbl := List.mem_of_getElem? (i := 415) rfl
set_option maxRecDepth 100000 in
theorem cd_X3_place : Cond.code yX3_place cX3_place 1 (some .int) ∈ lw_tbl := List.mem_of_getElem? (i := 419) rfl
set_option maxRecDepth 100000 in
theorem cd_X3_read : Cond.code yX3_read cX3_read 4 (none) ∈ lw_tbl := List.mem_of_getElem? (i := 339) rfl
set_option maxRecDepth 100000 in
theorem cd_X3_refuse : Cond.code yX3_refuse cX3_refuse 3 (some .int) ∈ lw_tbl := List.mem_of_getElem? (i := 373) rfl
set_option maxRecDepth 100000 in
theorem cd_X3_readStatements : Cond.code yX3_readStatements cX3_readStatements 6 (some .int) ∈ lw_tbl := List.mem_of_getElem? (i := 347) rfl
set_option maxRecDepth 100000 in
theorem cd_X3_readStatement : Cond.code yX3_readStatement cX3_readStatement 6 (some .int) ∈ lw_tbl := List.mem_of_getElem? (i := 359) rfl
set_option maxRecDepth 100000 in
theorem cd_X3_behindPair : Cond.code yX3_behindPair cX3_behindPair 3 (some .int) ∈ lw_tbl := List.mem_of_getElem? (i := 369) rfl
set_option maxRecDepth 100000 in
theorem cd_X3_readBlock : Cond.code yX3_readBlock cX3_readBlock 7 (some .int) ∈ lw_tbl := List.mem_of_getElem? (i := 395) rfl
set_option maxRecDepth 100000 in
theorem cd_X3_readTaking : Cond.code yX3_readTaking cX3_readTaking 6 (some .int) ∈ lw_tbl := List.mem_of_getElem? (i := 407) rfl
set_option maxRecDepth 100000 in
theorem cd_X4_init : Cond.code yX4_init cX4_init 1 (none) ∈ lw_tbl := List.mem_of_getElem? (i := 93) rfl
set_option maxRecDepth 100000 in
theorem cd_X4_size : Cond.code yX4_size cX4_size 1 (some .int) ∈ lw_tbl := List.mem_of_getElem? (i := 312) rfl
set_option maxRecDepth 100000 in
theorem cd_X4_at : Cond.code yX4_at cX4_at 2 (some .int) ∈ lw_tbl := List.mem_of_getElem? (i := 331) rfl
set_option maxRecDepth 100000 in
theorem cd_X4_add : Cond.code yX4_add cX4_add 3 (none) ∈ lw_tbl := List.mem_of_getElem? (i := 316) rfl
set_option maxRecDepth 100000 in
theorem cd_X4_clear : Cond.code yX4_clear cX4_clear 1 (none) ∈ lw_tbl := List.mem_of_getElem? (i := 335) rfl
set_option maxRecDepth 100000 in
theorem cd_X5_init : Cond.code yX5_init cX5_init 1 (none) ∈ lw_tbl := List.mem_of_getElem? (i := 113) rfl
set_option maxRecDepth 100000 in
theorem cd_X5_copy : Cond.code yX5_copy cX5_copy 4 (none) ∈ lw_tbl := List.mem_of_getElem? (i := 327) rfl
set_option maxRecDepth 100000 in
theorem cd_X5_length : Cond.code yX5_length cX5_length 1 (some .int) ∈ lw_tbl := List.mem_of_getElem? (i := 351) rfl
set_option maxRecDepth 100000 in
theorem cd_X5_at : Cond.code yX5_at cX5_at 2 (some .int) ∈ lw_tbl := List.mem_of_getElem? (i := 355) rfl
set_option maxRecDepth 100000 in
theorem cd_X5_kindAt : Cond.code yX5_kindAt cX5_kindAt 3 (some .int) ∈ lw_tbl := List.mem_of_getElem? (i := 363) rfl
set_option maxRecDepth 100000 in
theorem cd_X5_openBlock : Cond.code yX5_openBlock cX5_openBlock 4 (some .int) ∈ lw_tbl := List.mem_of_getElem? (i := 343) rfl
set_option maxRecDepth 100000 in
theorem cd_X5_closeBlock : Cond.code yX5_closeBlock cX5_closeBlock 3 (none) ∈ lw_tbl := List.mem_of_getElem? (i := 399) rfl
set_option maxRecDepth 100000 in
theorem cd_X5_isBlock : Cond.code yX5_isBlock cX5_isBlock 2 (some .boolean) ∈ lw_tbl := List.mem_of_getElem? (i := 387) rfl
set_option maxRecDepth 100000 in
theorem cd_X5_blocks : Cond.code yX5_blocks cX5_blocks 1 (some .int) ∈ lw_tbl := List.mem_of_getElem? (i := 489) rfl
set_option maxRecDepth 100000 in
theorem cd_X5_blockAt : Cond.code yX5_blockAt cX5_blockAt 2 (some .int) ∈ lw_tbl := List.mem_of_getElem? (i := 555) rfl
set_option maxRecDepth 100000 in
theorem cd_X5_firstOf : Cond.code yX5_firstOf cX5_firstOf 2 (some .int) ∈ lw_tbl := List.mem_of_getElem? (i := 515) rfl
set_option maxRecDepth 100000 in
theorem cd_X5_closeOf : Cond.code yX5_closeOf cX5_closeOf 2 (some .int) ∈ lw_tbl := List.mem_of_getElem? (i := 519) rfl
set_option maxRecDepth 100000 in
theorem cd_X5_keeperOf : Cond.code yX5_keeperOf cX5_keeperOf 2 (some .int) ∈ lw_tbl := List.mem_of_getElem? (i := 391) rfl
set_option maxRecDepth 100000 in
theorem cd_X5_raisesAgain : Cond.code yX5_raisesAgain cX5_raisesAgain 2 (some .boolean) ∈ lw_tbl := List.mem_of_getElem? (i := 403) rfl
set_option maxRecDepth 100000 in
theorem cd_X5_markAgain : Cond.code yX5_markAgain cX5_markAgain 2 (none) ∈ lw_tbl := List.mem_of_getElem? (i := 383) rfl
set_option maxRecDepth 100000 in
theorem cd_X5_calls : Cond.code yX5_calls cX5_calls 1 (some .int) ∈ lw_tbl := List.mem_of_getElem? (i := 431) rfl
set_option maxRecDepth 100000 in
theorem cd_X5_addCall : Cond.code yX5_addCall cX5_addCall 2 (none) ∈ lw_tbl := List.mem_of_getElem? (i := 377) rfl
set_option maxRecDepth 100000 in
theorem cd_X5_addTaker : Cond.code yX5_addTaker cX5_addTaker 2 (none) ∈ lw_tbl := List.mem_of_getElem? (i := 411) rfl
set_option maxRecDepth 100000 in
theorem cd_X5_takerCount : Cond.code yX5_takerCount cX5_takerCount 1 (some .int) ∈ lw_tbl := List.mem_of_getElem? (i := 647) rfl
set_option maxRecDepth 100000 in
theorem cd_X5_takerPlace : Cond.code yX5_takerPlace cX5_takerPlace 2 (some .int) ∈ lw_tbl := List.mem_of_getElem? (i := 715) rfl
set_option maxRecDepth 100000 in
theorem cd_X5_takerKind : Cond.code yX5_takerKind cX5_takerKind 2 (some .int) ∈ lw_tbl := List.mem_of_getElem? (i := 711) rfl
set_option maxRecDepth 100000 in
theorem cd_X5_isEmptyTaker : Cond.code yX5_isEmptyTaker cX5_isEmptyTaker 3 (some .boolean) ∈ lw_tbl := List.mem_of_getElem? (i := 724) rfl
set_option maxRecDepth 100000 in
theorem cd_X5_takenKinds : Cond.code yX5_takenKinds cX5_takenKinds 3 (some .int) ∈ lw_tbl := List.mem_of_getElem? (i := 720) rfl
set_option maxRecDepth 100000 in
theorem cd_X5_lostKinds : Cond.code yX5_lostKinds cX5_lostKinds 1 (some .int) ∈ lw_tbl := List.mem_of_getElem? (i := 733) rfl
set_option maxRecDepth 100000 in
theorem cd_X5_clearTraces : Cond.code yX5_clearTraces cX5_clearTraces 1 (none) ∈ lw_tbl := List.mem_of_getElem? (i := 663) rfl
set_option maxRecDepth 100000 in
theorem cd_X5_addTaken : Cond.code yX5_addTaken cX5_addTaken 3 (none) ∈ lw_tbl := List.mem_of_getElem? (i := 698) rfl
set_option maxRecDepth 100000 in
theorem cd_X5_addLost : Cond.code yX5_addLost cX5_addLost 2 (none) ∈ lw_tbl := List.mem_of_getElem? (i := 707) rfl
set_option maxRecDepth 100000 in
theorem cd_X5_takerOf : Cond.code yX5_takerOf cX5_takerOf 6 (some .int) ∈ lw_tbl := List.mem_of_getElem? (i := 586) rfl
set_option maxRecDepth 100000 in
theorem cd_X5_behindTakers : Cond.code yX5_behindTakers cX5_behindTakers 4 (some .int) ∈ lw_tbl := List.mem_of_getElem? (i := 594) rfl
set_option maxRecDepth 100000 in
theorem cd_X6_init : Cond.code yX6_init cX6_init 4 (none) ∈ lw_tbl := List.mem_of_getElem? (i := 241) rfl
set_option maxRecDepth 100000 in
theorem cd_X6_traceAll : Cond.code yX6_traceAll cX6_traceAll 4 (none) ∈ lw_tbl := List.mem_of_getElem? (i := 659) rfl
set_option maxRecDepth 100000 in
theorem cd_X6_reach : Cond.code yX6_reach cX6_reach 3 (none) ∈ lw_tbl := List.mem_of_getElem? (i := 669) rfl
set_option maxRecDepth 100000 in
theorem cd_X6_traceBlock : Cond.code yX6_traceBlock cX6_traceBlock 7 (none) ∈ lw_tbl := List.mem_of_getElem? (i := 675) rfl
set_option maxRecDepth 100000 in
theorem cd_X6_traceChoice : Cond.code yX6_traceChoice cX6_traceChoice 5 (some .int) ∈ lw_tbl := List.mem_of_getElem? (i := 683) rfl
set_option maxRecDepth 100000 in
theorem cd_X6_traceTaking : Cond.code yX6_traceTaking cX6_traceTaking 9 (some .int) ∈ lw_tbl := List.mem_of_getElem? (i := 692) rfl
set_option maxRecDepth 100000 in
theorem cd_X6_traceEnding : Cond.code yX6_traceEnding cX6_traceEnding 4 (some .int) ∈ lw_tbl := List.mem_of_getElem? (i := 703) rfl
set_option maxRecDepth 100000 in
theorem cd_X7_init : Cond.code yX7_init cX7_init 2 (none) ∈ lw_tbl := List.mem_of_getElem? (i := 85) rfl
set_option maxRecDepth 100000 in
theorem cd_X7_feed : Cond.code yX7_feed cX7_feed 6 (some .int) ∈ lw_tbl := List.mem_of_getElem? (i := 308) rfl
set_option maxRecDepth 100000 in
theorem cd_X7_text : Cond.code yX7_text cX7_text 4 (some .int) ∈ lw_tbl := List.mem_of_getElem? (i := 320) rfl
set_option maxRecDepth 100000 in
theorem cd_X7_under : Cond.code yX7_under cX7_under 3 (some .boolean) ∈ lw_tbl := List.mem_of_getElem? (i := 438) rfl
set_option maxRecDepth 100000 in
theorem cd_X7_promise : Cond.code yX7_promise cX7_promise 3 (some .boolean) ∈ lw_tbl := List.mem_of_getElem? (i := 451) rfl
set_option maxRecDepth 100000 in
theorem cd_X7_steps : Cond.code yX7_steps cX7_steps 6 (some .int) ∈ lw_tbl := List.mem_of_getElem? (i := 455) rfl
set_option maxRecDepth 100000 in
theorem cd_X7_leaves : Cond.code yX7_leaves cX7_leaves 3 (some .int) ∈ lw_tbl := List.mem_of_getElem? (i := 619) rfl
set_option maxRecDepth 100000 in
theorem cd_X7_ends : Cond.code yX7_ends cX7_ends 3 (some .int) ∈ lw_tbl := List.mem_of_getElem? (i := 632) rfl
set_option maxRecDepth 100000 in
theorem cd_X7_due : Cond.code yX7_due cX7_due 6 (some .int) ∈ lw_tbl := List.mem_of_getElem? (i := 639) rfl
set_option maxRecDepth 100000 in
theorem cd_X7_takers : Cond.code yX7_takers cX7_takers 2 (some .int) ∈ lw_tbl := List.mem_of_getElem? (i := 643) rfl
set_option maxRecDepth 100000 in
theorem cd_X7_taker : Cond.code yX7_taker cX7_taker 5 (some .int) ∈ lw_tbl := List.mem_of_getElem? (i := 651) rfl
set_option maxRecDepth 100000 in
theorem cd_X7_lost : Cond.code yX7_lost cX7_lost 2 (some .int) ∈ lw_tbl := List.mem_of_getElem? (i := 729) rfl
set_option maxRecDepth 100000 in
theorem cd_X7_broken : Cond.code yX7_broken cX7_broken 5 (some .int) ∈ lw_tbl := List.mem_of_getElem? (i := 737) rfl
set_option maxRecDepth 100000 in
theorem cd_X7_idle : Cond.code yX7_idle cX7_idle 5 (some .int) ∈ lw_tbl := List.mem_of_getElem? (i := 742) rfl
set_option maxRecDepth 100000 in
theorem cd_X7_look : Cond.code yX7_look cX7_look 3 (some .int) ∈ lw_tbl := List.mem_of_getElem? (i := 746) rfl
set_option maxRecDepth 100000 in
theorem cd_X7_is : Cond.code yX7_is cX7_is 3 (some .int) ∈ lw_tbl := List.mem_of_getElem? (i := 752) rfl
set_option maxRecDepth 100000 in
theorem cd_X7_fault : Cond.code yX7_fault cX7_fault 2 (some .int) ∈ lw_tbl := List.mem_of_getElem? (i := 757) rfl
set_option maxRecDepth 100000 in
theorem cd_X7_isRoutine : Cond.code yX7_isRoutine cX7_isRoutine 1 (some .boolean) ∈ lw_tbl := List.mem_of_getElem? (i := 323) rfl
set_option maxRecDepth 100000 in
theorem cd_X7_isKind : Cond.code yX7_isKind cX7_isKind 1 (some .boolean) ∈ lw_tbl := List.mem_of_getElem? (i := 181) rfl
set_option maxRecDepth 100000 in
theorem cd_X7_isSet : Cond.code yX7_isSet cX7_isSet 1 (some .boolean) ∈ lw_tbl := List.mem_of_getElem? (i := 458) rfl
set_option maxRecDepth 100000 in
theorem cd_X7_isExit : Cond.code yX7_isExit cX7_isExit 1 (some .boolean) ∈ lw_tbl := List.mem_of_getElem? (i := 461) rfl
set_option maxRecDepth 100000 in
theorem cd_X7_has : Cond.code yX7_has cX7_has 2 (some .boolean) ∈ lw_tbl := List.mem_of_getElem? (i := 434) rfl
set_option maxRecDepth 100000 in
theorem cd_X7_bit : Cond.code yX7_bit cX7_bit 1 (some .int) ∈ lw_tbl := List.mem_of_getElem? (i := 635) rfl
set_option maxRecDepth 100000 in
theorem cd_X7_lower : Cond.code yX7_lower cX7_lower 4 (none) ∈ lw_tbl := List.mem_of_getElem? (i := 510) rfl
set_option maxRecDepth 100000 in
theorem cd_X7_leavingKinds : Cond.code yX7_leavingKinds cX7_leavingKinds 5 (some .int) ∈ lw_tbl := List.mem_of_getElem? (i := 623) rfl
set_option maxRecDepth 100000 in
theorem cd_X7_comesTo : Cond.code yX7_comesTo cX7_comesTo 5 (some .int) ∈ lw_tbl := List.mem_of_getElem? (i := 427) rfl
set_option maxRecDepth 100000 in
theorem cd_X7_callersOf : Cond.code yX7_callersOf cX7_callersOf 4 (some .int) ∈ lw_tbl := List.mem_of_getElem? (i := 614) rfl
set_option maxRecDepth 100000 in
theorem cd_X7_forget : Cond.code yX7_forget cX7_forget 4 (none) ∈ lw_tbl := List.mem_of_getElem? (i := 423) rfl
set_option maxRecDepth 100000 in
theorem cd_X7_measure : Cond.code yX7_measure cX7_measure 6 (none) ∈ lw_tbl := List.mem_of_getElem? (i := 465) rfl
set_option maxRecDepth 100000 in
theorem cd_X7_trace : Cond.code yX7_trace cX7_trace 2 (none) ∈ lw_tbl := List.mem_of_getElem? (i := 655) rfl
set_option maxRecDepth 100000 in
theorem cd_X8_init : Cond.code yX8_init cX8_init 2 (none) ∈ lw_tbl := List.mem_of_getElem? (i := 762) rfl
set_option maxRecDepth 100000 in
theorem cd_X8_isKind : Cond.code yX8_isKind cX8_isKind 1 (some .boolean) ∈ lw_tbl := List.mem_of_getElem? (i := 863) rfl
set_option maxRecDepth 100000 in
theorem cd_X8_isOf : Cond.code yX8_isOf cX8_isOf 4 (some .boolean) ∈ lw_tbl := List.mem_of_getElem? (i := 867) rfl
set_option maxRecDepth 100000 in
theorem cd_X8_under : Cond.code yX8_under cX8_under 3 (some .boolean) ∈ lw_tbl := List.mem_of_getElem? (i := 860) rfl
set_option maxRecDepth 100000 in
theorem cd_X8_is : Cond.code yX8_is cX8_is 3 (some .int) ∈ lw_tbl := List.mem_of_getElem? (i := 871) rfl
set_option maxRecDepth 100000 in
theorem cd_X8_types : Cond.code yX8_types cX8_types 3 (none) ∈ lw_tbl := List.mem_of_getElem? (i := 879) rfl
set_option maxRecDepth 100000 in
theorem cd_X8_feed : Cond.code yX8_feed cX8_feed 6 (some .int) ∈ lw_tbl := List.mem_of_getElem? (i := 875) rfl
set_option maxRecDepth 100000 in
theorem cd_X8_sign : Cond.code yX8_sign cX8_sign 2 (some .int) ∈ lw_tbl := List.mem_of_getElem? (i := 891) rfl
set_option maxRecDepth 100000 in
theorem cd_X8_wrong : Cond.code yX8_wrong cX8_wrong 3 (some .boolean) ∈ lw_tbl := List.mem_of_getElem? (i := 899) rfl
set_option maxRecDepth 100000 in
theorem cd_X8_opens : Cond.code yX8_opens cX8_opens 2 (some .boolean) ∈ lw_tbl := List.mem_of_getElem? (i := 907) rfl
set_option maxRecDepth 100000 in
theorem cd_X8_isTaking : Cond.code yX8_isTaking cX8_isTaking 3 (some .boolean) ∈ lw_tbl := List.mem_of_getElem? (i := 914) rfl
set_option maxRecDepth 100000 in
theorem cd_X8_isLetter : Cond.code yX8_isLetter cX8_isLetter 1 (some .boolean) ∈ lw_tbl := List.mem_of_getElem? (i := 910) rfl
set_option maxRecDepth 100000 in
theorem cd_X8_goesOn : Cond.code yX8_goesOn cX8_goesOn 4 (some .boolean) ∈ lw_tbl := List.mem_of_getElem? (i := 903) rfl
set_option maxRecDepth 100000 in
theorem cd_X8_shuts : Cond.code yX8_shuts cX8_shuts 3 (some .boolean) ∈ lw_tbl := List.mem_of_getElem? (i := 895) rfl
set_option maxRecDepth 100000 in
theorem cd_X8_readsStatement : Cond.code yX8_readsStatement cX8_readsStatement 2 (some .boolean) ∈ lw_tbl := List.mem_of_getElem? (i := 887) rfl
set_option maxRecDepth 100000 in
theorem cd_X8_text : Cond.code yX8_text cX8_text 5 (some .int) ∈ lw_tbl := List.mem_of_getElem? (i := 883) rfl
set_option maxRecDepth 100000 in
theorem cd_X8_cell : Cond.code yX8_cell cX8_cell 4 (some .int) ∈ lw_tbl := List.mem_of_getElem? (i := 985) rfl
set_option maxRecDepth 100000 in
theorem cd_X8_allOf : Cond.code yX8_allOf cX8_allOf 7 (some .int) ∈ lw_tbl := List.mem_of_getElem? (i := 982) rfl
set_option maxRecDepth 100000 in
theorem cd_X8_metOf : Cond.code yX8_metOf cX8_metOf 4 (some .boolean) ∈ lw_tbl := List.mem_of_getElem? (i := 978) rfl
set_option maxRecDepth 100000 in
theorem cd_X8_less : Cond.code yX8_less cX8_less 2 (some .int) ∈ lw_tbl := List.mem_of_getElem? (i := 963) rfl
set_option maxRecDepth 100000 in
theorem cd_X8_sum : Cond.code yX8_sum cX8_sum 2 (some .int) ∈ lw_tbl := List.mem_of_getElem? (i := 970) rfl
set_option maxRecDepth 100000 in
theorem cd_X8_clears : Cond.code yX8_clears cX8_clears 2 (none) ∈ lw_tbl := List.mem_of_getElem? (i := 948) rfl
set_option maxRecDepth 100000 in
theorem cd_X8_puts : Cond.code yX8_puts cX8_puts 4 (none) ∈ lw_tbl := List.mem_of_getElem? (i := 960) rfl
set_option maxRecDepth 100000 in
theorem cd_X8_putsMid : Cond.code yX8_putsMid cX8_putsMid 4 (none) ∈ lw_tbl := List.mem_of_getElem? (i := 1001) rfl
set_option maxRecDepth 100000 in
theorem cd_X8_block : Cond.code yX8_block cX8_block 7 (none) ∈ lw_tbl := List.mem_of_getElem? (i := 974) rfl
set_option maxRecDepth 100000 in
theorem cd_X8_calls : Cond.code yX8_calls cX8_calls 5 (none) ∈ lw_tbl := List.mem_of_getElem? (i := 967) rfl
set_option maxRecDepth 100000 in
theorem cd_X8_star : Cond.code yX8_star cX8_star 8 (none) ∈ lw_tbl := List.mem_of_getElem? (i := 989) rfl
set_option maxRecDepth 100000 in
theorem cd_X8_signOf : Cond.code yX8_signOf cX8_signOf 3 (some .int) ∈ lw_tbl := List.mem_of_getElem? (i := 937) rfl
set_option maxRecDepth 100000 in
theorem cd_X8_shutOf : Cond.code yX8_shutOf cX8_shutOf 3 (some .int) ∈ lw_tbl := List.mem_of_getElem? (i := 941) rfl
set_option maxRecDepth 100000 in
theorem cd_X8_takerFor : Cond.code yX8_takerFor cX8_takerFor 5 (some .int) ∈ lw_tbl := List.mem_of_getElem? (i := 997) rfl
set_option maxRecDepth 100000 in
theorem cd_X8_takes : Cond.code yX8_takes cX8_takes 8 (none) ∈ lw_tbl := List.mem_of_getElem? (i := 1005) rfl
set_option maxRecDepth 100000 in
theorem cd_X8_tries : Cond.code yX8_tries cX8_tries 10 (none) ∈ lw_tbl := List.mem_of_getElem? (i := 993) rfl
set_option maxRecDepth 100000 in
theorem cd_X8_endsBy : Cond.code yX8_endsBy cX8_endsBy 10 (none) ∈ lw_tbl := List.mem_of_getElem? (i := 1009) rfl
set_option maxRecDepth 100000 in
theorem cd_X8_statement : Cond.code yX8_statement cX8_statement 8 (some .int) ∈ lw_tbl := List.mem_of_getElem? (i := 956) rfl
set_option maxRecDepth 100000 in
theorem cd_X8_passes : Cond.code yX8_passes cX8_passes 7 (none) ∈ lw_tbl := List.mem_of_getElem? (i := 952) rfl
set_option maxRecDepth 100000 in
theorem cd_X8_makes : Cond.code yX8_makes cX8_makes 10 (none) ∈ lw_tbl := List.mem_of_getElem? (i := 945) rfl
set_option maxRecDepth 100000 in
theorem cd_X8_goesThrough : Cond.code yX8_goesThrough cX8_goesThrough 3 (none) ∈ lw_tbl := List.mem_of_getElem? (i := 933) rfl
set_option maxRecDepth 100000 in
theorem cd_X8_runs : Cond.code yX8_runs cX8_runs 8 (none) ∈ lw_tbl := List.mem_of_getElem? (i := 928) rfl
set_option maxRecDepth 100000 in
theorem cd_X8_isRoutine : Cond.code yX8_isRoutine cX8_isRoutine 1 (some .boolean) ∈ lw_tbl := List.mem_of_getElem? (i := 921) rfl
set_option maxRecDepth 100000 in
theorem cd_X8_isState : Cond.code yX8_isState cX8_isState 1 (some .boolean) ∈ lw_tbl := List.mem_of_getElem? (i := 924) rfl
set_option maxRecDepth 100000 in
theorem cd_X8_steps : Cond.code yX8_steps cX8_steps 6 (some .int) ∈ lw_tbl := List.mem_of_getElem? (i := 918) rfl
set_option maxRecDepth 100000 in
theorem cd_X8_canLeave : Cond.code yX8_canLeave cX8_canLeave 6 (some .boolean) ∈ lw_tbl := List.mem_of_getElem? (i := 1017) rfl
set_option maxRecDepth 100000 in
theorem cd_X8_leaves : Cond.code yX8_leaves cX8_leaves 5 (some .int) ∈ lw_tbl := List.mem_of_getElem? (i := 1013) rfl
set_option maxRecDepth 100000 in
theorem cd_X8_ends : Cond.code yX8_ends cX8_ends 3 (some .int) ∈ lw_tbl := List.mem_of_getElem? (i := 1022) rfl
set_option maxRecDepth 100000 in
theorem cd_X8_due : Cond.code yX8_due cX8_due 6 (some .int) ∈ lw_tbl := List.mem_of_getElem? (i := 1026) rfl
set_option maxRecDepth 100000 in
theorem cd_X8_comesToPass : Cond.code yX8_comesToPass cX8_comesToPass 4 (some .boolean) ∈ lw_tbl := List.mem_of_getElem? (i := 1046) rfl
set_option maxRecDepth 100000 in
theorem cd_X8_placeOf : Cond.code yX8_placeOf cX8_placeOf 6 (some .int) ∈ lw_tbl := List.mem_of_getElem? (i := 1034) rfl
set_option maxRecDepth 100000 in
theorem cd_X8_takers : Cond.code yX8_takers cX8_takers 3 (some .int) ∈ lw_tbl := List.mem_of_getElem? (i := 1030) rfl
set_option maxRecDepth 100000 in
theorem cd_X8_takenBy : Cond.code yX8_takenBy cX8_takenBy 5 (some .int) ∈ lw_tbl := List.mem_of_getElem? (i := 1042) rfl
set_option maxRecDepth 100000 in
theorem cd_X8_taker : Cond.code yX8_taker cX8_taker 6 (some .int) ∈ lw_tbl := List.mem_of_getElem? (i := 1038) rfl
set_option maxRecDepth 100000 in
theorem cd_X8_lost : Cond.code yX8_lost cX8_lost 4 (some .int) ∈ lw_tbl := List.mem_of_getElem? (i := 1050) rfl
set_option maxRecDepth 100000 in
theorem cd_X8_promise : Cond.code yX8_promise cX8_promise 3 (some .boolean) ∈ lw_tbl := List.mem_of_getElem? (i := 1054) rfl
set_option maxRecDepth 100000 in
theorem cd_X8_broken : Cond.code yX8_broken cX8_broken 6 (some .int) ∈ lw_tbl := List.mem_of_getElem? (i := 1058) rfl
set_option maxRecDepth 100000 in
theorem cd_X8_idle : Cond.code yX8_idle cX8_idle 7 (some .int) ∈ lw_tbl := List.mem_of_getElem? (i := 1063) rfl
set_option maxRecDepth 100000 in
theorem cd_X8_callsOf : Cond.code yX8_callsOf cX8_callsOf 4 (some .int) ∈ lw_tbl := List.mem_of_getElem? (i := 1071) rfl
set_option maxRecDepth 100000 in
theorem cd_X8_look : Cond.code yX8_look cX8_look 6 (some .int) ∈ lw_tbl := List.mem_of_getElem? (i := 1067) rfl
set_option maxRecDepth 100000 in
theorem cd_X8_fault : Cond.code yX8_fault cX8_fault 2 (some .int) ∈ lw_tbl := List.mem_of_getElem? (i := 1075) rfl
set_option maxRecDepth 100000 in
theorem cd_J7_fill_53178 : Cond.code yJ7_fill_53178 cJ7_fill_53178 4 (none) ∈ lw_tbl := List.mem_of_getElem? (i := 174) rfl
set_option maxRecDepth 100000 in
theorem am_cds : am_con (fun j => Cond.code (am_y j) (am_b j) (am_mx j) (am_ry j) ∈ lw_tbl) 0 170 := ⟨cd_X0_init, cd_X0_cell, cd_X0_fewest, cd_X0_canLeave, cd_X0_put, cd_X0_clear, cd_X1_init, cd_X1_above, cd_X1_place, cd_X1_findAbove, cd_X2_init, cd_X2_measureAll, cd_X2_tellExits, cd_X2_waysOf, cd_X2_matters, cd_X2_rowOf, cd_X2_cell, cd_X2_measureBlock, cd_X2_begin, cd_X2_isReached, cd_X2_store, cd_X2_leaveBy, cd_X2_turn, cd_X2_call, cd_X2_choose, cd_X2_repeat, cd_X2_take, cd_X2_end, cd_X2_enter, cd_X2_addRow, cd_X2_goOn, cd_X3_init, cd_X3_number, cd_X3_place, cd_X3_read, cd_X3_refuse, cd_X3_readStatements, cd_X3_readStatement, cd_X3_behindPair, cd_X3_readBlock, cd_X3_readTaking, cd_X4_init, cd_X4_size, cd_X4_at, cd_X4_add, cd_X4_clear, cd_X5_init, cd_X5_copy, cd_X5_length, cd_X5_at, cd_X5_kindAt, cd_X5_openBlock, cd_X5_closeBlock, cd_X5_isBlock, cd_X5_blocks, cd_X5_blockAt, cd_X5_firstOf, cd_X5_closeOf, cd_X5_keeperOf, cd_X5_raisesAgain, cd_X5_markAgain, cd_X5_calls, cd_X5_addCall, cd_X5_addTaker, cd_X5_takerCount, cd_X5_takerPlace, cd_X5_takerKind, cd_X5_isEmptyTaker, cd_X5_takenKinds, cd_X5_lostKinds, cd_X5_clearTraces, cd_X5_addTaken, cd_X5_addLost, cd_X5_takerOf, cd_X5_behindTakers, cd_X6_init, cd_X6_traceAll, cd_X6_reach, cd_X6_traceBlock, cd_X6_traceChoice, cd_X6_traceTaking, cd_X6_traceEnding, cd_X7_init, cd_X7_feed, cd_X7_text, cd_X7_under, cd_X7_promise, cd_X7_steps, cd_X7_leaves, cd_X7_ends, cd_X7_due, cd_X7_takers, cd_X7_taker, cd_X7_lost, cd_X7_broken, cd_X7_idle, cd_X7_look, cd_X7_is, cd_X7_fault, cd_X7_isRoutine, cd_X7_isKind, cd_X7_isSet, cd_X7_isExit, cd_X7_has, cd_X7_bit, cd_X7_lower, cd_X7_leavingKinds, cd_X7_comesTo, cd_X7_callersOf, cd_X7_forget, cd_X7_measure, cd_X7_trace, cd_X8_init, cd_X8_isKind, cd_X8_isOf, cd_X8_under, cd_X8_is, cd_X8_types, cd_X8_feed, cd_X8_sign, cd_X8_wrong, cd_X8_opens, cd_X8_isTaking, cd_X8_isLetter, cd_X8_goesOn, cd_X8_shuts, cd_X8_readsStatement, cd_X8_text, cd_X8_cell, cd_X8_allOf, cd_X8_metOf, cd_X8_less, cd_X8_sum, cd_X8_clears, cd_X8_puts, cd_X8_putsMid, cd_X8_block, cd_X8_calls, cd_X8_star, cd_X8_signOf, cd_X8_shutOf, cd_X8_takerFor, cd_X8_takes, cd_X8_tries, cd_X8_endsBy, cd_X8_statement, cd_X8_passes, cd_X8_makes, cd_X8_goesThrough, cd_X8_runs, cd_X8_isRoutine, cd_X8_isState, cd_X8_steps, cd_X8_canLeave, cd_X8_leaves, cd_X8_ends, cd_X8_due, cd_X8_comesToPass, cd_X8_placeOf, cd_X8_takers, cd_X8_takenBy, cd_X8_taker, cd_X8_lost, cd_X8_promise, cd_X8_broken, cd_X8_idle, cd_X8_callsOf, cd_X8_look, cd_X8_fault, cd_J7_fill_53178, trivial⟩
