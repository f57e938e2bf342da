set_option maxRecDepth 100000 in
theorem ck_X0_init : am_Chk 0 := am_chk_spec (b := cX0_init) rfl (by decide +kernel)
set_option maxRecDepth 100000 in
theorem ck_X0_cell : am_Chk 1 := am_chk_spec (b := cX0_cell) rfl (by decide +kernel)
set_option maxRecDepth 100000 in
theorem ck_X0_fewest : am_Chk 2 := am_chk_spec (b := cX0_fewest) rfl (by decide +kernel)
set_option maxRecDepth 100000 in
theorem ck_X0_canLeave : am_Chk 3 := am_chk_spec (b := cX0_canLeave) rfl (by decide +kernel)
set_option maxRecDepth 100000 in
theorem ck_X0_put : am_Chk 4 := am_chk_spec (b := cX0_put) rfl (by decide +kernel)
set_option maxRecDepth 100000 in
theorem ck_X0_clear : am_Chk 5 := am_chk_spec (b := cX0_clear) rfl (by decide +kernel)
set_option maxRecDepth 100000 in
theorem ck_X1_init : am_Chk 6 := am_chk_spec (b := cX1_init) rfl (by decide +kernel)
set_option maxRecDepth 100000 in
theorem ck_X1_above : am_Chk 7 := am_chk_spec (b := cX1_above) rfl (by decide +kernel)
set_option maxRecDepth 100000 in
theorem ck_X1_place : am_Chk 8 := am_chk_spec (b := cX1_place) rfl (by decide +kernel)
set_option maxRecDepth 100000 in
theorem ck_X1_findAbove : am_Chk 9 := am_chk_spec (b := cX1_findAbove) rfl (by decide +kernel)
set_option maxRecDepth 100000 in
theorem ck_X2_init : am_Chk 10 := am_chk_spec (b := cX2_init) rfl (by decide +kernel)
set_option maxRecDepth 100000 in
theorem ck_X2_measureAll : am_Chk 11 := am_chk_spec (b := cX2_measureAll) rfl (by decide +kernel)
set_option maxRecDepth 100000 in
theorem ck_X2_tellExits : am_Chk 12 := am_chk_spec (b := cX2_tellExits) rfl (by decide +kernel)
set_option maxRecDepth 100000 in
theorem ck_X2_waysOf : am_Chk 13 := am_chk_spec (b := cX2_waysOf) rfl (by decide +kernel)
set_option maxRecDepth 100000 in
theorem ck_X2_matters : am_Chk 14 := am_chk_spec (b := cX2_matters) rfl (by decide +kernel)
set_option maxRecDepth 100000 in
theorem ck_X2_rowOf : am_Chk 15 := am_chk_spec (b := cX2_rowOf) rfl (by decide +kernel)
set_option maxRecDepth 100000 in
theorem ck_X2_cell : am_Chk 16 := am_chk_spec (b := cX2_cell) rfl (by decide +kernel)
set_option maxRecDepth 100000 in
theorem ck_X2_measureBlock : am_Chk 17 := am_chk_spec (b := cX2_measureBlock) rfl (by decide +kernel)
set_option maxRecDepth 100000 in
theorem ck_X2_begin : am_Chk 18 := am_chk_spec (b := cX2_begin) rfl (by decide +kernel)
set_option maxRecDepth 100000 in
theorem ck_X2_isReached : am_Chk 19 := am_chk_spec (b := cX2_isReached) rfl (by decide +kernel)
set_option maxRecDepth 100000 in
theorem ck_X2_store : am_Chk 20 := am_chk_spec (b := cX2_store) rfl (by decide +kernel)
set_option maxRecDepth 100000 in
theorem ck_X2_leaveBy : am_Chk 21 := am_chk_spec (b := cX2_leaveBy) rfl (by decide +kernel)
set_option maxRecDepth 100000 in
theorem ck_X2_turn : am_Chk 22 := am_chk_spec (b := cX2_turn) rfl (by decide +kernel)
set_option maxRecDepth 100000 in
theorem ck_X2_call : am_Chk 23 := am_chk_spec (b := cX2_call) rfl (by decide +kernel)
set_option maxRecDepth 100000 in
theorem ck_X2_choose : am_Chk 24 := am_chk_spec (b := cX2_choose) rfl (by decide +kernel)
set_option maxRecDepth 100000 in
theorem ck_X2_repeat : am_Chk 25 := am_chk_spec (b := cX2_repeat) rfl (by decide +kernel)
set_option maxRecDepth 100000 in
theorem ck_X2_take : am_Chk 26 := am_chk_spec (b := cX2_take) rfl (by decide +kernel)
set_option maxRecDepth 100000 in
theorem ck_X2_end : am_Chk 27 := am_chk_spec (b := cX2_end) rfl (by decide +kernel)
set_option maxRecDepth 100000 in
theorem ck_X2_enter : am_Chk 28 := am_chk_spec (b := cX2_enter) rfl (by decide +kernel)
set_option maxRecDepth 100000 in
theorem ck_X2_addRow : am_Chk 29 := am_chk_spec (b := cX2_addRow) rfl (by decide +kernel)
set_option maxRecDepth 100000 in
theorem ck_X2_goOn : am_Chk 30 := am_chk_spec (b := cX2_goOn) rfl (by decide +kernel)
set_option maxRecDepth 100000 in
theorem ck_X3_init : am_Chk 31 := am_chk_spec (b := cX3_init) rfl (by decide +kernel)
set_option maxRecDepth 100000 in
theorem ck_X3_number : am_Chk 32 := am_chk_spec (b := cX3_number) rfl (by decide +kernel)
set_option maxRecDepth 100000 in
theorem ck_X3_place : am_Chk 33 := am_chk_spec (b := cX3_place) rfl (by decide +kernel)
set_option maxRecDepth 100000 in
theorem ck_X3_read : am_Chk 34 := am_chk_spec (b := cX3_read) rfl (by decide +kernel)
set_option maxRecDepth 100000 in
theorem ck_X3_refuse : am_Chk 35 := am_chk_spec (b := cX3_refuse) rfl (by decide +kernel)
set_option maxRecDepth 100000 in
theorem ck_X3_readStatements : am_Chk 36 := am_chk_spec (b := cX3_readStatements) rfl (by decide +kernel)
set_option maxRecDepth 100000 in
theorem ck_X3_readStatement : am_Chk 37 := am_chk_spec (b := cX3_readStatement) rfl (by decide +kernel)
set_option maxRecDepth 100000 in
theorem ck_X3_behindPair : am_Chk 38 := am_chk_spec (b := cX3_behindPair) rfl (by decide +kernel)
set_option maxRecDepth 100000 in
theorem ck_X3_readBlock : am_Chk 39 := am_chk_spec (b := cX3_readBlock) rfl (by decide +kernel)
set_option maxRecDepth 100000 in
theorem ck_X3_readTaking : am_Chk 40 := am_chk_spec (b := cX3_readTaking) rfl (by decide +kernel)
set_option maxRecDepth 100000 in
theorem ck_X4_init : am_Chk 41 := am_chk_spec (b := cX4_init) rfl (by decide +kernel)
set_option maxRecDepth 100000 in
theorem ck_X4_size : am_Chk 42 := am_chk_spec (b := cX4_size) rfl (by decide +kernel)
set_option maxRecDepth 100000 in
theorem ck_X4_at : am_Chk 43 := am_chk_spec (b := cX4_at) rfl (by decide +kernel)
set_option maxRecDepth 100000 in
theorem ck_X4_add : am_Chk 44 := am_chk_spec (b := cX4_add) rfl (by decide +kernel)
set_option maxRecDepth 100000 in
theorem ck_X4_clear : am_Chk 45 := am_chk_spec (b := cX4_clear) rfl (by decide +kernel)
set_option maxRecDepth 100000 in
theorem ck_X5_init : am_Chk 46 := am_chk_spec (b := cX5_init) rfl (by decide +kernel)
set_option maxRecDepth 100000 in
theorem ck_X5_copy : am_Chk 47 := am_chk_spec (b := cX5_copy) rfl (by decide +kernel)
set_option maxRecDepth 100000 in
theorem ck_X5_length : am_Chk 48 := am_chk_spec (b := cX5_length) rfl (by decide +kernel)
set_option maxRecDepth 100000 in
theorem ck_X5_at : am_Chk 49 := am_chk_spec (b := cX5_at) rfl (by decide +kernel)
set_option maxRecDepth 100000 in
theorem ck_X5_kindAt : am_Chk 50 := am_chk_spec (b := cX5_kindAt) rfl (by decide +kernel)
set_option maxRecDepth 100000 in
theorem ck_X5_openBlock : am_Chk 51 := am_chk_spec (b := cX5_openBlock) rfl (by decide +kernel)
set_option maxRecDepth 100000 in
theorem ck_X5_closeBlock : am_Chk 52 := am_chk_spec (b := cX5_closeBlock) rfl (by decide +kernel)
set_option maxRecDepth 100000 in
theorem ck_X5_isBlock : am_Chk 53 := am_chk_spec (b := cX5_isBlock) rfl (by decide +kernel)
set_option maxRecDepth 100000 in
theorem ck_X5_blocks : am_Chk 54 := am_chk_spec (b := cX5_blocks) rfl (by decide +kernel)
set_option maxRecDepth 100000 in
theorem ck_X5_blockAt : am_Chk 55 := am_chk_spec (b := cX5_blockAt) rfl (by decide +kernel)
set_option maxRecDepth 100000 in
theorem ck_X5_firstOf : am_Chk 56 := am_chk_spec (b := cX5_firstOf) rfl (by decide +kernel)
set_option maxRecDepth 100000 in
theorem ck_X5_closeOf : am_Chk 57 := am_chk_spec (b := cX5_closeOf) rfl (by decide +kernel)
set_option maxRecDepth 100000 in
theorem ck_X5_keeperOf : am_Chk 58 := am_chk_spec (b := cX5_keeperOf) rfl (by decide +kernel)
set_option maxRecDepth 100000 in
theorem ck_X5_raisesAgain : am_Chk 59 := am_chk_spec (b := cX5_raisesAgain) rfl (by decide +kernel)
set_option maxRecDepth 100000 in
theorem ck_X5_markAgain : am_Chk 60 := am_chk_spec (b := cX5_markAgain) rfl (by decide +kernel)
set_option maxRecDepth 100000 in
theorem ck_X5_calls : am_Chk 61 := am_chk_spec (b := cX5_calls) rfl (by decide +kernel)
set_option maxRecDepth 100000 in
theorem ck_X5_addCall : am_Chk 62 := am_chk_spec (b := cX5_addCall) rfl (by decide +kernel)
set_option maxRecDepth 100000 in
theorem ck_X5_addTaker : am_Chk 63 := am_chk_spec (b := cX5_addTaker) rfl (by decide +kernel)
set_option maxRecDepth 100000 in
theorem ck_X5_takerCount : am_Chk 64 := am_chk_spec (b := cX5_takerCount) rfl (by decide +kernel)
set_option maxRecDepth 100000 in
theorem ck_X5_takerPlace : am_Chk 65 := am_chk_spec (b := cX5_takerPlace) rfl (by decide +kernel)
set_option maxRecDepth 100000 in
theorem ck_X5_takerKind : am_Chk 66 := am_chk_spec (b := cX5_takerKind) rfl (by decide +kernel)
set_option maxRecDepth 100000 in
theorem ck_X5_isEmptyTaker : am_Chk 67 := am_chk_spec (b := cX5_isEmptyTaker) rfl (by decide +kernel)
set_option maxRecDepth 100000 in
theorem ck_X5_takenKinds : am_Chk 68 := am_chk_spec (b := cX5_takenKinds) rfl (by decide +kernel)
set_option maxRecDepth 100000 in
theorem ck_X5_lostKinds : am_Chk 69 := am_chk_spec (b := cX5_lostKinds) rfl (by decide +kernel)
set_option maxRecDepth 100000 in
theorem ck_X5_clearTraces : am_Chk 70 := am_chk_spec (b := cX5_clearTraces) rfl (by decide +kernel)
set_option maxRecDepth 100000 in
theorem ck_X5_addTaken : am_Chk 71 := am_chk_spec (b := cX5_addTaken) rfl (by decide +kernel)
set_option maxRecDepth 100000 in
theorem ck_X5_addLost : am_Chk 72 := am_chk_spec (b := cX5_addLost) rfl (by decide +kernel)
set_option maxRecDepth 100000 in
theorem ck_X5_takerOf : am_Chk 73 := am_chk_spec (b := cX5_takerOf) rfl (by decide +kernel)
set_option maxRecDepth 100000 in
theorem ck_X5_behindTakers : am_Chk 74 := am_chk_spec (b := cX5_behindTakers) rfl (by decide +kernel)
set_option maxRecDepth 100000 in
theorem ck_X6_init : am_Chk 75 := am_chk_spec (b := cX6_init) rfl (by decide +kernel)
set_option maxRecDepth 100000 in
theorem ck_X6_traceAll : am_Chk 76 := am_chk_spec (b := cX6_traceAll) rfl (by decide +kernel)
set_option maxRecDepth 100000 in
theorem ck_X6_reach : am_Chk 77 := am_chk_spec (b := cX6_reach) rfl (by decide +kernel)
set_option maxRecDepth 100000 in
theorem ck_X6_traceBlock : am_Chk 78 := am_chk_spec (b := cX6_traceBlock) rfl (by decide +kernel)
set_option maxRecDepth 100000 in
theorem ck_X6_traceChoice : am_Chk 79 := am_chk_spec (b := cX6_traceChoice) rfl (by decide +kernel)
set_option maxRecDepth 100000 in
theorem ck_X6_traceTaking : am_Chk 80 := am_chk_spec (b := cX6_traceTaking) rfl (by decide +kernel)
set_option maxRecDepth 100000 in
theorem ck_X6_traceEnding : am_Chk 81 := am_chk_spec (b := cX6_traceEnding) rfl (by decide +kernel)
set_option maxRecDepth 100000 in
theorem ck_X7_init : am_Chk 82 := am_chk_spec (b := cX7_init) rfl (by decide +kernel)
set_option maxRecDepth 100000 in
theorem ck_X7_feed : am_Chk 83 := am_chk_spec (b := cX7_feed) rfl (by decide +kernel)
set_option maxRecDepth 100000 in
theorem ck_X7_text : am_Chk 84 := am_chk_spec (b := cX7_text) rfl (by decide +kernel)
