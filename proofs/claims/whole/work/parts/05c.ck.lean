set_option maxRecDepth 100000 in
theorem ck_X7_under : am_Chk 85 := am_chk_spec (b := cX7_under) rfl (by decide +kernel)
set_option maxRecDepth 100000 in
theorem ck_X7_promise : am_Chk 86 := am_chk_spec (b := cX7_promise) rfl (by decide +kernel)
set_option maxRecDepth 100000 in
theorem ck_X7_steps : am_Chk 87 := am_chk_spec (b := cX7_steps) rfl (by decide +kernel)
set_option maxRecDepth 100000 in
theorem ck_X7_leaves : am_Chk 88 := am_chk_spec (b := cX7_leaves) rfl (by decide +kernel)
set_option maxRecDepth 100000 in
theorem ck_X7_ends : am_Chk 89 := am_chk_spec (b := cX7_ends) rfl (by decide +kernel)
set_option maxRecDepth 100000 in
theorem ck_X7_due : am_Chk 90 := am_chk_spec (b := cX7_due) rfl (by decide +kernel)
set_option maxRecDepth 100000 in
theorem ck_X7_takers : am_Chk 91 := am_chk_spec (b := cX7_takers) rfl (by decide +kernel)
set_option maxRecDepth 100000 in
theorem ck_X7_taker : am_Chk 92 := am_chk_spec (b := cX7_taker) rfl (by decide +kernel)
set_option maxRecDepth 100000 in
theorem ck_X7_lost : am_Chk 93 := am_chk_spec (b := cX7_lost) rfl (by decide +kernel)
set_option maxRecDepth 100000 in
theorem ck_X7_broken : am_Chk 94 := am_chk_spec (b := cX7_broken) rfl (by decide +kernel)
set_option maxRecDepth 100000 in
theorem ck_X7_idle : am_Chk 95 := am_chk_spec (b := cX7_idle) rfl (by decide +kernel)
set_option maxRecDepth 100000 in
theorem ck_X7_look : am_Chk 96 := am_chk_spec (b := cX7_look) rfl (by decide +kernel)
set_option maxRecDepth 100000 in
theorem ck_X7_is : am_Chk 97 := am_chk_spec (b := cX7_is) rfl (by decide +kernel)
set_option maxRecDepth 100000 in
theorem ck_X7_fault : am_Chk 98 := am_chk_spec (b := cX7_fault) rfl (by decide +kernel)
set_option maxRecDepth 100000 in
theorem ck_X7_isRoutine : am_Chk 99 := am_chk_spec (b := cX7_isRoutine) rfl (by decide +kernel)
set_option maxRecDepth 100000 in
theorem ck_X7_isKind : am_Chk 100 := am_chk_spec (b := cX7_isKind) rfl (by decide +kernel)
set_option maxRecDepth 100000 in
theorem ck_X7_isSet : am_Chk 101 := am_chk_spec (b := cX7_isSet) rfl (by decide +kernel)
set_option maxRecDepth 100000 in
theorem ck_X7_isExit : am_Chk 102 := am_chk_spec (b := cX7_isExit) rfl (by decide +kernel)
set_option maxRecDepth 100000 in
theorem ck_X7_has : am_Chk 103 := am_chk_spec (b := cX7_has) rfl (by decide +kernel)
set_option maxRecDepth 100000 in
theorem ck_X7_bit : am_Chk 104 := am_chk_spec (b := cX7_bit) rfl (by decide +kernel)
set_option maxRecDepth 100000 in
theorem ck_X7_lower : am_Chk 105 := am_chk_spec (b := cX7_lower) rfl (by decide +kernel)
set_option maxRecDepth 100000 in
theorem ck_X7_leavingKinds : am_Chk 106 := am_chk_spec (b := cX7_leavingKinds) rfl (by decide +kernel)
set_option maxRecDepth 100000 in
theorem ck_X7_comesTo : am_Chk 107 := am_chk_spec (b := cX7_comesTo) rfl (by decide +kernel)
set_option maxRecDepth 100000 in
theorem ck_X7_callersOf : am_Chk 108 := am_chk_spec (b := cX7_callersOf) rfl (by decide +kernel)
set_option maxRecDepth 100000 in
theorem ck_X7_forget : am_Chk 109 := am_chk_spec (b := cX7_forget) rfl (by decide +kernel)
set_option maxRecDepth 100000 in
theorem ck_X7_measure : am_Chk 110 := am_chk_spec (b := cX7_measure) rfl (by decide +kernel)
set_option maxRecDepth 100000 in
theorem ck_X7_trace : am_Chk 111 := am_chk_spec (b := cX7_trace) rfl (by decide +kernel)
set_option maxRecDepth 100000 in
theorem ck_X8_init : am_Chk 112 := am_chk_spec (b := cX8_init) rfl (by decide +kernel)
set_option maxRecDepth 100000 in
theorem ck_X8_isKind : am_Chk 113 := am_chk_spec (b := cX8_isKind) rfl (by decide +kernel)
set_option maxRecDepth 100000 in
theorem ck_X8_isOf : am_Chk 114 := am_chk_spec (b := cX8_isOf) rfl (by decide +kernel)
set_option maxRecDepth 100000 in
theorem ck_X8_under : am_Chk 115 := am_chk_spec (b := cX8_under) rfl (by decide +kernel)
set_option maxRecDepth 100000 in
theorem ck_X8_is : am_Chk 116 := am_chk_spec (b := cX8_is) rfl (by decide +kernel)
set_option maxRecDepth 100000 in
theorem ck_X8_types : am_Chk 117 := am_chk_spec (b := cX8_types) rfl (by decide +kernel)
set_option maxRecDepth 100000 in
theorem ck_X8_feed : am_Chk 118 := am_chk_spec (b := cX8_feed) rfl (by decide +kernel)
set_option maxRecDepth 100000 in
theorem ck_X8_sign : am_Chk 119 := am_chk_spec (b := cX8_sign) rfl (by decide +kernel)
set_option maxRecDepth 100000 in
theorem ck_X8_wrong : am_Chk 120 := am_chk_spec (b := cX8_wrong) rfl (by decide +kernel)
set_option maxRecDepth 100000 in
theorem ck_X8_opens : am_Chk 121 := am_chk_spec (b := cX8_opens) rfl (by decide +kernel)
set_option maxRecDepth 100000 in
theorem ck_X8_isTaking : am_Chk 122 := am_chk_spec (b := cX8_isTaking) rfl (by decide +kernel)
set_option maxRecDepth 100000 in
theorem ck_X8_isLetter : am_Chk 123 := am_chk_spec (b := cX8_isLetter) rfl (by decide +kernel)
set_option maxRecDepth 100000 in
theorem ck_X8_goesOn : am_Chk 124 := am_chk_spec (b := cX8_goesOn) rfl (by decide +kernel)
set_option maxRecDepth 100000 in
theorem ck_X8_shuts : am_Chk 125 := am_chk_spec (b := cX8_shuts) rfl (by decide +kernel)
set_option maxRecDepth 100000 in
theorem ck_X8_readsStatement : am_Chk 126 := am_chk_spec (b := cX8_readsStatement) rfl (by decide +kernel)
set_option maxRecDepth 100000 in
theorem ck_X8_text : am_Chk 127 := am_chk_spec (b := cX8_text) rfl (by decide +kernel)
set_option maxRecDepth 100000 in
theorem ck_X8_cell : am_Chk 128 := am_chk_spec (b := cX8_cell) rfl (by decide +kernel)
set_option maxRecDepth 100000 in
theorem ck_X8_allOf : am_Chk 129 := am_chk_spec (b := cX8_allOf) rfl (by decide +kernel)
set_option maxRecDepth 100000 in
theorem ck_X8_metOf : am_Chk 130 := am_chk_spec (b := cX8_metOf) rfl (by decide +kernel)
set_option maxRecDepth 100000 in
theorem ck_X8_less : am_Chk 131 := am_chk_spec (b := cX8_less) rfl (by decide +kernel)
set_option maxRecDepth 100000 in
theorem ck_X8_sum : am_Chk 132 := am_chk_spec (b := cX8_sum) rfl (by decide +kernel)
set_option maxRecDepth 100000 in
theorem ck_X8_clears : am_Chk 133 := am_chk_spec (b := cX8_clears) rfl (by decide +kernel)
set_option maxRecDepth 100000 in
theorem ck_X8_puts : am_Chk 134 := am_chk_spec (b := cX8_puts) rfl (by decide +kernel)
set_option maxRecDepth 100000 in
theorem ck_X8_putsMid : am_Chk 135 := am_chk_spec (b := cX8_putsMid) rfl (by decide +kernel)
set_option maxRecDepth 100000 in
theorem ck_X8_block : am_Chk 136 := am_chk_spec (b := cX8_block) rfl (by decide +kernel)
set_option maxRecDepth 100000 in
theorem ck_X8_calls : am_Chk 137 := am_chk_spec (b := cX8_calls) rfl (by decide +kernel)
set_option maxRecDepth 100000 in
theorem ck_X8_star : am_Chk 138 := am_chk_spec (b := cX8_star) rfl (by decide +kernel)
set_option maxRecDepth 100000 in
theorem ck_X8_signOf : am_Chk 139 := am_chk_spec (b := cX8_signOf) rfl (by decide +kernel)
set_option maxRecDepth 100000 in
theorem ck_X8_shutOf : am_Chk 140 := am_chk_spec (b := cX8_shutOf) rfl (by decide +kernel)
set_option maxRecDepth 100000 in
theorem ck_X8_takerFor : am_Chk 141 := am_chk_spec (b := cX8_takerFor) rfl (by decide +kernel)
set_option maxRecDepth 100000 in
theorem ck_X8_takes : am_Chk 142 := am_chk_spec (b := cX8_takes) rfl (by decide +kernel)
set_option maxRecDepth 100000 in
theorem ck_X8_tries : am_Chk 143 := am_chk_spec (b := cX8_tries) rfl (by decide +kernel)
set_option maxRecDepth 100000 in
theorem ck_X8_endsBy : am_Chk 144 := am_chk_spec (b := cX8_endsBy) rfl (by decide +kernel)
set_option maxRecDepth 100000 in
theorem ck_X8_statement : am_Chk 145 := am_chk_spec (b := cX8_statement) rfl (by decide +kernel)
set_option maxRecDepth 100000 in
theorem ck_X8_passes : am_Chk 146 := am_chk_spec (b := cX8_passes) rfl (by decide +kernel)
set_option maxRecDepth 100000 in
theorem ck_X8_makes : am_Chk 147 := am_chk_spec (b := cX8_makes) rfl (by decide +kernel)
set_option maxRecDepth 100000 in
theorem ck_X8_goesThrough : am_Chk 148 := am_chk_spec (b := cX8_goesThrough) rfl (by decide +kernel)
set_option maxRecDepth 100000 in
theorem ck_X8_runs : am_Chk 149 := am_chk_spec (b := cX8_runs) rfl (by decide +kernel)
set_option maxRecDepth 100000 in
theorem ck_X8_isRoutine : am_Chk 150 := am_chk_spec (b := cX8_isRoutine) rfl (by decide +kernel)
set_option maxRecDepth 100000 in
theorem ck_X8_isState : am_Chk 151 := am_chk_spec (b := cX8_isState) rfl (by decide +kernel)
set_option maxRecDepth 100000 in
theorem ck_X8_steps : am_Chk 152 := am_chk_spec (b := cX8_steps) rfl (by decide +kernel)
set_option maxRecDepth 100000 in
theorem ck_X8_canLeave : am_Chk 153 := am_chk_spec (b := cX8_canLeave) rfl (by decide +kernel)
set_option maxRecDepth 100000 in
theorem ck_X8_leaves : am_Chk 154 := am_chk_spec (b := cX8_leaves) rfl (by decide +kernel)
set_option maxRecDepth 100000 in
theorem ck_X8_ends : am_Chk 155 := am_chk_spec (b := cX8_ends) rfl (by decide +kernel)
set_option maxRecDepth 100000 in
theorem ck_X8_due : am_Chk 156 := am_chk_spec (b := cX8_due) rfl (by decide +kernel)
set_option maxRecDepth 100000 in
theorem ck_X8_comesToPass : am_Chk 157 := am_chk_spec (b := cX8_comesToPass) rfl (by decide +kernel)
set_option maxRecDepth 100000 in
theorem ck_X8_placeOf : am_Chk 158 := am_chk_spec (b := cX8_placeOf) rfl (by decide +kernel)
set_option maxRecDepth 100000 in
theorem ck_X8_takers : am_Chk 159 := am_chk_spec (b := cX8_takers) rfl (by decide +kernel)
set_option maxRecDepth 100000 in
theorem ck_X8_takenBy : am_Chk 160 := am_chk_spec (b := cX8_takenBy) rfl (by decide +kernel)
set_option maxRecDepth 100000 in
theorem ck_X8_taker : am_Chk 161 := am_chk_spec (b := cX8_taker) rfl (by decide +kernel)
set_option maxRecDepth 100000 in
theorem ck_X8_lost : am_Chk 162 := am_chk_spec (b := cX8_lost) rfl (by decide +kernel)
set_option maxRecDepth 100000 in
theorem ck_X8_promise : am_Chk 163 := am_chk_spec (b := cX8_promise) rfl (by decide +kernel)
set_option maxRecDepth 100000 in
theorem ck_X8_broken : am_Chk 164 := am_chk_spec (b := cX8_broken) rfl (by decide +kernel)
set_option maxRecDepth 100000 in
theorem ck_X8_idle : am_Chk 165 := am_chk_spec (b := cX8_idle) rfl (by decide +kernel)
set_option maxRecDepth 100000 in
theorem ck_X8_callsOf : am_Chk 166 := am_chk_spec (b := cX8_callsOf) rfl (by decide +kernel)
set_option maxRecDepth 100000 in
theorem ck_X8_look : am_Chk 167 := am_chk_spec (b := cX8_look) rfl (by decide +kernel)
set_option maxRecDepth 100000 in
theorem ck_X8_fault : am_Chk 168 := am_chk_spec (b := cX8_fault) rfl (by decide +kernel)
set_option maxRecDepth 100000 in
theorem ck_J7_fill_53178 : am_Chk 169 := am_chk_spec (b := cJ7_fill_53178) rfl (by decide +kernel)
theorem am_cks : am_con am_Chk 0 170 := ⟨ck_X0_init, ck_X0_cell, ck_X0_fewest, ck_X0_canLeave, ck_X0_put, ck_X0_clear, ck_X1_init, ck_X1_above, ck_X1_place, ck_X1_findAbove, ck_X2_init, ck_X2_measureAll, ck_X2_tellExits, ck_X2_waysOf, ck_X2_matters, ck_X2_rowOf, ck_X2_cell, ck_X2_measureBlock, ck_X2_begin, ck_X2_isReached, ck_X2_store, ck_X2_leaveBy, ck_X2_turn, ck_X2_call, ck_X2_choose, ck_X2_repeat, ck_X2_take, ck_X2_end, ck_X2_enter, ck_X2_addRow, ck_X2_goOn, ck_X3_init, ck_X3_number, ck_X3_place, ck_X3_read, ck_X3_refuse, ck_X3_readStatements, ck_X3_readStatement, ck_X3_behindPair, ck_X3_readBlock, ck_X3_readTaking, ck_X4_init, ck_X4_size, ck_X4_at, ck_X4_add, ck_X4_clear, ck_X5_init, ck_X5_copy, ck_X5_length, ck_X5_at, ck_X5_kindAt, ck_X5_openBlock, ck_X5_closeBlock, ck_X5_isBlock, ck_X5_blocks, ck_X5_blockAt, ck_X5_firstOf, ck_X5_closeOf, ck_X5_keeperOf, ck_X5_raisesAgain, ck_X5_markAgain, ck_X5_calls, ck_X5_addCall, ck_X5_addTaker, ck_X5_takerCount, ck_X5_takerPlace, ck_X5_takerKind, ck_X5_isEmptyTaker, ck_X5_takenKinds, ck_X5_lostKinds, ck_X5_clearTraces, ck_X5_addTaken, ck_X5_addLost, ck_X5_takerOf, ck_X5_behindTakers, ck_X6_init, ck_X6_traceAll, ck_X6_reach, ck_X6_traceBlock, ck_X6_traceChoice, ck_X6_traceTaking, ck_X6_traceEnding, ck_X7_init, ck_X7_feed, ck_X7_text, ck_X7_under, ck_X7_promise, ck_X7_steps, ck_X7_leaves, ck_X7_ends, ck_X7_due, ck_X7_takers, ck_X7_taker, ck_X7_lost, ck_X7_broken, ck_X7_idle, ck_X7_look, ck_X7_is, ck_X7_fault, ck_X7_isRoutine, ck_X7_isKind, ck_X7_isSet, ck_X7_isExit, ck_X7_has, ck_X7_bit, ck_X7_lower, ck_X7_leavingKinds, ck_X7_comesTo, ck_X7_callersOf, ck_X7_forget, ck_X7_measure, ck_X7_trace, ck_X8_init, ck_X8_isKind, ck_X8_isOf, ck_X8_under, ck_X8_is, ck_X8_types, ck_X8_feed, ck_X8_sign, ck_X8_wrong, ck_X8_opens, ck_X8_isTaking, ck_X8_isLetter, ck_X8_goesOn, ck_X8_shuts, ck_X8_readsStatement, ck_X8_text, ck_X8_cell, ck_X8_allOf, ck_X8_metOf, ck_X8_less, ck_X8_sum, ck_X8_clears, ck_X8_puts, ck_X8_putsMid, ck_X8_block, ck_X8_calls, ck_X8_star, ck_X8_signOf, ck_X8_shutOf, ck_X8_takerFor, ck_X8_takes, ck_X8_tries, ck_X8_endsBy, ck_X8_statement, ck_X8_passes, ck_X8_makes, ck_X8_goesThrough, ck_X8_runs, ck_X8_isRoutine, ck_X8_isState, ck_X8_steps, ck_X8_canLeave, ck_X8_leaves, ck_X8_ends, ck_X8_due, ck_X8_comesToPass, ck_X8_placeOf, ck_X8_takers, ck_X8_takenBy, ck_X8_taker, ck_X8_lost, ck_X8_promise, ck_X8_broken, ck_X8_idle, ck_X8_callsOf, ck_X8_look, ck_X8_fault, ck_J7_fill_53178, trivial⟩
theorem am_ck {j : Nat} (h : j < 170) : am_Chk j := am_con_get 170 0 am_cks j (Nat.zero_le j) (by omega)
