/-! the tables against the bytes, method by method -/
set_option maxRecDepth 100000 in
theorem oe_Sp_init : okE K_Sp_init = true := by decide +kernel
set_option maxRecDepth 100000 in
theorem om_Sp_init : okM K_Sp_init = true := by decide +kernel
set_option maxRecDepth 100000 in
theorem oe_Sp_size : okE K_Sp_size = true := by decide +kernel
set_option maxRecDepth 100000 in
theorem om_Sp_size : okM K_Sp_size = true := by decide +kernel
set_option maxRecDepth 100000 in
theorem oe_Sp_has : okE K_Sp_has = true := by decide +kernel
set_option maxRecDepth 100000 in
theorem om_Sp_has : okM K_Sp_has = true := by decide +kernel
set_option maxRecDepth 100000 in
theorem oe_Sp_add : okE K_Sp_add = true := by decide +kernel
set_option maxRecDepth 100000 in
theorem om_Sp_add : okM K_Sp_add = true := by decide +kernel
set_option maxRecDepth 100000 in
theorem oe_Sp_clear : okE K_Sp_clear = true := by decide +kernel
set_option maxRecDepth 100000 in
theorem om_Sp_clear : okM K_Sp_clear = true := by decide +kernel
set_option maxRecDepth 100000 in
theorem oe_Sp_startAt : okE K_Sp_startAt = true := by decide +kernel
set_option maxRecDepth 100000 in
theorem om_Sp_startAt : okM K_Sp_startAt = true := by decide +kernel
set_option maxRecDepth 100000 in
theorem oe_Sp_next : okE K_Sp_next = true := by decide +kernel
set_option maxRecDepth 100000 in
theorem om_Sp_next : okM K_Sp_next = true := by decide +kernel
set_option maxRecDepth 100000 in
theorem oe_Sp_follow : okE K_Sp_follow = true := by decide +kernel
set_option maxRecDepth 100000 in
theorem om_Sp_follow : okM K_Sp_follow = true := by decide +kernel
set_option maxRecDepth 100000 in
theorem oe_Sp_statesByBits : okE K_Sp_statesByBits = true := by decide +kernel
set_option maxRecDepth 100000 in
theorem om_Sp_statesByBits : okM K_Sp_statesByBits = true := by decide +kernel
set_option maxRecDepth 100000 in
theorem oe_Sp_lowest : okE K_Sp_lowest = true := by decide +kernel
set_option maxRecDepth 100000 in
theorem om_Sp_lowest : okM K_Sp_lowest = true := by decide +kernel
set_option maxRecDepth 100000 in
theorem oe_Tx_init : okE K_Tx_init = true := by decide +kernel
set_option maxRecDepth 100000 in
theorem om_Tx_init : okM K_Tx_init = true := by decide +kernel
set_option maxRecDepth 100000 in
theorem oe_Tx_size : okE K_Tx_size = true := by decide +kernel
set_option maxRecDepth 100000 in
theorem om_Tx_size : okM K_Tx_size = true := by decide +kernel
set_option maxRecDepth 100000 in
theorem oe_Tx_found : okE K_Tx_found = true := by decide +kernel
set_option maxRecDepth 100000 in
theorem om_Tx_found : okM K_Tx_found = true := by decide +kernel
set_option maxRecDepth 100000 in
theorem oe_Tx_told : okE K_Tx_told = true := by decide +kernel
set_option maxRecDepth 100000 in
theorem om_Tx_told : okM K_Tx_told = true := by decide +kernel
set_option maxRecDepth 100000 in
theorem oe_Tx_put : okE K_Tx_put = true := by decide +kernel
set_option maxRecDepth 100000 in
theorem om_Tx_put : okM K_Tx_put = true := by decide +kernel
set_option maxRecDepth 100000 in
theorem oe_Tx_wipe : okE K_Tx_wipe = true := by decide +kernel
set_option maxRecDepth 100000 in
theorem om_Tx_wipe : okM K_Tx_wipe = true := by decide +kernel
set_option maxRecDepth 100000 in
theorem oe_Tx_parse : okE K_Tx_parse = true := by decide +kernel
set_option maxRecDepth 100000 in
theorem om_Tx_parse : okM K_Tx_parse = true := by decide +kernel
set_option maxRecDepth 100000 in
theorem oe_Tx_parseMove : okE K_Tx_parseMove = true := by decide +kernel
set_option maxRecDepth 100000 in
theorem om_Tx_parseMove : okM K_Tx_parseMove = true := by decide +kernel
set_option maxRecDepth 100000 in
theorem oe_Tx_number : okE K_Tx_number = true := by decide +kernel
set_option maxRecDepth 100000 in
theorem om_Tx_number : okM K_Tx_number = true := by decide +kernel
set_option maxRecDepth 100000 in
theorem oe_Tx_letter : okE K_Tx_letter = true := by decide +kernel
set_option maxRecDepth 100000 in
theorem om_Tx_letter : okM K_Tx_letter = true := by decide +kernel
set_option maxRecDepth 100000 in
theorem oe_Tx_test : okE K_Tx_test = true := by decide +kernel
set_option maxRecDepth 100000 in
theorem om_Tx_test : okM K_Tx_test = true := by decide +kernel
set_option maxRecDepth 100000 in
theorem oe_Tx_advance : okE K_Tx_advance = true := by decide +kernel
set_option maxRecDepth 100000 in
theorem om_Tx_advance : okM K_Tx_advance = true := by decide +kernel
set_option maxRecDepth 100000 in
theorem oe_Tx_isWord : okE K_Tx_isWord = true := by decide +kernel
set_option maxRecDepth 100000 in
theorem om_Tx_isWord : okM K_Tx_isWord = true := by decide +kernel
set_option maxRecDepth 100000 in
theorem oe_Tx_kindOf : okE K_Tx_kindOf = true := by decide +kernel
set_option maxRecDepth 100000 in
theorem om_Tx_kindOf : okM K_Tx_kindOf = true := by decide +kernel
set_option maxRecDepth 100000 in
theorem oe_Wk_init : okE K_Wk_init = true := by decide +kernel
set_option maxRecDepth 100000 in
theorem om_Wk_init : okM K_Wk_init = true := by decide +kernel
set_option maxRecDepth 100000 in
theorem oe_Wk_statesBehind : okE K_Wk_statesBehind = true := by decide +kernel
set_option maxRecDepth 100000 in
theorem om_Wk_statesBehind : okM K_Wk_statesBehind = true := by decide +kernel
set_option maxRecDepth 100000 in
theorem oe_Wk_findRun : okE K_Wk_findRun = true := by decide +kernel
set_option maxRecDepth 100000 in
theorem om_Wk_findRun : okM K_Wk_findRun = true := by decide +kernel
set_option maxRecDepth 100000 in
theorem oe_Wk_moveOfRun : okE K_Wk_moveOfRun = true := by decide +kernel
set_option maxRecDepth 100000 in
theorem om_Wk_moveOfRun : okM K_Wk_moveOfRun = true := by decide +kernel
set_option maxRecDepth 100000 in
theorem oe_Wk_forget : okE K_Wk_forget = true := by decide +kernel
set_option maxRecDepth 100000 in
theorem om_Wk_forget : okM K_Wk_forget = true := by decide +kernel
set_option maxRecDepth 100000 in
theorem oe_Wk_isTakenFrom : okE K_Wk_isTakenFrom = true := by decide +kernel
set_option maxRecDepth 100000 in
theorem om_Wk_isTakenFrom : okM K_Wk_isTakenFrom = true := by decide +kernel
