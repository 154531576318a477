/-! the tables against the bytes, method by method -/
set_option maxRecDepth 100000 in
theorem oe_X_mend : okE K_X_mend = true := by decide +kernel
set_option maxRecDepth 100000 in
theorem om_X_mend : okM K_X_mend = true := by decide +kernel
set_option maxRecDepth 100000 in
theorem oe_X_count : okE K_X_count = true := by decide +kernel
set_option maxRecDepth 100000 in
theorem om_X_count : okM K_X_count = true := by decide +kernel
set_option maxRecDepth 100000 in
theorem oe_X_readerOf : okE K_X_readerOf = true := by decide +kernel
set_option maxRecDepth 100000 in
theorem om_X_readerOf : okM K_X_readerOf = true := by decide +kernel
set_option maxRecDepth 100000 in
theorem oe_X_within : okE K_X_within = true := by decide +kernel
set_option maxRecDepth 100000 in
theorem om_X_within : okM K_X_within = true := by decide +kernel
set_option maxRecDepth 100000 in
theorem oe_X_isPair : okE K_X_isPair = true := by decide +kernel
set_option maxRecDepth 100000 in
theorem om_X_isPair : okM K_X_isPair = true := by decide +kernel
set_option maxRecDepth 100000 in
theorem oe_M_init : okE K_M_init = true := by decide +kernel
set_option maxRecDepth 100000 in
theorem om_M_init : okM K_M_init = true := by decide +kernel
set_option maxRecDepth 100000 in
theorem oe_M_in : okE K_M_in = true := by decide +kernel
set_option maxRecDepth 100000 in
theorem om_M_in : okM K_M_in = true := by decide +kernel
set_option maxRecDepth 100000 in
theorem oe_M_isReader : okE K_M_isReader = true := by decide +kernel
set_option maxRecDepth 100000 in
theorem om_M_isReader : okM K_M_isReader = true := by decide +kernel
set_option maxRecDepth 100000 in
theorem oe_M_reader : okE K_M_reader = true := by decide +kernel
set_option maxRecDepth 100000 in
theorem om_M_reader : okM K_M_reader = true := by decide +kernel
set_option maxRecDepth 100000 in
theorem oe_M_write : okE K_M_write = true := by decide +kernel
set_option maxRecDepth 100000 in
theorem om_M_write : okM K_M_write = true := by decide +kernel
set_option maxRecDepth 100000 in
theorem oe_M_erase : okE K_M_erase = true := by decide +kernel
set_option maxRecDepth 100000 in
theorem om_M_erase : okM K_M_erase = true := by decide +kernel
set_option maxRecDepth 100000 in
theorem oe_M_sort : okE K_M_sort = true := by decide +kernel
set_option maxRecDepth 100000 in
theorem om_M_sort : okM K_M_sort = true := by decide +kernel
set_option maxRecDepth 100000 in
theorem oe_M_token : okE K_M_token = true := by decide +kernel
set_option maxRecDepth 100000 in
theorem om_M_token : okM K_M_token = true := by decide +kernel
set_option maxRecDepth 100000 in
theorem oe_M_isWord : okE K_M_isWord = true := by decide +kernel
set_option maxRecDepth 100000 in
theorem om_M_isWord : okM K_M_isWord = true := by decide +kernel
set_option maxRecDepth 100000 in
theorem oe_M_skips : okE K_M_skips = true := by decide +kernel
set_option maxRecDepth 100000 in
theorem om_M_skips : okM K_M_skips = true := by decide +kernel
set_option maxRecDepth 100000 in
theorem oe_M_figure : okE K_M_figure = true := by decide +kernel
set_option maxRecDepth 100000 in
theorem om_M_figure : okM K_M_figure = true := by decide +kernel
set_option maxRecDepth 100000 in
theorem oe_M_readsMove : okE K_M_readsMove = true := by decide +kernel
set_option maxRecDepth 100000 in
theorem om_M_readsMove : okM K_M_readsMove = true := by decide +kernel
set_option maxRecDepth 100000 in
theorem oe_M_fault : okE K_M_fault = true := by decide +kernel
set_option maxRecDepth 100000 in
theorem om_M_fault : okM K_M_fault = true := by decide +kernel
set_option maxRecDepth 100000 in
theorem oe_M_moves : okE K_M_moves = true := by decide +kernel
set_option maxRecDepth 100000 in
theorem om_M_moves : okM K_M_moves = true := by decide +kernel
set_option maxRecDepth 100000 in
theorem oe_M_isMove : okE K_M_isMove = true := by decide +kernel
set_option maxRecDepth 100000 in
theorem om_M_isMove : okM K_M_isMove = true := by decide +kernel
set_option maxRecDepth 100000 in
theorem oe_M_move : okE K_M_move = true := by decide +kernel
set_option maxRecDepth 100000 in
theorem om_M_move : okM K_M_move = true := by decide +kernel
set_option maxRecDepth 100000 in
theorem oe_M_drop : okE K_M_drop = true := by decide +kernel
set_option maxRecDepth 100000 in
theorem om_M_drop : okM K_M_drop = true := by decide +kernel
set_option maxRecDepth 100000 in
theorem oe_M_isPair : okE K_M_isPair = true := by decide +kernel
set_option maxRecDepth 100000 in
theorem om_M_isPair : okM K_M_isPair = true := by decide +kernel
set_option maxRecDepth 100000 in
theorem oe_M_pair : okE K_M_pair = true := by decide +kernel
set_option maxRecDepth 100000 in
theorem om_M_pair : okM K_M_pair = true := by decide +kernel
set_option maxRecDepth 100000 in
theorem oe_M_change : okE K_M_change = true := by decide +kernel
set_option maxRecDepth 100000 in
theorem om_M_change : okM K_M_change = true := by decide +kernel
set_option maxRecDepth 100000 in
theorem oe_M_hush : okE K_M_hush = true := by decide +kernel
set_option maxRecDepth 100000 in
theorem om_M_hush : okM K_M_hush = true := by decide +kernel
set_option maxRecDepth 100000 in
theorem oe_M_isGap : okE K_M_isGap = true := by decide +kernel
set_option maxRecDepth 100000 in
theorem om_M_isGap : okM K_M_isGap = true := by decide +kernel
set_option maxRecDepth 100000 in
theorem oe_M_gapPairs : okE K_M_gapPairs = true := by decide +kernel
set_option maxRecDepth 100000 in
theorem om_M_gapPairs : okM K_M_gapPairs = true := by decide +kernel
set_option maxRecDepth 100000 in
theorem oe_M_idOf : okE K_M_idOf = true := by decide +kernel
set_option maxRecDepth 100000 in
theorem om_M_idOf : okM K_M_idOf = true := by decide +kernel
set_option maxRecDepth 100000 in
theorem oe_M_layNames : okE K_M_layNames = true := by decide +kernel
set_option maxRecDepth 100000 in
theorem om_M_layNames : okM K_M_layNames = true := by decide +kernel
