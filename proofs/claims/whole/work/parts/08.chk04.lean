/-! the tables against the bytes, method by method -/
set_option maxRecDepth 100000 in
theorem oe_Wk_runFrom : okE K_Wk_runFrom = true := by decide +kernel
set_option maxRecDepth 100000 in
theorem om_Wk_runFrom : okM K_Wk_runFrom = true := by decide +kernel
set_option maxRecDepth 100000 in
theorem oe_Wk_runsThatTake : okE K_Wk_runsThatTake = true := by decide +kernel
set_option maxRecDepth 100000 in
theorem om_Wk_runsThatTake : okM K_Wk_runsThatTake = true := by decide +kernel
set_option maxRecDepth 100000 in
theorem oe_Wk_spread : okE K_Wk_spread = true := by decide +kernel
set_option maxRecDepth 100000 in
theorem om_Wk_spread : okM K_Wk_spread = true := by decide +kernel
set_option maxRecDepth 100000 in
theorem oe_Wk_placeOf : okE K_Wk_placeOf = true := by decide +kernel
set_option maxRecDepth 100000 in
theorem om_Wk_placeOf : okM K_Wk_placeOf = true := by decide +kernel
set_option maxRecDepth 100000 in
theorem oe_Wk_giveSlots : okE K_Wk_giveSlots = true := by decide +kernel
set_option maxRecDepth 100000 in
theorem om_Wk_giveSlots : okM K_Wk_giveSlots = true := by decide +kernel
set_option maxRecDepth 100000 in
theorem oe_X_init : okE K_X_init = true := by decide +kernel
set_option maxRecDepth 100000 in
theorem om_X_init : okM K_X_init = true := by decide +kernel
set_option maxRecDepth 100000 in
theorem oe_X_reader : okE K_X_reader = true := by decide +kernel
set_option maxRecDepth 100000 in
theorem om_X_reader : okM K_X_reader = true := by decide +kernel
set_option maxRecDepth 100000 in
theorem oe_X_write : okE K_X_write = true := by decide +kernel
set_option maxRecDepth 100000 in
theorem om_X_write : okM K_X_write = true := by decide +kernel
set_option maxRecDepth 100000 in
theorem oe_X_erase : okE K_X_erase = true := by decide +kernel
set_option maxRecDepth 100000 in
theorem om_X_erase : okM K_X_erase = true := by decide +kernel
set_option maxRecDepth 100000 in
theorem oe_X_fault : okE K_X_fault = true := by decide +kernel
set_option maxRecDepth 100000 in
theorem om_X_fault : okM K_X_fault = true := by decide +kernel
set_option maxRecDepth 100000 in
theorem oe_X_moves : okE K_X_moves = true := by decide +kernel
set_option maxRecDepth 100000 in
theorem om_X_moves : okM K_X_moves = true := by decide +kernel
set_option maxRecDepth 100000 in
theorem oe_X_move : okE K_X_move = true := by decide +kernel
set_option maxRecDepth 100000 in
theorem om_X_move : okM K_X_move = true := by decide +kernel
set_option maxRecDepth 100000 in
theorem oe_X_drop : okE K_X_drop = true := by decide +kernel
set_option maxRecDepth 100000 in
theorem om_X_drop : okM K_X_drop = true := by decide +kernel
set_option maxRecDepth 100000 in
theorem oe_X_pair : okE K_X_pair = true := by decide +kernel
set_option maxRecDepth 100000 in
theorem om_X_pair : okM K_X_pair = true := by decide +kernel
set_option maxRecDepth 100000 in
theorem oe_X_change : okE K_X_change = true := by decide +kernel
set_option maxRecDepth 100000 in
theorem om_X_change : okM K_X_change = true := by decide +kernel
set_option maxRecDepth 100000 in
theorem oe_X_hush : okE K_X_hush = true := by decide +kernel
set_option maxRecDepth 100000 in
theorem om_X_hush : okM K_X_hush = true := by decide +kernel
set_option maxRecDepth 100000 in
theorem oe_X_taken : okE K_X_taken = true := by decide +kernel
set_option maxRecDepth 100000 in
theorem om_X_taken : okM K_X_taken = true := by decide +kernel
set_option maxRecDepth 100000 in
theorem oe_X_may : okE K_X_may = true := by decide +kernel
set_option maxRecDepth 100000 in
theorem om_X_may : okM K_X_may = true := by decide +kernel
set_option maxRecDepth 100000 in
theorem oe_X_runs : okE K_X_runs = true := by decide +kernel
set_option maxRecDepth 100000 in
theorem om_X_runs : okM K_X_runs = true := by decide +kernel
set_option maxRecDepth 100000 in
theorem oe_X_run : okE K_X_run = true := by decide +kernel
set_option maxRecDepth 100000 in
theorem om_X_run : okM K_X_run = true := by decide +kernel
set_option maxRecDepth 100000 in
theorem oe_X_shapes : okE K_X_shapes = true := by decide +kernel
set_option maxRecDepth 100000 in
theorem om_X_shapes : okM K_X_shapes = true := by decide +kernel
set_option maxRecDepth 100000 in
theorem oe_X_shape : okE K_X_shape = true := by decide +kernel
set_option maxRecDepth 100000 in
theorem om_X_shape : okM K_X_shape = true := by decide +kernel
set_option maxRecDepth 100000 in
theorem oe_X_least : okE K_X_least = true := by decide +kernel
set_option maxRecDepth 100000 in
theorem om_X_least : okM K_X_least = true := by decide +kernel
set_option maxRecDepth 100000 in
theorem oe_X_first : okE K_X_first = true := by decide +kernel
set_option maxRecDepth 100000 in
theorem om_X_first : okM K_X_first = true := by decide +kernel
set_option maxRecDepth 100000 in
theorem oe_X_useless : okE K_X_useless = true := by decide +kernel
set_option maxRecDepth 100000 in
theorem om_X_useless : okM K_X_useless = true := by decide +kernel
set_option maxRecDepth 100000 in
theorem oe_X_twofold : okE K_X_twofold = true := by decide +kernel
set_option maxRecDepth 100000 in
theorem om_X_twofold : okM K_X_twofold = true := by decide +kernel
set_option maxRecDepth 100000 in
theorem oe_X_both : okE K_X_both = true := by decide +kernel
set_option maxRecDepth 100000 in
theorem om_X_both : okM K_X_both = true := by decide +kernel
set_option maxRecDepth 100000 in
theorem oe_X_parted : okE K_X_parted = true := by decide +kernel
set_option maxRecDepth 100000 in
theorem om_X_parted : okM K_X_parted = true := by decide +kernel
set_option maxRecDepth 100000 in
theorem oe_X_fillings : okE K_X_fillings = true := by decide +kernel
set_option maxRecDepth 100000 in
theorem om_X_fillings : okM K_X_fillings = true := by decide +kernel
set_option maxRecDepth 100000 in
theorem oe_X_filled : okE K_X_filled = true := by decide +kernel
set_option maxRecDepth 100000 in
theorem om_X_filled : okM K_X_filled = true := by decide +kernel
