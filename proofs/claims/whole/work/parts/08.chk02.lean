/-! the tables against the bytes, method by method -/
set_option maxRecDepth 100000 in
theorem oe_Rd_after : okE K_Rd_after = true := by decide +kernel
set_option maxRecDepth 100000 in
theorem om_Rd_after : okM K_Rd_after = true := by decide +kernel
set_option maxRecDepth 100000 in
theorem oe_Rd_heldIn : okE K_Rd_heldIn = true := by decide +kernel
set_option maxRecDepth 100000 in
theorem om_Rd_heldIn : okM K_Rd_heldIn = true := by decide +kernel
set_option maxRecDepth 100000 in
theorem oe_Rd_settle : okE K_Rd_settle = true := by decide +kernel
set_option maxRecDepth 100000 in
theorem om_Rd_settle : okM K_Rd_settle = true := by decide +kernel
set_option maxRecDepth 100000 in
theorem oe_Rw_init : okE K_Rw_init = true := by decide +kernel
set_option maxRecDepth 100000 in
theorem om_Rw_init : okM K_Rw_init = true := by decide +kernel
set_option maxRecDepth 100000 in
theorem oe_Rw_size : okE K_Rw_size = true := by decide +kernel
set_option maxRecDepth 100000 in
theorem om_Rw_size : okM K_Rw_size = true := by decide +kernel
set_option maxRecDepth 100000 in
theorem oe_Rw_told : okE K_Rw_told = true := by decide +kernel
set_option maxRecDepth 100000 in
theorem om_Rw_told : okM K_Rw_told = true := by decide +kernel
set_option maxRecDepth 100000 in
theorem oe_Rw_gaps : okE K_Rw_gaps = true := by decide +kernel
set_option maxRecDepth 100000 in
theorem om_Rw_gaps : okM K_Rw_gaps = true := by decide +kernel
set_option maxRecDepth 100000 in
theorem oe_Rw_gapPairs : okE K_Rw_gapPairs = true := by decide +kernel
set_option maxRecDepth 100000 in
theorem om_Rw_gapPairs : okM K_Rw_gapPairs = true := by decide +kernel
set_option maxRecDepth 100000 in
theorem oe_Rw_letter : okE K_Rw_letter = true := by decide +kernel
set_option maxRecDepth 100000 in
theorem om_Rw_letter : okM K_Rw_letter = true := by decide +kernel
set_option maxRecDepth 100000 in
theorem oe_Rw_name : okE K_Rw_name = true := by decide +kernel
set_option maxRecDepth 100000 in
theorem om_Rw_name : okM K_Rw_name = true := by decide +kernel
set_option maxRecDepth 100000 in
theorem oe_Rw_id : okE K_Rw_id = true := by decide +kernel
set_option maxRecDepth 100000 in
theorem om_Rw_id : okM K_Rw_id = true := by decide +kernel
set_option maxRecDepth 100000 in
theorem oe_Rw_aliveBehind : okE K_Rw_aliveBehind = true := by decide +kernel
set_option maxRecDepth 100000 in
theorem om_Rw_aliveBehind : okM K_Rw_aliveBehind = true := by decide +kernel
set_option maxRecDepth 100000 in
theorem oe_Rw_hasGap : okE K_Rw_hasGap = true := by decide +kernel
set_option maxRecDepth 100000 in
theorem om_Rw_hasGap : okM K_Rw_hasGap = true := by decide +kernel
set_option maxRecDepth 100000 in
theorem oe_Rw_append : okE K_Rw_append = true := by decide +kernel
set_option maxRecDepth 100000 in
theorem om_Rw_append : okM K_Rw_append = true := by decide +kernel
set_option maxRecDepth 100000 in
theorem oe_Rw_put : okE K_Rw_put = true := by decide +kernel
set_option maxRecDepth 100000 in
theorem om_Rw_put : okM K_Rw_put = true := by decide +kernel
set_option maxRecDepth 100000 in
theorem oe_Rw_wipe : okE K_Rw_wipe = true := by decide +kernel
set_option maxRecDepth 100000 in
theorem om_Rw_wipe : okM K_Rw_wipe = true := by decide +kernel
set_option maxRecDepth 100000 in
theorem oe_Rw_idOf : okE K_Rw_idOf = true := by decide +kernel
set_option maxRecDepth 100000 in
theorem om_Rw_idOf : okM K_Rw_idOf = true := by decide +kernel
set_option maxRecDepth 100000 in
theorem oe_Rw_survey : okE K_Rw_survey = true := by decide +kernel
set_option maxRecDepth 100000 in
theorem om_Rw_survey : okM K_Rw_survey = true := by decide +kernel
set_option maxRecDepth 100000 in
theorem oe_Rw_idAt : okE K_Rw_idAt = true := by decide +kernel
set_option maxRecDepth 100000 in
theorem om_Rw_idAt : okM K_Rw_idAt = true := by decide +kernel
set_option maxRecDepth 100000 in
theorem oe_Ss_init : okE K_Ss_init = true := by decide +kernel
set_option maxRecDepth 100000 in
theorem om_Ss_init : okM K_Ss_init = true := by decide +kernel
set_option maxRecDepth 100000 in
theorem oe_Ss_passed : okE K_Ss_passed = true := by decide +kernel
set_option maxRecDepth 100000 in
theorem om_Ss_passed : okM K_Ss_passed = true := by decide +kernel
set_option maxRecDepth 100000 in
theorem oe_Ss_find : okE K_Ss_find = true := by decide +kernel
set_option maxRecDepth 100000 in
theorem om_Ss_find : okM K_Ss_find = true := by decide +kernel
set_option maxRecDepth 100000 in
theorem oe_Ss_pairAt : okE K_Ss_pairAt = true := by decide +kernel
set_option maxRecDepth 100000 in
theorem om_Ss_pairAt : okM K_Ss_pairAt = true := by decide +kernel
set_option maxRecDepth 100000 in
theorem oe_Ss_setOf : okE K_Ss_setOf = true := by decide +kernel
set_option maxRecDepth 100000 in
theorem om_Ss_setOf : okM K_Ss_setOf = true := by decide +kernel
set_option maxRecDepth 100000 in
theorem oe_Ss_otherSetOf : okE K_Ss_otherSetOf = true := by decide +kernel
set_option maxRecDepth 100000 in
theorem om_Ss_otherSetOf : okM K_Ss_otherSetOf = true := by decide +kernel
set_option maxRecDepth 100000 in
theorem oe_Ss_goOn : okE K_Ss_goOn = true := by decide +kernel
set_option maxRecDepth 100000 in
theorem om_Ss_goOn : okM K_Ss_goOn = true := by decide +kernel
set_option maxRecDepth 100000 in
theorem oe_Ss_end : okE K_Ss_end = true := by decide +kernel
set_option maxRecDepth 100000 in
theorem om_Ss_end : okM K_Ss_end = true := by decide +kernel
set_option maxRecDepth 100000 in
theorem oe_Ss_endings : okE K_Ss_endings = true := by decide +kernel
set_option maxRecDepth 100000 in
theorem om_Ss_endings : okM K_Ss_endings = true := by decide +kernel
set_option maxRecDepth 100000 in
theorem oe_Ss_namesFor : okE K_Ss_namesFor = true := by decide +kernel
set_option maxRecDepth 100000 in
theorem om_Ss_namesFor : okM K_Ss_namesFor = true := by decide +kernel
set_option maxRecDepth 100000 in
theorem oe_Ss_bitOf : okE K_Ss_bitOf = true := by decide +kernel
set_option maxRecDepth 100000 in
theorem om_Ss_bitOf : okM K_Ss_bitOf = true := by decide +kernel
