/-! the tables against the bytes, method by method -/
set_option maxRecDepth 100000 in
theorem oe_Ol_firstPair : okE K_Ol_firstPair = true := by decide +kernel
set_option maxRecDepth 100000 in
theorem om_Ol_firstPair : okM K_Ol_firstPair = true := by decide +kernel
set_option maxRecDepth 100000 in
theorem oe_Ol_choosePair : okE K_Ol_choosePair = true := by decide +kernel
set_option maxRecDepth 100000 in
theorem om_Ol_choosePair : okM K_Ol_choosePair = true := by decide +kernel
set_option maxRecDepth 100000 in
theorem oe_Ol_followTo : okE K_Ol_followTo = true := by decide +kernel
set_option maxRecDepth 100000 in
theorem om_Ol_followTo : okM K_Ol_followTo = true := by decide +kernel
set_option maxRecDepth 100000 in
theorem oe_Ol_neverMade : okE K_Ol_neverMade = true := by decide +kernel
set_option maxRecDepth 100000 in
theorem om_Ol_neverMade : okM K_Ol_neverMade = true := by decide +kernel
set_option maxRecDepth 100000 in
theorem oe_Ol_twoAtOnce : okE K_Ol_twoAtOnce = true := by decide +kernel
set_option maxRecDepth 100000 in
theorem om_Ol_twoAtOnce : okM K_Ol_twoAtOnce = true := by decide +kernel
set_option maxRecDepth 100000 in
theorem oe_Ol_firstTwo : okE K_Ol_firstTwo = true := by decide +kernel
set_option maxRecDepth 100000 in
theorem om_Ol_firstTwo : okM K_Ol_firstTwo = true := by decide +kernel
set_option maxRecDepth 100000 in
theorem oe_Ol_study : okE K_Ol_study = true := by decide +kernel
set_option maxRecDepth 100000 in
theorem om_Ol_study : okM K_Ol_study = true := by decide +kernel
set_option maxRecDepth 100000 in
theorem oe_Ol_see : okE K_Ol_see = true := by decide +kernel
set_option maxRecDepth 100000 in
theorem om_Ol_see : okM K_Ol_see = true := by decide +kernel
set_option maxRecDepth 100000 in
theorem oe_Ol_seeBehind : okE K_Ol_seeBehind = true := by decide +kernel
set_option maxRecDepth 100000 in
theorem om_Ol_seeBehind : okM K_Ol_seeBehind = true := by decide +kernel
set_option maxRecDepth 100000 in
theorem oe_Ol_tellAhead : okE K_Ol_tellAhead = true := by decide +kernel
set_option maxRecDepth 100000 in
theorem om_Ol_tellAhead : okM K_Ol_tellAhead = true := by decide +kernel
set_option maxRecDepth 100000 in
theorem oe_Ol_leadsTo : okE K_Ol_leadsTo = true := by decide +kernel
set_option maxRecDepth 100000 in
theorem om_Ol_leadsTo : okM K_Ol_leadsTo = true := by decide +kernel
set_option maxRecDepth 100000 in
theorem oe_Ol_newName : okE K_Ol_newName = true := by decide +kernel
set_option maxRecDepth 100000 in
theorem om_Ol_newName : okM K_Ol_newName = true := by decide +kernel
set_option maxRecDepth 100000 in
theorem oe_Ol_placeOf : okE K_Ol_placeOf = true := by decide +kernel
set_option maxRecDepth 100000 in
theorem om_Ol_placeOf : okM K_Ol_placeOf = true := by decide +kernel
set_option maxRecDepth 100000 in
theorem oe_Ol_spotOf : okE K_Ol_spotOf = true := by decide +kernel
set_option maxRecDepth 100000 in
theorem om_Ol_spotOf : okM K_Ol_spotOf = true := by decide +kernel
set_option maxRecDepth 100000 in
theorem oe_Rd_init : okE K_Rd_init = true := by decide +kernel
set_option maxRecDepth 100000 in
theorem om_Rd_init : okM K_Rd_init = true := by decide +kernel
set_option maxRecDepth 100000 in
theorem oe_Rd_states : okE K_Rd_states = true := by decide +kernel
set_option maxRecDepth 100000 in
theorem om_Rd_states : okM K_Rd_states = true := by decide +kernel
set_option maxRecDepth 100000 in
theorem oe_Rd_registers : okE K_Rd_registers = true := by decide +kernel
set_option maxRecDepth 100000 in
theorem om_Rd_registers : okM K_Rd_registers = true := by decide +kernel
set_option maxRecDepth 100000 in
theorem oe_Rd_size : okE K_Rd_size = true := by decide +kernel
set_option maxRecDepth 100000 in
theorem om_Rd_size : okM K_Rd_size = true := by decide +kernel
set_option maxRecDepth 100000 in
theorem oe_Rd_become : okE K_Rd_become = true := by decide +kernel
set_option maxRecDepth 100000 in
theorem om_Rd_become : okM K_Rd_become = true := by decide +kernel
set_option maxRecDepth 100000 in
theorem oe_Rd_appendAll : okE K_Rd_appendAll = true := by decide +kernel
set_option maxRecDepth 100000 in
theorem om_Rd_appendAll : okM K_Rd_appendAll = true := by decide +kernel
set_option maxRecDepth 100000 in
theorem oe_Rd_remove : okE K_Rd_remove = true := by decide +kernel
set_option maxRecDepth 100000 in
theorem om_Rd_remove : okM K_Rd_remove = true := by decide +kernel
set_option maxRecDepth 100000 in
theorem oe_Rd_sort : okE K_Rd_sort = true := by decide +kernel
set_option maxRecDepth 100000 in
theorem om_Rd_sort : okM K_Rd_sort = true := by decide +kernel
set_option maxRecDepth 100000 in
theorem oe_Rd_part : okE K_Rd_part = true := by decide +kernel
set_option maxRecDepth 100000 in
theorem om_Rd_part : okM K_Rd_part = true := by decide +kernel
set_option maxRecDepth 100000 in
theorem oe_Rd_begin : okE K_Rd_begin = true := by decide +kernel
set_option maxRecDepth 100000 in
theorem om_Rd_begin : okM K_Rd_begin = true := by decide +kernel
set_option maxRecDepth 100000 in
theorem oe_Rd_end : okE K_Rd_end = true := by decide +kernel
set_option maxRecDepth 100000 in
theorem om_Rd_end : okM K_Rd_end = true := by decide +kernel
set_option maxRecDepth 100000 in
theorem oe_Rd_moveAt : okE K_Rd_moveAt = true := by decide +kernel
set_option maxRecDepth 100000 in
theorem om_Rd_moveAt : okM K_Rd_moveAt = true := by decide +kernel
set_option maxRecDepth 100000 in
theorem oe_Rd_hasTest : okE K_Rd_hasTest = true := by decide +kernel
set_option maxRecDepth 100000 in
theorem om_Rd_hasTest : okM K_Rd_hasTest = true := by decide +kernel
set_option maxRecDepth 100000 in
theorem oe_Rd_takesSome : okE K_Rd_takesSome = true := by decide +kernel
set_option maxRecDepth 100000 in
theorem om_Rd_takesSome : okM K_Rd_takesSome = true := by decide +kernel
set_option maxRecDepth 100000 in
theorem oe_Rd_takesAt : okE K_Rd_takesAt = true := by decide +kernel
set_option maxRecDepth 100000 in
theorem om_Rd_takesAt : okM K_Rd_takesAt = true := by decide +kernel
set_option maxRecDepth 100000 in
theorem oe_Rd_takesBehind : okE K_Rd_takesBehind = true := by decide +kernel
set_option maxRecDepth 100000 in
theorem om_Rd_takesBehind : okM K_Rd_takesBehind = true := by decide +kernel
