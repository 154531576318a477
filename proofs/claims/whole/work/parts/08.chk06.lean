/-! the tables against the bytes, method by method -/
set_option maxRecDepth 100000 in
theorem oe_M_heldIn : okE K_M_heldIn = true := by decide +kernel
set_option maxRecDepth 100000 in
theorem om_M_heldIn : okM K_M_heldIn = true := by decide +kernel
set_option maxRecDepth 100000 in
theorem oe_M_can : okE K_M_can = true := by decide +kernel
set_option maxRecDepth 100000 in
theorem om_M_can : okM K_M_can = true := by decide +kernel
set_option maxRecDepth 100000 in
theorem oe_M_behind : okE K_M_behind = true := by decide +kernel
set_option maxRecDepth 100000 in
theorem om_M_behind : okM K_M_behind = true := by decide +kernel
set_option maxRecDepth 100000 in
theorem oe_M_isTaken : okE K_M_isTaken = true := by decide +kernel
set_option maxRecDepth 100000 in
theorem om_M_isTaken : okM K_M_isTaken = true := by decide +kernel
set_option maxRecDepth 100000 in
theorem oe_M_goOn : okE K_M_goOn = true := by decide +kernel
set_option maxRecDepth 100000 in
theorem om_M_goOn : okM K_M_goOn = true := by decide +kernel
set_option maxRecDepth 100000 in
theorem oe_M_beginList : okE K_M_beginList = true := by decide +kernel
set_option maxRecDepth 100000 in
theorem om_M_beginList : okM K_M_beginList = true := by decide +kernel
set_option maxRecDepth 100000 in
theorem oe_M_takesList : okE K_M_takesList = true := by decide +kernel
set_option maxRecDepth 100000 in
theorem om_M_takesList : okM K_M_takesList = true := by decide +kernel
set_option maxRecDepth 100000 in
theorem oe_M_goAll : okE K_M_goAll = true := by decide +kernel
set_option maxRecDepth 100000 in
theorem om_M_goAll : okM K_M_goAll = true := by decide +kernel
set_option maxRecDepth 100000 in
theorem oe_M_taken : okE K_M_taken = true := by decide +kernel
set_option maxRecDepth 100000 in
theorem om_M_taken : okM K_M_taken = true := by decide +kernel
set_option maxRecDepth 100000 in
theorem oe_M_may : okE K_M_may = true := by decide +kernel
set_option maxRecDepth 100000 in
theorem om_M_may : okM K_M_may = true := by decide +kernel
set_option maxRecDepth 100000 in
theorem oe_M_runs : okE K_M_runs = true := by decide +kernel
set_option maxRecDepth 100000 in
theorem om_M_runs : okM K_M_runs = true := by decide +kernel
set_option maxRecDepth 100000 in
theorem oe_M_layGood : okE K_M_layGood = true := by decide +kernel
set_option maxRecDepth 100000 in
theorem om_M_layGood : okM K_M_layGood = true := by decide +kernel
set_option maxRecDepth 100000 in
theorem oe_M_run : okE K_M_run = true := by decide +kernel
set_option maxRecDepth 100000 in
theorem om_M_run : okM K_M_run = true := by decide +kernel
set_option maxRecDepth 100000 in
theorem oe_M_nextPair : okE K_M_nextPair = true := by decide +kernel
set_option maxRecDepth 100000 in
theorem om_M_nextPair : okM K_M_nextPair = true := by decide +kernel
set_option maxRecDepth 100000 in
theorem oe_M_beginPair : okE K_M_beginPair = true := by decide +kernel
set_option maxRecDepth 100000 in
theorem om_M_beginPair : okM K_M_beginPair = true := by decide +kernel
set_option maxRecDepth 100000 in
theorem oe_M_goShapes : okE K_M_goShapes = true := by decide +kernel
set_option maxRecDepth 100000 in
theorem om_M_goShapes : okM K_M_goShapes = true := by decide +kernel
set_option maxRecDepth 100000 in
theorem oe_M_shapes : okE K_M_shapes = true := by decide +kernel
set_option maxRecDepth 100000 in
theorem om_M_shapes : okM K_M_shapes = true := by decide +kernel
set_option maxRecDepth 100000 in
theorem oe_M_shape : okE K_M_shape = true := by decide +kernel
set_option maxRecDepth 100000 in
theorem om_M_shape : okM K_M_shape = true := by decide +kernel
set_option maxRecDepth 100000 in
theorem oe_M_kindIn : okE K_M_kindIn = true := by decide +kernel
set_option maxRecDepth 100000 in
theorem om_M_kindIn : okM K_M_kindIn = true := by decide +kernel
set_option maxRecDepth 100000 in
theorem oe_M_kindOf : okE K_M_kindOf = true := by decide +kernel
set_option maxRecDepth 100000 in
theorem om_M_kindOf : okM K_M_kindOf = true := by decide +kernel
set_option maxRecDepth 100000 in
theorem oe_M_canBy : okE K_M_canBy = true := by decide +kernel
set_option maxRecDepth 100000 in
theorem om_M_canBy : okM K_M_canBy = true := by decide +kernel
set_option maxRecDepth 100000 in
theorem oe_M_kindBehind : okE K_M_kindBehind = true := by decide +kernel
set_option maxRecDepth 100000 in
theorem om_M_kindBehind : okM K_M_kindBehind = true := by decide +kernel
set_option maxRecDepth 100000 in
theorem oe_M_isNameOf : okE K_M_isNameOf = true := by decide +kernel
set_option maxRecDepth 100000 in
theorem om_M_isNameOf : okM K_M_isNameOf = true := by decide +kernel
set_option maxRecDepth 100000 in
theorem oe_M_nameAt : okE K_M_nameAt = true := by decide +kernel
set_option maxRecDepth 100000 in
theorem om_M_nameAt : okM K_M_nameAt = true := by decide +kernel
set_option maxRecDepth 100000 in
theorem oe_M_layKinds : okE K_M_layKinds = true := by decide +kernel
set_option maxRecDepth 100000 in
theorem om_M_layKinds : okM K_M_layKinds = true := by decide +kernel
set_option maxRecDepth 100000 in
theorem oe_M_least : okE K_M_least = true := by decide +kernel
set_option maxRecDepth 100000 in
theorem om_M_least : okM K_M_least = true := by decide +kernel
set_option maxRecDepth 100000 in
theorem oe_M_wideIn : okE K_M_wideIn = true := by decide +kernel
set_option maxRecDepth 100000 in
theorem om_M_wideIn : okM K_M_wideIn = true := by decide +kernel
set_option maxRecDepth 100000 in
theorem oe_M_goWide : okE K_M_goWide = true := by decide +kernel
set_option maxRecDepth 100000 in
theorem om_M_goWide : okM K_M_goWide = true := by decide +kernel
set_option maxRecDepth 100000 in
theorem oe_M_addWide : okE K_M_addWide = true := by decide +kernel
set_option maxRecDepth 100000 in
theorem om_M_addWide : okM K_M_addWide = true := by decide +kernel
set_option maxRecDepth 100000 in
theorem oe_M_first : okE K_M_first = true := by decide +kernel
set_option maxRecDepth 100000 in
theorem om_M_first : okM K_M_first = true := by decide +kernel
