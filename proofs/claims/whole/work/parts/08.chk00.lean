/-! the tables against the bytes, method by method -/
set_option maxRecDepth 100000 in
theorem oe_J_len : okE K_J_len = true := by decide +kernel
set_option maxRecDepth 100000 in
theorem oe_J_chr : okE K_J_chr = true := by decide +kernel
set_option maxRecDepth 100000 in
theorem oe_J_bitI : okE K_J_bitI = true := by decide +kernel
set_option maxRecDepth 100000 in
theorem om_J_bitI : okM K_J_bitI = true := by decide +kernel
set_option maxRecDepth 100000 in
theorem oe_J_bitL : okE K_J_bitL = true := by decide +kernel
set_option maxRecDepth 100000 in
theorem om_J_bitL : okM K_J_bitL = true := by decide +kernel
set_option maxRecDepth 100000 in
theorem oe_Fl_init : okE K_Fl_init = true := by decide +kernel
set_option maxRecDepth 100000 in
theorem om_Fl_init : okM K_Fl_init = true := by decide +kernel
set_option maxRecDepth 100000 in
theorem oe_Fl_pairAt : okE K_Fl_pairAt = true := by decide +kernel
set_option maxRecDepth 100000 in
theorem om_Fl_pairAt : okM K_Fl_pairAt = true := by decide +kernel
set_option maxRecDepth 100000 in
theorem oe_Fl_search : okE K_Fl_search = true := by decide +kernel
set_option maxRecDepth 100000 in
theorem om_Fl_search : okM K_Fl_search = true := by decide +kernel
set_option maxRecDepth 100000 in
theorem oe_Fl_tellNames : okE K_Fl_tellNames = true := by decide +kernel
set_option maxRecDepth 100000 in
theorem om_Fl_tellNames : okM K_Fl_tellNames = true := by decide +kernel
set_option maxRecDepth 100000 in
theorem oe_Fl_fillFrom : okE K_Fl_fillFrom = true := by decide +kernel
set_option maxRecDepth 100000 in
theorem om_Fl_fillFrom : okM K_Fl_fillFrom = true := by decide +kernel
set_option maxRecDepth 100000 in
theorem oe_Fl_mayHave : okE K_Fl_mayHave = true := by decide +kernel
set_option maxRecDepth 100000 in
theorem om_Fl_mayHave : okM K_Fl_mayHave = true := by decide +kernel
set_option maxRecDepth 100000 in
theorem oe_Fl_fillOne : okE K_Fl_fillOne = true := by decide +kernel
set_option maxRecDepth 100000 in
theorem om_Fl_fillOne : okM K_Fl_fillOne = true := by decide +kernel
set_option maxRecDepth 100000 in
theorem oe_Fl_restIsTaken : okE K_Fl_restIsTaken = true := by decide +kernel
set_option maxRecDepth 100000 in
theorem om_Fl_restIsTaken : okM K_Fl_restIsTaken = true := by decide +kernel
set_option maxRecDepth 100000 in
theorem oe_Mt_init : okE K_Mt_init = true := by decide +kernel
set_option maxRecDepth 100000 in
theorem om_Mt_init : okM K_Mt_init = true := by decide +kernel
set_option maxRecDepth 100000 in
theorem oe_Mt_shortest : okE K_Mt_shortest = true := by decide +kernel
set_option maxRecDepth 100000 in
theorem om_Mt_shortest : okM K_Mt_shortest = true := by decide +kernel
set_option maxRecDepth 100000 in
theorem oe_Mt_spread : okE K_Mt_spread = true := by decide +kernel
set_option maxRecDepth 100000 in
theorem om_Mt_spread : okM K_Mt_spread = true := by decide +kernel
set_option maxRecDepth 100000 in
theorem oe_Mt_spreadOther : okE K_Mt_spreadOther = true := by decide +kernel
set_option maxRecDepth 100000 in
theorem om_Mt_spreadOther : okM K_Mt_spreadOther = true := by decide +kernel
set_option maxRecDepth 100000 in
theorem oe_Mt_placeOf : okE K_Mt_placeOf = true := by decide +kernel
set_option maxRecDepth 100000 in
theorem om_Mt_placeOf : okM K_Mt_placeOf = true := by decide +kernel
set_option maxRecDepth 100000 in
theorem oe_Mt_comeTo : okE K_Mt_comeTo = true := by decide +kernel
set_option maxRecDepth 100000 in
theorem om_Mt_comeTo : okM K_Mt_comeTo = true := by decide +kernel
set_option maxRecDepth 100000 in
theorem oe_Mt_rowsBehind : okE K_Mt_rowsBehind = true := by decide +kernel
set_option maxRecDepth 100000 in
theorem om_Mt_rowsBehind : okM K_Mt_rowsBehind = true := by decide +kernel
set_option maxRecDepth 100000 in
theorem oe_Mn_init : okE K_Mn_init = true := by decide +kernel
set_option maxRecDepth 100000 in
theorem om_Mn_init : okM K_Mn_init = true := by decide +kernel
set_option maxRecDepth 100000 in
theorem oe_Mn_fewest : okE K_Mn_fewest = true := by decide +kernel
set_option maxRecDepth 100000 in
theorem om_Mn_fewest : okM K_Mn_fewest = true := by decide +kernel
set_option maxRecDepth 100000 in
theorem oe_Mn_survey : okE K_Mn_survey = true := by decide +kernel
set_option maxRecDepth 100000 in
theorem om_Mn_survey : okM K_Mn_survey = true := by decide +kernel
set_option maxRecDepth 100000 in
theorem oe_Mn_turn : okE K_Mn_turn = true := by decide +kernel
set_option maxRecDepth 100000 in
theorem om_Mn_turn : okM K_Mn_turn = true := by decide +kernel
set_option maxRecDepth 100000 in
theorem oe_Mn_spread : okE K_Mn_spread = true := by decide +kernel
set_option maxRecDepth 100000 in
theorem om_Mn_spread : okM K_Mn_spread = true := by decide +kernel
set_option maxRecDepth 100000 in
theorem oe_Mn_spreadChanged : okE K_Mn_spreadChanged = true := by decide +kernel
set_option maxRecDepth 100000 in
theorem om_Mn_spreadChanged : okM K_Mn_spreadChanged = true := by decide +kernel
set_option maxRecDepth 100000 in
theorem oe_Mn_come : okE K_Mn_come = true := by decide +kernel
set_option maxRecDepth 100000 in
theorem om_Mn_come : okM K_Mn_come = true := by decide +kernel
set_option maxRecDepth 100000 in
theorem oe_Mn_costOf : okE K_Mn_costOf = true := by decide +kernel
set_option maxRecDepth 100000 in
theorem om_Mn_costOf : okM K_Mn_costOf = true := by decide +kernel
set_option maxRecDepth 100000 in
theorem oe_Mn_setCost : okE K_Mn_setCost = true := by decide +kernel
set_option maxRecDepth 100000 in
theorem om_Mn_setCost : okM K_Mn_setCost = true := by decide +kernel
set_option maxRecDepth 100000 in
theorem oe_Ol_init : okE K_Ol_init = true := by decide +kernel
set_option maxRecDepth 100000 in
theorem om_Ol_init : okM K_Ol_init = true := by decide +kernel
set_option maxRecDepth 100000 in
theorem oe_Ol_shortest : okE K_Ol_shortest = true := by decide +kernel
set_option maxRecDepth 100000 in
theorem om_Ol_shortest : okM K_Ol_shortest = true := by decide +kernel
