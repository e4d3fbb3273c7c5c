/-! The same for the law, in pieces. -/
set_option maxRecDepth 100000 in
theorem vd_law_0 : vd_ok code cd_law_0 = true := by decide +kernel
set_option maxRecDepth 100000 in
theorem vd_law_1 : vd_ok code cd_law_1 = true := by decide +kernel
set_option maxRecDepth 100000 in
theorem vd_law_2 : vd_ok code cd_law_2 = true := by decide +kernel
set_option maxRecDepth 100000 in
theorem vd_law_3 : vd_ok code cd_law_3 = true := by decide +kernel
set_option maxRecDepth 100000 in
theorem vd_law_4 : vd_ok code cd_law_4 = true := by decide +kernel
