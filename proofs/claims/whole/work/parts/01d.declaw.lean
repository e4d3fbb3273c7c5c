/-! The same for the law, in pieces. -/
set_option maxRecDepth 100000 in
theorem vd_law_0 : vd_ok code cd_law_0 = true := by decide +kernel
set_option maxRecDepth 100000 in
theorem vd_law_1 : vd_ok code cd_law_1 = true := by decide +kernel
set_option maxRecDepth 100000 in
theorem vd_law_2 : vd_ok code cd_law_2 = true := by decide +kernel
set_option maxRecDepth 100000 in
theorem vd_law_3 : vd_ok code cd_law_3 = true := by decide +kernel
set_option maxRecDepth 100000 in
theorem vd_law_4 : vd_ok code cd_law_4 = true := by decide +kernel
set_option maxRecDepth 100000 in
theorem vd_law_5 : vd_ok code cd_law_5 = true := by decide +kernel
set_option maxRecDepth 100000 in
theorem vd_law_6 : vd_ok code cd_law_6 = true := by decide +kernel
set_option maxRecDepth 100000 in
theorem vd_law_7 : vd_ok code cd_law_7 = true := by decide +kernel
set_option maxRecDepth 100000 in
theorem vd_law_8 : vd_ok code cd_law_8 = true := by decide +kernel
set_option maxRecDepth 100000 in
theorem vd_law_9 : vd_ok code cd_law_9 = true := by decide +kernel
set_option maxRecDepth 100000 in
theorem vd_law_10 : vd_ok code cd_law_10 = true := by decide +kernel
set_option maxRecDepth 100000 in
theorem vd_law_11 : vd_ok code cd_law_11 = true := by decide +kernel
set_option maxRecDepth 100000 in
theorem vd_law_12 : vd_ok code cd_law_12 = true := by decide +kernel
set_option maxRecDepth 100000 in
theorem vd_law_13 : vd_ok code cd_law_13 = true := by decide +kernel
set_option maxRecDepth 100000 in
theorem vd_law_14 : vd_ok code cd_law_14 = true := by decide +kernel
set_option maxRecDepth 100000 in
theorem vd_law_15 : vd_ok code cd_law_15 = true := by decide +kernel
set_option maxRecDepth 100000 in
theorem vd_law_16 : vd_ok code cd_law_16 = true := by decide +kernel
set_option maxRecDepth 100000 in
theorem vd_law_17 : vd_ok code cd_law_17 = true := by decide +kernel
set_option maxRecDepth 100000 in
theorem vd_law_18 : vd_ok code cd_law_18 = true := by decide +kernel
set_option maxRecDepth 100000 in
theorem vd_law_19 : vd_ok code cd_law_19 = true := by decide +kernel
set_option maxRecDepth 100000 in
theorem vd_law_20 : vd_ok code cd_law_20 = true := by decide +kernel
