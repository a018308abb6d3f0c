set_option maxRecDepth 100000 in
theorem fx_dcL_18 : (((fx_code 293).drop 1080).take 60).all (fx_dcE (fx_m 293).2.1) = true := by decide +kernel
set_option maxRecDepth 100000 in
theorem fx_dcL_19 : (((fx_code 293).drop 1140).take 60).all (fx_dcE (fx_m 293).2.1) = true := by decide +kernel
set_option maxRecDepth 100000 in
theorem fx_dcL_20 : (((fx_code 293).drop 1200).take 60).all (fx_dcE (fx_m 293).2.1) = true := by decide +kernel
set_option maxRecDepth 100000 in
theorem fx_dcL_21 : (((fx_code 293).drop 1260).take 60).all (fx_dcE (fx_m 293).2.1) = true := by decide +kernel
set_option maxRecDepth 100000 in
theorem fx_dcL_22 : (((fx_code 293).drop 1320).take 60).all (fx_dcE (fx_m 293).2.1) = true := by decide +kernel
set_option maxRecDepth 100000 in
theorem fx_dcL_23 : (((fx_code 293).drop 1380).take 60).all (fx_dcE (fx_m 293).2.1) = true := by decide +kernel
