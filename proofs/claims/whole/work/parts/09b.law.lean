set_option maxRecDepth 100000 in
theorem fx_dcL_0 : (((fx_code 293).drop 0).take 60).all (fx_dcE (fx_m 293).2.1) = true := by decide +kernel
set_option maxRecDepth 100000 in
theorem fx_dcL_1 : (((fx_code 293).drop 60).take 60).all (fx_dcE (fx_m 293).2.1) = true := by decide +kernel
set_option maxRecDepth 100000 in
theorem fx_dcL_2 : (((fx_code 293).drop 120).take 60).all (fx_dcE (fx_m 293).2.1) = true := by decide +kernel
set_option maxRecDepth 100000 in
theorem fx_dcL_3 : (((fx_code 293).drop 180).take 60).all (fx_dcE (fx_m 293).2.1) = true := by decide +kernel
set_option maxRecDepth 100000 in
theorem fx_dcL_4 : (((fx_code 293).drop 240).take 60).all (fx_dcE (fx_m 293).2.1) = true := by decide +kernel
set_option maxRecDepth 100000 in
theorem fx_dcL_5 : (((fx_code 293).drop 300).take 60).all (fx_dcE (fx_m 293).2.1) = true := by decide +kernel
