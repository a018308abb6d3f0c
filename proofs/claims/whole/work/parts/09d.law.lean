set_option maxRecDepth 100000 in
theorem fx_dcL_12 : (((fx_code 293).drop 720).take 60).all (fx_dcE (fx_m 293).2.1) = true := by decide +kernel
set_option maxRecDepth 100000 in
theorem fx_dcL_13 : (((fx_code 293).drop 780).take 60).all (fx_dcE (fx_m 293).2.1) = true := by decide +kernel
set_option maxRecDepth 100000 in
theorem fx_dcL_14 : (((fx_code 293).drop 840).take 60).all (fx_dcE (fx_m 293).2.1) = true := by decide +kernel
set_option maxRecDepth 100000 in
theorem fx_dcL_15 : (((fx_code 293).drop 900).take 60).all (fx_dcE (fx_m 293).2.1) = true := by decide +kernel
set_option maxRecDepth 100000 in
theorem fx_dcL_16 : (((fx_code 293).drop 960).take 60).all (fx_dcE (fx_m 293).2.1) = true := by decide +kernel
set_option maxRecDepth 100000 in
theorem fx_dcL_17 : (((fx_code 293).drop 1020).take 60).all (fx_dcE (fx_m 293).2.1) = true := by decide +kernel
