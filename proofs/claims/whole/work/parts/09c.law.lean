set_option maxRecDepth 100000 in
theorem fx_dcL_6 : (((fx_code 293).drop 360).take 60).all (fx_dcE (fx_m 293).2.1) = true := by decide +kernel
set_option maxRecDepth 100000 in
theorem fx_dcL_7 : (((fx_code 293).drop 420).take 60).all (fx_dcE (fx_m 293).2.1) = true := by decide +kernel
set_option maxRecDepth 100000 in
theorem fx_dcL_8 : (((fx_code 293).drop 480).take 60).all (fx_dcE (fx_m 293).2.1) = true := by decide +kernel
set_option maxRecDepth 100000 in
theorem fx_dcL_9 : (((fx_code 293).drop 540).take 60).all (fx_dcE (fx_m 293).2.1) = true := by decide +kernel
set_option maxRecDepth 100000 in
theorem fx_dcL_10 : (((fx_code 293).drop 600).take 60).all (fx_dcE (fx_m 293).2.1) = true := by decide +kernel
set_option maxRecDepth 100000 in
theorem fx_dcL_11 : (((fx_code 293).drop 660).take 60).all (fx_dcE (fx_m 293).2.1) = true := by decide +kernel
