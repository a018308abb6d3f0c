theorem fx_dc_23 : ([293] : List Nat).all fx_dcC = true := sorry
