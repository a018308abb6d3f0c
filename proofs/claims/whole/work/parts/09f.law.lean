set_option maxRecDepth 100000 in
theorem fx_dcL_24 : (((fx_code 293).drop 1440).take 60).all (fx_dcE (fx_m 293).2.1) = true := by decide +kernel
set_option maxRecDepth 100000 in
theorem fx_dcL_25 : (((fx_code 293).drop 1500).take 60).all (fx_dcE (fx_m 293).2.1) = true := by decide +kernel
set_option maxRecDepth 100000 in
theorem fx_dcL_26 : (((fx_code 293).drop 1560).take 60).all (fx_dcE (fx_m 293).2.1) = true := by decide +kernel
set_option maxRecDepth 100000 in
theorem fx_dcL_27 : (((fx_code 293).drop 1620).take 60).all (fx_dcE (fx_m 293).2.1) = true := by decide +kernel
set_option maxRecDepth 100000 in
theorem fx_dcL_28 : (((fx_code 293).drop 1680).take 60).all (fx_dcE (fx_m 293).2.1) = true := by decide +kernel
theorem fx_all_td {α : Type} {f : α → Bool} (l : List α) (a n : Nat) (h1 : ((l.drop a).take n).all f = true) (h2 : (l.drop (a + n)).all f = true) : (l.drop a).all f = true := by
  rw [← List.take_append_drop n (l.drop a), List.all_append, h1, List.drop_drop, h2]
  rfl
theorem fx_dcL_end : ((fx_code 293).drop 1740).all (fx_dcE (fx_m 293).2.1) = true := by decide +kernel
theorem fx_dc_23 : ([293] : List Nat).all fx_dcC = true := by
  have h : ((fx_code 293).drop 0).all (fx_dcE (fx_m 293).2.1) = true := (fx_all_td _ 0 60 fx_dcL_0 (fx_all_td _ 60 60 fx_dcL_1 (fx_all_td _ 120 60 fx_dcL_2 (fx_all_td _ 180 60 fx_dcL_3 (fx_all_td _ 240 60 fx_dcL_4 (fx_all_td _ 300 60 fx_dcL_5 (fx_all_td _ 360 60 fx_dcL_6 (fx_all_td _ 420 60 fx_dcL_7 (fx_all_td _ 480 60 fx_dcL_8 (fx_all_td _ 540 60 fx_dcL_9 (fx_all_td _ 600 60 fx_dcL_10 (fx_all_td _ 660 60 fx_dcL_11 (fx_all_td _ 720 60 fx_dcL_12 (fx_all_td _ 780 60 fx_dcL_13 (fx_all_td _ 840 60 fx_dcL_14 (fx_all_td _ 900 60 fx_dcL_15 (fx_all_td _ 960 60 fx_dcL_16 (fx_all_td _ 1020 60 fx_dcL_17 (fx_all_td _ 1080 60 fx_dcL_18 (fx_all_td _ 1140 60 fx_dcL_19 (fx_all_td _ 1200 60 fx_dcL_20 (fx_all_td _ 1260 60 fx_dcL_21 (fx_all_td _ 1320 60 fx_dcL_22 (fx_all_td _ 1380 60 fx_dcL_23 (fx_all_td _ 1440 60 fx_dcL_24 (fx_all_td _ 1500 60 fx_dcL_25 (fx_all_td _ 1560 60 fx_dcL_26 (fx_all_td _ 1620 60 fx_dcL_27 (fx_all_td _ 1680 60 fx_dcL_28 fx_dcL_end)))))))))))))))))))))))))))))
  simp only [List.all_cons, List.all_nil, Bool.and_true]
  exact h
