set_option maxRecDepth 100000 in
theorem fx_dc_0 : ([0, 1, 2, 3, 4, 5, 6, 7, 8, 9, 10, 11, 12, 13, 14, 15, 16] : List Nat).all fx_dcC = true := by decide +kernel
set_option maxRecDepth 100000 in
theorem fx_dc_1 : ([17, 18, 19, 20, 21, 22, 23, 24, 25, 26] : List Nat).all fx_dcC = true := by decide +kernel
set_option maxRecDepth 100000 in
theorem fx_dc_2 : ([27, 28, 29, 30, 31, 32, 33, 34, 35, 36, 37] : List Nat).all fx_dcC = true := by decide +kernel
set_option maxRecDepth 100000 in
theorem fx_dc_3 : ([38, 39, 40, 41, 42, 43, 44, 45, 46, 47, 48, 49, 50, 51] : List Nat).all fx_dcC = true := by decide +kernel
set_option maxRecDepth 100000 in
theorem fx_dc_4 : ([52, 53, 54, 55, 56, 57, 58, 59, 60] : List Nat).all fx_dcC = true := by decide +kernel
set_option maxRecDepth 100000 in
theorem fx_dc_5 : ([61, 62, 63, 64, 65, 66] : List Nat).all fx_dcC = true := by decide +kernel
set_option maxRecDepth 100000 in
theorem fx_dc_6 : ([67, 68, 69, 70, 71, 72, 73, 74, 75, 76, 77, 78, 79, 80, 81] : List Nat).all fx_dcC = true := by decide +kernel
set_option maxRecDepth 100000 in
theorem fx_dc_7 : ([82, 83, 84, 85, 86, 87, 88, 89, 90, 91, 92, 93, 94] : List Nat).all fx_dcC = true := by decide +kernel
set_option maxRecDepth 100000 in
theorem fx_dc_8 : ([95, 96, 97, 98, 99, 100, 101, 102, 103, 104, 105, 106, 107, 108, 109, 110, 111, 112] : List Nat).all fx_dcC = true := by decide +kernel
set_option maxRecDepth 100000 in
theorem fx_dc_9 : ([113, 114, 115, 116, 117, 118, 119, 120, 121, 122, 123, 124, 125, 126, 127, 128, 129, 130, 131, 132] : List Nat).all fx_dcC = true := by decide +kernel
set_option maxRecDepth 100000 in
theorem fx_dc_10 : ([133, 134, 135, 136, 137, 138, 139, 140, 141, 142, 143, 144, 145, 146, 147, 148, 149, 150, 151, 152, 153, 154, 155, 156, 157] : List Nat).all fx_dcC = true := by decide +kernel
set_option maxRecDepth 100000 in
theorem fx_dc_11 : ([158, 159, 160, 161, 162, 163, 164, 165, 166, 167] : List Nat).all fx_dcC = true := by decide +kernel
set_option maxRecDepth 100000 in
theorem fx_dc_12 : ([168, 169, 170, 171, 172, 173, 174, 175, 176, 177, 178] : List Nat).all fx_dcC = true := by decide +kernel
set_option maxRecDepth 100000 in
theorem fx_dc_13 : ([179, 180, 181, 182, 183, 184, 185, 186, 187, 188, 189, 190, 191] : List Nat).all fx_dcC = true := by decide +kernel
set_option maxRecDepth 100000 in
theorem fx_dc_14 : ([192, 193, 194, 195, 196, 197, 198, 199, 200, 201] : List Nat).all fx_dcC = true := by decide +kernel
set_option maxRecDepth 100000 in
theorem fx_dc_15 : ([202, 203, 204, 205, 206, 207, 208, 209, 210] : List Nat).all fx_dcC = true := by decide +kernel
set_option maxRecDepth 100000 in
theorem fx_dc_16 : ([211, 212, 213, 214, 215, 216, 217, 218, 219, 220] : List Nat).all fx_dcC = true := by decide +kernel
set_option maxRecDepth 100000 in
theorem fx_dc_17 : ([221, 222, 223, 224, 225, 226, 227, 228, 229] : List Nat).all fx_dcC = true := by decide +kernel
set_option maxRecDepth 100000 in
theorem fx_dc_18 : ([230, 231, 232, 233, 234, 235, 236, 237, 238] : List Nat).all fx_dcC = true := by decide +kernel
set_option maxRecDepth 100000 in
theorem fx_dc_19 : ([239, 240, 241, 242, 243, 244, 245, 246, 247] : List Nat).all fx_dcC = true := by decide +kernel
set_option maxRecDepth 100000 in
theorem fx_dc_20 : ([248, 249, 250, 251, 252, 253, 254, 255, 256, 257, 258] : List Nat).all fx_dcC = true := by decide +kernel
set_option maxRecDepth 100000 in
theorem fx_dc_21 : ([259, 260, 261, 262, 263, 264, 265, 266, 267, 268, 269, 270, 271, 272, 273, 274, 275, 276, 277, 278, 279, 280, 281, 282, 283, 284] : List Nat).all fx_dcC = true := by decide +kernel
set_option maxRecDepth 100000 in
theorem fx_dc_22 : ([285, 286, 287, 288, 289, 290, 291, 292] : List Nat).all fx_dcC = true := by decide +kernel
