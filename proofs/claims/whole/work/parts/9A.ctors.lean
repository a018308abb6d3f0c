/-! ===== the constructors (printed by program: straight rows over the cells that have come) ===== -/
def kc_z0 : List (Nat × Nat × Int) := [(2, 0, 0), (2, 0, 0), (0, 0, 0), (0, 0, 0)]
theorem kc_z0_ok (B : Nat) : ∀ j, j < 4 → defaultValue (tyX0 j) = vp_V (kc_z0.map (ke_v B)) j
  | 0, _ => rfl
  | 1, _ => rfl
  | 2, _ => rfl
  | 3, _ => rfl
  | _ + 4, h => absurd h (by omega)
def kc_z1 : List (Nat × Nat × Int) := [(2, 0, 0), (2, 0, 0), (2, 0, 0), (2, 0, 0), (2, 0, 0), (2, 0, 0), (2, 0, 0), (2, 0, 0), (0, 0, 0), (0, 0, 0), (0, 0, 0)]
theorem kc_z1_ok (B : Nat) : ∀ j, j < 11 → defaultValue (tyX1 j) = vp_V (kc_z1.map (ke_v B)) j
  | 0, _ => rfl
  | 1, _ => rfl
  | 2, _ => rfl
  | 3, _ => rfl
  | 4, _ => rfl
  | 5, _ => rfl
  | 6, _ => rfl
  | 7, _ => rfl
  | 8, _ => rfl
  | 9, _ => rfl
  | 10, _ => rfl
  | _ + 11, h => absurd h (by omega)
def kc_z2 : List (Nat × Nat × Int) := [(2, 0, 0), (2, 0, 0), (2, 0, 0), (2, 0, 0), (0, 0, 0), (0, 0, 0), (0, 0, 0), (0, 0, 0), (0, 0, 0), (0, 0, 0)]
theorem kc_z2_ok (B : Nat) : ∀ j, j < 10 → defaultValue (tyX2 j) = vp_V (kc_z2.map (ke_v B)) j
  | 0, _ => rfl
  | 1, _ => rfl
  | 2, _ => rfl
  | 3, _ => rfl
  | 4, _ => rfl
  | 5, _ => rfl
  | 6, _ => rfl
  | 7, _ => rfl
  | 8, _ => rfl
  | 9, _ => rfl
  | _ + 10, h => absurd h (by omega)
def kc_z3 : List (Nat × Nat × Int) := [(2, 0, 0), (2, 0, 0), (2, 0, 0), (0, 0, 0), (0, 0, 0), (0, 0, 0)]
theorem kc_z3_ok (B : Nat) : ∀ j, j < 6 → defaultValue (tyX3 j) = vp_V (kc_z3.map (ke_v B)) j
  | 0, _ => rfl
  | 1, _ => rfl
  | 2, _ => rfl
  | 3, _ => rfl
  | 4, _ => rfl
  | 5, _ => rfl
  | _ + 6, h => absurd h (by omega)
def kc_z4 : List (Nat × Nat × Int) := [(2, 0, 0), (2, 0, 0), (2, 0, 0), (2, 0, 0), (2, 0, 0), (2, 0, 0), (2, 0, 0), (2, 0, 0), (2, 0, 0), (0, 0, 0), (0, 0, 0)]
theorem kc_z4_ok (B : Nat) : ∀ j, j < 11 → defaultValue (tyX4 j) = vp_V (kc_z4.map (ke_v B)) j
  | 0, _ => rfl
  | 1, _ => rfl
  | 2, _ => rfl
  | 3, _ => rfl
  | 4, _ => rfl
  | 5, _ => rfl
  | 6, _ => rfl
  | 7, _ => rfl
  | 8, _ => rfl
  | 9, _ => rfl
  | 10, _ => rfl
  | _ + 11, h => absurd h (by omega)
def kc_z5 : List (Nat × Nat × Int) := [(2, 0, 0), (2, 0, 0), (2, 0, 0), (2, 0, 0), (0, 0, 0), (0, 0, 0)]
theorem kc_z5_ok (B : Nat) : ∀ j, j < 6 → defaultValue (tyX5 j) = vp_V (kc_z5.map (ke_v B)) j
  | 0, _ => rfl
  | 1, _ => rfl
  | 2, _ => rfl
  | 3, _ => rfl
  | 4, _ => rfl
  | 5, _ => rfl
  | _ + 6, h => absurd h (by omega)
def kc_z6 : List (Nat × Nat × Int) := [(2, 0, 0), (2, 0, 0), (2, 0, 0), (2, 0, 0), (2, 0, 0), (2, 0, 0), (2, 0, 0), (2, 0, 0), (2, 0, 0), (0, 0, 0), (0, 0, 0), (0, 0, 0), (0, 0, 0), (0, 0, 0), (0, 0, 0)]
theorem kc_z6_ok (B : Nat) : ∀ j, j < 15 → defaultValue (tyX6 j) = vp_V (kc_z6.map (ke_v B)) j
  | 0, _ => rfl
  | 1, _ => rfl
  | 2, _ => rfl
  | 3, _ => rfl
  | 4, _ => rfl
  | 5, _ => rfl
  | 6, _ => rfl
  | 7, _ => rfl
  | 8, _ => rfl
  | 9, _ => rfl
  | 10, _ => rfl
  | 11, _ => rfl
  | 12, _ => rfl
  | 13, _ => rfl
  | 14, _ => rfl
  | _ + 15, h => absurd h (by omega)
def kc_z7 : List (Nat × Nat × Int) := [(0, 0, 0), (2, 0, 0), (2, 0, 0), (2, 0, 0), (2, 0, 0), (0, 0, 0), (0, 0, 0), (0, 0, 0), (2, 0, 0), (0, 0, 0), (0, 0, 0), (0, 0, 0), (0, 0, 0), (2, 0, 0), (2, 0, 0), (0, 0, 0), (2, 0, 0), (0, 0, 0), (0, 0, 0), (2, 0, 0), (2, 0, 0), (0, 0, 0), (2, 0, 0), (2, 0, 0), (2, 0, 0), (2, 0, 0), (2, 0, 0), (0, 0, 0), (0, 0, 0), (0, 0, 0)]
theorem kc_z7_ok (B : Nat) : ∀ j, j < 30 → defaultValue (tyX7 j) = vp_V (kc_z7.map (ke_v B)) j
  | 0, _ => rfl
  | 1, _ => rfl
  | 2, _ => rfl
  | 3, _ => rfl
  | 4, _ => rfl
  | 5, _ => rfl
  | 6, _ => rfl
  | 7, _ => rfl
  | 8, _ => rfl
  | 9, _ => rfl
  | 10, _ => rfl
  | 11, _ => rfl
  | 12, _ => rfl
  | 13, _ => rfl
  | 14, _ => rfl
  | 15, _ => rfl
  | 16, _ => rfl
  | 17, _ => rfl
  | 18, _ => rfl
  | 19, _ => rfl
  | 20, _ => rfl
  | 21, _ => rfl
  | 22, _ => rfl
  | 23, _ => rfl
  | 24, _ => rfl
  | 25, _ => rfl
  | 26, _ => rfl
  | 27, _ => rfl
  | 28, _ => rfl
  | 29, _ => rfl
  | _ + 30, h => absurd h (by omega)
noncomputable def kc_ws : List Cond := [.fieldLink RX7 68 RX7 "undos" "I", .methodLink RX3 3 objectInit, .instanceMethod objectInit, .code objectInit ⟨#[0xb1]⟩ 1 none, .arrayClass (newarray.typeOf .int), .fieldLink RX3 9 RX3 "kinds" "[I", .fieldLink RX3 15 RX3 "left" "[I", .fieldLink RX3 18 RX3 "right" "[I", .methodLink RX0 1 objectInit, .fieldLink RX0 7 RX0 "numbers" "[I", .classLink RX0 13 RX3, .instantiable RX3 6, .initialized RX3, .code yX3_init cX3_init 1 none, .instanceMethod yX3_init, .fieldLink RX0 16 RX0 "rule" "LFactLines$Rule;", .methodLink RX5 3 objectInit, .fieldLink RX5 9 RX5 "bytes" "[I", .fieldLink RX5 15 RX5 "kinds" "[I", .fieldLink RX5 18 RX5 "begins" "[I", .fieldLink RX5 21 RX5 "numbers" "[I", .methodLink RX4 3 objectInit, .fieldLink RX4 9 RX4 "ranks" "[I", .arrayClass (newarray.typeOf .boolean), .fieldLink RX4 15 RX4 "silent" "[Z", .fieldLink RX4 19 RX4 "thingOf" "[I", .fieldLink RX4 22 RX4 "sourceOf" "[I", .fieldLink RX4 25 RX4 "froms" "[I", .fieldLink RX4 28 RX4 "tos" "[I", .fieldLink RX4 31 RX4 "values" "[I", .fieldLink RX4 34 RX4 "withdrawn" "[Z", .classLink RX4 37 RX3, .fieldLink RX4 39 RX4 "rules" "[LFactLines$Rule;", .methodLink RX2 3 objectInit, .classLink RX2 9 RX0, .instantiable RX0 4, .initialized RX0, .code yX0_init cX0_init 1 none, .instanceMethod yX0_init, .fieldLink RX2 12 RX2 "act" "LFactLines$Act;", .fieldLink RX2 18 RX2 "parts" "[I", .fieldLink RX2 22 RX2 "signs" "[I", .fieldLink RX2 25 RX2 "tape" "LFactLines$Tape;", .methodLink RX1 3 objectInit, .fieldLink RX1 9 RX1 "start" "[I", .fieldLink RX1 15 RX1 "pieceAt" "[I", .fieldLink RX1 18 RX1 "isMarked" "[Z", .classLink RX1 22 "[[I", .fieldLink RX1 24 RX1 "best" "[[I", .fieldLink RX1 27 RX1 "is" "[[I", .fieldLink RX1 30 RX1 "made" "[I", .fieldLink RX1 33 RX1 "lackRow" "[I", .fieldLink RX1 36 RX1 "state" "LFactLines$State;", .methodLink RX6 3 objectInit, .classLink RX6 9 RX4, .instantiable RX4 11, .initialized RX4, .code yX4_init cX4_init 2 none, .methodLink RX6 11 yX4_init, .instanceMethod yX4_init, .fieldLink RX6 12 RX6 "now" "LFactLines$State;", .fieldLink RX6 16 RX6 "ahead" "LFactLines$State;", .fieldLink RX6 19 RX6 "kept" "LFactLines$State;", .fieldLink RX6 22 RX6 "past" "[LFactLines$State;", .classLink RX6 26 RX0, .fieldLink RX6 29 RX6 "act" "LFactLines$Act;", .classLink RX6 33 RX5, .instantiable RX5 6, .initialized RX5, .code yX5_init cX5_init 1 none, .instanceMethod yX5_init, .fieldLink RX6 36 RX6 "tape" "LFactLines$Tape;", .classLink RX6 40 RX2, .instantiable RX2 10, .initialized RX2, .code yX2_init cX2_init 2 none, .methodLink RX6 42 yX2_init, .instanceMethod yX2_init, .fieldLink RX6 45 RX6 "reader" "LFactLines$Reader;", .classLink RX6 49 RX1, .instantiable RX1 11, .initialized RX1, .code yX1_init cX1_init 2 none, .methodLink RX6 51 yX1_init, .instanceMethod yX1_init, .fieldLink RX6 54 RX6 "lines" "LFactLines$Lines;", .fieldLink RX6 58 RX6 "supposed" "LFactLines$Lines;", .fieldLink RX6 61 RX6 "wrongByte" "I", .methodLink RX7 1 objectInit, .fieldLink RX7 7 RX7 "m" "[I", .fieldLink RX7 13 RX7 "aside" "[I", .fieldLink RX7 16 RX7 "imageRow" "[I", .fieldLink RX7 19 RX7 "undoRow" "[I", .fieldLink RX7 22 RX7 "tape" "[I", .fieldLink RX7 25 RX7 "fault" "I", .fieldLink RX7 29 RX7 "made" "[I", .fieldLink RX7 32 RX7 "waits" "[I", .fieldLink RX7 35 RX7 "parts" "[I", .fieldLink RX7 38 RX7 "is" "[I", .fieldLink RX7 41 RX7 "best" "[I", .fieldLink RX7 44 RX7 "limit" "I", .fieldLink RX7 47 RX7 "knots" "[I", .fieldLink RX7 50 RX7 "reigns" "[I", .fieldLink RX7 53 RX7 "line" "[I", .fieldLink RX7 56 RX7 "other" "[I", .fieldLink RX7 59 RX7 "lacks" "[I", .code yX7_begins cX7_begins 1 none, .methodLink RX7 62 yX7_begins, .instanceMethod yX7_begins, .selects RX7 yX7_begins yX7_begins, .initialized RX7, .classLink RL 8 RX6, .instantiable RX6 15, .initialized RX6, .methodLink RL 121 yX6_init, .code yX6_init cX6_init 2 none, .instanceMethod yX6_init, .classLink RL 122 RX7, .instantiable RX7 30, .methodLink RL 124 yX7_init, .code yX7_init cX7_init 1 none, .instanceMethod yX7_init, .arrayClass (newarray.typeOf .long)]
set_option maxRecDepth 100000 in
theorem kc_in : ∀ w ∈ kc_ws, w ∈ lw_tbl := fx_mem (f := fun w : Cond => w) [(6, 23), (1, 42), (1, 28), (1, 29), (1, 69), (1, 43), (1, 45), (1, 47), (1, 130), (1, 133), (1, 131), (1, 38), (1, 3), (1, 41), (1, 40), (1, 136), (1, 157), (1, 158), (1, 159), (1, 161), (1, 163), (1, 35), (1, 71), (1, 70), (1, 73), (1, 75), (1, 78), (1, 81), (1, 84), (1, 87), (1, 90), (1, 36), (1, 93), (1, 188), (1, 189), (1, 126), (1, 4), (1, 129), (1, 128), (1, 192), (1, 193), (1, 194), (1, 191), (1, 230), (1, 234), (1, 236), (1, 237), (1, 231), (1, 238), (1, 239), (2, 1), (2, 2), (1, 233), (1, 27), (1, 30), (1, 31), (1, 2), (1, 34), (1, 32), (1, 33), (2, 32), (2, 33), (2, 34), (2, 35), (1, 125), (2, 36), (1, 152), (1, 153), (1, 5), (1, 156), (1, 155), (2, 37), (1, 183), (1, 184), (1, 6), (1, 187), (1, 185), (1, 186), (2, 38), (1, 225), (1, 226), (1, 7), (1, 229), (1, 227), (1, 228), (2, 39), (2, 40), (2, 46), (6, 13), (6, 19), (6, 20), (6, 21), (6, 22), (6, 26), (6, 30), (6, 31), (6, 32), (6, 34), (6, 37), (6, 38), (6, 39), (6, 40), (6, 41), (6, 42), (6, 43), (6, 44), (6, 17), (6, 14), (6, 16), (0, 41), (1, 8), (1, 22), (1, 23), (1, 1), (1, 24), (1, 26), (1, 25), (6, 8), (6, 9), (6, 10), (6, 12), (6, 11), (8, 90)] rfl
theorem kc_good : ∀ w ∈ kc_ws, goodWord w = true := by decide +kernel
theorem kc_at {w : Cond} (i : Nat) (h : kc_ws[i]? = some w) : w ∈ fx_T0 := fx_T0_in (kc_in w (List.mem_of_getElem? h)) (kc_good w (List.mem_of_getElem? h))
theorem dX3_init_0 : decode cX3_init 0 = .ok (.aload_n 0, 1) := by decide +kernel
theorem dX3_init_1 : decode cX3_init 1 = .ok (.invokespecial 3, 3) := by decide +kernel
theorem dX3_init_4 : decode cX3_init 4 = .ok (.aload_n 0, 1) := by decide +kernel
theorem dX3_init_5 : decode cX3_init 5 = .ok (.bipush 23, 2) := by decide +kernel
theorem dX3_init_7 : decode cX3_init 7 = .ok (.newarray .int, 2) := by decide +kernel
theorem dX3_init_9 : decode cX3_init 9 = .ok (.putfield 9, 3) := by decide +kernel
theorem dX3_init_12 : decode cX3_init 12 = .ok (.aload_n 0, 1) := by decide +kernel
theorem dX3_init_13 : decode cX3_init 13 = .ok (.bipush 23, 2) := by decide +kernel
theorem dX3_init_15 : decode cX3_init 15 = .ok (.newarray .int, 2) := by decide +kernel
theorem dX3_init_17 : decode cX3_init 17 = .ok (.putfield 15, 3) := by decide +kernel
theorem dX3_init_20 : decode cX3_init 20 = .ok (.aload_n 0, 1) := by decide +kernel
theorem dX3_init_21 : decode cX3_init 21 = .ok (.bipush 23, 2) := by decide +kernel
theorem dX3_init_23 : decode cX3_init 23 = .ok (.newarray .int, 2) := by decide +kernel
theorem dX3_init_25 : decode cX3_init 25 = .ok (.putfield 18, 3) := by decide +kernel
theorem dX3_init_28 : decode cX3_init 28 = .ok (.return_, 1) := by decide +kernel
theorem dX0_init_0 : decode cX0_init 0 = .ok (.aload_n 0, 1) := by decide +kernel
theorem dX0_init_1 : decode cX0_init 1 = .ok (.invokespecial 1, 3) := by decide +kernel
theorem dX0_init_4 : decode cX0_init 4 = .ok (.aload_n 0, 1) := by decide +kernel
theorem dX0_init_5 : decode cX0_init 5 = .ok (.iconst 5, 1) := by decide +kernel
theorem dX0_init_6 : decode cX0_init 6 = .ok (.newarray .int, 2) := by decide +kernel
theorem dX0_init_8 : decode cX0_init 8 = .ok (.putfield 7, 3) := by decide +kernel
theorem dX0_init_11 : decode cX0_init 11 = .ok (.aload_n 0, 1) := by decide +kernel
theorem dX0_init_12 : decode cX0_init 12 = .ok (.new 13, 3) := by decide +kernel
theorem dX0_init_15 : decode cX0_init 15 = .ok (.dup, 1) := by decide +kernel
theorem dX0_init_16 : decode cX0_init 16 = .ok (.invokespecial 15, 3) := by decide +kernel
theorem dX0_init_19 : decode cX0_init 19 = .ok (.putfield 16, 3) := by decide +kernel
theorem dX0_init_22 : decode cX0_init 22 = .ok (.return_, 1) := by decide +kernel
theorem dX5_init_0 : decode cX5_init 0 = .ok (.aload_n 0, 1) := by decide +kernel
theorem dX5_init_1 : decode cX5_init 1 = .ok (.invokespecial 3, 3) := by decide +kernel
theorem dX5_init_4 : decode cX5_init 4 = .ok (.aload_n 0, 1) := by decide +kernel
theorem dX5_init_5 : decode cX5_init 5 = .ok (.sipush 400, 3) := by decide +kernel
theorem dX5_init_8 : decode cX5_init 8 = .ok (.newarray .int, 2) := by decide +kernel
theorem dX5_init_10 : decode cX5_init 10 = .ok (.putfield 9, 3) := by decide +kernel
theorem dX5_init_13 : decode cX5_init 13 = .ok (.aload_n 0, 1) := by decide +kernel
theorem dX5_init_14 : decode cX5_init 14 = .ok (.sipush 401, 3) := by decide +kernel
theorem dX5_init_17 : decode cX5_init 17 = .ok (.newarray .int, 2) := by decide +kernel
theorem dX5_init_19 : decode cX5_init 19 = .ok (.putfield 15, 3) := by decide +kernel
theorem dX5_init_22 : decode cX5_init 22 = .ok (.aload_n 0, 1) := by decide +kernel
theorem dX5_init_23 : decode cX5_init 23 = .ok (.sipush 401, 3) := by decide +kernel
theorem dX5_init_26 : decode cX5_init 26 = .ok (.newarray .int, 2) := by decide +kernel
theorem dX5_init_28 : decode cX5_init 28 = .ok (.putfield 18, 3) := by decide +kernel
theorem dX5_init_31 : decode cX5_init 31 = .ok (.aload_n 0, 1) := by decide +kernel
theorem dX5_init_32 : decode cX5_init 32 = .ok (.sipush 401, 3) := by decide +kernel
theorem dX5_init_35 : decode cX5_init 35 = .ok (.newarray .int, 2) := by decide +kernel
theorem dX5_init_37 : decode cX5_init 37 = .ok (.putfield 21, 3) := by decide +kernel
theorem dX5_init_40 : decode cX5_init 40 = .ok (.return_, 1) := by decide +kernel
theorem dX4_init_0 : decode cX4_init 0 = .ok (.aload_n 0, 1) := by decide +kernel
theorem dX4_init_1 : decode cX4_init 1 = .ok (.invokespecial 3, 3) := by decide +kernel
theorem dX4_init_4 : decode cX4_init 4 = .ok (.aload_n 0, 1) := by decide +kernel
theorem dX4_init_5 : decode cX4_init 5 = .ok (.bipush 8, 2) := by decide +kernel
theorem dX4_init_7 : decode cX4_init 7 = .ok (.newarray .int, 2) := by decide +kernel
theorem dX4_init_9 : decode cX4_init 9 = .ok (.putfield 9, 3) := by decide +kernel
theorem dX4_init_12 : decode cX4_init 12 = .ok (.aload_n 0, 1) := by decide +kernel
theorem dX4_init_13 : decode cX4_init 13 = .ok (.bipush 8, 2) := by decide +kernel
theorem dX4_init_15 : decode cX4_init 15 = .ok (.newarray .boolean, 2) := by decide +kernel
theorem dX4_init_17 : decode cX4_init 17 = .ok (.putfield 15, 3) := by decide +kernel
theorem dX4_init_20 : decode cX4_init 20 = .ok (.aload_n 0, 1) := by decide +kernel
theorem dX4_init_21 : decode cX4_init 21 = .ok (.bipush 60, 2) := by decide +kernel
theorem dX4_init_23 : decode cX4_init 23 = .ok (.newarray .int, 2) := by decide +kernel
theorem dX4_init_25 : decode cX4_init 25 = .ok (.putfield 19, 3) := by decide +kernel
theorem dX4_init_28 : decode cX4_init 28 = .ok (.aload_n 0, 1) := by decide +kernel
theorem dX4_init_29 : decode cX4_init 29 = .ok (.bipush 60, 2) := by decide +kernel
theorem dX4_init_31 : decode cX4_init 31 = .ok (.newarray .int, 2) := by decide +kernel
theorem dX4_init_33 : decode cX4_init 33 = .ok (.putfield 22, 3) := by decide +kernel
theorem dX4_init_36 : decode cX4_init 36 = .ok (.aload_n 0, 1) := by decide +kernel
theorem dX4_init_37 : decode cX4_init 37 = .ok (.bipush 60, 2) := by decide +kernel
theorem dX4_init_39 : decode cX4_init 39 = .ok (.newarray .int, 2) := by decide +kernel
theorem dX4_init_41 : decode cX4_init 41 = .ok (.putfield 25, 3) := by decide +kernel
theorem dX4_init_44 : decode cX4_init 44 = .ok (.aload_n 0, 1) := by decide +kernel
theorem dX4_init_45 : decode cX4_init 45 = .ok (.bipush 60, 2) := by decide +kernel
theorem dX4_init_47 : decode cX4_init 47 = .ok (.newarray .int, 2) := by decide +kernel
theorem dX4_init_49 : decode cX4_init 49 = .ok (.putfield 28, 3) := by decide +kernel
theorem dX4_init_52 : decode cX4_init 52 = .ok (.aload_n 0, 1) := by decide +kernel
theorem dX4_init_53 : decode cX4_init 53 = .ok (.bipush 60, 2) := by decide +kernel
theorem dX4_init_55 : decode cX4_init 55 = .ok (.newarray .int, 2) := by decide +kernel
theorem dX4_init_57 : decode cX4_init 57 = .ok (.putfield 31, 3) := by decide +kernel
theorem dX4_init_60 : decode cX4_init 60 = .ok (.aload_n 0, 1) := by decide +kernel
theorem dX4_init_61 : decode cX4_init 61 = .ok (.bipush 60, 2) := by decide +kernel
theorem dX4_init_63 : decode cX4_init 63 = .ok (.newarray .boolean, 2) := by decide +kernel
theorem dX4_init_65 : decode cX4_init 65 = .ok (.putfield 34, 3) := by decide +kernel
theorem dX4_init_68 : decode cX4_init 68 = .ok (.aload_n 0, 1) := by decide +kernel
theorem dX4_init_69 : decode cX4_init 69 = .ok (.bipush 8, 2) := by decide +kernel
theorem dX4_init_71 : decode cX4_init 71 = .ok (.anewarray 37, 3) := by decide +kernel
theorem dX4_init_74 : decode cX4_init 74 = .ok (.putfield 39, 3) := by decide +kernel
theorem dX4_init_77 : decode cX4_init 77 = .ok (.iconst 0, 1) := by decide +kernel
theorem dX4_init_78 : decode cX4_init 78 = .ok (.istore_n 1, 1) := by decide +kernel
theorem dX4_init_79 : decode cX4_init 79 = .ok (.iload_n 1, 1) := by decide +kernel
theorem dX4_init_80 : decode cX4_init 80 = .ok (.bipush 8, 2) := by decide +kernel
theorem dX4_init_82 : decode cX4_init 82 = .ok (.if_icmp .ge 22, 3) := by decide +kernel
theorem dX4_init_85 : decode cX4_init 85 = .ok (.aload_n 0, 1) := by decide +kernel
theorem dX4_init_86 : decode cX4_init 86 = .ok (.getfield 39, 3) := by decide +kernel
theorem dX4_init_89 : decode cX4_init 89 = .ok (.iload_n 1, 1) := by decide +kernel
theorem dX4_init_90 : decode cX4_init 90 = .ok (.new 37, 3) := by decide +kernel
theorem dX4_init_93 : decode cX4_init 93 = .ok (.dup, 1) := by decide +kernel
theorem dX4_init_94 : decode cX4_init 94 = .ok (.invokespecial 43, 3) := by decide +kernel
theorem dX4_init_97 : decode cX4_init 97 = .ok (.aastore, 1) := by decide +kernel
theorem dX4_init_98 : decode cX4_init 98 = .ok (.iinc 1 1, 3) := by decide +kernel
theorem dX4_init_101 : decode cX4_init 101 = .ok (.goto (-22), 3) := by decide +kernel
theorem dX4_init_104 : decode cX4_init 104 = .ok (.return_, 1) := by decide +kernel
theorem dX2_init_0 : decode cX2_init 0 = .ok (.aload_n 0, 1) := by decide +kernel
theorem dX2_init_1 : decode cX2_init 1 = .ok (.invokespecial 3, 3) := by decide +kernel
theorem dX2_init_4 : decode cX2_init 4 = .ok (.aload_n 0, 1) := by decide +kernel
theorem dX2_init_5 : decode cX2_init 5 = .ok (.new 9, 3) := by decide +kernel
theorem dX2_init_8 : decode cX2_init 8 = .ok (.dup, 1) := by decide +kernel
theorem dX2_init_9 : decode cX2_init 9 = .ok (.invokespecial 11, 3) := by decide +kernel
theorem dX2_init_12 : decode cX2_init 12 = .ok (.putfield 12, 3) := by decide +kernel
theorem dX2_init_15 : decode cX2_init 15 = .ok (.aload_n 0, 1) := by decide +kernel
theorem dX2_init_16 : decode cX2_init 16 = .ok (.bipush 15, 2) := by decide +kernel
theorem dX2_init_18 : decode cX2_init 18 = .ok (.newarray .int, 2) := by decide +kernel
theorem dX2_init_20 : decode cX2_init 20 = .ok (.putfield 18, 3) := by decide +kernel
theorem dX2_init_23 : decode cX2_init 23 = .ok (.aload_n 0, 1) := by decide +kernel
theorem dX2_init_24 : decode cX2_init 24 = .ok (.bipush 15, 2) := by decide +kernel
theorem dX2_init_26 : decode cX2_init 26 = .ok (.newarray .int, 2) := by decide +kernel
theorem dX2_init_28 : decode cX2_init 28 = .ok (.putfield 22, 3) := by decide +kernel
theorem dX2_init_31 : decode cX2_init 31 = .ok (.aload_n 0, 1) := by decide +kernel
theorem dX2_init_32 : decode cX2_init 32 = .ok (.aload_n 1, 1) := by decide +kernel
theorem dX2_init_33 : decode cX2_init 33 = .ok (.putfield 25, 3) := by decide +kernel
theorem dX2_init_36 : decode cX2_init 36 = .ok (.return_, 1) := by decide +kernel
theorem dX1_init_0 : decode cX1_init 0 = .ok (.aload_n 0, 1) := by decide +kernel
theorem dX1_init_1 : decode cX1_init 1 = .ok (.invokespecial 3, 3) := by decide +kernel
theorem dX1_init_4 : decode cX1_init 4 = .ok (.aload_n 0, 1) := by decide +kernel
theorem dX1_init_5 : decode cX1_init 5 = .ok (.bipush 122, 2) := by decide +kernel
theorem dX1_init_7 : decode cX1_init 7 = .ok (.newarray .int, 2) := by decide +kernel
theorem dX1_init_9 : decode cX1_init 9 = .ok (.putfield 9, 3) := by decide +kernel
theorem dX1_init_12 : decode cX1_init 12 = .ok (.aload_n 0, 1) := by decide +kernel
theorem dX1_init_13 : decode cX1_init 13 = .ok (.sipush 1001, 3) := by decide +kernel
theorem dX1_init_16 : decode cX1_init 16 = .ok (.newarray .int, 2) := by decide +kernel
theorem dX1_init_18 : decode cX1_init 18 = .ok (.putfield 15, 3) := by decide +kernel
theorem dX1_init_21 : decode cX1_init 21 = .ok (.aload_n 0, 1) := by decide +kernel
theorem dX1_init_22 : decode cX1_init 22 = .ok (.sipush 1001, 3) := by decide +kernel
theorem dX1_init_25 : decode cX1_init 25 = .ok (.newarray .boolean, 2) := by decide +kernel
theorem dX1_init_27 : decode cX1_init 27 = .ok (.putfield 18, 3) := by decide +kernel
theorem dX1_init_30 : decode cX1_init 30 = .ok (.aload_n 0, 1) := by decide +kernel
theorem dX1_init_31 : decode cX1_init 31 = .ok (.bipush 8, 2) := by decide +kernel
theorem dX1_init_33 : decode cX1_init 33 = .ok (.bipush 121, 2) := by decide +kernel
theorem dX1_init_35 : decode cX1_init 35 = .ok (.multianewarray 22 2, 4) := by decide +kernel
theorem dX1_init_39 : decode cX1_init 39 = .ok (.putfield 24, 3) := by decide +kernel
theorem dX1_init_42 : decode cX1_init 42 = .ok (.aload_n 0, 1) := by decide +kernel
theorem dX1_init_43 : decode cX1_init 43 = .ok (.bipush 8, 2) := by decide +kernel
theorem dX1_init_45 : decode cX1_init 45 = .ok (.bipush 121, 2) := by decide +kernel
theorem dX1_init_47 : decode cX1_init 47 = .ok (.multianewarray 22 2, 4) := by decide +kernel
theorem dX1_init_51 : decode cX1_init 51 = .ok (.putfield 27, 3) := by decide +kernel
theorem dX1_init_54 : decode cX1_init 54 = .ok (.aload_n 0, 1) := by decide +kernel
theorem dX1_init_55 : decode cX1_init 55 = .ok (.bipush 23, 2) := by decide +kernel
theorem dX1_init_57 : decode cX1_init 57 = .ok (.newarray .int, 2) := by decide +kernel
theorem dX1_init_59 : decode cX1_init 59 = .ok (.putfield 30, 3) := by decide +kernel
theorem dX1_init_62 : decode cX1_init 62 = .ok (.aload_n 0, 1) := by decide +kernel
theorem dX1_init_63 : decode cX1_init 63 = .ok (.bipush 8, 2) := by decide +kernel
theorem dX1_init_65 : decode cX1_init 65 = .ok (.newarray .int, 2) := by decide +kernel
theorem dX1_init_67 : decode cX1_init 67 = .ok (.putfield 33, 3) := by decide +kernel
theorem dX1_init_70 : decode cX1_init 70 = .ok (.aload_n 0, 1) := by decide +kernel
theorem dX1_init_71 : decode cX1_init 71 = .ok (.aload_n 1, 1) := by decide +kernel
theorem dX1_init_72 : decode cX1_init 72 = .ok (.putfield 36, 3) := by decide +kernel
theorem dX1_init_75 : decode cX1_init 75 = .ok (.return_, 1) := by decide +kernel
theorem dX6_init_0 : decode cX6_init 0 = .ok (.aload_n 0, 1) := by decide +kernel
theorem dX6_init_1 : decode cX6_init 1 = .ok (.invokespecial 3, 3) := by decide +kernel
theorem dX6_init_4 : decode cX6_init 4 = .ok (.aload_n 0, 1) := by decide +kernel
theorem dX6_init_5 : decode cX6_init 5 = .ok (.new 9, 3) := by decide +kernel
theorem dX6_init_8 : decode cX6_init 8 = .ok (.dup, 1) := by decide +kernel
theorem dX6_init_9 : decode cX6_init 9 = .ok (.invokespecial 11, 3) := by decide +kernel
theorem dX6_init_12 : decode cX6_init 12 = .ok (.putfield 12, 3) := by decide +kernel
theorem dX6_init_15 : decode cX6_init 15 = .ok (.aload_n 0, 1) := by decide +kernel
theorem dX6_init_16 : decode cX6_init 16 = .ok (.new 9, 3) := by decide +kernel
theorem dX6_init_19 : decode cX6_init 19 = .ok (.dup, 1) := by decide +kernel
theorem dX6_init_20 : decode cX6_init 20 = .ok (.invokespecial 11, 3) := by decide +kernel
theorem dX6_init_23 : decode cX6_init 23 = .ok (.putfield 16, 3) := by decide +kernel
theorem dX6_init_26 : decode cX6_init 26 = .ok (.aload_n 0, 1) := by decide +kernel
theorem dX6_init_27 : decode cX6_init 27 = .ok (.new 9, 3) := by decide +kernel
theorem dX6_init_30 : decode cX6_init 30 = .ok (.dup, 1) := by decide +kernel
theorem dX6_init_31 : decode cX6_init 31 = .ok (.invokespecial 11, 3) := by decide +kernel
theorem dX6_init_34 : decode cX6_init 34 = .ok (.putfield 19, 3) := by decide +kernel
theorem dX6_init_37 : decode cX6_init 37 = .ok (.aload_n 0, 1) := by decide +kernel
theorem dX6_init_38 : decode cX6_init 38 = .ok (.bipush 8, 2) := by decide +kernel
theorem dX6_init_40 : decode cX6_init 40 = .ok (.anewarray 9, 3) := by decide +kernel
theorem dX6_init_43 : decode cX6_init 43 = .ok (.putfield 22, 3) := by decide +kernel
theorem dX6_init_46 : decode cX6_init 46 = .ok (.iconst 0, 1) := by decide +kernel
theorem dX6_init_47 : decode cX6_init 47 = .ok (.istore_n 1, 1) := by decide +kernel
theorem dX6_init_48 : decode cX6_init 48 = .ok (.iload_n 1, 1) := by decide +kernel
theorem dX6_init_49 : decode cX6_init 49 = .ok (.bipush 8, 2) := by decide +kernel
theorem dX6_init_51 : decode cX6_init 51 = .ok (.if_icmp .ge 22, 3) := by decide +kernel
theorem dX6_init_54 : decode cX6_init 54 = .ok (.aload_n 0, 1) := by decide +kernel
theorem dX6_init_55 : decode cX6_init 55 = .ok (.getfield 22, 3) := by decide +kernel
theorem dX6_init_58 : decode cX6_init 58 = .ok (.iload_n 1, 1) := by decide +kernel
theorem dX6_init_59 : decode cX6_init 59 = .ok (.new 9, 3) := by decide +kernel
theorem dX6_init_62 : decode cX6_init 62 = .ok (.dup, 1) := by decide +kernel
theorem dX6_init_63 : decode cX6_init 63 = .ok (.invokespecial 11, 3) := by decide +kernel
theorem dX6_init_66 : decode cX6_init 66 = .ok (.aastore, 1) := by decide +kernel
theorem dX6_init_67 : decode cX6_init 67 = .ok (.iinc 1 1, 3) := by decide +kernel
theorem dX6_init_70 : decode cX6_init 70 = .ok (.goto (-22), 3) := by decide +kernel
theorem dX6_init_73 : decode cX6_init 73 = .ok (.aload_n 0, 1) := by decide +kernel
theorem dX6_init_74 : decode cX6_init 74 = .ok (.new 26, 3) := by decide +kernel
theorem dX6_init_77 : decode cX6_init 77 = .ok (.dup, 1) := by decide +kernel
theorem dX6_init_78 : decode cX6_init 78 = .ok (.invokespecial 28, 3) := by decide +kernel
theorem dX6_init_81 : decode cX6_init 81 = .ok (.putfield 29, 3) := by decide +kernel
theorem dX6_init_84 : decode cX6_init 84 = .ok (.aload_n 0, 1) := by decide +kernel
theorem dX6_init_85 : decode cX6_init 85 = .ok (.new 33, 3) := by decide +kernel
theorem dX6_init_88 : decode cX6_init 88 = .ok (.dup, 1) := by decide +kernel
theorem dX6_init_89 : decode cX6_init 89 = .ok (.invokespecial 35, 3) := by decide +kernel
theorem dX6_init_92 : decode cX6_init 92 = .ok (.putfield 36, 3) := by decide +kernel
theorem dX6_init_95 : decode cX6_init 95 = .ok (.aload_n 0, 1) := by decide +kernel
theorem dX6_init_96 : decode cX6_init 96 = .ok (.new 40, 3) := by decide +kernel
theorem dX6_init_99 : decode cX6_init 99 = .ok (.dup, 1) := by decide +kernel
theorem dX6_init_100 : decode cX6_init 100 = .ok (.aload_n 0, 1) := by decide +kernel
theorem dX6_init_101 : decode cX6_init 101 = .ok (.getfield 36, 3) := by decide +kernel
theorem dX6_init_104 : decode cX6_init 104 = .ok (.invokespecial 42, 3) := by decide +kernel
theorem dX6_init_107 : decode cX6_init 107 = .ok (.putfield 45, 3) := by decide +kernel
theorem dX6_init_110 : decode cX6_init 110 = .ok (.aload_n 0, 1) := by decide +kernel
theorem dX6_init_111 : decode cX6_init 111 = .ok (.new 49, 3) := by decide +kernel
theorem dX6_init_114 : decode cX6_init 114 = .ok (.dup, 1) := by decide +kernel
theorem dX6_init_115 : decode cX6_init 115 = .ok (.aload_n 0, 1) := by decide +kernel
theorem dX6_init_116 : decode cX6_init 116 = .ok (.getfield 12, 3) := by decide +kernel
theorem dX6_init_119 : decode cX6_init 119 = .ok (.invokespecial 51, 3) := by decide +kernel
theorem dX6_init_122 : decode cX6_init 122 = .ok (.putfield 54, 3) := by decide +kernel
theorem dX6_init_125 : decode cX6_init 125 = .ok (.aload_n 0, 1) := by decide +kernel
theorem dX6_init_126 : decode cX6_init 126 = .ok (.new 49, 3) := by decide +kernel
theorem dX6_init_129 : decode cX6_init 129 = .ok (.dup, 1) := by decide +kernel
theorem dX6_init_130 : decode cX6_init 130 = .ok (.aload_n 0, 1) := by decide +kernel
theorem dX6_init_131 : decode cX6_init 131 = .ok (.getfield 12, 3) := by decide +kernel
theorem dX6_init_134 : decode cX6_init 134 = .ok (.invokespecial 51, 3) := by decide +kernel
theorem dX6_init_137 : decode cX6_init 137 = .ok (.putfield 58, 3) := by decide +kernel
theorem dX6_init_140 : decode cX6_init 140 = .ok (.aload_n 0, 1) := by decide +kernel
theorem dX6_init_141 : decode cX6_init 141 = .ok (.iconst (-1), 1) := by decide +kernel
theorem dX6_init_142 : decode cX6_init 142 = .ok (.putfield 61, 3) := by decide +kernel
theorem dX6_init_145 : decode cX6_init 145 = .ok (.return_, 1) := by decide +kernel
theorem dX7_init_0 : decode cX7_init 0 = .ok (.aload_n 0, 1) := by decide +kernel
theorem dX7_init_1 : decode cX7_init 1 = .ok (.invokespecial 1, 3) := by decide +kernel
theorem dX7_init_4 : decode cX7_init 4 = .ok (.aload_n 0, 1) := by decide +kernel
theorem dX7_init_5 : decode cX7_init 5 = .ok (.sipush 1130, 3) := by decide +kernel
theorem dX7_init_8 : decode cX7_init 8 = .ok (.newarray .int, 2) := by decide +kernel
theorem dX7_init_10 : decode cX7_init 10 = .ok (.putfield 7, 3) := by decide +kernel
theorem dX7_init_13 : decode cX7_init 13 = .ok (.aload_n 0, 1) := by decide +kernel
theorem dX7_init_14 : decode cX7_init 14 = .ok (.sipush 1130, 3) := by decide +kernel
theorem dX7_init_17 : decode cX7_init 17 = .ok (.newarray .int, 2) := by decide +kernel
theorem dX7_init_19 : decode cX7_init 19 = .ok (.putfield 13, 3) := by decide +kernel
theorem dX7_init_22 : decode cX7_init 22 = .ok (.aload_n 0, 1) := by decide +kernel
theorem dX7_init_23 : decode cX7_init 23 = .ok (.sipush 1130, 3) := by decide +kernel
theorem dX7_init_26 : decode cX7_init 26 = .ok (.newarray .int, 2) := by decide +kernel
theorem dX7_init_28 : decode cX7_init 28 = .ok (.putfield 16, 3) := by decide +kernel
theorem dX7_init_31 : decode cX7_init 31 = .ok (.aload_n 0, 1) := by decide +kernel
theorem dX7_init_32 : decode cX7_init 32 = .ok (.sipush 9040, 3) := by decide +kernel
theorem dX7_init_35 : decode cX7_init 35 = .ok (.newarray .int, 2) := by decide +kernel
theorem dX7_init_37 : decode cX7_init 37 = .ok (.putfield 19, 3) := by decide +kernel
theorem dX7_init_40 : decode cX7_init 40 = .ok (.aload_n 0, 1) := by decide +kernel
theorem dX7_init_41 : decode cX7_init 41 = .ok (.sipush 400, 3) := by decide +kernel
theorem dX7_init_44 : decode cX7_init 44 = .ok (.newarray .int, 2) := by decide +kernel
theorem dX7_init_46 : decode cX7_init 46 = .ok (.putfield 22, 3) := by decide +kernel
theorem dX7_init_49 : decode cX7_init 49 = .ok (.aload_n 0, 1) := by decide +kernel
theorem dX7_init_50 : decode cX7_init 50 = .ok (.iconst (-1), 1) := by decide +kernel
theorem dX7_init_51 : decode cX7_init 51 = .ok (.putfield 25, 3) := by decide +kernel
theorem dX7_init_54 : decode cX7_init 54 = .ok (.aload_n 0, 1) := by decide +kernel
theorem dX7_init_55 : decode cX7_init 55 = .ok (.bipush 94, 2) := by decide +kernel
theorem dX7_init_57 : decode cX7_init 57 = .ok (.newarray .int, 2) := by decide +kernel
theorem dX7_init_59 : decode cX7_init 59 = .ok (.putfield 29, 3) := by decide +kernel
theorem dX7_init_62 : decode cX7_init 62 = .ok (.aload_n 0, 1) := by decide +kernel
theorem dX7_init_63 : decode cX7_init 63 = .ok (.bipush 40, 2) := by decide +kernel
theorem dX7_init_65 : decode cX7_init 65 = .ok (.newarray .int, 2) := by decide +kernel
theorem dX7_init_67 : decode cX7_init 67 = .ok (.putfield 32, 3) := by decide +kernel
theorem dX7_init_70 : decode cX7_init 70 = .ok (.aload_n 0, 1) := by decide +kernel
theorem dX7_init_71 : decode cX7_init 71 = .ok (.bipush 40, 2) := by decide +kernel
theorem dX7_init_73 : decode cX7_init 73 = .ok (.newarray .int, 2) := by decide +kernel
theorem dX7_init_75 : decode cX7_init 75 = .ok (.putfield 35, 3) := by decide +kernel
theorem dX7_init_78 : decode cX7_init 78 = .ok (.aload_n 0, 1) := by decide +kernel
theorem dX7_init_79 : decode cX7_init 79 = .ok (.bipush 8, 2) := by decide +kernel
theorem dX7_init_81 : decode cX7_init 81 = .ok (.newarray .int, 2) := by decide +kernel
theorem dX7_init_83 : decode cX7_init 83 = .ok (.putfield 38, 3) := by decide +kernel
theorem dX7_init_86 : decode cX7_init 86 = .ok (.aload_n 0, 1) := by decide +kernel
theorem dX7_init_87 : decode cX7_init 87 = .ok (.bipush 8, 2) := by decide +kernel
theorem dX7_init_89 : decode cX7_init 89 = .ok (.newarray .int, 2) := by decide +kernel
theorem dX7_init_91 : decode cX7_init 91 = .ok (.putfield 41, 3) := by decide +kernel
theorem dX7_init_94 : decode cX7_init 94 = .ok (.aload_n 0, 1) := by decide +kernel
theorem dX7_init_95 : decode cX7_init 95 = .ok (.bipush 60, 2) := by decide +kernel
theorem dX7_init_97 : decode cX7_init 97 = .ok (.putfield 44, 3) := by decide +kernel
theorem dX7_init_100 : decode cX7_init 100 = .ok (.aload_n 0, 1) := by decide +kernel
theorem dX7_init_101 : decode cX7_init 101 = .ok (.bipush 23, 2) := by decide +kernel
theorem dX7_init_103 : decode cX7_init 103 = .ok (.newarray .int, 2) := by decide +kernel
theorem dX7_init_105 : decode cX7_init 105 = .ok (.putfield 47, 3) := by decide +kernel
theorem dX7_init_108 : decode cX7_init 108 = .ok (.aload_n 0, 1) := by decide +kernel
theorem dX7_init_109 : decode cX7_init 109 = .ok (.bipush 60, 2) := by decide +kernel
theorem dX7_init_111 : decode cX7_init 111 = .ok (.newarray .int, 2) := by decide +kernel
theorem dX7_init_113 : decode cX7_init 113 = .ok (.putfield 50, 3) := by decide +kernel
theorem dX7_init_116 : decode cX7_init 116 = .ok (.aload_n 0, 1) := by decide +kernel
theorem dX7_init_117 : decode cX7_init 117 = .ok (.sipush 1000, 3) := by decide +kernel
theorem dX7_init_120 : decode cX7_init 120 = .ok (.newarray .int, 2) := by decide +kernel
theorem dX7_init_122 : decode cX7_init 122 = .ok (.putfield 53, 3) := by decide +kernel
theorem dX7_init_125 : decode cX7_init 125 = .ok (.aload_n 0, 1) := by decide +kernel
theorem dX7_init_126 : decode cX7_init 126 = .ok (.sipush 1000, 3) := by decide +kernel
theorem dX7_init_129 : decode cX7_init 129 = .ok (.newarray .int, 2) := by decide +kernel
theorem dX7_init_131 : decode cX7_init 131 = .ok (.putfield 56, 3) := by decide +kernel
theorem dX7_init_134 : decode cX7_init 134 = .ok (.aload_n 0, 1) := by decide +kernel
theorem dX7_init_135 : decode cX7_init 135 = .ok (.bipush 8, 2) := by decide +kernel
theorem dX7_init_137 : decode cX7_init 137 = .ok (.newarray .int, 2) := by decide +kernel
theorem dX7_init_139 : decode cX7_init 139 = .ok (.putfield 59, 3) := by decide +kernel
theorem dX7_init_142 : decode cX7_init 142 = .ok (.aload_n 0, 1) := by decide +kernel
theorem dX7_init_143 : decode cX7_init 143 = .ok (.invokevirtual 62, 3) := by decide +kernel
theorem dX7_init_146 : decode cX7_init 146 = .ok (.return_, 1) := by decide +kernel
theorem dX7_begins_0 : decode cX7_begins 0 = .ok (.aload_n 0, 1) := by decide +kernel
theorem dX7_begins_1 : decode cX7_begins 1 = .ok (.iconst 0, 1) := by decide +kernel
theorem dX7_begins_2 : decode cX7_begins 2 = .ok (.putfield 68, 3) := by decide +kernel
theorem dX7_begins_5 : decode cX7_begins 5 = .ok (.return_, 1) := by decide +kernel
def kc_d1 : DecidableEq (Nat × List (Nat × Nat × Int)) := inferInstance
def kc_d2 : DecidableEq (Nat × Nat × List (Nat × Nat × Int)) := @instDecidableEqProd _ _ _ kc_d1
def kc_d3 : DecidableEq (Nat × Nat × Nat × List (Nat × Nat × Int)) := @instDecidableEqProd _ _ _ kc_d2
def kc_dl : DecidableEq (List ke_C) := @instDecidableEqList _ kc_d3
def kc_do : DecidableEq (Option ke_C) := by
  have h : DecidableEq ke_C := kc_d3
  exact inferInstance
theorem kc_el {a b : List ke_C} (h : @decide (a = b) (kc_dl a b) = true) : a = b := @of_decide_eq_true _ (kc_dl a b) h
theorem kc_eo {a b : Option ke_C} (h : @decide (a = b) (kc_do a b) = true) : a = b := @of_decide_eq_true _ (kc_do a b) h
def kc_M (a : Nat) : List ke_C := (2, 4, 8, (List.range 8).map (fun q => (1, a + 1 + q, 0))) :: List.replicate 8 (0, 0, 121, [])
theorem kc_g {cd : Cond} (h : cd ∈ fx_T0) : GoodIn fx_T0 (cd :: fx_T0) := by
  intro w hw
  rcases List.mem_cons.mp hw with rfl | hw
  · exact fx_T0_good _ h
  · exact fx_T0_good _ hw
theorem kc_rt2 {D : va_G} {cy : Nat → ClassId} {s : State} (hK : ke_K D cy s) : s.vm.findClass ("[" ++ (FieldType.object "FactLines$Rule").toString) = some (cy 2) := by
  obtain ⟨kA, comp, -, -, -, h⟩ := (hK.1.2 2 _ rfl).2
  exact h
theorem kc_rt3 {D : va_G} {cy : Nat → ClassId} {s : State} (hK : ke_K D cy s) : s.vm.findClass ("[" ++ (FieldType.object "FactLines$State").toString) = some (cy 3) := by
  obtain ⟨kA, comp, -, -, -, h⟩ := (hK.1.2 3 _ rfl).2
  exact h
section KEW
variable {p : Program} {l : Launch} {e : Env} {R : Room} {s : State} {m : MethodId} {args : Array Value} {below : List Frame} {meth : Method} {c : Code} {H : Heap} {locs : List Loc} {cells slots : Nat} {Q : State → Prop}
variable {cc : ByteArray} {pc : Nat} {ls : Array Slot} {rest : List Value} {D : va_G} {cy : Nat → ClassId} {B o : Nat} {H0 : Heap} {cs : List ke_C}
/-- a method of an object that has come, over all that has come with it -/
theorem ke_callW {cs' : List ke_C} {mc ms : Nat} {a : Array Value} {st0 : List Value} (h : ke_W D cy B H0 o cs H locs) (hr : va_Run p l e R s m args below meth c H locs cells slots mc ms (F0 m pc ls st0) rest (ke_Qc D cy B o cs' a) (fun q => B + o ≤ q))
    (kk : ∀ (H1 : Heap) (locs1 : List Loc), ke_W D cy B H0 o cs' H1 locs1 → W p l e R s m args below meth c H1 locs1 (cells + mc) (slots + ms) Q (F0 m (pc + 3) ls rest)) : W p l e R s m args below meth c H locs cells slots Q (F0 m pc ls st0) := by
  refine va_callv hr h.1 (fun q _ h9 => h9) (fun q h9 => h9) (fun u t H1 locs1 ht hvm hw hB hz1 hk1 hS1 => kk H1 locs1 ⟨hS1, by rw [← ht]; exact hB.1, fun j k hj => by rw [← ht]; exact hB.2 j k hj⟩)
theorem ke_preV {X : Nat} {fs : List (Nat × Nat × Int)} (hK : ke_K D cy s) (h : ke_W D cy B H0 o cs H locs) (hX : X < 8) (hi : cs[0]? = some (1, X, 0, fs)) : PreV s H (fx_cls X) (B + o) (va_Pc [.ref (B + o)] (fun U => (U.heap.size = B + (o + cs.length) ∧ ∀ (j : Nat) (k : ke_C), cs[j]? = some k → va_at D vwCl (B + (o + j), ke_e cy B k) U.heap) ∧ ke_K D cy U)) [] := by
  refine ⟨fun a U g mk h => ⟨h.1, h.2.1, h.2.2.warm (U := U.calling g mk a) (State.WarmedH.refl U)⟩, ?_, fun U hU hW => ⟨rfl, ⟨by rw [hU]; exact h.2.1, fun j k hj => by rw [hU]; exact h.2.2 j k hj⟩, hK.warm hW⟩⟩
  obtain ⟨r, h1, cell, q1, q2, q3, q4⟩ := h.2.2 0 _ hi
  exact ⟨cell, q1, by rw [q3]; rfl, by rw [q2]; exact (hK.1.1 X _ (fx_vw X hX)).2.1⟩
end KEW
section KC
variable (l : Launch) (D : va_G) (cy : Nat → ClassId) (B : Nat)
/-- what FactLines$Rule() makes -/
def kc_L3 (p : Nat) : List ke_C := [(1, 3, 0, [(1, (p + 1), 0), (1, (p + 2), 0), (1, (p + 3), 0), (0, 0, 0), (0, 0, 0), (0, 0, 0)]), (0, 0, 23, []), (0, 0, 23, []), (0, 0, 23, [])]
set_option maxRecDepth 100000 in
theorem kc_X3 (p : Nat) : Met l yX3_init (.code yX3_init cX3_init 1 none :: fx_T0) ({ frames := 1, cells := 3, slots := 69, locals := 12 } : Room) (ke_Pc D cy B p (1, 3, 0, kc_z3) []) (ke_Qc D cy B p (kc_L3 p)) 3 69 (fun q => B + p ≤ q) := by
  refine Met.ofW (cc := cX3_init) (maxL := 1) (ret := none) (by decide) rfl ?_
  intro p0 e s m args below meth c s₁ Bd hml hv
  obtain ⟨rfl, hsz, hz, hK⟩ := hv
  have hx := Bd.exec
  have hb := Bd.bytes
  have hr := Bd.returns
  have hlocks := Bd.notSynchronized
  have hts0 := atoms_spec (ws := .code yX3_init cX3_init 1 none :: fx_T0) Bd.pre
  have hts : ∀ w ∈ fx_T0, w.before ([.ref (B + p)] : List Value).toArray s = true := fun w h => hts0 w (List.mem_cons_of_mem _ h)
  have hown : s.vm.findClass RX3 = some m.cls := findClass_of_methodNamed Bd.named
  have hin := (name_of_methodNamed Bd.named Bd.method).1
  have hl := lv_entry ([.ref (B + p)]) (n := 1) (Nat.le_of_ble_eq_true rfl)
  rw [lg_entry_eq]
  generalize (lg_sl ([.ref (B + p)]) ++ List.replicate (1 - (lg_sl ([.ref (B + p)])).length) Slot.unset).toArray = ls at hl ⊢
  have hl : lv_has ls 1 [(0, .ref (B + p))] := hl
  have h : ke_W D cy B s.heap p [(1, 3, 0, kc_z3)] s.heap [] := ke_start hsz hz
  refine lv_aload_n hx hb dX3_init_0 rfl (lv_at hl 0 rfl) ?_
  refine W.objInit hx hb hown (hts _ (kc_at 1 rfl)) (hts _ (kc_at 2 rfl)) (hts _ (kc_at 3 rfl)) rfl (by rw [hml]; exact hl.1) rfl dX3_init_1 (Nat.le_of_ble_eq_true rfl) (Nat.le_of_ble_eq_true rfl) ?_
  refine W.eq (g2 := F0 m 4 ls []) rfl ?_
  refine lv_aload_n hx hb dX3_init_4 rfl (lv_at hl 0 rfl) ?_
  refine lv_bipush (v := 23) hx hb dX3_init_5 (by decide) ?_
  refine ke_newa (atype := .int) (t := 0) (N := 23) (n := 1) hx hb (hts _ (kc_at 4 rfl)) (hK.1.2 0 _ rfl).2 rfl h (by decide) (by decide) (by decide) rfl (Nat.le_of_ble_eq_true rfl) (Nat.le_of_ble_eq_true rfl) dX3_init_7 (fun H1 h => ?_)
  refine ke_put (X := 3) (index := 9) (i := 0) (k := 0) (fs := [(2, 0, 0), (2, 0, 0), (2, 0, 0), (0, 0, 0), (0, 0, 0), (0, 0, 0)]) (v := (1, (p + 1), 0)) (ty := tyX3 0) (cs' := [(1, 3, 0, [(1, (p + 1), 0), (2, 0, 0), (2, 0, 0), (0, 0, 0), (0, 0, 0), (0, 0, 0)]), (0, 0, 23, [])]) hx hb hts (by decide) hown (Or.inl hin) hK h rfl (by decide) (Nat.le_of_ble_eq_true rfl) (hts _ (kc_at 5 rfl)) (tyX3_ok 0 (by decide)) rfl rfl rfl dX3_init_9 (fun H1 locs1 h => ?_)
  refine lv_aload_n hx hb dX3_init_12 rfl (lv_at hl 0 rfl) ?_
  refine lv_bipush (v := 23) hx hb dX3_init_13 (by decide) ?_
  refine ke_newa (atype := .int) (t := 0) (N := 23) (n := 2) hx hb (hts _ (kc_at 4 rfl)) (hK.1.2 0 _ rfl).2 rfl h (by decide) (by decide) (by decide) rfl (Nat.le_of_ble_eq_true rfl) (Nat.le_of_ble_eq_true rfl) dX3_init_15 (fun H1 h => ?_)
  refine ke_put (X := 3) (index := 15) (i := 0) (k := 1) (fs := [(1, (p + 1), 0), (2, 0, 0), (2, 0, 0), (0, 0, 0), (0, 0, 0), (0, 0, 0)]) (v := (1, (p + 2), 0)) (ty := tyX3 1) (cs' := [(1, 3, 0, [(1, (p + 1), 0), (1, (p + 2), 0), (2, 0, 0), (0, 0, 0), (0, 0, 0), (0, 0, 0)]), (0, 0, 23, []), (0, 0, 23, [])]) hx hb hts (by decide) hown (Or.inl hin) hK h rfl (by decide) (Nat.le_of_ble_eq_true rfl) (hts _ (kc_at 6 rfl)) (tyX3_ok 1 (by decide)) rfl rfl rfl dX3_init_17 (fun H1 locs1 h => ?_)
  refine lv_aload_n hx hb dX3_init_20 rfl (lv_at hl 0 rfl) ?_
  refine lv_bipush (v := 23) hx hb dX3_init_21 (by decide) ?_
  refine ke_newa (atype := .int) (t := 0) (N := 23) (n := 3) hx hb (hts _ (kc_at 4 rfl)) (hK.1.2 0 _ rfl).2 rfl h (by decide) (by decide) (by decide) rfl (Nat.le_of_ble_eq_true rfl) (Nat.le_of_ble_eq_true rfl) dX3_init_23 (fun H1 h => ?_)
  refine ke_put (X := 3) (index := 18) (i := 0) (k := 2) (fs := [(1, (p + 1), 0), (1, (p + 2), 0), (2, 0, 0), (0, 0, 0), (0, 0, 0), (0, 0, 0)]) (v := (1, (p + 3), 0)) (ty := tyX3 2) (cs' := [(1, 3, 0, [(1, (p + 1), 0), (1, (p + 2), 0), (1, (p + 3), 0), (0, 0, 0), (0, 0, 0), (0, 0, 0)]), (0, 0, 23, []), (0, 0, 23, []), (0, 0, 23, [])]) hx hb hts (by decide) hown (Or.inl hin) hK h rfl (by decide) (Nat.le_of_ble_eq_true rfl) (hts _ (kc_at 7 rfl)) (tyX3_ok 2 (by decide)) rfl rfl rfl dX3_init_25 (fun H1 locs1 h => ?_)
  exact W.vret hx hb hr (fun t ht hW => ke_end h ht) h.1.2.2 dX3_init_28
/-- what FactLines$Act() makes -/
def kc_L0 (p : Nat) : List ke_C := [(1, 0, 0, [(1, (p + 1), 0), (1, (p + 2), 0), (0, 0, 0), (0, 0, 0)]), (0, 0, 5, [])] ++ kc_L3 (p + 2)
set_option maxRecDepth 100000 in
theorem kc_X0 (p : Nat) : Met l yX0_init (.code yX0_init cX0_init 1 none :: fx_T0) ({ frames := 2, cells := 5, slots := 80, locals := 32 } : Room) (ke_Pc D cy B p (1, 0, 0, kc_z0) []) (ke_Qc D cy B p (kc_L0 p)) 5 80 (fun q => B + p ≤ q) := by
  refine Met.ofW (cc := cX0_init) (maxL := 1) (ret := none) (by decide) rfl ?_
  intro p0 e s m args below meth c s₁ Bd hml hv
  obtain ⟨rfl, hsz, hz, hK⟩ := hv
  have hx := Bd.exec
  have hb := Bd.bytes
  have hr := Bd.returns
  have hlocks := Bd.notSynchronized
  have hts0 := atoms_spec (ws := .code yX0_init cX0_init 1 none :: fx_T0) Bd.pre
  have hts : ∀ w ∈ fx_T0, w.before ([.ref (B + p)] : List Value).toArray s = true := fun w h => hts0 w (List.mem_cons_of_mem _ h)
  have hown : s.vm.findClass RX0 = some m.cls := findClass_of_methodNamed Bd.named
  have hin := (name_of_methodNamed Bd.named Bd.method).1
  have hl := lv_entry ([.ref (B + p)]) (n := 1) (Nat.le_of_ble_eq_true rfl)
  rw [lg_entry_eq]
  generalize (lg_sl ([.ref (B + p)]) ++ List.replicate (1 - (lg_sl ([.ref (B + p)])).length) Slot.unset).toArray = ls at hl ⊢
  have hl : lv_has ls 1 [(0, .ref (B + p))] := hl
  have h : ke_W D cy B s.heap p [(1, 0, 0, kc_z0)] s.heap [] := ke_start hsz hz
  refine lv_aload_n hx hb dX0_init_0 rfl (lv_at hl 0 rfl) ?_
  refine W.objInit hx hb hown (hts _ (kc_at 8 rfl)) (hts _ (kc_at 2 rfl)) (hts _ (kc_at 3 rfl)) rfl (by rw [hml]; exact hl.1) rfl dX0_init_1 (Nat.le_of_ble_eq_true rfl) (Nat.le_of_ble_eq_true rfl) ?_
  refine W.eq (g2 := F0 m 4 ls []) rfl ?_
  refine lv_aload_n hx hb dX0_init_4 rfl (lv_at hl 0 rfl) ?_
  refine lv_iconst (v := 5) hx hb dX0_init_5 (by decide) ?_
  refine ke_newa (atype := .int) (t := 0) (N := 5) (n := 1) hx hb (hts _ (kc_at 4 rfl)) (hK.1.2 0 _ rfl).2 rfl h (by decide) (by decide) (by decide) rfl (Nat.le_of_ble_eq_true rfl) (Nat.le_of_ble_eq_true rfl) dX0_init_6 (fun H1 h => ?_)
  refine ke_put (X := 0) (index := 7) (i := 0) (k := 0) (fs := [(2, 0, 0), (2, 0, 0), (0, 0, 0), (0, 0, 0)]) (v := (1, (p + 1), 0)) (ty := tyX0 0) (cs' := [(1, 0, 0, [(1, (p + 1), 0), (2, 0, 0), (0, 0, 0), (0, 0, 0)]), (0, 0, 5, [])]) hx hb hts (by decide) hown (Or.inl hin) hK h rfl (by decide) (Nat.le_of_ble_eq_true rfl) (hts _ (kc_at 9 rfl)) (tyX0_ok 0 (by decide)) rfl rfl rfl dX0_init_8 (fun H1 locs1 h => ?_)
  refine lv_aload_n hx hb dX0_init_11 rfl (lv_at hl 0 rfl) ?_
  refine ke_new (X0 := 0) (X := 3) (index := 13) (zs := kc_z3) (n := 2) hx hb hts (by decide) hown (hts _ (kc_at 10 rfl)) (hts _ (kc_at 11 rfl)) (hts _ (kc_at 12 rfl)) hK h tyX3 tyX3_ok (kc_z3_ok B) rfl (Nat.le_of_ble_eq_true rfl) (Nat.le_of_ble_eq_true rfl) dX0_init_12 (fun H1 h => ?_)
  refine lv_dup hx hb dX0_init_15 rfl ?_
  refine ke_call (cs' := kc_L3 (p + 2)) (z := (1, 3, 0, kc_z3)) (n := 2) h rfl (va_runIN (As := []) (rest := [.ref (B + (p + 2)), .ref (B + p)]) ⟨hx, hb, hml, hown, hts⟩ (kc_X3 l D cy B (p + 2)) ⟨va_cnB 0 hts (kc_g (kc_at 13 rfl)) rfl rfl rfl (hK.2.1 _ (List.mem_of_getElem? (i := 1) rfl)) (hts _ (kc_at 12 rfl)) (by decide +kernel) ⟨(Nat.le_of_ble_eq_true rfl), (Nat.le_of_ble_eq_true rfl)⟩, rfl, (hts _ (kc_at 14 rfl))⟩ (ke_pre hK h rfl) rfl rfl hl.1 rfl (lv_room (Nat.le_of_ble_eq_true rfl)) dX0_init_16 ⟨(Nat.le_of_ble_eq_true rfl), (Nat.le_of_ble_eq_true rfl)⟩) (fun H1 locs1 h => ?_)
  refine ke_put (X := 0) (index := 16) (i := 0) (k := 1) (fs := [(1, (p + 1), 0), (2, 0, 0), (0, 0, 0), (0, 0, 0)]) (v := (1, (p + 2), 0)) (ty := tyX0 1) (cs' := [(1, 0, 0, [(1, (p + 1), 0), (1, (p + 2), 0), (0, 0, 0), (0, 0, 0)]), (0, 0, 5, [])] ++ kc_L3 (p + 2)) hx hb hts (by decide) hown (Or.inl hin) hK h rfl (by decide) (Nat.le_of_ble_eq_true rfl) (hts _ (kc_at 15 rfl)) (tyX0_ok 1 (by decide)) rfl rfl rfl dX0_init_19 (fun H1 locs1 h => ?_)
  exact W.vret hx hb hr (fun t ht hW => ke_end h ht) h.1.2.2 dX0_init_22
/-- what FactLines$Tape() makes -/
def kc_L5 (p : Nat) : List ke_C := [(1, 5, 0, [(1, (p + 1), 0), (1, (p + 2), 0), (1, (p + 3), 0), (1, (p + 4), 0), (0, 0, 0), (0, 0, 0)]), (0, 0, 400, []), (0, 0, 401, []), (0, 0, 401, []), (0, 0, 401, [])]
set_option maxRecDepth 100000 in
theorem kc_X5 (p : Nat) : Met l yX5_init (.code yX5_init cX5_init 1 none :: fx_T0) ({ frames := 1, cells := 4, slots := 1603, locals := 12 } : Room) (ke_Pc D cy B p (1, 5, 0, kc_z5) []) (ke_Qc D cy B p (kc_L5 p)) 4 1603 (fun q => B + p ≤ q) := by
  refine Met.ofW (cc := cX5_init) (maxL := 1) (ret := none) (by decide) rfl ?_
  intro p0 e s m args below meth c s₁ Bd hml hv
  obtain ⟨rfl, hsz, hz, hK⟩ := hv
  have hx := Bd.exec
  have hb := Bd.bytes
  have hr := Bd.returns
  have hlocks := Bd.notSynchronized
  have hts0 := atoms_spec (ws := .code yX5_init cX5_init 1 none :: fx_T0) Bd.pre
  have hts : ∀ w ∈ fx_T0, w.before ([.ref (B + p)] : List Value).toArray s = true := fun w h => hts0 w (List.mem_cons_of_mem _ h)
  have hown : s.vm.findClass RX5 = some m.cls := findClass_of_methodNamed Bd.named
  have hin := (name_of_methodNamed Bd.named Bd.method).1
  have hl := lv_entry ([.ref (B + p)]) (n := 1) (Nat.le_of_ble_eq_true rfl)
  rw [lg_entry_eq]
  generalize (lg_sl ([.ref (B + p)]) ++ List.replicate (1 - (lg_sl ([.ref (B + p)])).length) Slot.unset).toArray = ls at hl ⊢
  have hl : lv_has ls 1 [(0, .ref (B + p))] := hl
  have h : ke_W D cy B s.heap p [(1, 5, 0, kc_z5)] s.heap [] := ke_start hsz hz
  refine lv_aload_n hx hb dX5_init_0 rfl (lv_at hl 0 rfl) ?_
  refine W.objInit hx hb hown (hts _ (kc_at 16 rfl)) (hts _ (kc_at 2 rfl)) (hts _ (kc_at 3 rfl)) rfl (by rw [hml]; exact hl.1) rfl dX5_init_1 (Nat.le_of_ble_eq_true rfl) (Nat.le_of_ble_eq_true rfl) ?_
  refine W.eq (g2 := F0 m 4 ls []) rfl ?_
  refine lv_aload_n hx hb dX5_init_4 rfl (lv_at hl 0 rfl) ?_
  refine lv_sipush (v := 400) hx hb dX5_init_5 (by decide) ?_
  refine ke_newa (atype := .int) (t := 0) (N := 400) (n := 1) hx hb (hts _ (kc_at 4 rfl)) (hK.1.2 0 _ rfl).2 rfl h (by decide) (by decide) (by decide) rfl (Nat.le_of_ble_eq_true rfl) (Nat.le_of_ble_eq_true rfl) dX5_init_8 (fun H1 h => ?_)
  refine ke_put (X := 5) (index := 9) (i := 0) (k := 0) (fs := [(2, 0, 0), (2, 0, 0), (2, 0, 0), (2, 0, 0), (0, 0, 0), (0, 0, 0)]) (v := (1, (p + 1), 0)) (ty := tyX5 0) (cs' := [(1, 5, 0, [(1, (p + 1), 0), (2, 0, 0), (2, 0, 0), (2, 0, 0), (0, 0, 0), (0, 0, 0)]), (0, 0, 400, [])]) hx hb hts (by decide) hown (Or.inl hin) hK h rfl (by decide) (Nat.le_of_ble_eq_true rfl) (hts _ (kc_at 17 rfl)) (tyX5_ok 0 (by decide)) rfl rfl rfl dX5_init_10 (fun H1 locs1 h => ?_)
  refine lv_aload_n hx hb dX5_init_13 rfl (lv_at hl 0 rfl) ?_
  refine lv_sipush (v := 401) hx hb dX5_init_14 (by decide) ?_
  refine ke_newa (atype := .int) (t := 0) (N := 401) (n := 2) hx hb (hts _ (kc_at 4 rfl)) (hK.1.2 0 _ rfl).2 rfl h (by decide) (by decide) (by decide) rfl (Nat.le_of_ble_eq_true rfl) (Nat.le_of_ble_eq_true rfl) dX5_init_17 (fun H1 h => ?_)
  refine ke_put (X := 5) (index := 15) (i := 0) (k := 1) (fs := [(1, (p + 1), 0), (2, 0, 0), (2, 0, 0), (2, 0, 0), (0, 0, 0), (0, 0, 0)]) (v := (1, (p + 2), 0)) (ty := tyX5 1) (cs' := [(1, 5, 0, [(1, (p + 1), 0), (1, (p + 2), 0), (2, 0, 0), (2, 0, 0), (0, 0, 0), (0, 0, 0)]), (0, 0, 400, []), (0, 0, 401, [])]) hx hb hts (by decide) hown (Or.inl hin) hK h rfl (by decide) (Nat.le_of_ble_eq_true rfl) (hts _ (kc_at 18 rfl)) (tyX5_ok 1 (by decide)) rfl rfl rfl dX5_init_19 (fun H1 locs1 h => ?_)
  refine lv_aload_n hx hb dX5_init_22 rfl (lv_at hl 0 rfl) ?_
  refine lv_sipush (v := 401) hx hb dX5_init_23 (by decide) ?_
  refine ke_newa (atype := .int) (t := 0) (N := 401) (n := 3) hx hb (hts _ (kc_at 4 rfl)) (hK.1.2 0 _ rfl).2 rfl h (by decide) (by decide) (by decide) rfl (Nat.le_of_ble_eq_true rfl) (Nat.le_of_ble_eq_true rfl) dX5_init_26 (fun H1 h => ?_)
  refine ke_put (X := 5) (index := 18) (i := 0) (k := 2) (fs := [(1, (p + 1), 0), (1, (p + 2), 0), (2, 0, 0), (2, 0, 0), (0, 0, 0), (0, 0, 0)]) (v := (1, (p + 3), 0)) (ty := tyX5 2) (cs' := [(1, 5, 0, [(1, (p + 1), 0), (1, (p + 2), 0), (1, (p + 3), 0), (2, 0, 0), (0, 0, 0), (0, 0, 0)]), (0, 0, 400, []), (0, 0, 401, []), (0, 0, 401, [])]) hx hb hts (by decide) hown (Or.inl hin) hK h rfl (by decide) (Nat.le_of_ble_eq_true rfl) (hts _ (kc_at 19 rfl)) (tyX5_ok 2 (by decide)) rfl rfl rfl dX5_init_28 (fun H1 locs1 h => ?_)
  refine lv_aload_n hx hb dX5_init_31 rfl (lv_at hl 0 rfl) ?_
  refine lv_sipush (v := 401) hx hb dX5_init_32 (by decide) ?_
  refine ke_newa (atype := .int) (t := 0) (N := 401) (n := 4) hx hb (hts _ (kc_at 4 rfl)) (hK.1.2 0 _ rfl).2 rfl h (by decide) (by decide) (by decide) rfl (Nat.le_of_ble_eq_true rfl) (Nat.le_of_ble_eq_true rfl) dX5_init_35 (fun H1 h => ?_)
  refine ke_put (X := 5) (index := 21) (i := 0) (k := 3) (fs := [(1, (p + 1), 0), (1, (p + 2), 0), (1, (p + 3), 0), (2, 0, 0), (0, 0, 0), (0, 0, 0)]) (v := (1, (p + 4), 0)) (ty := tyX5 3) (cs' := [(1, 5, 0, [(1, (p + 1), 0), (1, (p + 2), 0), (1, (p + 3), 0), (1, (p + 4), 0), (0, 0, 0), (0, 0, 0)]), (0, 0, 400, []), (0, 0, 401, []), (0, 0, 401, []), (0, 0, 401, [])]) hx hb hts (by decide) hown (Or.inl hin) hK h rfl (by decide) (Nat.le_of_ble_eq_true rfl) (hts _ (kc_at 20 rfl)) (tyX5_ok 3 (by decide)) rfl rfl rfl dX5_init_37 (fun H1 locs1 h => ?_)
  exact W.vret hx hb hr (fun t ht hW => ke_end h ht) h.1.2.2 dX5_init_40
/-- what FactLines$State() makes -/
def kc_L4 (p : Nat) : List ke_C := [(1, 4, 0, [(1, (p + 1), 0), (1, (p + 2), 0), (1, (p + 3), 0), (1, (p + 4), 0), (1, (p + 5), 0), (1, (p + 6), 0), (1, (p + 7), 0), (1, (p + 8), 0), (1, (p + 9), 0), (0, 0, 0), (0, 0, 0)]), (0, 0, 8, []), (0, 1, 8, []), (0, 0, 60, []), (0, 0, 60, []), (0, 0, 60, []), (0, 0, 60, []), (0, 0, 60, []), (0, 1, 60, []), (2, 2, 8, [(1, p + 10, 0), (1, p + 14, 0), (1, p + 18, 0), (1, p + 22, 0), (1, p + 26, 0), (1, p + 30, 0), (1, p + 34, 0), (1, p + 38, 0)])] ++ kc_L3 (p + 10) ++ kc_L3 (p + 14) ++ kc_L3 (p + 18) ++ kc_L3 (p + 22) ++ kc_L3 (p + 26) ++ kc_L3 (p + 30) ++ kc_L3 (p + 34) ++ kc_L3 (p + 38)
set_option maxRecDepth 100000 in
theorem kc_X4 (p : Nat) : Met l yX4_init (.code yX4_init cX4_init 2 none :: fx_T0) ({ frames := 2, cells := 41, slots := 984, locals := 32 } : Room) (ke_Pc D cy B p (1, 4, 0, kc_z4) []) (ke_Qc D cy B p (kc_L4 p)) 41 984 (fun q => B + p ≤ q) := by
  refine Met.ofW (cc := cX4_init) (maxL := 2) (ret := none) (by decide) rfl ?_
  intro p0 e s m args below meth c s₁ Bd hml hv
  obtain ⟨rfl, hsz, hz, hK⟩ := hv
  have hx := Bd.exec
  have hb := Bd.bytes
  have hr := Bd.returns
  have hlocks := Bd.notSynchronized
  have hts0 := atoms_spec (ws := .code yX4_init cX4_init 2 none :: fx_T0) Bd.pre
  have hts : ∀ w ∈ fx_T0, w.before ([.ref (B + p)] : List Value).toArray s = true := fun w h => hts0 w (List.mem_cons_of_mem _ h)
  have hown : s.vm.findClass RX4 = some m.cls := findClass_of_methodNamed Bd.named
  have hin := (name_of_methodNamed Bd.named Bd.method).1
  have hl := lv_entry ([.ref (B + p)]) (n := 2) (Nat.le_of_ble_eq_true rfl)
  rw [lg_entry_eq]
  generalize (lg_sl ([.ref (B + p)]) ++ List.replicate (2 - (lg_sl ([.ref (B + p)])).length) Slot.unset).toArray = ls at hl ⊢
  have hl : lv_has ls 2 [(0, .ref (B + p))] := hl
  have h : ke_W D cy B s.heap p [(1, 4, 0, kc_z4)] s.heap [] := ke_start hsz hz
  refine lv_aload_n hx hb dX4_init_0 rfl (lv_at hl 0 rfl) ?_
  refine W.objInit hx hb hown (hts _ (kc_at 21 rfl)) (hts _ (kc_at 2 rfl)) (hts _ (kc_at 3 rfl)) rfl (by rw [hml]; exact hl.1) rfl dX4_init_1 (Nat.le_of_ble_eq_true rfl) (Nat.le_of_ble_eq_true rfl) ?_
  refine W.eq (g2 := F0 m 4 ls []) rfl ?_
  refine lv_aload_n hx hb dX4_init_4 rfl (lv_at hl 0 rfl) ?_
  refine lv_bipush (v := 8) hx hb dX4_init_5 (by decide) ?_
  refine ke_newa (atype := .int) (t := 0) (N := 8) (n := 1) hx hb (hts _ (kc_at 4 rfl)) (hK.1.2 0 _ rfl).2 rfl h (by decide) (by decide) (by decide) rfl (Nat.le_of_ble_eq_true rfl) (Nat.le_of_ble_eq_true rfl) dX4_init_7 (fun H1 h => ?_)
  refine ke_put (X := 4) (index := 9) (i := 0) (k := 0) (fs := [(2, 0, 0), (2, 0, 0), (2, 0, 0), (2, 0, 0), (2, 0, 0), (2, 0, 0), (2, 0, 0), (2, 0, 0), (2, 0, 0), (0, 0, 0), (0, 0, 0)]) (v := (1, (p + 1), 0)) (ty := tyX4 0) (cs' := [(1, 4, 0, [(1, (p + 1), 0), (2, 0, 0), (2, 0, 0), (2, 0, 0), (2, 0, 0), (2, 0, 0), (2, 0, 0), (2, 0, 0), (2, 0, 0), (0, 0, 0), (0, 0, 0)]), (0, 0, 8, [])]) hx hb hts (by decide) hown (Or.inl hin) hK h rfl (by decide) (Nat.le_of_ble_eq_true rfl) (hts _ (kc_at 22 rfl)) (tyX4_ok 0 (by decide)) rfl rfl rfl dX4_init_9 (fun H1 locs1 h => ?_)
  refine lv_aload_n hx hb dX4_init_12 rfl (lv_at hl 0 rfl) ?_
  refine lv_bipush (v := 8) hx hb dX4_init_13 (by decide) ?_
  refine ke_newa (atype := .boolean) (t := 1) (N := 8) (n := 2) hx hb (hts _ (kc_at 23 rfl)) (hK.1.2 1 _ rfl).2 rfl h (by decide) (by decide) (by decide) rfl (Nat.le_of_ble_eq_true rfl) (Nat.le_of_ble_eq_true rfl) dX4_init_15 (fun H1 h => ?_)
  refine ke_put (X := 4) (index := 15) (i := 0) (k := 1) (fs := [(1, (p + 1), 0), (2, 0, 0), (2, 0, 0), (2, 0, 0), (2, 0, 0), (2, 0, 0), (2, 0, 0), (2, 0, 0), (2, 0, 0), (0, 0, 0), (0, 0, 0)]) (v := (1, (p + 2), 0)) (ty := tyX4 1) (cs' := [(1, 4, 0, [(1, (p + 1), 0), (1, (p + 2), 0), (2, 0, 0), (2, 0, 0), (2, 0, 0), (2, 0, 0), (2, 0, 0), (2, 0, 0), (2, 0, 0), (0, 0, 0), (0, 0, 0)]), (0, 0, 8, []), (0, 1, 8, [])]) hx hb hts (by decide) hown (Or.inl hin) hK h rfl (by decide) (Nat.le_of_ble_eq_true rfl) (hts _ (kc_at 24 rfl)) (tyX4_ok 1 (by decide)) rfl rfl rfl dX4_init_17 (fun H1 locs1 h => ?_)
  refine lv_aload_n hx hb dX4_init_20 rfl (lv_at hl 0 rfl) ?_
  refine lv_bipush (v := 60) hx hb dX4_init_21 (by decide) ?_
  refine ke_newa (atype := .int) (t := 0) (N := 60) (n := 3) hx hb (hts _ (kc_at 4 rfl)) (hK.1.2 0 _ rfl).2 rfl h (by decide) (by decide) (by decide) rfl (Nat.le_of_ble_eq_true rfl) (Nat.le_of_ble_eq_true rfl) dX4_init_23 (fun H1 h => ?_)
  refine ke_put (X := 4) (index := 19) (i := 0) (k := 2) (fs := [(1, (p + 1), 0), (1, (p + 2), 0), (2, 0, 0), (2, 0, 0), (2, 0, 0), (2, 0, 0), (2, 0, 0), (2, 0, 0), (2, 0, 0), (0, 0, 0), (0, 0, 0)]) (v := (1, (p + 3), 0)) (ty := tyX4 2) (cs' := [(1, 4, 0, [(1, (p + 1), 0), (1, (p + 2), 0), (1, (p + 3), 0), (2, 0, 0), (2, 0, 0), (2, 0, 0), (2, 0, 0), (2, 0, 0), (2, 0, 0), (0, 0, 0), (0, 0, 0)]), (0, 0, 8, []), (0, 1, 8, []), (0, 0, 60, [])]) hx hb hts (by decide) hown (Or.inl hin) hK h rfl (by decide) (Nat.le_of_ble_eq_true rfl) (hts _ (kc_at 25 rfl)) (tyX4_ok 2 (by decide)) rfl rfl rfl dX4_init_25 (fun H1 locs1 h => ?_)
  refine lv_aload_n hx hb dX4_init_28 rfl (lv_at hl 0 rfl) ?_
  refine lv_bipush (v := 60) hx hb dX4_init_29 (by decide) ?_
  refine ke_newa (atype := .int) (t := 0) (N := 60) (n := 4) hx hb (hts _ (kc_at 4 rfl)) (hK.1.2 0 _ rfl).2 rfl h (by decide) (by decide) (by decide) rfl (Nat.le_of_ble_eq_true rfl) (Nat.le_of_ble_eq_true rfl) dX4_init_31 (fun H1 h => ?_)
  refine ke_put (X := 4) (index := 22) (i := 0) (k := 3) (fs := [(1, (p + 1), 0), (1, (p + 2), 0), (1, (p + 3), 0), (2, 0, 0), (2, 0, 0), (2, 0, 0), (2, 0, 0), (2, 0, 0), (2, 0, 0), (0, 0, 0), (0, 0, 0)]) (v := (1, (p + 4), 0)) (ty := tyX4 3) (cs' := [(1, 4, 0, [(1, (p + 1), 0), (1, (p + 2), 0), (1, (p + 3), 0), (1, (p + 4), 0), (2, 0, 0), (2, 0, 0), (2, 0, 0), (2, 0, 0), (2, 0, 0), (0, 0, 0), (0, 0, 0)]), (0, 0, 8, []), (0, 1, 8, []), (0, 0, 60, []), (0, 0, 60, [])]) hx hb hts (by decide) hown (Or.inl hin) hK h rfl (by decide) (Nat.le_of_ble_eq_true rfl) (hts _ (kc_at 26 rfl)) (tyX4_ok 3 (by decide)) rfl rfl rfl dX4_init_33 (fun H1 locs1 h => ?_)
  refine lv_aload_n hx hb dX4_init_36 rfl (lv_at hl 0 rfl) ?_
  refine lv_bipush (v := 60) hx hb dX4_init_37 (by decide) ?_
  refine ke_newa (atype := .int) (t := 0) (N := 60) (n := 5) hx hb (hts _ (kc_at 4 rfl)) (hK.1.2 0 _ rfl).2 rfl h (by decide) (by decide) (by decide) rfl (Nat.le_of_ble_eq_true rfl) (Nat.le_of_ble_eq_true rfl) dX4_init_39 (fun H1 h => ?_)
  refine ke_put (X := 4) (index := 25) (i := 0) (k := 4) (fs := [(1, (p + 1), 0), (1, (p + 2), 0), (1, (p + 3), 0), (1, (p + 4), 0), (2, 0, 0), (2, 0, 0), (2, 0, 0), (2, 0, 0), (2, 0, 0), (0, 0, 0), (0, 0, 0)]) (v := (1, (p + 5), 0)) (ty := tyX4 4) (cs' := [(1, 4, 0, [(1, (p + 1), 0), (1, (p + 2), 0), (1, (p + 3), 0), (1, (p + 4), 0), (1, (p + 5), 0), (2, 0, 0), (2, 0, 0), (2, 0, 0), (2, 0, 0), (0, 0, 0), (0, 0, 0)]), (0, 0, 8, []), (0, 1, 8, []), (0, 0, 60, []), (0, 0, 60, []), (0, 0, 60, [])]) hx hb hts (by decide) hown (Or.inl hin) hK h rfl (by decide) (Nat.le_of_ble_eq_true rfl) (hts _ (kc_at 27 rfl)) (tyX4_ok 4 (by decide)) rfl rfl rfl dX4_init_41 (fun H1 locs1 h => ?_)
  refine lv_aload_n hx hb dX4_init_44 rfl (lv_at hl 0 rfl) ?_
  refine lv_bipush (v := 60) hx hb dX4_init_45 (by decide) ?_
  refine ke_newa (atype := .int) (t := 0) (N := 60) (n := 6) hx hb (hts _ (kc_at 4 rfl)) (hK.1.2 0 _ rfl).2 rfl h (by decide) (by decide) (by decide) rfl (Nat.le_of_ble_eq_true rfl) (Nat.le_of_ble_eq_true rfl) dX4_init_47 (fun H1 h => ?_)
  refine ke_put (X := 4) (index := 28) (i := 0) (k := 5) (fs := [(1, (p + 1), 0), (1, (p + 2), 0), (1, (p + 3), 0), (1, (p + 4), 0), (1, (p + 5), 0), (2, 0, 0), (2, 0, 0), (2, 0, 0), (2, 0, 0), (0, 0, 0), (0, 0, 0)]) (v := (1, (p + 6), 0)) (ty := tyX4 5) (cs' := [(1, 4, 0, [(1, (p + 1), 0), (1, (p + 2), 0), (1, (p + 3), 0), (1, (p + 4), 0), (1, (p + 5), 0), (1, (p + 6), 0), (2, 0, 0), (2, 0, 0), (2, 0, 0), (0, 0, 0), (0, 0, 0)]), (0, 0, 8, []), (0, 1, 8, []), (0, 0, 60, []), (0, 0, 60, []), (0, 0, 60, []), (0, 0, 60, [])]) hx hb hts (by decide) hown (Or.inl hin) hK h rfl (by decide) (Nat.le_of_ble_eq_true rfl) (hts _ (kc_at 28 rfl)) (tyX4_ok 5 (by decide)) rfl rfl rfl dX4_init_49 (fun H1 locs1 h => ?_)
  refine lv_aload_n hx hb dX4_init_52 rfl (lv_at hl 0 rfl) ?_
  refine lv_bipush (v := 60) hx hb dX4_init_53 (by decide) ?_
  refine ke_newa (atype := .int) (t := 0) (N := 60) (n := 7) hx hb (hts _ (kc_at 4 rfl)) (hK.1.2 0 _ rfl).2 rfl h (by decide) (by decide) (by decide) rfl (Nat.le_of_ble_eq_true rfl) (Nat.le_of_ble_eq_true rfl) dX4_init_55 (fun H1 h => ?_)
  refine ke_put (X := 4) (index := 31) (i := 0) (k := 6) (fs := [(1, (p + 1), 0), (1, (p + 2), 0), (1, (p + 3), 0), (1, (p + 4), 0), (1, (p + 5), 0), (1, (p + 6), 0), (2, 0, 0), (2, 0, 0), (2, 0, 0), (0, 0, 0), (0, 0, 0)]) (v := (1, (p + 7), 0)) (ty := tyX4 6) (cs' := [(1, 4, 0, [(1, (p + 1), 0), (1, (p + 2), 0), (1, (p + 3), 0), (1, (p + 4), 0), (1, (p + 5), 0), (1, (p + 6), 0), (1, (p + 7), 0), (2, 0, 0), (2, 0, 0), (0, 0, 0), (0, 0, 0)]), (0, 0, 8, []), (0, 1, 8, []), (0, 0, 60, []), (0, 0, 60, []), (0, 0, 60, []), (0, 0, 60, []), (0, 0, 60, [])]) hx hb hts (by decide) hown (Or.inl hin) hK h rfl (by decide) (Nat.le_of_ble_eq_true rfl) (hts _ (kc_at 29 rfl)) (tyX4_ok 6 (by decide)) rfl rfl rfl dX4_init_57 (fun H1 locs1 h => ?_)
  refine lv_aload_n hx hb dX4_init_60 rfl (lv_at hl 0 rfl) ?_
  refine lv_bipush (v := 60) hx hb dX4_init_61 (by decide) ?_
  refine ke_newa (atype := .boolean) (t := 1) (N := 60) (n := 8) hx hb (hts _ (kc_at 23 rfl)) (hK.1.2 1 _ rfl).2 rfl h (by decide) (by decide) (by decide) rfl (Nat.le_of_ble_eq_true rfl) (Nat.le_of_ble_eq_true rfl) dX4_init_63 (fun H1 h => ?_)
  refine ke_put (X := 4) (index := 34) (i := 0) (k := 7) (fs := [(1, (p + 1), 0), (1, (p + 2), 0), (1, (p + 3), 0), (1, (p + 4), 0), (1, (p + 5), 0), (1, (p + 6), 0), (1, (p + 7), 0), (2, 0, 0), (2, 0, 0), (0, 0, 0), (0, 0, 0)]) (v := (1, (p + 8), 0)) (ty := tyX4 7) (cs' := [(1, 4, 0, [(1, (p + 1), 0), (1, (p + 2), 0), (1, (p + 3), 0), (1, (p + 4), 0), (1, (p + 5), 0), (1, (p + 6), 0), (1, (p + 7), 0), (1, (p + 8), 0), (2, 0, 0), (0, 0, 0), (0, 0, 0)]), (0, 0, 8, []), (0, 1, 8, []), (0, 0, 60, []), (0, 0, 60, []), (0, 0, 60, []), (0, 0, 60, []), (0, 0, 60, []), (0, 1, 60, [])]) hx hb hts (by decide) hown (Or.inl hin) hK h rfl (by decide) (Nat.le_of_ble_eq_true rfl) (hts _ (kc_at 30 rfl)) (tyX4_ok 7 (by decide)) rfl rfl rfl dX4_init_65 (fun H1 locs1 h => ?_)
  refine lv_aload_n hx hb dX4_init_68 rfl (lv_at hl 0 rfl) ?_
  refine lv_bipush (v := 8) hx hb dX4_init_69 (by decide) ?_
  refine ke_newq (C := "FactLines$Rule") (X0 := 4) (t := 2) (N := 8) (n := 9) hx hb hown (hts _ (kc_at 31 rfl)) hK.2.2.1.1 (kc_rt2 hK) h (by decide) (by decide) (by decide) rfl (Nat.le_of_ble_eq_true rfl) (Nat.le_of_ble_eq_true rfl) dX4_init_71 (fun H1 h => ?_)
  refine ke_put (X := 4) (index := 39) (i := 0) (k := 8) (fs := [(1, (p + 1), 0), (1, (p + 2), 0), (1, (p + 3), 0), (1, (p + 4), 0), (1, (p + 5), 0), (1, (p + 6), 0), (1, (p + 7), 0), (1, (p + 8), 0), (2, 0, 0), (0, 0, 0), (0, 0, 0)]) (v := (1, (p + 9), 0)) (ty := tyX4 8) (cs' := [(1, 4, 0, [(1, (p + 1), 0), (1, (p + 2), 0), (1, (p + 3), 0), (1, (p + 4), 0), (1, (p + 5), 0), (1, (p + 6), 0), (1, (p + 7), 0), (1, (p + 8), 0), (1, (p + 9), 0), (0, 0, 0), (0, 0, 0)]), (0, 0, 8, []), (0, 1, 8, []), (0, 0, 60, []), (0, 0, 60, []), (0, 0, 60, []), (0, 0, 60, []), (0, 0, 60, []), (0, 1, 60, []), (2, 2, 8, [(2, 0, 0), (2, 0, 0), (2, 0, 0), (2, 0, 0), (2, 0, 0), (2, 0, 0), (2, 0, 0), (2, 0, 0)])]) hx hb hts (by decide) hown (Or.inl hin) hK h rfl (by decide) (Nat.le_of_ble_eq_true rfl) (hts _ (kc_at 32 rfl)) (tyX4_ok 8 (by decide)) rfl rfl rfl dX4_init_74 (fun H1 locs1 h => ?_)
  refine lv_iconst (v := 0) hx hb dX4_init_77 (by decide) ?_
  refine lv_istore_n (i := 1) (lv' := [(1, .int 0), (0, .ref (B + p))]) hx hb dX4_init_78 rfl hl (by decide) rfl (fun ls hl => ?_)
  refine lv_iload_n hx hb dX4_init_79 rfl (lv_at hl 0 rfl) ?_
  refine lv_bipush (v := 8) hx hb dX4_init_80 (by decide) ?_
  refine lv_icmp_ge (tgt := 104) hx hb dX4_init_82 (by decide) (fun h9 => absurd h9 (by decide)) (fun _ => ?_)
  refine lv_aload_n hx hb dX4_init_85 rfl (lv_at hl 1 rfl) ?_
  refine ke_get (X := 4) (index := 39) (i := 0) (k := 8) (fs := [(1, (p + 1), 0), (1, (p + 2), 0), (1, (p + 3), 0), (1, (p + 4), 0), (1, (p + 5), 0), (1, (p + 6), 0), (1, (p + 7), 0), (1, (p + 8), 0), (1, (p + 9), 0), (0, 0, 0), (0, 0, 0)]) (v := (1, (p + 9), 0)) hx hb hts (by decide) hown hK h rfl (by decide) rfl (hts _ (kc_at 32 rfl)) dX4_init_86 ?_
  refine lv_iload_n hx hb dX4_init_89 rfl (lv_at hl 0 rfl) ?_
  refine ke_new (X0 := 4) (X := 3) (index := 37) (zs := kc_z3) (n := 10) hx hb hts (by decide) hown (hts _ (kc_at 31 rfl)) (hts _ (kc_at 11 rfl)) (hts _ (kc_at 12 rfl)) hK h tyX3 tyX3_ok (kc_z3_ok B) rfl (Nat.le_of_ble_eq_true rfl) (Nat.le_of_ble_eq_true rfl) dX4_init_90 (fun H1 h => ?_)
  refine lv_dup hx hb dX4_init_93 rfl ?_
  refine ke_call (cs' := kc_L3 (p + 10)) (z := (1, 3, 0, kc_z3)) (n := 10) h rfl (va_runIN (As := []) (rest := [.ref (B + (p + 10)), .int 0, .ref (B + (p + 9))]) ⟨hx, hb, hml, hown, hts⟩ (kc_X3 l D cy B (p + 10)) ⟨va_cnB 0 hts (kc_g (kc_at 13 rfl)) rfl rfl rfl (hK.2.1 _ (List.mem_of_getElem? (i := 0) rfl)) (hts _ (kc_at 12 rfl)) (by decide +kernel) ⟨(Nat.le_of_ble_eq_true rfl), (Nat.le_of_ble_eq_true rfl)⟩, rfl, (hts _ (kc_at 14 rfl))⟩ (ke_pre hK h rfl) rfl rfl hl.1 rfl (lv_room (Nat.le_of_ble_eq_true rfl)) dX4_init_94 ⟨(Nat.le_of_ble_eq_true rfl), (Nat.le_of_ble_eq_true rfl)⟩) (fun H1 locs1 h => ?_)
  refine ke_ast (X := 3) (t := 2) (N := 8) (i := 9) (i2 := 10) (a := 2) (C := "FactLines$Rule") (vals := [(2, 0, 0), (2, 0, 0), (2, 0, 0), (2, 0, 0), (2, 0, 0), (2, 0, 0), (2, 0, 0), (2, 0, 0)]) (fs := [(1, ((p + 10) + 1), 0), (1, ((p + 10) + 2), 0), (1, ((p + 10) + 3), 0), (0, 0, 0), (0, 0, 0), (0, 0, 0)]) (j := 0) (cs' := [(1, 4, 0, [(1, (p + 1), 0), (1, (p + 2), 0), (1, (p + 3), 0), (1, (p + 4), 0), (1, (p + 5), 0), (1, (p + 6), 0), (1, (p + 7), 0), (1, (p + 8), 0), (1, (p + 9), 0), (0, 0, 0), (0, 0, 0)]), (0, 0, 8, []), (0, 1, 8, []), (0, 0, 60, []), (0, 0, 60, []), (0, 0, 60, []), (0, 0, 60, []), (0, 0, 60, []), (0, 1, 60, []), (2, 2, 8, [(1, p + 10, 0), (2, 0, 0), (2, 0, 0), (2, 0, 0), (2, 0, 0), (2, 0, 0), (2, 0, 0), (2, 0, 0)])] ++ kc_L3 (p + 10)) hx hb (by decide) rfl hK h rfl rfl rfl (by decide) (by decide) rfl rfl dX4_init_97 (fun H1 locs1 h => ?_)
  refine lv_iinc (k := 0) (v := 1) (lv' := [(1, .int 1), (0, .ref (B + p))]) hx hb dX4_init_98 hl rfl (by decide) (by decide) rfl (fun ls hl => ?_)
  refine lv_goto (tgt := 79) hx hb dX4_init_101 (by decide) ?_
  refine lv_iload_n hx hb dX4_init_79 rfl (lv_at hl 0 rfl) ?_
  refine lv_bipush (v := 8) hx hb dX4_init_80 (by decide) ?_
  refine lv_icmp_ge (tgt := 104) hx hb dX4_init_82 (by decide) (fun h9 => absurd h9 (by decide)) (fun _ => ?_)
  refine lv_aload_n hx hb dX4_init_85 rfl (lv_at hl 1 rfl) ?_
  refine ke_get (X := 4) (index := 39) (i := 0) (k := 8) (fs := [(1, (p + 1), 0), (1, (p + 2), 0), (1, (p + 3), 0), (1, (p + 4), 0), (1, (p + 5), 0), (1, (p + 6), 0), (1, (p + 7), 0), (1, (p + 8), 0), (1, (p + 9), 0), (0, 0, 0), (0, 0, 0)]) (v := (1, (p + 9), 0)) hx hb hts (by decide) hown hK h rfl (by decide) rfl (hts _ (kc_at 32 rfl)) dX4_init_86 ?_
  refine lv_iload_n hx hb dX4_init_89 rfl (lv_at hl 0 rfl) ?_
  refine ke_new (X0 := 4) (X := 3) (index := 37) (zs := kc_z3) (n := 14) hx hb hts (by decide) hown (hts _ (kc_at 31 rfl)) (hts _ (kc_at 11 rfl)) (hts _ (kc_at 12 rfl)) hK h tyX3 tyX3_ok (kc_z3_ok B) rfl (Nat.le_of_ble_eq_true rfl) (Nat.le_of_ble_eq_true rfl) dX4_init_90 (fun H1 h => ?_)
  refine lv_dup hx hb dX4_init_93 rfl ?_
  refine ke_call (cs' := kc_L3 (p + 14)) (z := (1, 3, 0, kc_z3)) (n := 14) h rfl (va_runIN (As := []) (rest := [.ref (B + (p + 14)), .int 1, .ref (B + (p + 9))]) ⟨hx, hb, hml, hown, hts⟩ (kc_X3 l D cy B (p + 14)) ⟨va_cnB 0 hts (kc_g (kc_at 13 rfl)) rfl rfl rfl (hK.2.1 _ (List.mem_of_getElem? (i := 0) rfl)) (hts _ (kc_at 12 rfl)) (by decide +kernel) ⟨(Nat.le_of_ble_eq_true rfl), (Nat.le_of_ble_eq_true rfl)⟩, rfl, (hts _ (kc_at 14 rfl))⟩ (ke_pre hK h rfl) rfl rfl hl.1 rfl (lv_room (Nat.le_of_ble_eq_true rfl)) dX4_init_94 ⟨(Nat.le_of_ble_eq_true rfl), (Nat.le_of_ble_eq_true rfl)⟩) (fun H1 locs1 h => ?_)
  refine ke_ast (X := 3) (t := 2) (N := 8) (i := 9) (i2 := 14) (a := 2) (C := "FactLines$Rule") (vals := [(1, p + 10, 0), (2, 0, 0), (2, 0, 0), (2, 0, 0), (2, 0, 0), (2, 0, 0), (2, 0, 0), (2, 0, 0)]) (fs := [(1, ((p + 14) + 1), 0), (1, ((p + 14) + 2), 0), (1, ((p + 14) + 3), 0), (0, 0, 0), (0, 0, 0), (0, 0, 0)]) (j := 1) (cs' := [(1, 4, 0, [(1, (p + 1), 0), (1, (p + 2), 0), (1, (p + 3), 0), (1, (p + 4), 0), (1, (p + 5), 0), (1, (p + 6), 0), (1, (p + 7), 0), (1, (p + 8), 0), (1, (p + 9), 0), (0, 0, 0), (0, 0, 0)]), (0, 0, 8, []), (0, 1, 8, []), (0, 0, 60, []), (0, 0, 60, []), (0, 0, 60, []), (0, 0, 60, []), (0, 0, 60, []), (0, 1, 60, []), (2, 2, 8, [(1, p + 10, 0), (1, p + 14, 0), (2, 0, 0), (2, 0, 0), (2, 0, 0), (2, 0, 0), (2, 0, 0), (2, 0, 0)])] ++ kc_L3 (p + 10) ++ kc_L3 (p + 14)) hx hb (by decide) rfl hK h rfl rfl rfl (by decide) (by decide) rfl rfl dX4_init_97 (fun H1 locs1 h => ?_)
  refine lv_iinc (k := 0) (v := 2) (lv' := [(1, .int 2), (0, .ref (B + p))]) hx hb dX4_init_98 hl rfl (by decide) (by decide) rfl (fun ls hl => ?_)
  refine lv_goto (tgt := 79) hx hb dX4_init_101 (by decide) ?_
  refine lv_iload_n hx hb dX4_init_79 rfl (lv_at hl 0 rfl) ?_
  refine lv_bipush (v := 8) hx hb dX4_init_80 (by decide) ?_
  refine lv_icmp_ge (tgt := 104) hx hb dX4_init_82 (by decide) (fun h9 => absurd h9 (by decide)) (fun _ => ?_)
  refine lv_aload_n hx hb dX4_init_85 rfl (lv_at hl 1 rfl) ?_
  refine ke_get (X := 4) (index := 39) (i := 0) (k := 8) (fs := [(1, (p + 1), 0), (1, (p + 2), 0), (1, (p + 3), 0), (1, (p + 4), 0), (1, (p + 5), 0), (1, (p + 6), 0), (1, (p + 7), 0), (1, (p + 8), 0), (1, (p + 9), 0), (0, 0, 0), (0, 0, 0)]) (v := (1, (p + 9), 0)) hx hb hts (by decide) hown hK h rfl (by decide) rfl (hts _ (kc_at 32 rfl)) dX4_init_86 ?_
  refine lv_iload_n hx hb dX4_init_89 rfl (lv_at hl 0 rfl) ?_
  refine ke_new (X0 := 4) (X := 3) (index := 37) (zs := kc_z3) (n := 18) hx hb hts (by decide) hown (hts _ (kc_at 31 rfl)) (hts _ (kc_at 11 rfl)) (hts _ (kc_at 12 rfl)) hK h tyX3 tyX3_ok (kc_z3_ok B) rfl (Nat.le_of_ble_eq_true rfl) (Nat.le_of_ble_eq_true rfl) dX4_init_90 (fun H1 h => ?_)
  refine lv_dup hx hb dX4_init_93 rfl ?_
  refine ke_call (cs' := kc_L3 (p + 18)) (z := (1, 3, 0, kc_z3)) (n := 18) h rfl (va_runIN (As := []) (rest := [.ref (B + (p + 18)), .int 2, .ref (B + (p + 9))]) ⟨hx, hb, hml, hown, hts⟩ (kc_X3 l D cy B (p + 18)) ⟨va_cnB 0 hts (kc_g (kc_at 13 rfl)) rfl rfl rfl (hK.2.1 _ (List.mem_of_getElem? (i := 0) rfl)) (hts _ (kc_at 12 rfl)) (by decide +kernel) ⟨(Nat.le_of_ble_eq_true rfl), (Nat.le_of_ble_eq_true rfl)⟩, rfl, (hts _ (kc_at 14 rfl))⟩ (ke_pre hK h rfl) rfl rfl hl.1 rfl (lv_room (Nat.le_of_ble_eq_true rfl)) dX4_init_94 ⟨(Nat.le_of_ble_eq_true rfl), (Nat.le_of_ble_eq_true rfl)⟩) (fun H1 locs1 h => ?_)
  refine ke_ast (X := 3) (t := 2) (N := 8) (i := 9) (i2 := 18) (a := 2) (C := "FactLines$Rule") (vals := [(1, p + 10, 0), (1, p + 14, 0), (2, 0, 0), (2, 0, 0), (2, 0, 0), (2, 0, 0), (2, 0, 0), (2, 0, 0)]) (fs := [(1, ((p + 18) + 1), 0), (1, ((p + 18) + 2), 0), (1, ((p + 18) + 3), 0), (0, 0, 0), (0, 0, 0), (0, 0, 0)]) (j := 2) (cs' := [(1, 4, 0, [(1, (p + 1), 0), (1, (p + 2), 0), (1, (p + 3), 0), (1, (p + 4), 0), (1, (p + 5), 0), (1, (p + 6), 0), (1, (p + 7), 0), (1, (p + 8), 0), (1, (p + 9), 0), (0, 0, 0), (0, 0, 0)]), (0, 0, 8, []), (0, 1, 8, []), (0, 0, 60, []), (0, 0, 60, []), (0, 0, 60, []), (0, 0, 60, []), (0, 0, 60, []), (0, 1, 60, []), (2, 2, 8, [(1, p + 10, 0), (1, p + 14, 0), (1, p + 18, 0), (2, 0, 0), (2, 0, 0), (2, 0, 0), (2, 0, 0), (2, 0, 0)])] ++ kc_L3 (p + 10) ++ kc_L3 (p + 14) ++ kc_L3 (p + 18)) hx hb (by decide) rfl hK h rfl rfl rfl (by decide) (by decide) rfl rfl dX4_init_97 (fun H1 locs1 h => ?_)
  refine lv_iinc (k := 0) (v := 3) (lv' := [(1, .int 3), (0, .ref (B + p))]) hx hb dX4_init_98 hl rfl (by decide) (by decide) rfl (fun ls hl => ?_)
  refine lv_goto (tgt := 79) hx hb dX4_init_101 (by decide) ?_
  refine lv_iload_n hx hb dX4_init_79 rfl (lv_at hl 0 rfl) ?_
  refine lv_bipush (v := 8) hx hb dX4_init_80 (by decide) ?_
  refine lv_icmp_ge (tgt := 104) hx hb dX4_init_82 (by decide) (fun h9 => absurd h9 (by decide)) (fun _ => ?_)
  refine lv_aload_n hx hb dX4_init_85 rfl (lv_at hl 1 rfl) ?_
  refine ke_get (X := 4) (index := 39) (i := 0) (k := 8) (fs := [(1, (p + 1), 0), (1, (p + 2), 0), (1, (p + 3), 0), (1, (p + 4), 0), (1, (p + 5), 0), (1, (p + 6), 0), (1, (p + 7), 0), (1, (p + 8), 0), (1, (p + 9), 0), (0, 0, 0), (0, 0, 0)]) (v := (1, (p + 9), 0)) hx hb hts (by decide) hown hK h rfl (by decide) rfl (hts _ (kc_at 32 rfl)) dX4_init_86 ?_
  refine lv_iload_n hx hb dX4_init_89 rfl (lv_at hl 0 rfl) ?_
  refine ke_new (X0 := 4) (X := 3) (index := 37) (zs := kc_z3) (n := 22) hx hb hts (by decide) hown (hts _ (kc_at 31 rfl)) (hts _ (kc_at 11 rfl)) (hts _ (kc_at 12 rfl)) hK h tyX3 tyX3_ok (kc_z3_ok B) rfl (Nat.le_of_ble_eq_true rfl) (Nat.le_of_ble_eq_true rfl) dX4_init_90 (fun H1 h => ?_)
  refine lv_dup hx hb dX4_init_93 rfl ?_
  refine ke_call (cs' := kc_L3 (p + 22)) (z := (1, 3, 0, kc_z3)) (n := 22) h rfl (va_runIN (As := []) (rest := [.ref (B + (p + 22)), .int 3, .ref (B + (p + 9))]) ⟨hx, hb, hml, hown, hts⟩ (kc_X3 l D cy B (p + 22)) ⟨va_cnB 0 hts (kc_g (kc_at 13 rfl)) rfl rfl rfl (hK.2.1 _ (List.mem_of_getElem? (i := 0) rfl)) (hts _ (kc_at 12 rfl)) (by decide +kernel) ⟨(Nat.le_of_ble_eq_true rfl), (Nat.le_of_ble_eq_true rfl)⟩, rfl, (hts _ (kc_at 14 rfl))⟩ (ke_pre hK h rfl) rfl rfl hl.1 rfl (lv_room (Nat.le_of_ble_eq_true rfl)) dX4_init_94 ⟨(Nat.le_of_ble_eq_true rfl), (Nat.le_of_ble_eq_true rfl)⟩) (fun H1 locs1 h => ?_)
  refine ke_ast (X := 3) (t := 2) (N := 8) (i := 9) (i2 := 22) (a := 2) (C := "FactLines$Rule") (vals := [(1, p + 10, 0), (1, p + 14, 0), (1, p + 18, 0), (2, 0, 0), (2, 0, 0), (2, 0, 0), (2, 0, 0), (2, 0, 0)]) (fs := [(1, ((p + 22) + 1), 0), (1, ((p + 22) + 2), 0), (1, ((p + 22) + 3), 0), (0, 0, 0), (0, 0, 0), (0, 0, 0)]) (j := 3) (cs' := [(1, 4, 0, [(1, (p + 1), 0), (1, (p + 2), 0), (1, (p + 3), 0), (1, (p + 4), 0), (1, (p + 5), 0), (1, (p + 6), 0), (1, (p + 7), 0), (1, (p + 8), 0), (1, (p + 9), 0), (0, 0, 0), (0, 0, 0)]), (0, 0, 8, []), (0, 1, 8, []), (0, 0, 60, []), (0, 0, 60, []), (0, 0, 60, []), (0, 0, 60, []), (0, 0, 60, []), (0, 1, 60, []), (2, 2, 8, [(1, p + 10, 0), (1, p + 14, 0), (1, p + 18, 0), (1, p + 22, 0), (2, 0, 0), (2, 0, 0), (2, 0, 0), (2, 0, 0)])] ++ kc_L3 (p + 10) ++ kc_L3 (p + 14) ++ kc_L3 (p + 18) ++ kc_L3 (p + 22)) hx hb (by decide) rfl hK h rfl rfl rfl (by decide) (by decide) rfl rfl dX4_init_97 (fun H1 locs1 h => ?_)
  refine lv_iinc (k := 0) (v := 4) (lv' := [(1, .int 4), (0, .ref (B + p))]) hx hb dX4_init_98 hl rfl (by decide) (by decide) rfl (fun ls hl => ?_)
  refine lv_goto (tgt := 79) hx hb dX4_init_101 (by decide) ?_
  refine lv_iload_n hx hb dX4_init_79 rfl (lv_at hl 0 rfl) ?_
  refine lv_bipush (v := 8) hx hb dX4_init_80 (by decide) ?_
  refine lv_icmp_ge (tgt := 104) hx hb dX4_init_82 (by decide) (fun h9 => absurd h9 (by decide)) (fun _ => ?_)
  refine lv_aload_n hx hb dX4_init_85 rfl (lv_at hl 1 rfl) ?_
  refine ke_get (X := 4) (index := 39) (i := 0) (k := 8) (fs := [(1, (p + 1), 0), (1, (p + 2), 0), (1, (p + 3), 0), (1, (p + 4), 0), (1, (p + 5), 0), (1, (p + 6), 0), (1, (p + 7), 0), (1, (p + 8), 0), (1, (p + 9), 0), (0, 0, 0), (0, 0, 0)]) (v := (1, (p + 9), 0)) hx hb hts (by decide) hown hK h rfl (by decide) rfl (hts _ (kc_at 32 rfl)) dX4_init_86 ?_
  refine lv_iload_n hx hb dX4_init_89 rfl (lv_at hl 0 rfl) ?_
  refine ke_new (X0 := 4) (X := 3) (index := 37) (zs := kc_z3) (n := 26) hx hb hts (by decide) hown (hts _ (kc_at 31 rfl)) (hts _ (kc_at 11 rfl)) (hts _ (kc_at 12 rfl)) hK h tyX3 tyX3_ok (kc_z3_ok B) rfl (Nat.le_of_ble_eq_true rfl) (Nat.le_of_ble_eq_true rfl) dX4_init_90 (fun H1 h => ?_)
  refine lv_dup hx hb dX4_init_93 rfl ?_
  refine ke_call (cs' := kc_L3 (p + 26)) (z := (1, 3, 0, kc_z3)) (n := 26) h rfl (va_runIN (As := []) (rest := [.ref (B + (p + 26)), .int 4, .ref (B + (p + 9))]) ⟨hx, hb, hml, hown, hts⟩ (kc_X3 l D cy B (p + 26)) ⟨va_cnB 0 hts (kc_g (kc_at 13 rfl)) rfl rfl rfl (hK.2.1 _ (List.mem_of_getElem? (i := 0) rfl)) (hts _ (kc_at 12 rfl)) (by decide +kernel) ⟨(Nat.le_of_ble_eq_true rfl), (Nat.le_of_ble_eq_true rfl)⟩, rfl, (hts _ (kc_at 14 rfl))⟩ (ke_pre hK h rfl) rfl rfl hl.1 rfl (lv_room (Nat.le_of_ble_eq_true rfl)) dX4_init_94 ⟨(Nat.le_of_ble_eq_true rfl), (Nat.le_of_ble_eq_true rfl)⟩) (fun H1 locs1 h => ?_)
  refine ke_ast (X := 3) (t := 2) (N := 8) (i := 9) (i2 := 26) (a := 2) (C := "FactLines$Rule") (vals := [(1, p + 10, 0), (1, p + 14, 0), (1, p + 18, 0), (1, p + 22, 0), (2, 0, 0), (2, 0, 0), (2, 0, 0), (2, 0, 0)]) (fs := [(1, ((p + 26) + 1), 0), (1, ((p + 26) + 2), 0), (1, ((p + 26) + 3), 0), (0, 0, 0), (0, 0, 0), (0, 0, 0)]) (j := 4) (cs' := [(1, 4, 0, [(1, (p + 1), 0), (1, (p + 2), 0), (1, (p + 3), 0), (1, (p + 4), 0), (1, (p + 5), 0), (1, (p + 6), 0), (1, (p + 7), 0), (1, (p + 8), 0), (1, (p + 9), 0), (0, 0, 0), (0, 0, 0)]), (0, 0, 8, []), (0, 1, 8, []), (0, 0, 60, []), (0, 0, 60, []), (0, 0, 60, []), (0, 0, 60, []), (0, 0, 60, []), (0, 1, 60, []), (2, 2, 8, [(1, p + 10, 0), (1, p + 14, 0), (1, p + 18, 0), (1, p + 22, 0), (1, p + 26, 0), (2, 0, 0), (2, 0, 0), (2, 0, 0)])] ++ kc_L3 (p + 10) ++ kc_L3 (p + 14) ++ kc_L3 (p + 18) ++ kc_L3 (p + 22) ++ kc_L3 (p + 26)) hx hb (by decide) rfl hK h rfl rfl rfl (by decide) (by decide) rfl rfl dX4_init_97 (fun H1 locs1 h => ?_)
  refine lv_iinc (k := 0) (v := 5) (lv' := [(1, .int 5), (0, .ref (B + p))]) hx hb dX4_init_98 hl rfl (by decide) (by decide) rfl (fun ls hl => ?_)
  refine lv_goto (tgt := 79) hx hb dX4_init_101 (by decide) ?_
  refine lv_iload_n hx hb dX4_init_79 rfl (lv_at hl 0 rfl) ?_
  refine lv_bipush (v := 8) hx hb dX4_init_80 (by decide) ?_
  refine lv_icmp_ge (tgt := 104) hx hb dX4_init_82 (by decide) (fun h9 => absurd h9 (by decide)) (fun _ => ?_)
  refine lv_aload_n hx hb dX4_init_85 rfl (lv_at hl 1 rfl) ?_
  refine ke_get (X := 4) (index := 39) (i := 0) (k := 8) (fs := [(1, (p + 1), 0), (1, (p + 2), 0), (1, (p + 3), 0), (1, (p + 4), 0), (1, (p + 5), 0), (1, (p + 6), 0), (1, (p + 7), 0), (1, (p + 8), 0), (1, (p + 9), 0), (0, 0, 0), (0, 0, 0)]) (v := (1, (p + 9), 0)) hx hb hts (by decide) hown hK h rfl (by decide) rfl (hts _ (kc_at 32 rfl)) dX4_init_86 ?_
  refine lv_iload_n hx hb dX4_init_89 rfl (lv_at hl 0 rfl) ?_
  refine ke_new (X0 := 4) (X := 3) (index := 37) (zs := kc_z3) (n := 30) hx hb hts (by decide) hown (hts _ (kc_at 31 rfl)) (hts _ (kc_at 11 rfl)) (hts _ (kc_at 12 rfl)) hK h tyX3 tyX3_ok (kc_z3_ok B) rfl (Nat.le_of_ble_eq_true rfl) (Nat.le_of_ble_eq_true rfl) dX4_init_90 (fun H1 h => ?_)
  refine lv_dup hx hb dX4_init_93 rfl ?_
  refine ke_call (cs' := kc_L3 (p + 30)) (z := (1, 3, 0, kc_z3)) (n := 30) h rfl (va_runIN (As := []) (rest := [.ref (B + (p + 30)), .int 5, .ref (B + (p + 9))]) ⟨hx, hb, hml, hown, hts⟩ (kc_X3 l D cy B (p + 30)) ⟨va_cnB 0 hts (kc_g (kc_at 13 rfl)) rfl rfl rfl (hK.2.1 _ (List.mem_of_getElem? (i := 0) rfl)) (hts _ (kc_at 12 rfl)) (by decide +kernel) ⟨(Nat.le_of_ble_eq_true rfl), (Nat.le_of_ble_eq_true rfl)⟩, rfl, (hts _ (kc_at 14 rfl))⟩ (ke_pre hK h rfl) rfl rfl hl.1 rfl (lv_room (Nat.le_of_ble_eq_true rfl)) dX4_init_94 ⟨(Nat.le_of_ble_eq_true rfl), (Nat.le_of_ble_eq_true rfl)⟩) (fun H1 locs1 h => ?_)
  refine ke_ast (X := 3) (t := 2) (N := 8) (i := 9) (i2 := 30) (a := 2) (C := "FactLines$Rule") (vals := [(1, p + 10, 0), (1, p + 14, 0), (1, p + 18, 0), (1, p + 22, 0), (1, p + 26, 0), (2, 0, 0), (2, 0, 0), (2, 0, 0)]) (fs := [(1, ((p + 30) + 1), 0), (1, ((p + 30) + 2), 0), (1, ((p + 30) + 3), 0), (0, 0, 0), (0, 0, 0), (0, 0, 0)]) (j := 5) (cs' := [(1, 4, 0, [(1, (p + 1), 0), (1, (p + 2), 0), (1, (p + 3), 0), (1, (p + 4), 0), (1, (p + 5), 0), (1, (p + 6), 0), (1, (p + 7), 0), (1, (p + 8), 0), (1, (p + 9), 0), (0, 0, 0), (0, 0, 0)]), (0, 0, 8, []), (0, 1, 8, []), (0, 0, 60, []), (0, 0, 60, []), (0, 0, 60, []), (0, 0, 60, []), (0, 0, 60, []), (0, 1, 60, []), (2, 2, 8, [(1, p + 10, 0), (1, p + 14, 0), (1, p + 18, 0), (1, p + 22, 0), (1, p + 26, 0), (1, p + 30, 0), (2, 0, 0), (2, 0, 0)])] ++ kc_L3 (p + 10) ++ kc_L3 (p + 14) ++ kc_L3 (p + 18) ++ kc_L3 (p + 22) ++ kc_L3 (p + 26) ++ kc_L3 (p + 30)) hx hb (by decide) rfl hK h rfl rfl rfl (by decide) (by decide) rfl rfl dX4_init_97 (fun H1 locs1 h => ?_)
  refine lv_iinc (k := 0) (v := 6) (lv' := [(1, .int 6), (0, .ref (B + p))]) hx hb dX4_init_98 hl rfl (by decide) (by decide) rfl (fun ls hl => ?_)
  refine lv_goto (tgt := 79) hx hb dX4_init_101 (by decide) ?_
  refine lv_iload_n hx hb dX4_init_79 rfl (lv_at hl 0 rfl) ?_
  refine lv_bipush (v := 8) hx hb dX4_init_80 (by decide) ?_
  refine lv_icmp_ge (tgt := 104) hx hb dX4_init_82 (by decide) (fun h9 => absurd h9 (by decide)) (fun _ => ?_)
  refine lv_aload_n hx hb dX4_init_85 rfl (lv_at hl 1 rfl) ?_
  refine ke_get (X := 4) (index := 39) (i := 0) (k := 8) (fs := [(1, (p + 1), 0), (1, (p + 2), 0), (1, (p + 3), 0), (1, (p + 4), 0), (1, (p + 5), 0), (1, (p + 6), 0), (1, (p + 7), 0), (1, (p + 8), 0), (1, (p + 9), 0), (0, 0, 0), (0, 0, 0)]) (v := (1, (p + 9), 0)) hx hb hts (by decide) hown hK h rfl (by decide) rfl (hts _ (kc_at 32 rfl)) dX4_init_86 ?_
  refine lv_iload_n hx hb dX4_init_89 rfl (lv_at hl 0 rfl) ?_
  refine ke_new (X0 := 4) (X := 3) (index := 37) (zs := kc_z3) (n := 34) hx hb hts (by decide) hown (hts _ (kc_at 31 rfl)) (hts _ (kc_at 11 rfl)) (hts _ (kc_at 12 rfl)) hK h tyX3 tyX3_ok (kc_z3_ok B) rfl (Nat.le_of_ble_eq_true rfl) (Nat.le_of_ble_eq_true rfl) dX4_init_90 (fun H1 h => ?_)
  refine lv_dup hx hb dX4_init_93 rfl ?_
  refine ke_call (cs' := kc_L3 (p + 34)) (z := (1, 3, 0, kc_z3)) (n := 34) h rfl (va_runIN (As := []) (rest := [.ref (B + (p + 34)), .int 6, .ref (B + (p + 9))]) ⟨hx, hb, hml, hown, hts⟩ (kc_X3 l D cy B (p + 34)) ⟨va_cnB 0 hts (kc_g (kc_at 13 rfl)) rfl rfl rfl (hK.2.1 _ (List.mem_of_getElem? (i := 0) rfl)) (hts _ (kc_at 12 rfl)) (by decide +kernel) ⟨(Nat.le_of_ble_eq_true rfl), (Nat.le_of_ble_eq_true rfl)⟩, rfl, (hts _ (kc_at 14 rfl))⟩ (ke_pre hK h rfl) rfl rfl hl.1 rfl (lv_room (Nat.le_of_ble_eq_true rfl)) dX4_init_94 ⟨(Nat.le_of_ble_eq_true rfl), (Nat.le_of_ble_eq_true rfl)⟩) (fun H1 locs1 h => ?_)
  refine ke_ast (X := 3) (t := 2) (N := 8) (i := 9) (i2 := 34) (a := 2) (C := "FactLines$Rule") (vals := [(1, p + 10, 0), (1, p + 14, 0), (1, p + 18, 0), (1, p + 22, 0), (1, p + 26, 0), (1, p + 30, 0), (2, 0, 0), (2, 0, 0)]) (fs := [(1, ((p + 34) + 1), 0), (1, ((p + 34) + 2), 0), (1, ((p + 34) + 3), 0), (0, 0, 0), (0, 0, 0), (0, 0, 0)]) (j := 6) (cs' := [(1, 4, 0, [(1, (p + 1), 0), (1, (p + 2), 0), (1, (p + 3), 0), (1, (p + 4), 0), (1, (p + 5), 0), (1, (p + 6), 0), (1, (p + 7), 0), (1, (p + 8), 0), (1, (p + 9), 0), (0, 0, 0), (0, 0, 0)]), (0, 0, 8, []), (0, 1, 8, []), (0, 0, 60, []), (0, 0, 60, []), (0, 0, 60, []), (0, 0, 60, []), (0, 0, 60, []), (0, 1, 60, []), (2, 2, 8, [(1, p + 10, 0), (1, p + 14, 0), (1, p + 18, 0), (1, p + 22, 0), (1, p + 26, 0), (1, p + 30, 0), (1, p + 34, 0), (2, 0, 0)])] ++ kc_L3 (p + 10) ++ kc_L3 (p + 14) ++ kc_L3 (p + 18) ++ kc_L3 (p + 22) ++ kc_L3 (p + 26) ++ kc_L3 (p + 30) ++ kc_L3 (p + 34)) hx hb (by decide) rfl hK h rfl rfl rfl (by decide) (by decide) rfl rfl dX4_init_97 (fun H1 locs1 h => ?_)
  refine lv_iinc (k := 0) (v := 7) (lv' := [(1, .int 7), (0, .ref (B + p))]) hx hb dX4_init_98 hl rfl (by decide) (by decide) rfl (fun ls hl => ?_)
  refine lv_goto (tgt := 79) hx hb dX4_init_101 (by decide) ?_
  refine lv_iload_n hx hb dX4_init_79 rfl (lv_at hl 0 rfl) ?_
  refine lv_bipush (v := 8) hx hb dX4_init_80 (by decide) ?_
  refine lv_icmp_ge (tgt := 104) hx hb dX4_init_82 (by decide) (fun h9 => absurd h9 (by decide)) (fun _ => ?_)
  refine lv_aload_n hx hb dX4_init_85 rfl (lv_at hl 1 rfl) ?_
  refine ke_get (X := 4) (index := 39) (i := 0) (k := 8) (fs := [(1, (p + 1), 0), (1, (p + 2), 0), (1, (p + 3), 0), (1, (p + 4), 0), (1, (p + 5), 0), (1, (p + 6), 0), (1, (p + 7), 0), (1, (p + 8), 0), (1, (p + 9), 0), (0, 0, 0), (0, 0, 0)]) (v := (1, (p + 9), 0)) hx hb hts (by decide) hown hK h rfl (by decide) rfl (hts _ (kc_at 32 rfl)) dX4_init_86 ?_
  refine lv_iload_n hx hb dX4_init_89 rfl (lv_at hl 0 rfl) ?_
  refine ke_new (X0 := 4) (X := 3) (index := 37) (zs := kc_z3) (n := 38) hx hb hts (by decide) hown (hts _ (kc_at 31 rfl)) (hts _ (kc_at 11 rfl)) (hts _ (kc_at 12 rfl)) hK h tyX3 tyX3_ok (kc_z3_ok B) rfl (Nat.le_of_ble_eq_true rfl) (Nat.le_of_ble_eq_true rfl) dX4_init_90 (fun H1 h => ?_)
  refine lv_dup hx hb dX4_init_93 rfl ?_
  refine ke_call (cs' := kc_L3 (p + 38)) (z := (1, 3, 0, kc_z3)) (n := 38) h rfl (va_runIN (As := []) (rest := [.ref (B + (p + 38)), .int 7, .ref (B + (p + 9))]) ⟨hx, hb, hml, hown, hts⟩ (kc_X3 l D cy B (p + 38)) ⟨va_cnB 0 hts (kc_g (kc_at 13 rfl)) rfl rfl rfl (hK.2.1 _ (List.mem_of_getElem? (i := 0) rfl)) (hts _ (kc_at 12 rfl)) (by decide +kernel) ⟨(Nat.le_of_ble_eq_true rfl), (Nat.le_of_ble_eq_true rfl)⟩, rfl, (hts _ (kc_at 14 rfl))⟩ (ke_pre hK h rfl) rfl rfl hl.1 rfl (lv_room (Nat.le_of_ble_eq_true rfl)) dX4_init_94 ⟨(Nat.le_of_ble_eq_true rfl), (Nat.le_of_ble_eq_true rfl)⟩) (fun H1 locs1 h => ?_)
  refine ke_ast (X := 3) (t := 2) (N := 8) (i := 9) (i2 := 38) (a := 2) (C := "FactLines$Rule") (vals := [(1, p + 10, 0), (1, p + 14, 0), (1, p + 18, 0), (1, p + 22, 0), (1, p + 26, 0), (1, p + 30, 0), (1, p + 34, 0), (2, 0, 0)]) (fs := [(1, ((p + 38) + 1), 0), (1, ((p + 38) + 2), 0), (1, ((p + 38) + 3), 0), (0, 0, 0), (0, 0, 0), (0, 0, 0)]) (j := 7) (cs' := [(1, 4, 0, [(1, (p + 1), 0), (1, (p + 2), 0), (1, (p + 3), 0), (1, (p + 4), 0), (1, (p + 5), 0), (1, (p + 6), 0), (1, (p + 7), 0), (1, (p + 8), 0), (1, (p + 9), 0), (0, 0, 0), (0, 0, 0)]), (0, 0, 8, []), (0, 1, 8, []), (0, 0, 60, []), (0, 0, 60, []), (0, 0, 60, []), (0, 0, 60, []), (0, 0, 60, []), (0, 1, 60, []), (2, 2, 8, [(1, p + 10, 0), (1, p + 14, 0), (1, p + 18, 0), (1, p + 22, 0), (1, p + 26, 0), (1, p + 30, 0), (1, p + 34, 0), (1, p + 38, 0)])] ++ kc_L3 (p + 10) ++ kc_L3 (p + 14) ++ kc_L3 (p + 18) ++ kc_L3 (p + 22) ++ kc_L3 (p + 26) ++ kc_L3 (p + 30) ++ kc_L3 (p + 34) ++ kc_L3 (p + 38)) hx hb (by decide) rfl hK h rfl rfl rfl (by decide) (by decide) rfl rfl dX4_init_97 (fun H1 locs1 h => ?_)
  refine lv_iinc (k := 0) (v := 8) (lv' := [(1, .int 8), (0, .ref (B + p))]) hx hb dX4_init_98 hl rfl (by decide) (by decide) rfl (fun ls hl => ?_)
  refine lv_goto (tgt := 79) hx hb dX4_init_101 (by decide) ?_
  refine lv_iload_n hx hb dX4_init_79 rfl (lv_at hl 0 rfl) ?_
  refine lv_bipush (v := 8) hx hb dX4_init_80 (by decide) ?_
  refine lv_icmp_ge (tgt := 104) hx hb dX4_init_82 (by decide) (fun _ => ?_) (fun h9 => absurd (by decide) h9)
  exact W.vret hx hb hr (fun t ht hW => ke_end h ht) h.1.2.2 dX4_init_104
/-- what FactLines$Reader() makes -/
def kc_L2 (p : Nat) (a : Nat) : List ke_C := [(1, 2, 0, [(1, a, 0), (1, (p + 1), 0), (1, (p + 7), 0), (1, (p + 8), 0), (0, 0, 0), (0, 0, 0), (0, 0, 0), (0, 0, 0), (0, 0, 0), (0, 0, 0)])] ++ kc_L0 (p + 1) ++ [(0, 0, 15, []), (0, 0, 15, [])]
set_option maxRecDepth 100000 in
theorem kc_X2 (p : Nat) (a : Nat) : Met l yX2_init (.code yX2_init cX2_init 2 none :: fx_T0) ({ frames := 3, cells := 8, slots := 114, locals := 52 } : Room) (ke_Pc D cy B p (1, 2, 0, kc_z2) [.ref (B + a)]) (ke_Qc D cy B p (kc_L2 p a)) 8 114 (fun q => B + p ≤ q) := by
  refine Met.ofW (cc := cX2_init) (maxL := 2) (ret := none) (by decide) rfl ?_
  intro p0 e s m args below meth c s₁ Bd hml hv
  obtain ⟨rfl, hsz, hz, hK⟩ := hv
  have hx := Bd.exec
  have hb := Bd.bytes
  have hr := Bd.returns
  have hlocks := Bd.notSynchronized
  have hts0 := atoms_spec (ws := .code yX2_init cX2_init 2 none :: fx_T0) Bd.pre
  have hts : ∀ w ∈ fx_T0, w.before ([.ref (B + p), .ref (B + a)] : List Value).toArray s = true := fun w h => hts0 w (List.mem_cons_of_mem _ h)
  have hown : s.vm.findClass RX2 = some m.cls := findClass_of_methodNamed Bd.named
  have hin := (name_of_methodNamed Bd.named Bd.method).1
  have hl := lv_entry ([.ref (B + p), .ref (B + a)]) (n := 2) (Nat.le_of_ble_eq_true rfl)
  rw [lg_entry_eq]
  generalize (lg_sl ([.ref (B + p), .ref (B + a)]) ++ List.replicate (2 - (lg_sl ([.ref (B + p), .ref (B + a)])).length) Slot.unset).toArray = ls at hl ⊢
  have hl : lv_has ls 2 [(0, .ref (B + p)), (1, .ref (B + a))] := hl
  have h : ke_W D cy B s.heap p [(1, 2, 0, kc_z2)] s.heap [] := ke_start hsz hz
  refine lv_aload_n hx hb dX2_init_0 rfl (lv_at hl 0 rfl) ?_
  refine W.objInit hx hb hown (hts _ (kc_at 33 rfl)) (hts _ (kc_at 2 rfl)) (hts _ (kc_at 3 rfl)) rfl (by rw [hml]; exact hl.1) rfl dX2_init_1 (Nat.le_of_ble_eq_true rfl) (Nat.le_of_ble_eq_true rfl) ?_
  refine W.eq (g2 := F0 m 4 ls []) rfl ?_
  refine lv_aload_n hx hb dX2_init_4 rfl (lv_at hl 0 rfl) ?_
  refine ke_new (X0 := 2) (X := 0) (index := 9) (zs := kc_z0) (n := 1) hx hb hts (by decide) hown (hts _ (kc_at 34 rfl)) (hts _ (kc_at 35 rfl)) (hts _ (kc_at 36 rfl)) hK h tyX0 tyX0_ok (kc_z0_ok B) rfl (Nat.le_of_ble_eq_true rfl) (Nat.le_of_ble_eq_true rfl) dX2_init_5 (fun H1 h => ?_)
  refine lv_dup hx hb dX2_init_8 rfl ?_
  refine ke_call (cs' := kc_L0 (p + 1)) (z := (1, 0, 0, kc_z0)) (n := 1) h rfl (va_runIN (As := []) (rest := [.ref (B + (p + 1)), .ref (B + p)]) ⟨hx, hb, hml, hown, hts⟩ (kc_X0 l D cy B (p + 1)) ⟨va_cnB 0 hts (kc_g (kc_at 37 rfl)) rfl rfl rfl (hK.2.1 _ (List.mem_of_getElem? (i := 2) rfl)) (hts _ (kc_at 36 rfl)) (by decide +kernel) ⟨(Nat.le_of_ble_eq_true rfl), (Nat.le_of_ble_eq_true rfl)⟩, rfl, (hts _ (kc_at 38 rfl))⟩ (ke_pre hK h rfl) rfl rfl hl.1 rfl (lv_room (Nat.le_of_ble_eq_true rfl)) dX2_init_9 ⟨(Nat.le_of_ble_eq_true rfl), (Nat.le_of_ble_eq_true rfl)⟩) (fun H1 locs1 h => ?_)
  refine ke_put (X := 2) (index := 12) (i := 0) (k := 1) (fs := [(2, 0, 0), (2, 0, 0), (2, 0, 0), (2, 0, 0), (0, 0, 0), (0, 0, 0), (0, 0, 0), (0, 0, 0), (0, 0, 0), (0, 0, 0)]) (v := (1, (p + 1), 0)) (ty := tyX2 1) (cs' := [(1, 2, 0, [(2, 0, 0), (1, (p + 1), 0), (2, 0, 0), (2, 0, 0), (0, 0, 0), (0, 0, 0), (0, 0, 0), (0, 0, 0), (0, 0, 0), (0, 0, 0)])] ++ kc_L0 (p + 1)) hx hb hts (by decide) hown (Or.inl hin) hK h rfl (by decide) (Nat.le_of_ble_eq_true rfl) (hts _ (kc_at 39 rfl)) (tyX2_ok 1 (by decide)) rfl rfl rfl dX2_init_12 (fun H1 locs1 h => ?_)
  refine lv_aload_n hx hb dX2_init_15 rfl (lv_at hl 0 rfl) ?_
  refine lv_bipush (v := 15) hx hb dX2_init_16 (by decide) ?_
  refine ke_newa (atype := .int) (t := 0) (N := 15) (n := 7) hx hb (hts _ (kc_at 4 rfl)) (hK.1.2 0 _ rfl).2 rfl h (by decide) (by decide) (by decide) rfl (Nat.le_of_ble_eq_true rfl) (Nat.le_of_ble_eq_true rfl) dX2_init_18 (fun H1 h => ?_)
  refine ke_put (X := 2) (index := 18) (i := 0) (k := 2) (fs := [(2, 0, 0), (1, (p + 1), 0), (2, 0, 0), (2, 0, 0), (0, 0, 0), (0, 0, 0), (0, 0, 0), (0, 0, 0), (0, 0, 0), (0, 0, 0)]) (v := (1, (p + 7), 0)) (ty := tyX2 2) (cs' := [(1, 2, 0, [(2, 0, 0), (1, (p + 1), 0), (1, (p + 7), 0), (2, 0, 0), (0, 0, 0), (0, 0, 0), (0, 0, 0), (0, 0, 0), (0, 0, 0), (0, 0, 0)])] ++ kc_L0 (p + 1) ++ [(0, 0, 15, [])]) hx hb hts (by decide) hown (Or.inl hin) hK h rfl (by decide) (Nat.le_of_ble_eq_true rfl) (hts _ (kc_at 40 rfl)) (tyX2_ok 2 (by decide)) rfl rfl rfl dX2_init_20 (fun H1 locs1 h => ?_)
  refine lv_aload_n hx hb dX2_init_23 rfl (lv_at hl 0 rfl) ?_
  refine lv_bipush (v := 15) hx hb dX2_init_24 (by decide) ?_
  refine ke_newa (atype := .int) (t := 0) (N := 15) (n := 8) hx hb (hts _ (kc_at 4 rfl)) (hK.1.2 0 _ rfl).2 rfl h (by decide) (by decide) (by decide) rfl (Nat.le_of_ble_eq_true rfl) (Nat.le_of_ble_eq_true rfl) dX2_init_26 (fun H1 h => ?_)
  refine ke_put (X := 2) (index := 22) (i := 0) (k := 3) (fs := [(2, 0, 0), (1, (p + 1), 0), (1, (p + 7), 0), (2, 0, 0), (0, 0, 0), (0, 0, 0), (0, 0, 0), (0, 0, 0), (0, 0, 0), (0, 0, 0)]) (v := (1, (p + 8), 0)) (ty := tyX2 3) (cs' := [(1, 2, 0, [(2, 0, 0), (1, (p + 1), 0), (1, (p + 7), 0), (1, (p + 8), 0), (0, 0, 0), (0, 0, 0), (0, 0, 0), (0, 0, 0), (0, 0, 0), (0, 0, 0)])] ++ kc_L0 (p + 1) ++ [(0, 0, 15, []), (0, 0, 15, [])]) hx hb hts (by decide) hown (Or.inl hin) hK h rfl (by decide) (Nat.le_of_ble_eq_true rfl) (hts _ (kc_at 41 rfl)) (tyX2_ok 3 (by decide)) rfl rfl rfl dX2_init_28 (fun H1 locs1 h => ?_)
  refine lv_aload_n hx hb dX2_init_31 rfl (lv_at hl 0 rfl) ?_
  refine lv_aload_n hx hb dX2_init_32 rfl (lv_at hl 1 rfl) ?_
  refine ke_put (X := 2) (index := 25) (i := 0) (k := 0) (fs := [(2, 0, 0), (1, (p + 1), 0), (1, (p + 7), 0), (1, (p + 8), 0), (0, 0, 0), (0, 0, 0), (0, 0, 0), (0, 0, 0), (0, 0, 0), (0, 0, 0)]) (v := (1, a, 0)) (ty := tyX2 0) (cs' := [(1, 2, 0, [(1, a, 0), (1, (p + 1), 0), (1, (p + 7), 0), (1, (p + 8), 0), (0, 0, 0), (0, 0, 0), (0, 0, 0), (0, 0, 0), (0, 0, 0), (0, 0, 0)])] ++ kc_L0 (p + 1) ++ [(0, 0, 15, []), (0, 0, 15, [])]) hx hb hts (by decide) hown (Or.inl hin) hK h rfl (by decide) (Nat.le_of_ble_eq_true rfl) (hts _ (kc_at 42 rfl)) (tyX2_ok 0 (by decide)) rfl rfl rfl dX2_init_33 (fun H1 locs1 h => ?_)
  exact W.vret hx hb hr (fun t ht hW => ke_end h ht) h.1.2.2 dX2_init_36
/-- what FactLines$Lines() makes -/
def kc_L1 (p : Nat) (a : Nat) : List ke_C := [(1, 1, 0, [(1, a, 0), (1, (p + 1), 0), (1, (p + 2), 0), (1, (p + 3), 0), (1, (p + 4), 0), (1, (p + 13), 0), (1, (p + 22), 0), (1, (p + 23), 0), (0, 0, 0), (0, 0, 0), (0, 0, 0)]), (0, 0, 122, []), (0, 0, 1001, []), (0, 1, 1001, [])] ++ kc_M (p + 4) ++ kc_M (p + 13) ++ [(0, 0, 23, []), (0, 0, 8, [])]
set_option maxRecDepth 100000 in
theorem kc_X1 (p : Nat) (a : Nat) : Met l yX1_init (.code yX1_init cX1_init 2 none :: fx_T0) ({ frames := 1, cells := 23, slots := 4107, locals := 12 } : Room) (ke_Pc D cy B p (1, 1, 0, kc_z1) [.ref (B + a)]) (ke_Qc D cy B p (kc_L1 p a)) 23 4107 (fun q => B + p ≤ q) := by
  refine Met.ofW (cc := cX1_init) (maxL := 2) (ret := none) (by decide) rfl ?_
  intro p0 e s m args below meth c s₁ Bd hml hv
  obtain ⟨rfl, hsz, hz, hK⟩ := hv
  have hx := Bd.exec
  have hb := Bd.bytes
  have hr := Bd.returns
  have hlocks := Bd.notSynchronized
  have hts0 := atoms_spec (ws := .code yX1_init cX1_init 2 none :: fx_T0) Bd.pre
  have hts : ∀ w ∈ fx_T0, w.before ([.ref (B + p), .ref (B + a)] : List Value).toArray s = true := fun w h => hts0 w (List.mem_cons_of_mem _ h)
  have hown : s.vm.findClass RX1 = some m.cls := findClass_of_methodNamed Bd.named
  have hin := (name_of_methodNamed Bd.named Bd.method).1
  have hl := lv_entry ([.ref (B + p), .ref (B + a)]) (n := 2) (Nat.le_of_ble_eq_true rfl)
  rw [lg_entry_eq]
  generalize (lg_sl ([.ref (B + p), .ref (B + a)]) ++ List.replicate (2 - (lg_sl ([.ref (B + p), .ref (B + a)])).length) Slot.unset).toArray = ls at hl ⊢
  have hl : lv_has ls 2 [(0, .ref (B + p)), (1, .ref (B + a))] := hl
  have h : ke_W D cy B s.heap p [(1, 1, 0, kc_z1)] s.heap [] := ke_start hsz hz
  refine lv_aload_n hx hb dX1_init_0 rfl (lv_at hl 0 rfl) ?_
  refine W.objInit hx hb hown (hts _ (kc_at 43 rfl)) (hts _ (kc_at 2 rfl)) (hts _ (kc_at 3 rfl)) rfl (by rw [hml]; exact hl.1) rfl dX1_init_1 (Nat.le_of_ble_eq_true rfl) (Nat.le_of_ble_eq_true rfl) ?_
  refine W.eq (g2 := F0 m 4 ls []) rfl ?_
  refine lv_aload_n hx hb dX1_init_4 rfl (lv_at hl 0 rfl) ?_
  refine lv_bipush (v := 122) hx hb dX1_init_5 (by decide) ?_
  refine ke_newa (atype := .int) (t := 0) (N := 122) (n := 1) hx hb (hts _ (kc_at 4 rfl)) (hK.1.2 0 _ rfl).2 rfl h (by decide) (by decide) (by decide) rfl (Nat.le_of_ble_eq_true rfl) (Nat.le_of_ble_eq_true rfl) dX1_init_7 (fun H1 h => ?_)
  refine ke_put (X := 1) (index := 9) (i := 0) (k := 1) (fs := [(2, 0, 0), (2, 0, 0), (2, 0, 0), (2, 0, 0), (2, 0, 0), (2, 0, 0), (2, 0, 0), (2, 0, 0), (0, 0, 0), (0, 0, 0), (0, 0, 0)]) (v := (1, (p + 1), 0)) (ty := tyX1 1) (cs' := [(1, 1, 0, [(2, 0, 0), (1, (p + 1), 0), (2, 0, 0), (2, 0, 0), (2, 0, 0), (2, 0, 0), (2, 0, 0), (2, 0, 0), (0, 0, 0), (0, 0, 0), (0, 0, 0)]), (0, 0, 122, [])]) hx hb hts (by decide) hown (Or.inl hin) hK h rfl (by decide) (Nat.le_of_ble_eq_true rfl) (hts _ (kc_at 44 rfl)) (tyX1_ok 1 (by decide)) rfl rfl rfl dX1_init_9 (fun H1 locs1 h => ?_)
  refine lv_aload_n hx hb dX1_init_12 rfl (lv_at hl 0 rfl) ?_
  refine lv_sipush (v := 1001) hx hb dX1_init_13 (by decide) ?_
  refine ke_newa (atype := .int) (t := 0) (N := 1001) (n := 2) hx hb (hts _ (kc_at 4 rfl)) (hK.1.2 0 _ rfl).2 rfl h (by decide) (by decide) (by decide) rfl (Nat.le_of_ble_eq_true rfl) (Nat.le_of_ble_eq_true rfl) dX1_init_16 (fun H1 h => ?_)
  refine ke_put (X := 1) (index := 15) (i := 0) (k := 2) (fs := [(2, 0, 0), (1, (p + 1), 0), (2, 0, 0), (2, 0, 0), (2, 0, 0), (2, 0, 0), (2, 0, 0), (2, 0, 0), (0, 0, 0), (0, 0, 0), (0, 0, 0)]) (v := (1, (p + 2), 0)) (ty := tyX1 2) (cs' := [(1, 1, 0, [(2, 0, 0), (1, (p + 1), 0), (1, (p + 2), 0), (2, 0, 0), (2, 0, 0), (2, 0, 0), (2, 0, 0), (2, 0, 0), (0, 0, 0), (0, 0, 0), (0, 0, 0)]), (0, 0, 122, []), (0, 0, 1001, [])]) hx hb hts (by decide) hown (Or.inl hin) hK h rfl (by decide) (Nat.le_of_ble_eq_true rfl) (hts _ (kc_at 45 rfl)) (tyX1_ok 2 (by decide)) rfl rfl rfl dX1_init_18 (fun H1 locs1 h => ?_)
  refine lv_aload_n hx hb dX1_init_21 rfl (lv_at hl 0 rfl) ?_
  refine lv_sipush (v := 1001) hx hb dX1_init_22 (by decide) ?_
  refine ke_newa (atype := .boolean) (t := 1) (N := 1001) (n := 3) hx hb (hts _ (kc_at 23 rfl)) (hK.1.2 1 _ rfl).2 rfl h (by decide) (by decide) (by decide) rfl (Nat.le_of_ble_eq_true rfl) (Nat.le_of_ble_eq_true rfl) dX1_init_25 (fun H1 h => ?_)
  refine ke_put (X := 1) (index := 18) (i := 0) (k := 3) (fs := [(2, 0, 0), (1, (p + 1), 0), (1, (p + 2), 0), (2, 0, 0), (2, 0, 0), (2, 0, 0), (2, 0, 0), (2, 0, 0), (0, 0, 0), (0, 0, 0), (0, 0, 0)]) (v := (1, (p + 3), 0)) (ty := tyX1 3) (cs' := [(1, 1, 0, [(2, 0, 0), (1, (p + 1), 0), (1, (p + 2), 0), (1, (p + 3), 0), (2, 0, 0), (2, 0, 0), (2, 0, 0), (2, 0, 0), (0, 0, 0), (0, 0, 0), (0, 0, 0)]), (0, 0, 122, []), (0, 0, 1001, []), (0, 1, 1001, [])]) hx hb hts (by decide) hown (Or.inl hin) hK h rfl (by decide) (Nat.le_of_ble_eq_true rfl) (hts _ (kc_at 46 rfl)) (tyX1_ok 3 (by decide)) rfl rfl rfl dX1_init_27 (fun H1 locs1 h => ?_)
  refine lv_aload_n hx hb dX1_init_30 rfl (lv_at hl 0 rfl) ?_
  refine lv_bipush (v := 8) hx hb dX1_init_31 (by decide) ?_
  refine lv_bipush (v := 121) hx hb dX1_init_33 (by decide) ?_
  refine ke_multi (X0 := 1) (index := 22) (n := 4) hx hb hown (hts _ (kc_at 47 rfl)) hK h rfl rfl rfl (Nat.le_of_ble_eq_true rfl) (Nat.le_of_ble_eq_true rfl) dX1_init_35 (fun H1 locs1 h => ?_)
  refine ke_put (X := 1) (index := 24) (i := 0) (k := 4) (fs := [(2, 0, 0), (1, (p + 1), 0), (1, (p + 2), 0), (1, (p + 3), 0), (2, 0, 0), (2, 0, 0), (2, 0, 0), (2, 0, 0), (0, 0, 0), (0, 0, 0), (0, 0, 0)]) (v := (1, (p + 4), 0)) (ty := tyX1 4) (cs' := [(1, 1, 0, [(2, 0, 0), (1, (p + 1), 0), (1, (p + 2), 0), (1, (p + 3), 0), (1, (p + 4), 0), (2, 0, 0), (2, 0, 0), (2, 0, 0), (0, 0, 0), (0, 0, 0), (0, 0, 0)]), (0, 0, 122, []), (0, 0, 1001, []), (0, 1, 1001, [])] ++ kc_M (p + 4)) hx hb hts (by decide) hown (Or.inl hin) hK h rfl (by decide) (Nat.le_of_ble_eq_true rfl) (hts _ (kc_at 48 rfl)) (tyX1_ok 4 (by decide)) rfl rfl rfl dX1_init_39 (fun H1 locs1 h => ?_)
  refine lv_aload_n hx hb dX1_init_42 rfl (lv_at hl 0 rfl) ?_
  refine lv_bipush (v := 8) hx hb dX1_init_43 (by decide) ?_
  refine lv_bipush (v := 121) hx hb dX1_init_45 (by decide) ?_
  refine ke_multi (X0 := 1) (index := 22) (n := 13) hx hb hown (hts _ (kc_at 47 rfl)) hK h rfl rfl rfl (Nat.le_of_ble_eq_true rfl) (Nat.le_of_ble_eq_true rfl) dX1_init_47 (fun H1 locs1 h => ?_)
  refine ke_put (X := 1) (index := 27) (i := 0) (k := 5) (fs := [(2, 0, 0), (1, (p + 1), 0), (1, (p + 2), 0), (1, (p + 3), 0), (1, (p + 4), 0), (2, 0, 0), (2, 0, 0), (2, 0, 0), (0, 0, 0), (0, 0, 0), (0, 0, 0)]) (v := (1, (p + 13), 0)) (ty := tyX1 5) (cs' := [(1, 1, 0, [(2, 0, 0), (1, (p + 1), 0), (1, (p + 2), 0), (1, (p + 3), 0), (1, (p + 4), 0), (1, (p + 13), 0), (2, 0, 0), (2, 0, 0), (0, 0, 0), (0, 0, 0), (0, 0, 0)]), (0, 0, 122, []), (0, 0, 1001, []), (0, 1, 1001, [])] ++ kc_M (p + 4) ++ kc_M (p + 13)) hx hb hts (by decide) hown (Or.inl hin) hK h rfl (by decide) (Nat.le_of_ble_eq_true rfl) (hts _ (kc_at 49 rfl)) (tyX1_ok 5 (by decide)) rfl rfl rfl dX1_init_51 (fun H1 locs1 h => ?_)
  refine lv_aload_n hx hb dX1_init_54 rfl (lv_at hl 0 rfl) ?_
  refine lv_bipush (v := 23) hx hb dX1_init_55 (by decide) ?_
  refine ke_newa (atype := .int) (t := 0) (N := 23) (n := 22) hx hb (hts _ (kc_at 4 rfl)) (hK.1.2 0 _ rfl).2 rfl h (by decide) (by decide) (by decide) rfl (Nat.le_of_ble_eq_true rfl) (Nat.le_of_ble_eq_true rfl) dX1_init_57 (fun H1 h => ?_)
  refine ke_put (X := 1) (index := 30) (i := 0) (k := 6) (fs := [(2, 0, 0), (1, (p + 1), 0), (1, (p + 2), 0), (1, (p + 3), 0), (1, (p + 4), 0), (1, (p + 13), 0), (2, 0, 0), (2, 0, 0), (0, 0, 0), (0, 0, 0), (0, 0, 0)]) (v := (1, (p + 22), 0)) (ty := tyX1 6) (cs' := [(1, 1, 0, [(2, 0, 0), (1, (p + 1), 0), (1, (p + 2), 0), (1, (p + 3), 0), (1, (p + 4), 0), (1, (p + 13), 0), (1, (p + 22), 0), (2, 0, 0), (0, 0, 0), (0, 0, 0), (0, 0, 0)]), (0, 0, 122, []), (0, 0, 1001, []), (0, 1, 1001, [])] ++ kc_M (p + 4) ++ kc_M (p + 13) ++ [(0, 0, 23, [])]) hx hb hts (by decide) hown (Or.inl hin) hK h rfl (by decide) (Nat.le_of_ble_eq_true rfl) (hts _ (kc_at 50 rfl)) (tyX1_ok 6 (by decide)) rfl rfl rfl dX1_init_59 (fun H1 locs1 h => ?_)
  refine lv_aload_n hx hb dX1_init_62 rfl (lv_at hl 0 rfl) ?_
  refine lv_bipush (v := 8) hx hb dX1_init_63 (by decide) ?_
  refine ke_newa (atype := .int) (t := 0) (N := 8) (n := 23) hx hb (hts _ (kc_at 4 rfl)) (hK.1.2 0 _ rfl).2 rfl h (by decide) (by decide) (by decide) rfl (Nat.le_of_ble_eq_true rfl) (Nat.le_of_ble_eq_true rfl) dX1_init_65 (fun H1 h => ?_)
  refine ke_put (X := 1) (index := 33) (i := 0) (k := 7) (fs := [(2, 0, 0), (1, (p + 1), 0), (1, (p + 2), 0), (1, (p + 3), 0), (1, (p + 4), 0), (1, (p + 13), 0), (1, (p + 22), 0), (2, 0, 0), (0, 0, 0), (0, 0, 0), (0, 0, 0)]) (v := (1, (p + 23), 0)) (ty := tyX1 7) (cs' := [(1, 1, 0, [(2, 0, 0), (1, (p + 1), 0), (1, (p + 2), 0), (1, (p + 3), 0), (1, (p + 4), 0), (1, (p + 13), 0), (1, (p + 22), 0), (1, (p + 23), 0), (0, 0, 0), (0, 0, 0), (0, 0, 0)]), (0, 0, 122, []), (0, 0, 1001, []), (0, 1, 1001, [])] ++ kc_M (p + 4) ++ kc_M (p + 13) ++ [(0, 0, 23, []), (0, 0, 8, [])]) hx hb hts (by decide) hown (Or.inl hin) hK h rfl (by decide) (Nat.le_of_ble_eq_true rfl) (hts _ (kc_at 51 rfl)) (tyX1_ok 7 (by decide)) rfl rfl rfl dX1_init_67 (fun H1 locs1 h => ?_)
  refine lv_aload_n hx hb dX1_init_70 rfl (lv_at hl 0 rfl) ?_
  refine lv_aload_n hx hb dX1_init_71 rfl (lv_at hl 1 rfl) ?_
  refine ke_put (X := 1) (index := 36) (i := 0) (k := 0) (fs := [(2, 0, 0), (1, (p + 1), 0), (1, (p + 2), 0), (1, (p + 3), 0), (1, (p + 4), 0), (1, (p + 13), 0), (1, (p + 22), 0), (1, (p + 23), 0), (0, 0, 0), (0, 0, 0), (0, 0, 0)]) (v := (1, a, 0)) (ty := tyX1 0) (cs' := [(1, 1, 0, [(1, a, 0), (1, (p + 1), 0), (1, (p + 2), 0), (1, (p + 3), 0), (1, (p + 4), 0), (1, (p + 13), 0), (1, (p + 22), 0), (1, (p + 23), 0), (0, 0, 0), (0, 0, 0), (0, 0, 0)]), (0, 0, 122, []), (0, 0, 1001, []), (0, 1, 1001, [])] ++ kc_M (p + 4) ++ kc_M (p + 13) ++ [(0, 0, 23, []), (0, 0, 8, [])]) hx hb hts (by decide) hown (Or.inl hin) hK h rfl (by decide) (Nat.le_of_ble_eq_true rfl) (hts _ (kc_at 52 rfl)) (tyX1_ok 0 (by decide)) rfl rfl rfl dX1_init_72 (fun H1 locs1 h => ?_)
  exact W.vret hx hb hr (fun t ht hW => ke_end h ht) h.1.2.2 dX1_init_75
/-- what FactLines() makes -/
def kc_L6 (_ : Nat) : List ke_C := [(1, 6, 0, [(1, (0 + 1), 0), (1, (0 + 43), 0), (1, (0 + 85), 0), (1, (0 + 127), 0), (1, (0 + 464), 0), (1, (0 + 470), 0), (1, (0 + 475), 0), (1, (0 + 484), 0), (1, (0 + 508), 0), (0, 0, 0), (0, 0, 0), (0, 0, 0), (0, 0, 0), (0, 0, 0), (0, 0, -1)])] ++ kc_L4 (0 + 1) ++ kc_L4 (0 + 43) ++ kc_L4 (0 + 85) ++ [(2, 3, 8, [(1, 0 + 128, 0), (1, 0 + 170, 0), (1, 0 + 212, 0), (1, 0 + 254, 0), (1, 0 + 296, 0), (1, 0 + 338, 0), (1, 0 + 380, 0), (1, 0 + 422, 0)])] ++ kc_L4 (0 + 128) ++ kc_L4 (0 + 170) ++ kc_L4 (0 + 212) ++ kc_L4 (0 + 254) ++ kc_L4 (0 + 296) ++ kc_L4 (0 + 338) ++ kc_L4 (0 + 380) ++ kc_L4 (0 + 422) ++ kc_L0 (0 + 464) ++ kc_L5 (0 + 470) ++ kc_L2 (0 + 475) (0 + 470) ++ kc_L1 (0 + 484) (0 + 1) ++ kc_L1 (0 + 508) (0 + 1)
set_option maxRecDepth 100000 in
theorem kc_X6 : Met l yX6_init (.code yX6_init cX6_init 2 none :: fx_T0) ({ frames := 4, cells := 531, slots := 21006, locals := 73 } : Room) (ke_Pc D cy B 0 (1, 6, 0, kc_z6) []) (ke_Qc D cy B 0 (kc_L6 0)) 531 21006 (fun q => B + 0 ≤ q) := by
  refine Met.ofW (cc := cX6_init) (maxL := 2) (ret := none) (by decide) rfl ?_
  intro p0 e s m args below meth c s₁ Bd hml hv
  obtain ⟨rfl, hsz, hz, hK⟩ := hv
  have hx := Bd.exec
  have hb := Bd.bytes
  have hr := Bd.returns
  have hlocks := Bd.notSynchronized
  have hts0 := atoms_spec (ws := .code yX6_init cX6_init 2 none :: fx_T0) Bd.pre
  have hts : ∀ w ∈ fx_T0, w.before ([.ref (B + 0)] : List Value).toArray s = true := fun w h => hts0 w (List.mem_cons_of_mem _ h)
  have hown : s.vm.findClass RX6 = some m.cls := findClass_of_methodNamed Bd.named
  have hin := (name_of_methodNamed Bd.named Bd.method).1
  have hl := lv_entry ([.ref (B + 0)]) (n := 2) (Nat.le_of_ble_eq_true rfl)
  rw [lg_entry_eq]
  generalize (lg_sl ([.ref (B + 0)]) ++ List.replicate (2 - (lg_sl ([.ref (B + 0)])).length) Slot.unset).toArray = ls at hl ⊢
  have hl : lv_has ls 2 [(0, .ref (B + 0))] := hl
  have h : ke_W D cy B s.heap 0 [(1, 6, 0, kc_z6)] s.heap [] := ke_start hsz hz
  refine lv_aload_n hx hb dX6_init_0 rfl (lv_at hl 0 rfl) ?_
  refine W.objInit hx hb hown (hts _ (kc_at 53 rfl)) (hts _ (kc_at 2 rfl)) (hts _ (kc_at 3 rfl)) rfl (by rw [hml]; exact hl.1) rfl dX6_init_1 (Nat.le_of_ble_eq_true rfl) (Nat.le_of_ble_eq_true rfl) ?_
  refine W.eq (g2 := F0 m 4 ls []) rfl ?_
  refine lv_aload_n hx hb dX6_init_4 rfl (lv_at hl 0 rfl) ?_
  refine ke_new (X0 := 6) (X := 4) (index := 9) (zs := kc_z4) (n := 1) hx hb hts (by decide) hown (hts _ (kc_at 54 rfl)) (hts _ (kc_at 55 rfl)) (hts _ (kc_at 56 rfl)) hK h tyX4 tyX4_ok (kc_z4_ok B) (by decide +kernel) (Nat.le_of_ble_eq_true rfl) (Nat.le_of_ble_eq_true rfl) dX6_init_5 (fun H1 h => ?_)
  refine lv_dup hx hb dX6_init_8 rfl ?_
  refine ke_call (cs' := kc_L4 (0 + 1)) (z := (1, 4, 0, kc_z4)) (n := 1) h (by decide +kernel) (va_runI (As := []) (rest := [.ref (B + (0 + 1)), .ref (B + 0)]) ⟨hx, hb, hml, hown, hts⟩ (kc_X4 l D cy B (0 + 1)) ⟨callB_of 0 hts (kc_g (kc_at 57 rfl)) rfl rfl rfl (hts _ (kc_at 56 rfl)) (hts _ (kc_at 58 rfl)) (by decide +kernel) ⟨(Nat.le_of_ble_eq_true rfl), (Nat.le_of_ble_eq_true rfl)⟩, rfl, (hts _ (kc_at 59 rfl))⟩ (ke_pre hK h (by decide +kernel)) rfl rfl hl.1 rfl (lv_room (Nat.le_of_ble_eq_true rfl)) dX6_init_9 ⟨(Nat.le_of_ble_eq_true rfl), (Nat.le_of_ble_eq_true rfl)⟩) (fun H1 locs1 h => ?_)
  refine ke_put (X := 6) (index := 12) (i := 0) (k := 0) (fs := [(2, 0, 0), (2, 0, 0), (2, 0, 0), (2, 0, 0), (2, 0, 0), (2, 0, 0), (2, 0, 0), (2, 0, 0), (2, 0, 0), (0, 0, 0), (0, 0, 0), (0, 0, 0), (0, 0, 0), (0, 0, 0), (0, 0, 0)]) (v := (1, (0 + 1), 0)) (ty := tyX6 0) (cs' := [(1, 6, 0, [(1, (0 + 1), 0), (2, 0, 0), (2, 0, 0), (2, 0, 0), (2, 0, 0), (2, 0, 0), (2, 0, 0), (2, 0, 0), (2, 0, 0), (0, 0, 0), (0, 0, 0), (0, 0, 0), (0, 0, 0), (0, 0, 0), (0, 0, 0)])] ++ kc_L4 (0 + 1)) hx hb hts (by decide) hown (Or.inl hin) hK h (kc_eo (by decide +kernel)) (by decide) (Nat.le_of_ble_eq_true rfl) (hts _ (kc_at 60 rfl)) (tyX6_ok 0 (by decide)) rfl rfl (kc_el (by decide +kernel)) dX6_init_12 (fun H1 locs1 h => ?_)
  refine lv_aload_n hx hb dX6_init_15 rfl (lv_at hl 0 rfl) ?_
  refine ke_new (X0 := 6) (X := 4) (index := 9) (zs := kc_z4) (n := 43) hx hb hts (by decide) hown (hts _ (kc_at 54 rfl)) (hts _ (kc_at 55 rfl)) (hts _ (kc_at 56 rfl)) hK h tyX4 tyX4_ok (kc_z4_ok B) (by decide +kernel) (Nat.le_of_ble_eq_true rfl) (Nat.le_of_ble_eq_true rfl) dX6_init_16 (fun H1 h => ?_)
  refine lv_dup hx hb dX6_init_19 rfl ?_
  refine ke_call (cs' := kc_L4 (0 + 43)) (z := (1, 4, 0, kc_z4)) (n := 43) h (by decide +kernel) (va_runI (As := []) (rest := [.ref (B + (0 + 43)), .ref (B + 0)]) ⟨hx, hb, hml, hown, hts⟩ (kc_X4 l D cy B (0 + 43)) ⟨callB_of 0 hts (kc_g (kc_at 57 rfl)) rfl rfl rfl (hts _ (kc_at 56 rfl)) (hts _ (kc_at 58 rfl)) (by decide +kernel) ⟨(Nat.le_of_ble_eq_true rfl), (Nat.le_of_ble_eq_true rfl)⟩, rfl, (hts _ (kc_at 59 rfl))⟩ (ke_pre hK h (by decide +kernel)) rfl rfl hl.1 rfl (lv_room (Nat.le_of_ble_eq_true rfl)) dX6_init_20 ⟨(Nat.le_of_ble_eq_true rfl), (Nat.le_of_ble_eq_true rfl)⟩) (fun H1 locs1 h => ?_)
  refine ke_put (X := 6) (index := 16) (i := 0) (k := 1) (fs := [(1, (0 + 1), 0), (2, 0, 0), (2, 0, 0), (2, 0, 0), (2, 0, 0), (2, 0, 0), (2, 0, 0), (2, 0, 0), (2, 0, 0), (0, 0, 0), (0, 0, 0), (0, 0, 0), (0, 0, 0), (0, 0, 0), (0, 0, 0)]) (v := (1, (0 + 43), 0)) (ty := tyX6 1) (cs' := [(1, 6, 0, [(1, (0 + 1), 0), (1, (0 + 43), 0), (2, 0, 0), (2, 0, 0), (2, 0, 0), (2, 0, 0), (2, 0, 0), (2, 0, 0), (2, 0, 0), (0, 0, 0), (0, 0, 0), (0, 0, 0), (0, 0, 0), (0, 0, 0), (0, 0, 0)])] ++ kc_L4 (0 + 1) ++ kc_L4 (0 + 43)) hx hb hts (by decide) hown (Or.inl hin) hK h (kc_eo (by decide +kernel)) (by decide) (Nat.le_of_ble_eq_true rfl) (hts _ (kc_at 61 rfl)) (tyX6_ok 1 (by decide)) rfl rfl (kc_el (by decide +kernel)) dX6_init_23 (fun H1 locs1 h => ?_)
  refine lv_aload_n hx hb dX6_init_26 rfl (lv_at hl 0 rfl) ?_
  refine ke_new (X0 := 6) (X := 4) (index := 9) (zs := kc_z4) (n := 85) hx hb hts (by decide) hown (hts _ (kc_at 54 rfl)) (hts _ (kc_at 55 rfl)) (hts _ (kc_at 56 rfl)) hK h tyX4 tyX4_ok (kc_z4_ok B) (by decide +kernel) (Nat.le_of_ble_eq_true rfl) (Nat.le_of_ble_eq_true rfl) dX6_init_27 (fun H1 h => ?_)
  refine lv_dup hx hb dX6_init_30 rfl ?_
  refine ke_call (cs' := kc_L4 (0 + 85)) (z := (1, 4, 0, kc_z4)) (n := 85) h (by decide +kernel) (va_runI (As := []) (rest := [.ref (B + (0 + 85)), .ref (B + 0)]) ⟨hx, hb, hml, hown, hts⟩ (kc_X4 l D cy B (0 + 85)) ⟨callB_of 0 hts (kc_g (kc_at 57 rfl)) rfl rfl rfl (hts _ (kc_at 56 rfl)) (hts _ (kc_at 58 rfl)) (by decide +kernel) ⟨(Nat.le_of_ble_eq_true rfl), (Nat.le_of_ble_eq_true rfl)⟩, rfl, (hts _ (kc_at 59 rfl))⟩ (ke_pre hK h (by decide +kernel)) rfl rfl hl.1 rfl (lv_room (Nat.le_of_ble_eq_true rfl)) dX6_init_31 ⟨(Nat.le_of_ble_eq_true rfl), (Nat.le_of_ble_eq_true rfl)⟩) (fun H1 locs1 h => ?_)
  refine ke_put (X := 6) (index := 19) (i := 0) (k := 2) (fs := [(1, (0 + 1), 0), (1, (0 + 43), 0), (2, 0, 0), (2, 0, 0), (2, 0, 0), (2, 0, 0), (2, 0, 0), (2, 0, 0), (2, 0, 0), (0, 0, 0), (0, 0, 0), (0, 0, 0), (0, 0, 0), (0, 0, 0), (0, 0, 0)]) (v := (1, (0 + 85), 0)) (ty := tyX6 2) (cs' := [(1, 6, 0, [(1, (0 + 1), 0), (1, (0 + 43), 0), (1, (0 + 85), 0), (2, 0, 0), (2, 0, 0), (2, 0, 0), (2, 0, 0), (2, 0, 0), (2, 0, 0), (0, 0, 0), (0, 0, 0), (0, 0, 0), (0, 0, 0), (0, 0, 0), (0, 0, 0)])] ++ kc_L4 (0 + 1) ++ kc_L4 (0 + 43) ++ kc_L4 (0 + 85)) hx hb hts (by decide) hown (Or.inl hin) hK h (kc_eo (by decide +kernel)) (by decide) (Nat.le_of_ble_eq_true rfl) (hts _ (kc_at 62 rfl)) (tyX6_ok 2 (by decide)) rfl rfl (kc_el (by decide +kernel)) dX6_init_34 (fun H1 locs1 h => ?_)
  refine lv_aload_n hx hb dX6_init_37 rfl (lv_at hl 0 rfl) ?_
  refine lv_bipush (v := 8) hx hb dX6_init_38 (by decide) ?_
  refine ke_newq (C := "FactLines$State") (X0 := 6) (t := 3) (N := 8) (n := 127) hx hb hown (hts _ (kc_at 54 rfl)) hK.2.2.1.2 (kc_rt3 hK) h (by decide) (by decide) (by decide) (by decide +kernel) (Nat.le_of_ble_eq_true rfl) (Nat.le_of_ble_eq_true rfl) dX6_init_40 (fun H1 h => ?_)
  refine ke_put (X := 6) (index := 22) (i := 0) (k := 3) (fs := [(1, (0 + 1), 0), (1, (0 + 43), 0), (1, (0 + 85), 0), (2, 0, 0), (2, 0, 0), (2, 0, 0), (2, 0, 0), (2, 0, 0), (2, 0, 0), (0, 0, 0), (0, 0, 0), (0, 0, 0), (0, 0, 0), (0, 0, 0), (0, 0, 0)]) (v := (1, (0 + 127), 0)) (ty := tyX6 3) (cs' := [(1, 6, 0, [(1, (0 + 1), 0), (1, (0 + 43), 0), (1, (0 + 85), 0), (1, (0 + 127), 0), (2, 0, 0), (2, 0, 0), (2, 0, 0), (2, 0, 0), (2, 0, 0), (0, 0, 0), (0, 0, 0), (0, 0, 0), (0, 0, 0), (0, 0, 0), (0, 0, 0)])] ++ kc_L4 (0 + 1) ++ kc_L4 (0 + 43) ++ kc_L4 (0 + 85) ++ [(2, 3, 8, [(2, 0, 0), (2, 0, 0), (2, 0, 0), (2, 0, 0), (2, 0, 0), (2, 0, 0), (2, 0, 0), (2, 0, 0)])]) hx hb hts (by decide) hown (Or.inl hin) hK h (kc_eo (by decide +kernel)) (by decide) (Nat.le_of_ble_eq_true rfl) (hts _ (kc_at 63 rfl)) (tyX6_ok 3 (by decide)) rfl rfl (kc_el (by decide +kernel)) dX6_init_43 (fun H1 locs1 h => ?_)
  refine lv_iconst (v := 0) hx hb dX6_init_46 (by decide) ?_
  refine lv_istore_n (i := 1) (lv' := [(1, .int 0), (0, .ref (B + 0))]) hx hb dX6_init_47 rfl hl (by decide) rfl (fun ls hl => ?_)
  refine lv_iload_n hx hb dX6_init_48 rfl (lv_at hl 0 rfl) ?_
  refine lv_bipush (v := 8) hx hb dX6_init_49 (by decide) ?_
  refine lv_icmp_ge (tgt := 73) hx hb dX6_init_51 (by decide) (fun h9 => absurd h9 (by decide)) (fun _ => ?_)
  refine lv_aload_n hx hb dX6_init_54 rfl (lv_at hl 1 rfl) ?_
  refine ke_get (X := 6) (index := 22) (i := 0) (k := 3) (fs := [(1, (0 + 1), 0), (1, (0 + 43), 0), (1, (0 + 85), 0), (1, (0 + 127), 0), (2, 0, 0), (2, 0, 0), (2, 0, 0), (2, 0, 0), (2, 0, 0), (0, 0, 0), (0, 0, 0), (0, 0, 0), (0, 0, 0), (0, 0, 0), (0, 0, 0)]) (v := (1, (0 + 127), 0)) hx hb hts (by decide) hown hK h (kc_eo (by decide +kernel)) (by decide) rfl (hts _ (kc_at 63 rfl)) dX6_init_55 ?_
  refine lv_iload_n hx hb dX6_init_58 rfl (lv_at hl 0 rfl) ?_
  refine ke_new (X0 := 6) (X := 4) (index := 9) (zs := kc_z4) (n := 128) hx hb hts (by decide) hown (hts _ (kc_at 54 rfl)) (hts _ (kc_at 55 rfl)) (hts _ (kc_at 56 rfl)) hK h tyX4 tyX4_ok (kc_z4_ok B) (by decide +kernel) (Nat.le_of_ble_eq_true rfl) (Nat.le_of_ble_eq_true rfl) dX6_init_59 (fun H1 h => ?_)
  refine lv_dup hx hb dX6_init_62 rfl ?_
  refine ke_call (cs' := kc_L4 (0 + 128)) (z := (1, 4, 0, kc_z4)) (n := 128) h (by decide +kernel) (va_runI (As := []) (rest := [.ref (B + (0 + 128)), .int 0, .ref (B + (0 + 127))]) ⟨hx, hb, hml, hown, hts⟩ (kc_X4 l D cy B (0 + 128)) ⟨callB_of 0 hts (kc_g (kc_at 57 rfl)) rfl rfl rfl (hts _ (kc_at 56 rfl)) (hts _ (kc_at 58 rfl)) (by decide +kernel) ⟨(Nat.le_of_ble_eq_true rfl), (Nat.le_of_ble_eq_true rfl)⟩, rfl, (hts _ (kc_at 59 rfl))⟩ (ke_pre hK h (by decide +kernel)) rfl rfl hl.1 rfl (lv_room (Nat.le_of_ble_eq_true rfl)) dX6_init_63 ⟨(Nat.le_of_ble_eq_true rfl), (Nat.le_of_ble_eq_true rfl)⟩) (fun H1 locs1 h => ?_)
  refine ke_ast (X := 4) (t := 3) (N := 8) (i := 127) (i2 := 128) (a := 3) (C := "FactLines$State") (vals := [(2, 0, 0), (2, 0, 0), (2, 0, 0), (2, 0, 0), (2, 0, 0), (2, 0, 0), (2, 0, 0), (2, 0, 0)]) (fs := [(1, ((0 + 128) + 1), 0), (1, ((0 + 128) + 2), 0), (1, ((0 + 128) + 3), 0), (1, ((0 + 128) + 4), 0), (1, ((0 + 128) + 5), 0), (1, ((0 + 128) + 6), 0), (1, ((0 + 128) + 7), 0), (1, ((0 + 128) + 8), 0), (1, ((0 + 128) + 9), 0), (0, 0, 0), (0, 0, 0)]) (j := 0) (cs' := [(1, 6, 0, [(1, (0 + 1), 0), (1, (0 + 43), 0), (1, (0 + 85), 0), (1, (0 + 127), 0), (2, 0, 0), (2, 0, 0), (2, 0, 0), (2, 0, 0), (2, 0, 0), (0, 0, 0), (0, 0, 0), (0, 0, 0), (0, 0, 0), (0, 0, 0), (0, 0, 0)])] ++ kc_L4 (0 + 1) ++ kc_L4 (0 + 43) ++ kc_L4 (0 + 85) ++ [(2, 3, 8, [(1, 0 + 128, 0), (2, 0, 0), (2, 0, 0), (2, 0, 0), (2, 0, 0), (2, 0, 0), (2, 0, 0), (2, 0, 0)])] ++ kc_L4 (0 + 128)) hx hb (by decide) rfl hK h (kc_eo (by decide +kernel)) rfl (kc_eo (by decide +kernel)) (by decide) (by decide) rfl (kc_el (by decide +kernel)) dX6_init_66 (fun H1 locs1 h => ?_)
  refine lv_iinc (k := 0) (v := 1) (lv' := [(1, .int 1), (0, .ref (B + 0))]) hx hb dX6_init_67 hl rfl (by decide) (by decide) rfl (fun ls hl => ?_)
  refine lv_goto (tgt := 48) hx hb dX6_init_70 (by decide) ?_
  refine lv_iload_n hx hb dX6_init_48 rfl (lv_at hl 0 rfl) ?_
  refine lv_bipush (v := 8) hx hb dX6_init_49 (by decide) ?_
  refine lv_icmp_ge (tgt := 73) hx hb dX6_init_51 (by decide) (fun h9 => absurd h9 (by decide)) (fun _ => ?_)
  refine lv_aload_n hx hb dX6_init_54 rfl (lv_at hl 1 rfl) ?_
  refine ke_get (X := 6) (index := 22) (i := 0) (k := 3) (fs := [(1, (0 + 1), 0), (1, (0 + 43), 0), (1, (0 + 85), 0), (1, (0 + 127), 0), (2, 0, 0), (2, 0, 0), (2, 0, 0), (2, 0, 0), (2, 0, 0), (0, 0, 0), (0, 0, 0), (0, 0, 0), (0, 0, 0), (0, 0, 0), (0, 0, 0)]) (v := (1, (0 + 127), 0)) hx hb hts (by decide) hown hK h (kc_eo (by decide +kernel)) (by decide) rfl (hts _ (kc_at 63 rfl)) dX6_init_55 ?_
  refine lv_iload_n hx hb dX6_init_58 rfl (lv_at hl 0 rfl) ?_
  refine ke_new (X0 := 6) (X := 4) (index := 9) (zs := kc_z4) (n := 170) hx hb hts (by decide) hown (hts _ (kc_at 54 rfl)) (hts _ (kc_at 55 rfl)) (hts _ (kc_at 56 rfl)) hK h tyX4 tyX4_ok (kc_z4_ok B) (by decide +kernel) (Nat.le_of_ble_eq_true rfl) (Nat.le_of_ble_eq_true rfl) dX6_init_59 (fun H1 h => ?_)
  refine lv_dup hx hb dX6_init_62 rfl ?_
  refine ke_call (cs' := kc_L4 (0 + 170)) (z := (1, 4, 0, kc_z4)) (n := 170) h (by decide +kernel) (va_runI (As := []) (rest := [.ref (B + (0 + 170)), .int 1, .ref (B + (0 + 127))]) ⟨hx, hb, hml, hown, hts⟩ (kc_X4 l D cy B (0 + 170)) ⟨callB_of 0 hts (kc_g (kc_at 57 rfl)) rfl rfl rfl (hts _ (kc_at 56 rfl)) (hts _ (kc_at 58 rfl)) (by decide +kernel) ⟨(Nat.le_of_ble_eq_true rfl), (Nat.le_of_ble_eq_true rfl)⟩, rfl, (hts _ (kc_at 59 rfl))⟩ (ke_pre hK h (by decide +kernel)) rfl rfl hl.1 rfl (lv_room (Nat.le_of_ble_eq_true rfl)) dX6_init_63 ⟨(Nat.le_of_ble_eq_true rfl), (Nat.le_of_ble_eq_true rfl)⟩) (fun H1 locs1 h => ?_)
  refine ke_ast (X := 4) (t := 3) (N := 8) (i := 127) (i2 := 170) (a := 3) (C := "FactLines$State") (vals := [(1, 0 + 128, 0), (2, 0, 0), (2, 0, 0), (2, 0, 0), (2, 0, 0), (2, 0, 0), (2, 0, 0), (2, 0, 0)]) (fs := [(1, ((0 + 170) + 1), 0), (1, ((0 + 170) + 2), 0), (1, ((0 + 170) + 3), 0), (1, ((0 + 170) + 4), 0), (1, ((0 + 170) + 5), 0), (1, ((0 + 170) + 6), 0), (1, ((0 + 170) + 7), 0), (1, ((0 + 170) + 8), 0), (1, ((0 + 170) + 9), 0), (0, 0, 0), (0, 0, 0)]) (j := 1) (cs' := [(1, 6, 0, [(1, (0 + 1), 0), (1, (0 + 43), 0), (1, (0 + 85), 0), (1, (0 + 127), 0), (2, 0, 0), (2, 0, 0), (2, 0, 0), (2, 0, 0), (2, 0, 0), (0, 0, 0), (0, 0, 0), (0, 0, 0), (0, 0, 0), (0, 0, 0), (0, 0, 0)])] ++ kc_L4 (0 + 1) ++ kc_L4 (0 + 43) ++ kc_L4 (0 + 85) ++ [(2, 3, 8, [(1, 0 + 128, 0), (1, 0 + 170, 0), (2, 0, 0), (2, 0, 0), (2, 0, 0), (2, 0, 0), (2, 0, 0), (2, 0, 0)])] ++ kc_L4 (0 + 128) ++ kc_L4 (0 + 170)) hx hb (by decide) rfl hK h (kc_eo (by decide +kernel)) rfl (kc_eo (by decide +kernel)) (by decide) (by decide) rfl (kc_el (by decide +kernel)) dX6_init_66 (fun H1 locs1 h => ?_)
  refine lv_iinc (k := 0) (v := 2) (lv' := [(1, .int 2), (0, .ref (B + 0))]) hx hb dX6_init_67 hl rfl (by decide) (by decide) rfl (fun ls hl => ?_)
  refine lv_goto (tgt := 48) hx hb dX6_init_70 (by decide) ?_
  refine lv_iload_n hx hb dX6_init_48 rfl (lv_at hl 0 rfl) ?_
  refine lv_bipush (v := 8) hx hb dX6_init_49 (by decide) ?_
  refine lv_icmp_ge (tgt := 73) hx hb dX6_init_51 (by decide) (fun h9 => absurd h9 (by decide)) (fun _ => ?_)
  refine lv_aload_n hx hb dX6_init_54 rfl (lv_at hl 1 rfl) ?_
  refine ke_get (X := 6) (index := 22) (i := 0) (k := 3) (fs := [(1, (0 + 1), 0), (1, (0 + 43), 0), (1, (0 + 85), 0), (1, (0 + 127), 0), (2, 0, 0), (2, 0, 0), (2, 0, 0), (2, 0, 0), (2, 0, 0), (0, 0, 0), (0, 0, 0), (0, 0, 0), (0, 0, 0), (0, 0, 0), (0, 0, 0)]) (v := (1, (0 + 127), 0)) hx hb hts (by decide) hown hK h (kc_eo (by decide +kernel)) (by decide) rfl (hts _ (kc_at 63 rfl)) dX6_init_55 ?_
  refine lv_iload_n hx hb dX6_init_58 rfl (lv_at hl 0 rfl) ?_
  refine ke_new (X0 := 6) (X := 4) (index := 9) (zs := kc_z4) (n := 212) hx hb hts (by decide) hown (hts _ (kc_at 54 rfl)) (hts _ (kc_at 55 rfl)) (hts _ (kc_at 56 rfl)) hK h tyX4 tyX4_ok (kc_z4_ok B) (by decide +kernel) (Nat.le_of_ble_eq_true rfl) (Nat.le_of_ble_eq_true rfl) dX6_init_59 (fun H1 h => ?_)
  refine lv_dup hx hb dX6_init_62 rfl ?_
  refine ke_call (cs' := kc_L4 (0 + 212)) (z := (1, 4, 0, kc_z4)) (n := 212) h (by decide +kernel) (va_runI (As := []) (rest := [.ref (B + (0 + 212)), .int 2, .ref (B + (0 + 127))]) ⟨hx, hb, hml, hown, hts⟩ (kc_X4 l D cy B (0 + 212)) ⟨callB_of 0 hts (kc_g (kc_at 57 rfl)) rfl rfl rfl (hts _ (kc_at 56 rfl)) (hts _ (kc_at 58 rfl)) (by decide +kernel) ⟨(Nat.le_of_ble_eq_true rfl), (Nat.le_of_ble_eq_true rfl)⟩, rfl, (hts _ (kc_at 59 rfl))⟩ (ke_pre hK h (by decide +kernel)) rfl rfl hl.1 rfl (lv_room (Nat.le_of_ble_eq_true rfl)) dX6_init_63 ⟨(Nat.le_of_ble_eq_true rfl), (Nat.le_of_ble_eq_true rfl)⟩) (fun H1 locs1 h => ?_)
  refine ke_ast (X := 4) (t := 3) (N := 8) (i := 127) (i2 := 212) (a := 3) (C := "FactLines$State") (vals := [(1, 0 + 128, 0), (1, 0 + 170, 0), (2, 0, 0), (2, 0, 0), (2, 0, 0), (2, 0, 0), (2, 0, 0), (2, 0, 0)]) (fs := [(1, ((0 + 212) + 1), 0), (1, ((0 + 212) + 2), 0), (1, ((0 + 212) + 3), 0), (1, ((0 + 212) + 4), 0), (1, ((0 + 212) + 5), 0), (1, ((0 + 212) + 6), 0), (1, ((0 + 212) + 7), 0), (1, ((0 + 212) + 8), 0), (1, ((0 + 212) + 9), 0), (0, 0, 0), (0, 0, 0)]) (j := 2) (cs' := [(1, 6, 0, [(1, (0 + 1), 0), (1, (0 + 43), 0), (1, (0 + 85), 0), (1, (0 + 127), 0), (2, 0, 0), (2, 0, 0), (2, 0, 0), (2, 0, 0), (2, 0, 0), (0, 0, 0), (0, 0, 0), (0, 0, 0), (0, 0, 0), (0, 0, 0), (0, 0, 0)])] ++ kc_L4 (0 + 1) ++ kc_L4 (0 + 43) ++ kc_L4 (0 + 85) ++ [(2, 3, 8, [(1, 0 + 128, 0), (1, 0 + 170, 0), (1, 0 + 212, 0), (2, 0, 0), (2, 0, 0), (2, 0, 0), (2, 0, 0), (2, 0, 0)])] ++ kc_L4 (0 + 128) ++ kc_L4 (0 + 170) ++ kc_L4 (0 + 212)) hx hb (by decide) rfl hK h (kc_eo (by decide +kernel)) rfl (kc_eo (by decide +kernel)) (by decide) (by decide) rfl (kc_el (by decide +kernel)) dX6_init_66 (fun H1 locs1 h => ?_)
  refine lv_iinc (k := 0) (v := 3) (lv' := [(1, .int 3), (0, .ref (B + 0))]) hx hb dX6_init_67 hl rfl (by decide) (by decide) rfl (fun ls hl => ?_)
  refine lv_goto (tgt := 48) hx hb dX6_init_70 (by decide) ?_
  refine lv_iload_n hx hb dX6_init_48 rfl (lv_at hl 0 rfl) ?_
  refine lv_bipush (v := 8) hx hb dX6_init_49 (by decide) ?_
  refine lv_icmp_ge (tgt := 73) hx hb dX6_init_51 (by decide) (fun h9 => absurd h9 (by decide)) (fun _ => ?_)
  refine lv_aload_n hx hb dX6_init_54 rfl (lv_at hl 1 rfl) ?_
  refine ke_get (X := 6) (index := 22) (i := 0) (k := 3) (fs := [(1, (0 + 1), 0), (1, (0 + 43), 0), (1, (0 + 85), 0), (1, (0 + 127), 0), (2, 0, 0), (2, 0, 0), (2, 0, 0), (2, 0, 0), (2, 0, 0), (0, 0, 0), (0, 0, 0), (0, 0, 0), (0, 0, 0), (0, 0, 0), (0, 0, 0)]) (v := (1, (0 + 127), 0)) hx hb hts (by decide) hown hK h (kc_eo (by decide +kernel)) (by decide) rfl (hts _ (kc_at 63 rfl)) dX6_init_55 ?_
  refine lv_iload_n hx hb dX6_init_58 rfl (lv_at hl 0 rfl) ?_
  refine ke_new (X0 := 6) (X := 4) (index := 9) (zs := kc_z4) (n := 254) hx hb hts (by decide) hown (hts _ (kc_at 54 rfl)) (hts _ (kc_at 55 rfl)) (hts _ (kc_at 56 rfl)) hK h tyX4 tyX4_ok (kc_z4_ok B) (by decide +kernel) (Nat.le_of_ble_eq_true rfl) (Nat.le_of_ble_eq_true rfl) dX6_init_59 (fun H1 h => ?_)
  refine lv_dup hx hb dX6_init_62 rfl ?_
  refine ke_call (cs' := kc_L4 (0 + 254)) (z := (1, 4, 0, kc_z4)) (n := 254) h (by decide +kernel) (va_runI (As := []) (rest := [.ref (B + (0 + 254)), .int 3, .ref (B + (0 + 127))]) ⟨hx, hb, hml, hown, hts⟩ (kc_X4 l D cy B (0 + 254)) ⟨callB_of 0 hts (kc_g (kc_at 57 rfl)) rfl rfl rfl (hts _ (kc_at 56 rfl)) (hts _ (kc_at 58 rfl)) (by decide +kernel) ⟨(Nat.le_of_ble_eq_true rfl), (Nat.le_of_ble_eq_true rfl)⟩, rfl, (hts _ (kc_at 59 rfl))⟩ (ke_pre hK h (by decide +kernel)) rfl rfl hl.1 rfl (lv_room (Nat.le_of_ble_eq_true rfl)) dX6_init_63 ⟨(Nat.le_of_ble_eq_true rfl), (Nat.le_of_ble_eq_true rfl)⟩) (fun H1 locs1 h => ?_)
  refine ke_ast (X := 4) (t := 3) (N := 8) (i := 127) (i2 := 254) (a := 3) (C := "FactLines$State") (vals := [(1, 0 + 128, 0), (1, 0 + 170, 0), (1, 0 + 212, 0), (2, 0, 0), (2, 0, 0), (2, 0, 0), (2, 0, 0), (2, 0, 0)]) (fs := [(1, ((0 + 254) + 1), 0), (1, ((0 + 254) + 2), 0), (1, ((0 + 254) + 3), 0), (1, ((0 + 254) + 4), 0), (1, ((0 + 254) + 5), 0), (1, ((0 + 254) + 6), 0), (1, ((0 + 254) + 7), 0), (1, ((0 + 254) + 8), 0), (1, ((0 + 254) + 9), 0), (0, 0, 0), (0, 0, 0)]) (j := 3) (cs' := [(1, 6, 0, [(1, (0 + 1), 0), (1, (0 + 43), 0), (1, (0 + 85), 0), (1, (0 + 127), 0), (2, 0, 0), (2, 0, 0), (2, 0, 0), (2, 0, 0), (2, 0, 0), (0, 0, 0), (0, 0, 0), (0, 0, 0), (0, 0, 0), (0, 0, 0), (0, 0, 0)])] ++ kc_L4 (0 + 1) ++ kc_L4 (0 + 43) ++ kc_L4 (0 + 85) ++ [(2, 3, 8, [(1, 0 + 128, 0), (1, 0 + 170, 0), (1, 0 + 212, 0), (1, 0 + 254, 0), (2, 0, 0), (2, 0, 0), (2, 0, 0), (2, 0, 0)])] ++ kc_L4 (0 + 128) ++ kc_L4 (0 + 170) ++ kc_L4 (0 + 212) ++ kc_L4 (0 + 254)) hx hb (by decide) rfl hK h (kc_eo (by decide +kernel)) rfl (kc_eo (by decide +kernel)) (by decide) (by decide) rfl (kc_el (by decide +kernel)) dX6_init_66 (fun H1 locs1 h => ?_)
  refine lv_iinc (k := 0) (v := 4) (lv' := [(1, .int 4), (0, .ref (B + 0))]) hx hb dX6_init_67 hl rfl (by decide) (by decide) rfl (fun ls hl => ?_)
  refine lv_goto (tgt := 48) hx hb dX6_init_70 (by decide) ?_
  refine lv_iload_n hx hb dX6_init_48 rfl (lv_at hl 0 rfl) ?_
  refine lv_bipush (v := 8) hx hb dX6_init_49 (by decide) ?_
  refine lv_icmp_ge (tgt := 73) hx hb dX6_init_51 (by decide) (fun h9 => absurd h9 (by decide)) (fun _ => ?_)
  refine lv_aload_n hx hb dX6_init_54 rfl (lv_at hl 1 rfl) ?_
  refine ke_get (X := 6) (index := 22) (i := 0) (k := 3) (fs := [(1, (0 + 1), 0), (1, (0 + 43), 0), (1, (0 + 85), 0), (1, (0 + 127), 0), (2, 0, 0), (2, 0, 0), (2, 0, 0), (2, 0, 0), (2, 0, 0), (0, 0, 0), (0, 0, 0), (0, 0, 0), (0, 0, 0), (0, 0, 0), (0, 0, 0)]) (v := (1, (0 + 127), 0)) hx hb hts (by decide) hown hK h (kc_eo (by decide +kernel)) (by decide) rfl (hts _ (kc_at 63 rfl)) dX6_init_55 ?_
  refine lv_iload_n hx hb dX6_init_58 rfl (lv_at hl 0 rfl) ?_
  refine ke_new (X0 := 6) (X := 4) (index := 9) (zs := kc_z4) (n := 296) hx hb hts (by decide) hown (hts _ (kc_at 54 rfl)) (hts _ (kc_at 55 rfl)) (hts _ (kc_at 56 rfl)) hK h tyX4 tyX4_ok (kc_z4_ok B) (by decide +kernel) (Nat.le_of_ble_eq_true rfl) (Nat.le_of_ble_eq_true rfl) dX6_init_59 (fun H1 h => ?_)
  refine lv_dup hx hb dX6_init_62 rfl ?_
  refine ke_call (cs' := kc_L4 (0 + 296)) (z := (1, 4, 0, kc_z4)) (n := 296) h (by decide +kernel) (va_runI (As := []) (rest := [.ref (B + (0 + 296)), .int 4, .ref (B + (0 + 127))]) ⟨hx, hb, hml, hown, hts⟩ (kc_X4 l D cy B (0 + 296)) ⟨callB_of 0 hts (kc_g (kc_at 57 rfl)) rfl rfl rfl (hts _ (kc_at 56 rfl)) (hts _ (kc_at 58 rfl)) (by decide +kernel) ⟨(Nat.le_of_ble_eq_true rfl), (Nat.le_of_ble_eq_true rfl)⟩, rfl, (hts _ (kc_at 59 rfl))⟩ (ke_pre hK h (by decide +kernel)) rfl rfl hl.1 rfl (lv_room (Nat.le_of_ble_eq_true rfl)) dX6_init_63 ⟨(Nat.le_of_ble_eq_true rfl), (Nat.le_of_ble_eq_true rfl)⟩) (fun H1 locs1 h => ?_)
  refine ke_ast (X := 4) (t := 3) (N := 8) (i := 127) (i2 := 296) (a := 3) (C := "FactLines$State") (vals := [(1, 0 + 128, 0), (1, 0 + 170, 0), (1, 0 + 212, 0), (1, 0 + 254, 0), (2, 0, 0), (2, 0, 0), (2, 0, 0), (2, 0, 0)]) (fs := [(1, ((0 + 296) + 1), 0), (1, ((0 + 296) + 2), 0), (1, ((0 + 296) + 3), 0), (1, ((0 + 296) + 4), 0), (1, ((0 + 296) + 5), 0), (1, ((0 + 296) + 6), 0), (1, ((0 + 296) + 7), 0), (1, ((0 + 296) + 8), 0), (1, ((0 + 296) + 9), 0), (0, 0, 0), (0, 0, 0)]) (j := 4) (cs' := [(1, 6, 0, [(1, (0 + 1), 0), (1, (0 + 43), 0), (1, (0 + 85), 0), (1, (0 + 127), 0), (2, 0, 0), (2, 0, 0), (2, 0, 0), (2, 0, 0), (2, 0, 0), (0, 0, 0), (0, 0, 0), (0, 0, 0), (0, 0, 0), (0, 0, 0), (0, 0, 0)])] ++ kc_L4 (0 + 1) ++ kc_L4 (0 + 43) ++ kc_L4 (0 + 85) ++ [(2, 3, 8, [(1, 0 + 128, 0), (1, 0 + 170, 0), (1, 0 + 212, 0), (1, 0 + 254, 0), (1, 0 + 296, 0), (2, 0, 0), (2, 0, 0), (2, 0, 0)])] ++ kc_L4 (0 + 128) ++ kc_L4 (0 + 170) ++ kc_L4 (0 + 212) ++ kc_L4 (0 + 254) ++ kc_L4 (0 + 296)) hx hb (by decide) rfl hK h (kc_eo (by decide +kernel)) rfl (kc_eo (by decide +kernel)) (by decide) (by decide) rfl (kc_el (by decide +kernel)) dX6_init_66 (fun H1 locs1 h => ?_)
  refine lv_iinc (k := 0) (v := 5) (lv' := [(1, .int 5), (0, .ref (B + 0))]) hx hb dX6_init_67 hl rfl (by decide) (by decide) rfl (fun ls hl => ?_)
  refine lv_goto (tgt := 48) hx hb dX6_init_70 (by decide) ?_
  refine lv_iload_n hx hb dX6_init_48 rfl (lv_at hl 0 rfl) ?_
  refine lv_bipush (v := 8) hx hb dX6_init_49 (by decide) ?_
  refine lv_icmp_ge (tgt := 73) hx hb dX6_init_51 (by decide) (fun h9 => absurd h9 (by decide)) (fun _ => ?_)
  refine lv_aload_n hx hb dX6_init_54 rfl (lv_at hl 1 rfl) ?_
  refine ke_get (X := 6) (index := 22) (i := 0) (k := 3) (fs := [(1, (0 + 1), 0), (1, (0 + 43), 0), (1, (0 + 85), 0), (1, (0 + 127), 0), (2, 0, 0), (2, 0, 0), (2, 0, 0), (2, 0, 0), (2, 0, 0), (0, 0, 0), (0, 0, 0), (0, 0, 0), (0, 0, 0), (0, 0, 0), (0, 0, 0)]) (v := (1, (0 + 127), 0)) hx hb hts (by decide) hown hK h (kc_eo (by decide +kernel)) (by decide) rfl (hts _ (kc_at 63 rfl)) dX6_init_55 ?_
  refine lv_iload_n hx hb dX6_init_58 rfl (lv_at hl 0 rfl) ?_
  refine ke_new (X0 := 6) (X := 4) (index := 9) (zs := kc_z4) (n := 338) hx hb hts (by decide) hown (hts _ (kc_at 54 rfl)) (hts _ (kc_at 55 rfl)) (hts _ (kc_at 56 rfl)) hK h tyX4 tyX4_ok (kc_z4_ok B) (by decide +kernel) (Nat.le_of_ble_eq_true rfl) (Nat.le_of_ble_eq_true rfl) dX6_init_59 (fun H1 h => ?_)
  refine lv_dup hx hb dX6_init_62 rfl ?_
  refine ke_call (cs' := kc_L4 (0 + 338)) (z := (1, 4, 0, kc_z4)) (n := 338) h (by decide +kernel) (va_runI (As := []) (rest := [.ref (B + (0 + 338)), .int 5, .ref (B + (0 + 127))]) ⟨hx, hb, hml, hown, hts⟩ (kc_X4 l D cy B (0 + 338)) ⟨callB_of 0 hts (kc_g (kc_at 57 rfl)) rfl rfl rfl (hts _ (kc_at 56 rfl)) (hts _ (kc_at 58 rfl)) (by decide +kernel) ⟨(Nat.le_of_ble_eq_true rfl), (Nat.le_of_ble_eq_true rfl)⟩, rfl, (hts _ (kc_at 59 rfl))⟩ (ke_pre hK h (by decide +kernel)) rfl rfl hl.1 rfl (lv_room (Nat.le_of_ble_eq_true rfl)) dX6_init_63 ⟨(Nat.le_of_ble_eq_true rfl), (Nat.le_of_ble_eq_true rfl)⟩) (fun H1 locs1 h => ?_)
  refine ke_ast (X := 4) (t := 3) (N := 8) (i := 127) (i2 := 338) (a := 3) (C := "FactLines$State") (vals := [(1, 0 + 128, 0), (1, 0 + 170, 0), (1, 0 + 212, 0), (1, 0 + 254, 0), (1, 0 + 296, 0), (2, 0, 0), (2, 0, 0), (2, 0, 0)]) (fs := [(1, ((0 + 338) + 1), 0), (1, ((0 + 338) + 2), 0), (1, ((0 + 338) + 3), 0), (1, ((0 + 338) + 4), 0), (1, ((0 + 338) + 5), 0), (1, ((0 + 338) + 6), 0), (1, ((0 + 338) + 7), 0), (1, ((0 + 338) + 8), 0), (1, ((0 + 338) + 9), 0), (0, 0, 0), (0, 0, 0)]) (j := 5) (cs' := [(1, 6, 0, [(1, (0 + 1), 0), (1, (0 + 43), 0), (1, (0 + 85), 0), (1, (0 + 127), 0), (2, 0, 0), (2, 0, 0), (2, 0, 0), (2, 0, 0), (2, 0, 0), (0, 0, 0), (0, 0, 0), (0, 0, 0), (0, 0, 0), (0, 0, 0), (0, 0, 0)])] ++ kc_L4 (0 + 1) ++ kc_L4 (0 + 43) ++ kc_L4 (0 + 85) ++ [(2, 3, 8, [(1, 0 + 128, 0), (1, 0 + 170, 0), (1, 0 + 212, 0), (1, 0 + 254, 0), (1, 0 + 296, 0), (1, 0 + 338, 0), (2, 0, 0), (2, 0, 0)])] ++ kc_L4 (0 + 128) ++ kc_L4 (0 + 170) ++ kc_L4 (0 + 212) ++ kc_L4 (0 + 254) ++ kc_L4 (0 + 296) ++ kc_L4 (0 + 338)) hx hb (by decide) rfl hK h (kc_eo (by decide +kernel)) rfl (kc_eo (by decide +kernel)) (by decide) (by decide) rfl (kc_el (by decide +kernel)) dX6_init_66 (fun H1 locs1 h => ?_)
  refine lv_iinc (k := 0) (v := 6) (lv' := [(1, .int 6), (0, .ref (B + 0))]) hx hb dX6_init_67 hl rfl (by decide) (by decide) rfl (fun ls hl => ?_)
  refine lv_goto (tgt := 48) hx hb dX6_init_70 (by decide) ?_
  refine lv_iload_n hx hb dX6_init_48 rfl (lv_at hl 0 rfl) ?_
  refine lv_bipush (v := 8) hx hb dX6_init_49 (by decide) ?_
  refine lv_icmp_ge (tgt := 73) hx hb dX6_init_51 (by decide) (fun h9 => absurd h9 (by decide)) (fun _ => ?_)
  refine lv_aload_n hx hb dX6_init_54 rfl (lv_at hl 1 rfl) ?_
  refine ke_get (X := 6) (index := 22) (i := 0) (k := 3) (fs := [(1, (0 + 1), 0), (1, (0 + 43), 0), (1, (0 + 85), 0), (1, (0 + 127), 0), (2, 0, 0), (2, 0, 0), (2, 0, 0), (2, 0, 0), (2, 0, 0), (0, 0, 0), (0, 0, 0), (0, 0, 0), (0, 0, 0), (0, 0, 0), (0, 0, 0)]) (v := (1, (0 + 127), 0)) hx hb hts (by decide) hown hK h (kc_eo (by decide +kernel)) (by decide) rfl (hts _ (kc_at 63 rfl)) dX6_init_55 ?_
  refine lv_iload_n hx hb dX6_init_58 rfl (lv_at hl 0 rfl) ?_
  refine ke_new (X0 := 6) (X := 4) (index := 9) (zs := kc_z4) (n := 380) hx hb hts (by decide) hown (hts _ (kc_at 54 rfl)) (hts _ (kc_at 55 rfl)) (hts _ (kc_at 56 rfl)) hK h tyX4 tyX4_ok (kc_z4_ok B) (by decide +kernel) (Nat.le_of_ble_eq_true rfl) (Nat.le_of_ble_eq_true rfl) dX6_init_59 (fun H1 h => ?_)
  refine lv_dup hx hb dX6_init_62 rfl ?_
  refine ke_call (cs' := kc_L4 (0 + 380)) (z := (1, 4, 0, kc_z4)) (n := 380) h (by decide +kernel) (va_runI (As := []) (rest := [.ref (B + (0 + 380)), .int 6, .ref (B + (0 + 127))]) ⟨hx, hb, hml, hown, hts⟩ (kc_X4 l D cy B (0 + 380)) ⟨callB_of 0 hts (kc_g (kc_at 57 rfl)) rfl rfl rfl (hts _ (kc_at 56 rfl)) (hts _ (kc_at 58 rfl)) (by decide +kernel) ⟨(Nat.le_of_ble_eq_true rfl), (Nat.le_of_ble_eq_true rfl)⟩, rfl, (hts _ (kc_at 59 rfl))⟩ (ke_pre hK h (by decide +kernel)) rfl rfl hl.1 rfl (lv_room (Nat.le_of_ble_eq_true rfl)) dX6_init_63 ⟨(Nat.le_of_ble_eq_true rfl), (Nat.le_of_ble_eq_true rfl)⟩) (fun H1 locs1 h => ?_)
  refine ke_ast (X := 4) (t := 3) (N := 8) (i := 127) (i2 := 380) (a := 3) (C := "FactLines$State") (vals := [(1, 0 + 128, 0), (1, 0 + 170, 0), (1, 0 + 212, 0), (1, 0 + 254, 0), (1, 0 + 296, 0), (1, 0 + 338, 0), (2, 0, 0), (2, 0, 0)]) (fs := [(1, ((0 + 380) + 1), 0), (1, ((0 + 380) + 2), 0), (1, ((0 + 380) + 3), 0), (1, ((0 + 380) + 4), 0), (1, ((0 + 380) + 5), 0), (1, ((0 + 380) + 6), 0), (1, ((0 + 380) + 7), 0), (1, ((0 + 380) + 8), 0), (1, ((0 + 380) + 9), 0), (0, 0, 0), (0, 0, 0)]) (j := 6) (cs' := [(1, 6, 0, [(1, (0 + 1), 0), (1, (0 + 43), 0), (1, (0 + 85), 0), (1, (0 + 127), 0), (2, 0, 0), (2, 0, 0), (2, 0, 0), (2, 0, 0), (2, 0, 0), (0, 0, 0), (0, 0, 0), (0, 0, 0), (0, 0, 0), (0, 0, 0), (0, 0, 0)])] ++ kc_L4 (0 + 1) ++ kc_L4 (0 + 43) ++ kc_L4 (0 + 85) ++ [(2, 3, 8, [(1, 0 + 128, 0), (1, 0 + 170, 0), (1, 0 + 212, 0), (1, 0 + 254, 0), (1, 0 + 296, 0), (1, 0 + 338, 0), (1, 0 + 380, 0), (2, 0, 0)])] ++ kc_L4 (0 + 128) ++ kc_L4 (0 + 170) ++ kc_L4 (0 + 212) ++ kc_L4 (0 + 254) ++ kc_L4 (0 + 296) ++ kc_L4 (0 + 338) ++ kc_L4 (0 + 380)) hx hb (by decide) rfl hK h (kc_eo (by decide +kernel)) rfl (kc_eo (by decide +kernel)) (by decide) (by decide) rfl (kc_el (by decide +kernel)) dX6_init_66 (fun H1 locs1 h => ?_)
  refine lv_iinc (k := 0) (v := 7) (lv' := [(1, .int 7), (0, .ref (B + 0))]) hx hb dX6_init_67 hl rfl (by decide) (by decide) rfl (fun ls hl => ?_)
  refine lv_goto (tgt := 48) hx hb dX6_init_70 (by decide) ?_
  refine lv_iload_n hx hb dX6_init_48 rfl (lv_at hl 0 rfl) ?_
  refine lv_bipush (v := 8) hx hb dX6_init_49 (by decide) ?_
  refine lv_icmp_ge (tgt := 73) hx hb dX6_init_51 (by decide) (fun h9 => absurd h9 (by decide)) (fun _ => ?_)
  refine lv_aload_n hx hb dX6_init_54 rfl (lv_at hl 1 rfl) ?_
  refine ke_get (X := 6) (index := 22) (i := 0) (k := 3) (fs := [(1, (0 + 1), 0), (1, (0 + 43), 0), (1, (0 + 85), 0), (1, (0 + 127), 0), (2, 0, 0), (2, 0, 0), (2, 0, 0), (2, 0, 0), (2, 0, 0), (0, 0, 0), (0, 0, 0), (0, 0, 0), (0, 0, 0), (0, 0, 0), (0, 0, 0)]) (v := (1, (0 + 127), 0)) hx hb hts (by decide) hown hK h (kc_eo (by decide +kernel)) (by decide) rfl (hts _ (kc_at 63 rfl)) dX6_init_55 ?_
  refine lv_iload_n hx hb dX6_init_58 rfl (lv_at hl 0 rfl) ?_
  refine ke_new (X0 := 6) (X := 4) (index := 9) (zs := kc_z4) (n := 422) hx hb hts (by decide) hown (hts _ (kc_at 54 rfl)) (hts _ (kc_at 55 rfl)) (hts _ (kc_at 56 rfl)) hK h tyX4 tyX4_ok (kc_z4_ok B) (by decide +kernel) (Nat.le_of_ble_eq_true rfl) (Nat.le_of_ble_eq_true rfl) dX6_init_59 (fun H1 h => ?_)
  refine lv_dup hx hb dX6_init_62 rfl ?_
  refine ke_call (cs' := kc_L4 (0 + 422)) (z := (1, 4, 0, kc_z4)) (n := 422) h (by decide +kernel) (va_runI (As := []) (rest := [.ref (B + (0 + 422)), .int 7, .ref (B + (0 + 127))]) ⟨hx, hb, hml, hown, hts⟩ (kc_X4 l D cy B (0 + 422)) ⟨callB_of 0 hts (kc_g (kc_at 57 rfl)) rfl rfl rfl (hts _ (kc_at 56 rfl)) (hts _ (kc_at 58 rfl)) (by decide +kernel) ⟨(Nat.le_of_ble_eq_true rfl), (Nat.le_of_ble_eq_true rfl)⟩, rfl, (hts _ (kc_at 59 rfl))⟩ (ke_pre hK h (by decide +kernel)) rfl rfl hl.1 rfl (lv_room (Nat.le_of_ble_eq_true rfl)) dX6_init_63 ⟨(Nat.le_of_ble_eq_true rfl), (Nat.le_of_ble_eq_true rfl)⟩) (fun H1 locs1 h => ?_)
  refine ke_ast (X := 4) (t := 3) (N := 8) (i := 127) (i2 := 422) (a := 3) (C := "FactLines$State") (vals := [(1, 0 + 128, 0), (1, 0 + 170, 0), (1, 0 + 212, 0), (1, 0 + 254, 0), (1, 0 + 296, 0), (1, 0 + 338, 0), (1, 0 + 380, 0), (2, 0, 0)]) (fs := [(1, ((0 + 422) + 1), 0), (1, ((0 + 422) + 2), 0), (1, ((0 + 422) + 3), 0), (1, ((0 + 422) + 4), 0), (1, ((0 + 422) + 5), 0), (1, ((0 + 422) + 6), 0), (1, ((0 + 422) + 7), 0), (1, ((0 + 422) + 8), 0), (1, ((0 + 422) + 9), 0), (0, 0, 0), (0, 0, 0)]) (j := 7) (cs' := [(1, 6, 0, [(1, (0 + 1), 0), (1, (0 + 43), 0), (1, (0 + 85), 0), (1, (0 + 127), 0), (2, 0, 0), (2, 0, 0), (2, 0, 0), (2, 0, 0), (2, 0, 0), (0, 0, 0), (0, 0, 0), (0, 0, 0), (0, 0, 0), (0, 0, 0), (0, 0, 0)])] ++ kc_L4 (0 + 1) ++ kc_L4 (0 + 43) ++ kc_L4 (0 + 85) ++ [(2, 3, 8, [(1, 0 + 128, 0), (1, 0 + 170, 0), (1, 0 + 212, 0), (1, 0 + 254, 0), (1, 0 + 296, 0), (1, 0 + 338, 0), (1, 0 + 380, 0), (1, 0 + 422, 0)])] ++ kc_L4 (0 + 128) ++ kc_L4 (0 + 170) ++ kc_L4 (0 + 212) ++ kc_L4 (0 + 254) ++ kc_L4 (0 + 296) ++ kc_L4 (0 + 338) ++ kc_L4 (0 + 380) ++ kc_L4 (0 + 422)) hx hb (by decide) rfl hK h (kc_eo (by decide +kernel)) rfl (kc_eo (by decide +kernel)) (by decide) (by decide) rfl (kc_el (by decide +kernel)) dX6_init_66 (fun H1 locs1 h => ?_)
  refine lv_iinc (k := 0) (v := 8) (lv' := [(1, .int 8), (0, .ref (B + 0))]) hx hb dX6_init_67 hl rfl (by decide) (by decide) rfl (fun ls hl => ?_)
  refine lv_goto (tgt := 48) hx hb dX6_init_70 (by decide) ?_
  refine lv_iload_n hx hb dX6_init_48 rfl (lv_at hl 0 rfl) ?_
  refine lv_bipush (v := 8) hx hb dX6_init_49 (by decide) ?_
  refine lv_icmp_ge (tgt := 73) hx hb dX6_init_51 (by decide) (fun _ => ?_) (fun h9 => absurd (by decide) h9)
  refine lv_aload_n hx hb dX6_init_73 rfl (lv_at hl 1 rfl) ?_
  refine ke_new (X0 := 6) (X := 0) (index := 26) (zs := kc_z0) (n := 464) hx hb hts (by decide) hown (hts _ (kc_at 64 rfl)) (hts _ (kc_at 35 rfl)) (hts _ (kc_at 36 rfl)) hK h tyX0 tyX0_ok (kc_z0_ok B) (by decide +kernel) (Nat.le_of_ble_eq_true rfl) (Nat.le_of_ble_eq_true rfl) dX6_init_74 (fun H1 h => ?_)
  refine lv_dup hx hb dX6_init_77 rfl ?_
  refine ke_call (cs' := kc_L0 (0 + 464)) (z := (1, 0, 0, kc_z0)) (n := 464) h (by decide +kernel) (va_runIN (As := []) (rest := [.ref (B + (0 + 464)), .ref (B + 0)]) ⟨hx, hb, hml, hown, hts⟩ (kc_X0 l D cy B (0 + 464)) ⟨va_cnB 0 hts (kc_g (kc_at 37 rfl)) rfl rfl rfl (hK.2.1 _ (List.mem_of_getElem? (i := 3) rfl)) (hts _ (kc_at 36 rfl)) (by decide +kernel) ⟨(Nat.le_of_ble_eq_true rfl), (Nat.le_of_ble_eq_true rfl)⟩, rfl, (hts _ (kc_at 38 rfl))⟩ (ke_pre hK h (by decide +kernel)) rfl rfl hl.1 rfl (lv_room (Nat.le_of_ble_eq_true rfl)) dX6_init_78 ⟨(Nat.le_of_ble_eq_true rfl), (Nat.le_of_ble_eq_true rfl)⟩) (fun H1 locs1 h => ?_)
  refine ke_put (X := 6) (index := 29) (i := 0) (k := 4) (fs := [(1, (0 + 1), 0), (1, (0 + 43), 0), (1, (0 + 85), 0), (1, (0 + 127), 0), (2, 0, 0), (2, 0, 0), (2, 0, 0), (2, 0, 0), (2, 0, 0), (0, 0, 0), (0, 0, 0), (0, 0, 0), (0, 0, 0), (0, 0, 0), (0, 0, 0)]) (v := (1, (0 + 464), 0)) (ty := tyX6 4) (cs' := [(1, 6, 0, [(1, (0 + 1), 0), (1, (0 + 43), 0), (1, (0 + 85), 0), (1, (0 + 127), 0), (1, (0 + 464), 0), (2, 0, 0), (2, 0, 0), (2, 0, 0), (2, 0, 0), (0, 0, 0), (0, 0, 0), (0, 0, 0), (0, 0, 0), (0, 0, 0), (0, 0, 0)])] ++ kc_L4 (0 + 1) ++ kc_L4 (0 + 43) ++ kc_L4 (0 + 85) ++ [(2, 3, 8, [(1, 0 + 128, 0), (1, 0 + 170, 0), (1, 0 + 212, 0), (1, 0 + 254, 0), (1, 0 + 296, 0), (1, 0 + 338, 0), (1, 0 + 380, 0), (1, 0 + 422, 0)])] ++ kc_L4 (0 + 128) ++ kc_L4 (0 + 170) ++ kc_L4 (0 + 212) ++ kc_L4 (0 + 254) ++ kc_L4 (0 + 296) ++ kc_L4 (0 + 338) ++ kc_L4 (0 + 380) ++ kc_L4 (0 + 422) ++ kc_L0 (0 + 464)) hx hb hts (by decide) hown (Or.inl hin) hK h (kc_eo (by decide +kernel)) (by decide) (Nat.le_of_ble_eq_true rfl) (hts _ (kc_at 65 rfl)) (tyX6_ok 4 (by decide)) rfl rfl (kc_el (by decide +kernel)) dX6_init_81 (fun H1 locs1 h => ?_)
  refine lv_aload_n hx hb dX6_init_84 rfl (lv_at hl 1 rfl) ?_
  refine ke_new (X0 := 6) (X := 5) (index := 33) (zs := kc_z5) (n := 470) hx hb hts (by decide) hown (hts _ (kc_at 66 rfl)) (hts _ (kc_at 67 rfl)) (hts _ (kc_at 68 rfl)) hK h tyX5 tyX5_ok (kc_z5_ok B) (by decide +kernel) (Nat.le_of_ble_eq_true rfl) (Nat.le_of_ble_eq_true rfl) dX6_init_85 (fun H1 h => ?_)
  refine lv_dup hx hb dX6_init_88 rfl ?_
  refine ke_call (cs' := kc_L5 (0 + 470)) (z := (1, 5, 0, kc_z5)) (n := 470) h (by decide +kernel) (va_runIN (As := []) (rest := [.ref (B + (0 + 470)), .ref (B + 0)]) ⟨hx, hb, hml, hown, hts⟩ (kc_X5 l D cy B (0 + 470)) ⟨va_cnB 0 hts (kc_g (kc_at 69 rfl)) rfl rfl rfl (hK.2.1 _ (List.mem_of_getElem? (i := 4) rfl)) (hts _ (kc_at 68 rfl)) (by decide +kernel) ⟨(Nat.le_of_ble_eq_true rfl), (Nat.le_of_ble_eq_true rfl)⟩, rfl, (hts _ (kc_at 70 rfl))⟩ (ke_pre hK h (by decide +kernel)) rfl rfl hl.1 rfl (lv_room (Nat.le_of_ble_eq_true rfl)) dX6_init_89 ⟨(Nat.le_of_ble_eq_true rfl), (Nat.le_of_ble_eq_true rfl)⟩) (fun H1 locs1 h => ?_)
  refine ke_put (X := 6) (index := 36) (i := 0) (k := 5) (fs := [(1, (0 + 1), 0), (1, (0 + 43), 0), (1, (0 + 85), 0), (1, (0 + 127), 0), (1, (0 + 464), 0), (2, 0, 0), (2, 0, 0), (2, 0, 0), (2, 0, 0), (0, 0, 0), (0, 0, 0), (0, 0, 0), (0, 0, 0), (0, 0, 0), (0, 0, 0)]) (v := (1, (0 + 470), 0)) (ty := tyX6 5) (cs' := [(1, 6, 0, [(1, (0 + 1), 0), (1, (0 + 43), 0), (1, (0 + 85), 0), (1, (0 + 127), 0), (1, (0 + 464), 0), (1, (0 + 470), 0), (2, 0, 0), (2, 0, 0), (2, 0, 0), (0, 0, 0), (0, 0, 0), (0, 0, 0), (0, 0, 0), (0, 0, 0), (0, 0, 0)])] ++ kc_L4 (0 + 1) ++ kc_L4 (0 + 43) ++ kc_L4 (0 + 85) ++ [(2, 3, 8, [(1, 0 + 128, 0), (1, 0 + 170, 0), (1, 0 + 212, 0), (1, 0 + 254, 0), (1, 0 + 296, 0), (1, 0 + 338, 0), (1, 0 + 380, 0), (1, 0 + 422, 0)])] ++ kc_L4 (0 + 128) ++ kc_L4 (0 + 170) ++ kc_L4 (0 + 212) ++ kc_L4 (0 + 254) ++ kc_L4 (0 + 296) ++ kc_L4 (0 + 338) ++ kc_L4 (0 + 380) ++ kc_L4 (0 + 422) ++ kc_L0 (0 + 464) ++ kc_L5 (0 + 470)) hx hb hts (by decide) hown (Or.inl hin) hK h (kc_eo (by decide +kernel)) (by decide) (Nat.le_of_ble_eq_true rfl) (hts _ (kc_at 71 rfl)) (tyX6_ok 5 (by decide)) rfl rfl (kc_el (by decide +kernel)) dX6_init_92 (fun H1 locs1 h => ?_)
  refine lv_aload_n hx hb dX6_init_95 rfl (lv_at hl 1 rfl) ?_
  refine ke_new (X0 := 6) (X := 2) (index := 40) (zs := kc_z2) (n := 475) hx hb hts (by decide) hown (hts _ (kc_at 72 rfl)) (hts _ (kc_at 73 rfl)) (hts _ (kc_at 74 rfl)) hK h tyX2 tyX2_ok (kc_z2_ok B) (by decide +kernel) (Nat.le_of_ble_eq_true rfl) (Nat.le_of_ble_eq_true rfl) dX6_init_96 (fun H1 h => ?_)
  refine lv_dup hx hb dX6_init_99 rfl ?_
  refine lv_aload_n hx hb dX6_init_100 rfl (lv_at hl 1 rfl) ?_
  refine ke_get (X := 6) (index := 36) (i := 0) (k := 5) (fs := [(1, (0 + 1), 0), (1, (0 + 43), 0), (1, (0 + 85), 0), (1, (0 + 127), 0), (1, (0 + 464), 0), (1, (0 + 470), 0), (2, 0, 0), (2, 0, 0), (2, 0, 0), (0, 0, 0), (0, 0, 0), (0, 0, 0), (0, 0, 0), (0, 0, 0), (0, 0, 0)]) (v := (1, (0 + 470), 0)) hx hb hts (by decide) hown hK h (kc_eo (by decide +kernel)) (by decide) rfl (hts _ (kc_at 71 rfl)) dX6_init_101 ?_
  refine ke_call (cs' := kc_L2 (0 + 475) (0 + 470)) (z := (1, 2, 0, kc_z2)) (n := 475) h (by decide +kernel) (va_runI (As := [.ref (B + (0 + 470))]) (rest := [.ref (B + (0 + 475)), .ref (B + 0)]) ⟨hx, hb, hml, hown, hts⟩ (kc_X2 l D cy B (0 + 475) (0 + 470)) ⟨callB_of 1 hts (kc_g (kc_at 75 rfl)) rfl rfl rfl (hts _ (kc_at 74 rfl)) (hts _ (kc_at 76 rfl)) (by decide +kernel) ⟨(Nat.le_of_ble_eq_true rfl), (Nat.le_of_ble_eq_true rfl)⟩, rfl, (hts _ (kc_at 77 rfl))⟩ (ke_pre hK h (by decide +kernel)) rfl rfl hl.1 rfl (lv_room (Nat.le_of_ble_eq_true rfl)) dX6_init_104 ⟨(Nat.le_of_ble_eq_true rfl), (Nat.le_of_ble_eq_true rfl)⟩) (fun H1 locs1 h => ?_)
  refine ke_put (X := 6) (index := 45) (i := 0) (k := 6) (fs := [(1, (0 + 1), 0), (1, (0 + 43), 0), (1, (0 + 85), 0), (1, (0 + 127), 0), (1, (0 + 464), 0), (1, (0 + 470), 0), (2, 0, 0), (2, 0, 0), (2, 0, 0), (0, 0, 0), (0, 0, 0), (0, 0, 0), (0, 0, 0), (0, 0, 0), (0, 0, 0)]) (v := (1, (0 + 475), 0)) (ty := tyX6 6) (cs' := [(1, 6, 0, [(1, (0 + 1), 0), (1, (0 + 43), 0), (1, (0 + 85), 0), (1, (0 + 127), 0), (1, (0 + 464), 0), (1, (0 + 470), 0), (1, (0 + 475), 0), (2, 0, 0), (2, 0, 0), (0, 0, 0), (0, 0, 0), (0, 0, 0), (0, 0, 0), (0, 0, 0), (0, 0, 0)])] ++ kc_L4 (0 + 1) ++ kc_L4 (0 + 43) ++ kc_L4 (0 + 85) ++ [(2, 3, 8, [(1, 0 + 128, 0), (1, 0 + 170, 0), (1, 0 + 212, 0), (1, 0 + 254, 0), (1, 0 + 296, 0), (1, 0 + 338, 0), (1, 0 + 380, 0), (1, 0 + 422, 0)])] ++ kc_L4 (0 + 128) ++ kc_L4 (0 + 170) ++ kc_L4 (0 + 212) ++ kc_L4 (0 + 254) ++ kc_L4 (0 + 296) ++ kc_L4 (0 + 338) ++ kc_L4 (0 + 380) ++ kc_L4 (0 + 422) ++ kc_L0 (0 + 464) ++ kc_L5 (0 + 470) ++ kc_L2 (0 + 475) (0 + 470)) hx hb hts (by decide) hown (Or.inl hin) hK h (kc_eo (by decide +kernel)) (by decide) (Nat.le_of_ble_eq_true rfl) (hts _ (kc_at 78 rfl)) (tyX6_ok 6 (by decide)) rfl rfl (kc_el (by decide +kernel)) dX6_init_107 (fun H1 locs1 h => ?_)
  refine lv_aload_n hx hb dX6_init_110 rfl (lv_at hl 1 rfl) ?_
  refine ke_new (X0 := 6) (X := 1) (index := 49) (zs := kc_z1) (n := 484) hx hb hts (by decide) hown (hts _ (kc_at 79 rfl)) (hts _ (kc_at 80 rfl)) (hts _ (kc_at 81 rfl)) hK h tyX1 tyX1_ok (kc_z1_ok B) (by decide +kernel) (Nat.le_of_ble_eq_true rfl) (Nat.le_of_ble_eq_true rfl) dX6_init_111 (fun H1 h => ?_)
  refine lv_dup hx hb dX6_init_114 rfl ?_
  refine lv_aload_n hx hb dX6_init_115 rfl (lv_at hl 1 rfl) ?_
  refine ke_get (X := 6) (index := 12) (i := 0) (k := 0) (fs := [(1, (0 + 1), 0), (1, (0 + 43), 0), (1, (0 + 85), 0), (1, (0 + 127), 0), (1, (0 + 464), 0), (1, (0 + 470), 0), (1, (0 + 475), 0), (2, 0, 0), (2, 0, 0), (0, 0, 0), (0, 0, 0), (0, 0, 0), (0, 0, 0), (0, 0, 0), (0, 0, 0)]) (v := (1, (0 + 1), 0)) hx hb hts (by decide) hown hK h (kc_eo (by decide +kernel)) (by decide) rfl (hts _ (kc_at 60 rfl)) dX6_init_116 ?_
  refine ke_call (cs' := kc_L1 (0 + 484) (0 + 1)) (z := (1, 1, 0, kc_z1)) (n := 484) h (by decide +kernel) (va_runI (As := [.ref (B + (0 + 1))]) (rest := [.ref (B + (0 + 484)), .ref (B + 0)]) ⟨hx, hb, hml, hown, hts⟩ (kc_X1 l D cy B (0 + 484) (0 + 1)) ⟨callB_of 1 hts (kc_g (kc_at 82 rfl)) rfl rfl rfl (hts _ (kc_at 81 rfl)) (hts _ (kc_at 83 rfl)) (by decide +kernel) ⟨(Nat.le_of_ble_eq_true rfl), (Nat.le_of_ble_eq_true rfl)⟩, rfl, (hts _ (kc_at 84 rfl))⟩ (ke_pre hK h (by decide +kernel)) rfl rfl hl.1 rfl (lv_room (Nat.le_of_ble_eq_true rfl)) dX6_init_119 ⟨(Nat.le_of_ble_eq_true rfl), (Nat.le_of_ble_eq_true rfl)⟩) (fun H1 locs1 h => ?_)
  refine ke_put (X := 6) (index := 54) (i := 0) (k := 7) (fs := [(1, (0 + 1), 0), (1, (0 + 43), 0), (1, (0 + 85), 0), (1, (0 + 127), 0), (1, (0 + 464), 0), (1, (0 + 470), 0), (1, (0 + 475), 0), (2, 0, 0), (2, 0, 0), (0, 0, 0), (0, 0, 0), (0, 0, 0), (0, 0, 0), (0, 0, 0), (0, 0, 0)]) (v := (1, (0 + 484), 0)) (ty := tyX6 7) (cs' := [(1, 6, 0, [(1, (0 + 1), 0), (1, (0 + 43), 0), (1, (0 + 85), 0), (1, (0 + 127), 0), (1, (0 + 464), 0), (1, (0 + 470), 0), (1, (0 + 475), 0), (1, (0 + 484), 0), (2, 0, 0), (0, 0, 0), (0, 0, 0), (0, 0, 0), (0, 0, 0), (0, 0, 0), (0, 0, 0)])] ++ kc_L4 (0 + 1) ++ kc_L4 (0 + 43) ++ kc_L4 (0 + 85) ++ [(2, 3, 8, [(1, 0 + 128, 0), (1, 0 + 170, 0), (1, 0 + 212, 0), (1, 0 + 254, 0), (1, 0 + 296, 0), (1, 0 + 338, 0), (1, 0 + 380, 0), (1, 0 + 422, 0)])] ++ kc_L4 (0 + 128) ++ kc_L4 (0 + 170) ++ kc_L4 (0 + 212) ++ kc_L4 (0 + 254) ++ kc_L4 (0 + 296) ++ kc_L4 (0 + 338) ++ kc_L4 (0 + 380) ++ kc_L4 (0 + 422) ++ kc_L0 (0 + 464) ++ kc_L5 (0 + 470) ++ kc_L2 (0 + 475) (0 + 470) ++ kc_L1 (0 + 484) (0 + 1)) hx hb hts (by decide) hown (Or.inl hin) hK h (kc_eo (by decide +kernel)) (by decide) (Nat.le_of_ble_eq_true rfl) (hts _ (kc_at 85 rfl)) (tyX6_ok 7 (by decide)) rfl rfl (kc_el (by decide +kernel)) dX6_init_122 (fun H1 locs1 h => ?_)
  refine lv_aload_n hx hb dX6_init_125 rfl (lv_at hl 1 rfl) ?_
  refine ke_new (X0 := 6) (X := 1) (index := 49) (zs := kc_z1) (n := 508) hx hb hts (by decide) hown (hts _ (kc_at 79 rfl)) (hts _ (kc_at 80 rfl)) (hts _ (kc_at 81 rfl)) hK h tyX1 tyX1_ok (kc_z1_ok B) (by decide +kernel) (Nat.le_of_ble_eq_true rfl) (Nat.le_of_ble_eq_true rfl) dX6_init_126 (fun H1 h => ?_)
  refine lv_dup hx hb dX6_init_129 rfl ?_
  refine lv_aload_n hx hb dX6_init_130 rfl (lv_at hl 1 rfl) ?_
  refine ke_get (X := 6) (index := 12) (i := 0) (k := 0) (fs := [(1, (0 + 1), 0), (1, (0 + 43), 0), (1, (0 + 85), 0), (1, (0 + 127), 0), (1, (0 + 464), 0), (1, (0 + 470), 0), (1, (0 + 475), 0), (1, (0 + 484), 0), (2, 0, 0), (0, 0, 0), (0, 0, 0), (0, 0, 0), (0, 0, 0), (0, 0, 0), (0, 0, 0)]) (v := (1, (0 + 1), 0)) hx hb hts (by decide) hown hK h (kc_eo (by decide +kernel)) (by decide) rfl (hts _ (kc_at 60 rfl)) dX6_init_131 ?_
  refine ke_call (cs' := kc_L1 (0 + 508) (0 + 1)) (z := (1, 1, 0, kc_z1)) (n := 508) h (by decide +kernel) (va_runI (As := [.ref (B + (0 + 1))]) (rest := [.ref (B + (0 + 508)), .ref (B + 0)]) ⟨hx, hb, hml, hown, hts⟩ (kc_X1 l D cy B (0 + 508) (0 + 1)) ⟨callB_of 1 hts (kc_g (kc_at 82 rfl)) rfl rfl rfl (hts _ (kc_at 81 rfl)) (hts _ (kc_at 83 rfl)) (by decide +kernel) ⟨(Nat.le_of_ble_eq_true rfl), (Nat.le_of_ble_eq_true rfl)⟩, rfl, (hts _ (kc_at 84 rfl))⟩ (ke_pre hK h (by decide +kernel)) rfl rfl hl.1 rfl (lv_room (Nat.le_of_ble_eq_true rfl)) dX6_init_134 ⟨(Nat.le_of_ble_eq_true rfl), (Nat.le_of_ble_eq_true rfl)⟩) (fun H1 locs1 h => ?_)
  refine ke_put (X := 6) (index := 58) (i := 0) (k := 8) (fs := [(1, (0 + 1), 0), (1, (0 + 43), 0), (1, (0 + 85), 0), (1, (0 + 127), 0), (1, (0 + 464), 0), (1, (0 + 470), 0), (1, (0 + 475), 0), (1, (0 + 484), 0), (2, 0, 0), (0, 0, 0), (0, 0, 0), (0, 0, 0), (0, 0, 0), (0, 0, 0), (0, 0, 0)]) (v := (1, (0 + 508), 0)) (ty := tyX6 8) (cs' := [(1, 6, 0, [(1, (0 + 1), 0), (1, (0 + 43), 0), (1, (0 + 85), 0), (1, (0 + 127), 0), (1, (0 + 464), 0), (1, (0 + 470), 0), (1, (0 + 475), 0), (1, (0 + 484), 0), (1, (0 + 508), 0), (0, 0, 0), (0, 0, 0), (0, 0, 0), (0, 0, 0), (0, 0, 0), (0, 0, 0)])] ++ kc_L4 (0 + 1) ++ kc_L4 (0 + 43) ++ kc_L4 (0 + 85) ++ [(2, 3, 8, [(1, 0 + 128, 0), (1, 0 + 170, 0), (1, 0 + 212, 0), (1, 0 + 254, 0), (1, 0 + 296, 0), (1, 0 + 338, 0), (1, 0 + 380, 0), (1, 0 + 422, 0)])] ++ kc_L4 (0 + 128) ++ kc_L4 (0 + 170) ++ kc_L4 (0 + 212) ++ kc_L4 (0 + 254) ++ kc_L4 (0 + 296) ++ kc_L4 (0 + 338) ++ kc_L4 (0 + 380) ++ kc_L4 (0 + 422) ++ kc_L0 (0 + 464) ++ kc_L5 (0 + 470) ++ kc_L2 (0 + 475) (0 + 470) ++ kc_L1 (0 + 484) (0 + 1) ++ kc_L1 (0 + 508) (0 + 1)) hx hb hts (by decide) hown (Or.inl hin) hK h (kc_eo (by decide +kernel)) (by decide) (Nat.le_of_ble_eq_true rfl) (hts _ (kc_at 86 rfl)) (tyX6_ok 8 (by decide)) rfl rfl (kc_el (by decide +kernel)) dX6_init_137 (fun H1 locs1 h => ?_)
  refine lv_aload_n hx hb dX6_init_140 rfl (lv_at hl 1 rfl) ?_
  refine lv_iconst (v := Int32.ofInt (-1)) hx hb dX6_init_141 (by decide) ?_
  refine ke_put (X := 6) (index := 61) (i := 0) (k := 14) (fs := [(1, (0 + 1), 0), (1, (0 + 43), 0), (1, (0 + 85), 0), (1, (0 + 127), 0), (1, (0 + 464), 0), (1, (0 + 470), 0), (1, (0 + 475), 0), (1, (0 + 484), 0), (1, (0 + 508), 0), (0, 0, 0), (0, 0, 0), (0, 0, 0), (0, 0, 0), (0, 0, 0), (0, 0, 0)]) (v := (0, 0, -1)) (ty := tyX6 14) (cs' := [(1, 6, 0, [(1, (0 + 1), 0), (1, (0 + 43), 0), (1, (0 + 85), 0), (1, (0 + 127), 0), (1, (0 + 464), 0), (1, (0 + 470), 0), (1, (0 + 475), 0), (1, (0 + 484), 0), (1, (0 + 508), 0), (0, 0, 0), (0, 0, 0), (0, 0, 0), (0, 0, 0), (0, 0, 0), (0, 0, -1)])] ++ kc_L4 (0 + 1) ++ kc_L4 (0 + 43) ++ kc_L4 (0 + 85) ++ [(2, 3, 8, [(1, 0 + 128, 0), (1, 0 + 170, 0), (1, 0 + 212, 0), (1, 0 + 254, 0), (1, 0 + 296, 0), (1, 0 + 338, 0), (1, 0 + 380, 0), (1, 0 + 422, 0)])] ++ kc_L4 (0 + 128) ++ kc_L4 (0 + 170) ++ kc_L4 (0 + 212) ++ kc_L4 (0 + 254) ++ kc_L4 (0 + 296) ++ kc_L4 (0 + 338) ++ kc_L4 (0 + 380) ++ kc_L4 (0 + 422) ++ kc_L0 (0 + 464) ++ kc_L5 (0 + 470) ++ kc_L2 (0 + 475) (0 + 470) ++ kc_L1 (0 + 484) (0 + 1) ++ kc_L1 (0 + 508) (0 + 1)) hx hb hts (by decide) hown (Or.inl hin) hK h (kc_eo (by decide +kernel)) (by decide) (Nat.le_of_ble_eq_true rfl) (hts _ (kc_at 87 rfl)) (tyX6_ok 14 (by decide)) rfl rfl (kc_el (by decide +kernel)) dX6_init_142 (fun H1 locs1 h => ?_)
  exact W.vret hx hb hr (fun t ht hW => ke_end h ht) h.1.2.2 dX6_init_145
def kc_L7 (p : Nat) : List ke_C := [(1, 7, 0, [(0, 0, 0), (1, (p + 1), 0), (1, (p + 2), 0), (1, (p + 3), 0), (1, (p + 4), 0), (0, 0, 0), (0, 0, 0), (0, 0, 0), (1, (p + 5), 0), (0, 0, 0), (0, 0, 0), (0, 0, 0), (0, 0, -1), (1, (p + 6), 0), (1, (p + 7), 0), (0, 0, 0), (1, (p + 8), 0), (0, 0, 0), (0, 0, 0), (1, (p + 9), 0), (1, (p + 10), 0), (0, 0, 60), (1, (p + 11), 0), (1, (p + 12), 0), (1, (p + 13), 0), (1, (p + 14), 0), (1, (p + 15), 0), (0, 0, 0), (0, 0, 0), (0, 0, 0)]), (0, 0, 1130, []), (0, 0, 1130, []), (0, 0, 1130, []), (0, 0, 9040, []), (0, 0, 400, []), (0, 0, 94, []), (0, 0, 40, []), (0, 0, 40, []), (0, 0, 8, []), (0, 0, 8, []), (0, 0, 23, []), (0, 0, 60, []), (0, 0, 1000, []), (0, 0, 1000, []), (0, 0, 8, [])]
set_option maxRecDepth 100000 in
theorem kc_b7 (p : Nat) : Met l yX7_begins (.code yX7_begins cX7_begins 1 none :: fx_T0) ({ frames := 0, cells := 0, slots := 0, locals := 0 } : Room) (va_Pc [.ref (B + p)] (fun U => (U.heap.size = B + (p + (kc_L7 p).length) ∧ ∀ (j : Nat) (k : ke_C), (kc_L7 p)[j]? = some k → va_at D vwCl (B + (p + j), ke_e cy B k) U.heap) ∧ ke_K D cy U)) (ke_Qc D cy B p (kc_L7 p)) 0 0 (fun q => B + p ≤ q) := by
  refine Met.ofW (cc := cX7_begins) (maxL := 1) (ret := none) (by decide) rfl ?_
  intro p0 e s m args below meth c s₁ Bd hml hv
  obtain ⟨rfl, ⟨hsz, hz⟩, hK⟩ := hv
  have hx := Bd.exec
  have hb := Bd.bytes
  have hr := Bd.returns
  have hlocks := Bd.notSynchronized
  have hts0 := atoms_spec (ws := .code yX7_begins cX7_begins 1 none :: fx_T0) Bd.pre
  have hts : ∀ w ∈ fx_T0, w.before ([.ref (B + p)] : List Value).toArray s = true := fun w h => hts0 w (List.mem_cons_of_mem _ h)
  have hown : s.vm.findClass RX7 = some m.cls := findClass_of_methodNamed Bd.named
  have hin := (name_of_methodNamed Bd.named Bd.method).1
  have hl := lv_entry ([.ref (B + p)]) (n := 1) (Nat.le_of_ble_eq_true rfl)
  rw [lg_entry_eq]
  generalize (lg_sl ([.ref (B + p)]) ++ List.replicate (1 - (lg_sl ([.ref (B + p)])).length) Slot.unset).toArray = ls at hl ⊢
  have hl : lv_has ls 1 [(0, .ref (B + p))] := hl
  have h : ke_W D cy B s.heap p ([(1, 7, 0, [(0, 0, 0), (1, (p + 1), 0), (1, (p + 2), 0), (1, (p + 3), 0), (1, (p + 4), 0), (0, 0, 0), (0, 0, 0), (0, 0, 0), (1, (p + 5), 0), (0, 0, 0), (0, 0, 0), (0, 0, 0), (0, 0, -1), (1, (p + 6), 0), (1, (p + 7), 0), (0, 0, 0), (1, (p + 8), 0), (0, 0, 0), (0, 0, 0), (1, (p + 9), 0), (1, (p + 10), 0), (0, 0, 60), (1, (p + 11), 0), (1, (p + 12), 0), (1, (p + 13), 0), (1, (p + 14), 0), (1, (p + 15), 0), (0, 0, 0), (0, 0, 0), (0, 0, 0)]), (0, 0, 1130, []), (0, 0, 1130, []), (0, 0, 1130, []), (0, 0, 9040, []), (0, 0, 400, []), (0, 0, 94, []), (0, 0, 40, []), (0, 0, 40, []), (0, 0, 8, []), (0, 0, 8, []), (0, 0, 23, []), (0, 0, 60, []), (0, 0, 1000, []), (0, 0, 1000, []), (0, 0, 8, [])]) s.heap [] := ⟨va_S.rf, hsz, hz⟩
  refine lv_aload_n hx hb dX7_begins_0 rfl (lv_at hl 0 rfl) ?_
  refine lv_iconst (v := Int32.ofInt (0)) hx hb dX7_begins_1 (by decide) ?_
  refine ke_put (X := 7) (index := 68) (i := 0) (k := 5) (fs := [(0, 0, 0), (1, (p + 1), 0), (1, (p + 2), 0), (1, (p + 3), 0), (1, (p + 4), 0), (0, 0, 0), (0, 0, 0), (0, 0, 0), (1, (p + 5), 0), (0, 0, 0), (0, 0, 0), (0, 0, 0), (0, 0, -1), (1, (p + 6), 0), (1, (p + 7), 0), (0, 0, 0), (1, (p + 8), 0), (0, 0, 0), (0, 0, 0), (1, (p + 9), 0), (1, (p + 10), 0), (0, 0, 60), (1, (p + 11), 0), (1, (p + 12), 0), (1, (p + 13), 0), (1, (p + 14), 0), (1, (p + 15), 0), (0, 0, 0), (0, 0, 0), (0, 0, 0)]) (v := (0, 0, 0)) (ty := tyX7 5) (cs' := [(1, 7, 0, [(0, 0, 0), (1, (p + 1), 0), (1, (p + 2), 0), (1, (p + 3), 0), (1, (p + 4), 0), (0, 0, 0), (0, 0, 0), (0, 0, 0), (1, (p + 5), 0), (0, 0, 0), (0, 0, 0), (0, 0, 0), (0, 0, -1), (1, (p + 6), 0), (1, (p + 7), 0), (0, 0, 0), (1, (p + 8), 0), (0, 0, 0), (0, 0, 0), (1, (p + 9), 0), (1, (p + 10), 0), (0, 0, 60), (1, (p + 11), 0), (1, (p + 12), 0), (1, (p + 13), 0), (1, (p + 14), 0), (1, (p + 15), 0), (0, 0, 0), (0, 0, 0), (0, 0, 0)]), (0, 0, 1130, []), (0, 0, 1130, []), (0, 0, 1130, []), (0, 0, 9040, []), (0, 0, 400, []), (0, 0, 94, []), (0, 0, 40, []), (0, 0, 40, []), (0, 0, 8, []), (0, 0, 8, []), (0, 0, 23, []), (0, 0, 60, []), (0, 0, 1000, []), (0, 0, 1000, []), (0, 0, 8, [])]) hx hb hts (by decide) hown (Or.inr rfl) hK h rfl (by decide) (Nat.le_of_ble_eq_true rfl) (hts _ (kc_at 0 rfl)) (tyX7_ok 5 (by decide)) rfl rfl rfl dX7_begins_2 (fun H1 locs1 h => ?_)
  exact W.vret hx hb hr (fun t ht hW => ke_end h ht) h.1.2.2 dX7_begins_5
set_option maxRecDepth 100000 in
theorem kc_X7 (p : Nat) : Met l yX7_init (.code yX7_init cX7_init 1 none :: fx_T0) ({ frames := 1, cells := 15, slots := 15111, locals := 20 } : Room) (ke_Pc D cy B p (1, 7, 0, kc_z7) []) (ke_Qc D cy B p (kc_L7 p)) 15 15111 (fun q => B + p ≤ q) := by
  refine Met.ofW (cc := cX7_init) (maxL := 1) (ret := none) (by decide) rfl ?_
  intro p0 e s m args below meth c s₁ Bd hml hv
  obtain ⟨rfl, hsz, hz, hK⟩ := hv
  have hx := Bd.exec
  have hb := Bd.bytes
  have hr := Bd.returns
  have hlocks := Bd.notSynchronized
  have hts0 := atoms_spec (ws := .code yX7_init cX7_init 1 none :: fx_T0) Bd.pre
  have hts : ∀ w ∈ fx_T0, w.before ([.ref (B + p)] : List Value).toArray s = true := fun w h => hts0 w (List.mem_cons_of_mem _ h)
  have hown : s.vm.findClass RX7 = some m.cls := findClass_of_methodNamed Bd.named
  have hin := (name_of_methodNamed Bd.named Bd.method).1
  have hl := lv_entry ([.ref (B + p)]) (n := 1) (Nat.le_of_ble_eq_true rfl)
  rw [lg_entry_eq]
  generalize (lg_sl ([.ref (B + p)]) ++ List.replicate (1 - (lg_sl ([.ref (B + p)])).length) Slot.unset).toArray = ls at hl ⊢
  have hl : lv_has ls 1 [(0, .ref (B + p))] := hl
  have h : ke_W D cy B s.heap p [(1, 7, 0, kc_z7)] s.heap [] := ke_start hsz hz
  refine lv_aload_n hx hb dX7_init_0 rfl (lv_at hl 0 rfl) ?_
  refine W.objInit hx hb hown (hts _ (kc_at 88 rfl)) (hts _ (kc_at 2 rfl)) (hts _ (kc_at 3 rfl)) rfl (by rw [hml]; exact hl.1) rfl dX7_init_1 (Nat.le_of_ble_eq_true rfl) (Nat.le_of_ble_eq_true rfl) ?_
  refine W.eq (g2 := F0 m 4 ls []) rfl ?_
  refine lv_aload_n hx hb dX7_init_4 rfl (lv_at hl 0 rfl) ?_
  refine lv_sipush (v := 1130) hx hb dX7_init_5 (by decide) ?_
  refine ke_newa (atype := .int) (t := 0) (N := 1130) (n := 1) hx hb (hts _ (kc_at 4 rfl)) (hK.1.2 0 _ rfl).2 rfl h (by decide) (by decide) (by decide) rfl (Nat.le_of_ble_eq_true rfl) (Nat.le_of_ble_eq_true rfl) dX7_init_8 (fun H1 h => ?_)
  refine ke_put (X := 7) (index := 7) (i := 0) (k := 1) (fs := [(0, 0, 0), (2, 0, 0), (2, 0, 0), (2, 0, 0), (2, 0, 0), (0, 0, 0), (0, 0, 0), (0, 0, 0), (2, 0, 0), (0, 0, 0), (0, 0, 0), (0, 0, 0), (0, 0, 0), (2, 0, 0), (2, 0, 0), (0, 0, 0), (2, 0, 0), (0, 0, 0), (0, 0, 0), (2, 0, 0), (2, 0, 0), (0, 0, 0), (2, 0, 0), (2, 0, 0), (2, 0, 0), (2, 0, 0), (2, 0, 0), (0, 0, 0), (0, 0, 0), (0, 0, 0)]) (v := (1, (p + 1), 0)) (ty := tyX7 1) (cs' := [(1, 7, 0, [(0, 0, 0), (1, (p + 1), 0), (2, 0, 0), (2, 0, 0), (2, 0, 0), (0, 0, 0), (0, 0, 0), (0, 0, 0), (2, 0, 0), (0, 0, 0), (0, 0, 0), (0, 0, 0), (0, 0, 0), (2, 0, 0), (2, 0, 0), (0, 0, 0), (2, 0, 0), (0, 0, 0), (0, 0, 0), (2, 0, 0), (2, 0, 0), (0, 0, 0), (2, 0, 0), (2, 0, 0), (2, 0, 0), (2, 0, 0), (2, 0, 0), (0, 0, 0), (0, 0, 0), (0, 0, 0)]), (0, 0, 1130, [])]) hx hb hts (by decide) hown (Or.inl hin) hK h rfl (by decide) (Nat.le_of_ble_eq_true rfl) (hts _ (kc_at 89 rfl)) (tyX7_ok 1 (by decide)) rfl rfl rfl dX7_init_10 (fun H1 locs1 h => ?_)
  refine lv_aload_n hx hb dX7_init_13 rfl (lv_at hl 0 rfl) ?_
  refine lv_sipush (v := 1130) hx hb dX7_init_14 (by decide) ?_
  refine ke_newa (atype := .int) (t := 0) (N := 1130) (n := 2) hx hb (hts _ (kc_at 4 rfl)) (hK.1.2 0 _ rfl).2 rfl h (by decide) (by decide) (by decide) rfl (Nat.le_of_ble_eq_true rfl) (Nat.le_of_ble_eq_true rfl) dX7_init_17 (fun H1 h => ?_)
  refine ke_put (X := 7) (index := 13) (i := 0) (k := 2) (fs := [(0, 0, 0), (1, (p + 1), 0), (2, 0, 0), (2, 0, 0), (2, 0, 0), (0, 0, 0), (0, 0, 0), (0, 0, 0), (2, 0, 0), (0, 0, 0), (0, 0, 0), (0, 0, 0), (0, 0, 0), (2, 0, 0), (2, 0, 0), (0, 0, 0), (2, 0, 0), (0, 0, 0), (0, 0, 0), (2, 0, 0), (2, 0, 0), (0, 0, 0), (2, 0, 0), (2, 0, 0), (2, 0, 0), (2, 0, 0), (2, 0, 0), (0, 0, 0), (0, 0, 0), (0, 0, 0)]) (v := (1, (p + 2), 0)) (ty := tyX7 2) (cs' := [(1, 7, 0, [(0, 0, 0), (1, (p + 1), 0), (1, (p + 2), 0), (2, 0, 0), (2, 0, 0), (0, 0, 0), (0, 0, 0), (0, 0, 0), (2, 0, 0), (0, 0, 0), (0, 0, 0), (0, 0, 0), (0, 0, 0), (2, 0, 0), (2, 0, 0), (0, 0, 0), (2, 0, 0), (0, 0, 0), (0, 0, 0), (2, 0, 0), (2, 0, 0), (0, 0, 0), (2, 0, 0), (2, 0, 0), (2, 0, 0), (2, 0, 0), (2, 0, 0), (0, 0, 0), (0, 0, 0), (0, 0, 0)]), (0, 0, 1130, []), (0, 0, 1130, [])]) hx hb hts (by decide) hown (Or.inl hin) hK h rfl (by decide) (Nat.le_of_ble_eq_true rfl) (hts _ (kc_at 90 rfl)) (tyX7_ok 2 (by decide)) rfl rfl rfl dX7_init_19 (fun H1 locs1 h => ?_)
  refine lv_aload_n hx hb dX7_init_22 rfl (lv_at hl 0 rfl) ?_
  refine lv_sipush (v := 1130) hx hb dX7_init_23 (by decide) ?_
  refine ke_newa (atype := .int) (t := 0) (N := 1130) (n := 3) hx hb (hts _ (kc_at 4 rfl)) (hK.1.2 0 _ rfl).2 rfl h (by decide) (by decide) (by decide) rfl (Nat.le_of_ble_eq_true rfl) (Nat.le_of_ble_eq_true rfl) dX7_init_26 (fun H1 h => ?_)
  refine ke_put (X := 7) (index := 16) (i := 0) (k := 3) (fs := [(0, 0, 0), (1, (p + 1), 0), (1, (p + 2), 0), (2, 0, 0), (2, 0, 0), (0, 0, 0), (0, 0, 0), (0, 0, 0), (2, 0, 0), (0, 0, 0), (0, 0, 0), (0, 0, 0), (0, 0, 0), (2, 0, 0), (2, 0, 0), (0, 0, 0), (2, 0, 0), (0, 0, 0), (0, 0, 0), (2, 0, 0), (2, 0, 0), (0, 0, 0), (2, 0, 0), (2, 0, 0), (2, 0, 0), (2, 0, 0), (2, 0, 0), (0, 0, 0), (0, 0, 0), (0, 0, 0)]) (v := (1, (p + 3), 0)) (ty := tyX7 3) (cs' := [(1, 7, 0, [(0, 0, 0), (1, (p + 1), 0), (1, (p + 2), 0), (1, (p + 3), 0), (2, 0, 0), (0, 0, 0), (0, 0, 0), (0, 0, 0), (2, 0, 0), (0, 0, 0), (0, 0, 0), (0, 0, 0), (0, 0, 0), (2, 0, 0), (2, 0, 0), (0, 0, 0), (2, 0, 0), (0, 0, 0), (0, 0, 0), (2, 0, 0), (2, 0, 0), (0, 0, 0), (2, 0, 0), (2, 0, 0), (2, 0, 0), (2, 0, 0), (2, 0, 0), (0, 0, 0), (0, 0, 0), (0, 0, 0)]), (0, 0, 1130, []), (0, 0, 1130, []), (0, 0, 1130, [])]) hx hb hts (by decide) hown (Or.inl hin) hK h rfl (by decide) (Nat.le_of_ble_eq_true rfl) (hts _ (kc_at 91 rfl)) (tyX7_ok 3 (by decide)) rfl rfl rfl dX7_init_28 (fun H1 locs1 h => ?_)
  refine lv_aload_n hx hb dX7_init_31 rfl (lv_at hl 0 rfl) ?_
  refine lv_sipush (v := 9040) hx hb dX7_init_32 (by decide) ?_
  refine ke_newa (atype := .int) (t := 0) (N := 9040) (n := 4) hx hb (hts _ (kc_at 4 rfl)) (hK.1.2 0 _ rfl).2 rfl h (by decide) (by decide) (by decide) rfl (Nat.le_of_ble_eq_true rfl) (Nat.le_of_ble_eq_true rfl) dX7_init_35 (fun H1 h => ?_)
  refine ke_put (X := 7) (index := 19) (i := 0) (k := 4) (fs := [(0, 0, 0), (1, (p + 1), 0), (1, (p + 2), 0), (1, (p + 3), 0), (2, 0, 0), (0, 0, 0), (0, 0, 0), (0, 0, 0), (2, 0, 0), (0, 0, 0), (0, 0, 0), (0, 0, 0), (0, 0, 0), (2, 0, 0), (2, 0, 0), (0, 0, 0), (2, 0, 0), (0, 0, 0), (0, 0, 0), (2, 0, 0), (2, 0, 0), (0, 0, 0), (2, 0, 0), (2, 0, 0), (2, 0, 0), (2, 0, 0), (2, 0, 0), (0, 0, 0), (0, 0, 0), (0, 0, 0)]) (v := (1, (p + 4), 0)) (ty := tyX7 4) (cs' := [(1, 7, 0, [(0, 0, 0), (1, (p + 1), 0), (1, (p + 2), 0), (1, (p + 3), 0), (1, (p + 4), 0), (0, 0, 0), (0, 0, 0), (0, 0, 0), (2, 0, 0), (0, 0, 0), (0, 0, 0), (0, 0, 0), (0, 0, 0), (2, 0, 0), (2, 0, 0), (0, 0, 0), (2, 0, 0), (0, 0, 0), (0, 0, 0), (2, 0, 0), (2, 0, 0), (0, 0, 0), (2, 0, 0), (2, 0, 0), (2, 0, 0), (2, 0, 0), (2, 0, 0), (0, 0, 0), (0, 0, 0), (0, 0, 0)]), (0, 0, 1130, []), (0, 0, 1130, []), (0, 0, 1130, []), (0, 0, 9040, [])]) hx hb hts (by decide) hown (Or.inl hin) hK h rfl (by decide) (Nat.le_of_ble_eq_true rfl) (hts _ (kc_at 92 rfl)) (tyX7_ok 4 (by decide)) rfl rfl rfl dX7_init_37 (fun H1 locs1 h => ?_)
  refine lv_aload_n hx hb dX7_init_40 rfl (lv_at hl 0 rfl) ?_
  refine lv_sipush (v := 400) hx hb dX7_init_41 (by decide) ?_
  refine ke_newa (atype := .int) (t := 0) (N := 400) (n := 5) hx hb (hts _ (kc_at 4 rfl)) (hK.1.2 0 _ rfl).2 rfl h (by decide) (by decide) (by decide) rfl (Nat.le_of_ble_eq_true rfl) (Nat.le_of_ble_eq_true rfl) dX7_init_44 (fun H1 h => ?_)
  refine ke_put (X := 7) (index := 22) (i := 0) (k := 8) (fs := [(0, 0, 0), (1, (p + 1), 0), (1, (p + 2), 0), (1, (p + 3), 0), (1, (p + 4), 0), (0, 0, 0), (0, 0, 0), (0, 0, 0), (2, 0, 0), (0, 0, 0), (0, 0, 0), (0, 0, 0), (0, 0, 0), (2, 0, 0), (2, 0, 0), (0, 0, 0), (2, 0, 0), (0, 0, 0), (0, 0, 0), (2, 0, 0), (2, 0, 0), (0, 0, 0), (2, 0, 0), (2, 0, 0), (2, 0, 0), (2, 0, 0), (2, 0, 0), (0, 0, 0), (0, 0, 0), (0, 0, 0)]) (v := (1, (p + 5), 0)) (ty := tyX7 8) (cs' := [(1, 7, 0, [(0, 0, 0), (1, (p + 1), 0), (1, (p + 2), 0), (1, (p + 3), 0), (1, (p + 4), 0), (0, 0, 0), (0, 0, 0), (0, 0, 0), (1, (p + 5), 0), (0, 0, 0), (0, 0, 0), (0, 0, 0), (0, 0, 0), (2, 0, 0), (2, 0, 0), (0, 0, 0), (2, 0, 0), (0, 0, 0), (0, 0, 0), (2, 0, 0), (2, 0, 0), (0, 0, 0), (2, 0, 0), (2, 0, 0), (2, 0, 0), (2, 0, 0), (2, 0, 0), (0, 0, 0), (0, 0, 0), (0, 0, 0)]), (0, 0, 1130, []), (0, 0, 1130, []), (0, 0, 1130, []), (0, 0, 9040, []), (0, 0, 400, [])]) hx hb hts (by decide) hown (Or.inl hin) hK h rfl (by decide) (Nat.le_of_ble_eq_true rfl) (hts _ (kc_at 93 rfl)) (tyX7_ok 8 (by decide)) rfl rfl rfl dX7_init_46 (fun H1 locs1 h => ?_)
  refine lv_aload_n hx hb dX7_init_49 rfl (lv_at hl 0 rfl) ?_
  refine lv_iconst (v := Int32.ofInt (-1)) hx hb dX7_init_50 (by decide) ?_
  refine ke_put (X := 7) (index := 25) (i := 0) (k := 12) (fs := [(0, 0, 0), (1, (p + 1), 0), (1, (p + 2), 0), (1, (p + 3), 0), (1, (p + 4), 0), (0, 0, 0), (0, 0, 0), (0, 0, 0), (1, (p + 5), 0), (0, 0, 0), (0, 0, 0), (0, 0, 0), (0, 0, 0), (2, 0, 0), (2, 0, 0), (0, 0, 0), (2, 0, 0), (0, 0, 0), (0, 0, 0), (2, 0, 0), (2, 0, 0), (0, 0, 0), (2, 0, 0), (2, 0, 0), (2, 0, 0), (2, 0, 0), (2, 0, 0), (0, 0, 0), (0, 0, 0), (0, 0, 0)]) (v := (0, 0, -1)) (ty := tyX7 12) (cs' := [(1, 7, 0, [(0, 0, 0), (1, (p + 1), 0), (1, (p + 2), 0), (1, (p + 3), 0), (1, (p + 4), 0), (0, 0, 0), (0, 0, 0), (0, 0, 0), (1, (p + 5), 0), (0, 0, 0), (0, 0, 0), (0, 0, 0), (0, 0, -1), (2, 0, 0), (2, 0, 0), (0, 0, 0), (2, 0, 0), (0, 0, 0), (0, 0, 0), (2, 0, 0), (2, 0, 0), (0, 0, 0), (2, 0, 0), (2, 0, 0), (2, 0, 0), (2, 0, 0), (2, 0, 0), (0, 0, 0), (0, 0, 0), (0, 0, 0)]), (0, 0, 1130, []), (0, 0, 1130, []), (0, 0, 1130, []), (0, 0, 9040, []), (0, 0, 400, [])]) hx hb hts (by decide) hown (Or.inl hin) hK h rfl (by decide) (Nat.le_of_ble_eq_true rfl) (hts _ (kc_at 94 rfl)) (tyX7_ok 12 (by decide)) rfl rfl rfl dX7_init_51 (fun H1 locs1 h => ?_)
  refine lv_aload_n hx hb dX7_init_54 rfl (lv_at hl 0 rfl) ?_
  refine lv_bipush (v := 94) hx hb dX7_init_55 (by decide) ?_
  refine ke_newa (atype := .int) (t := 0) (N := 94) (n := 6) hx hb (hts _ (kc_at 4 rfl)) (hK.1.2 0 _ rfl).2 rfl h (by decide) (by decide) (by decide) rfl (Nat.le_of_ble_eq_true rfl) (Nat.le_of_ble_eq_true rfl) dX7_init_57 (fun H1 h => ?_)
  refine ke_put (X := 7) (index := 29) (i := 0) (k := 13) (fs := [(0, 0, 0), (1, (p + 1), 0), (1, (p + 2), 0), (1, (p + 3), 0), (1, (p + 4), 0), (0, 0, 0), (0, 0, 0), (0, 0, 0), (1, (p + 5), 0), (0, 0, 0), (0, 0, 0), (0, 0, 0), (0, 0, -1), (2, 0, 0), (2, 0, 0), (0, 0, 0), (2, 0, 0), (0, 0, 0), (0, 0, 0), (2, 0, 0), (2, 0, 0), (0, 0, 0), (2, 0, 0), (2, 0, 0), (2, 0, 0), (2, 0, 0), (2, 0, 0), (0, 0, 0), (0, 0, 0), (0, 0, 0)]) (v := (1, (p + 6), 0)) (ty := tyX7 13) (cs' := [(1, 7, 0, [(0, 0, 0), (1, (p + 1), 0), (1, (p + 2), 0), (1, (p + 3), 0), (1, (p + 4), 0), (0, 0, 0), (0, 0, 0), (0, 0, 0), (1, (p + 5), 0), (0, 0, 0), (0, 0, 0), (0, 0, 0), (0, 0, -1), (1, (p + 6), 0), (2, 0, 0), (0, 0, 0), (2, 0, 0), (0, 0, 0), (0, 0, 0), (2, 0, 0), (2, 0, 0), (0, 0, 0), (2, 0, 0), (2, 0, 0), (2, 0, 0), (2, 0, 0), (2, 0, 0), (0, 0, 0), (0, 0, 0), (0, 0, 0)]), (0, 0, 1130, []), (0, 0, 1130, []), (0, 0, 1130, []), (0, 0, 9040, []), (0, 0, 400, []), (0, 0, 94, [])]) hx hb hts (by decide) hown (Or.inl hin) hK h rfl (by decide) (Nat.le_of_ble_eq_true rfl) (hts _ (kc_at 95 rfl)) (tyX7_ok 13 (by decide)) rfl rfl rfl dX7_init_59 (fun H1 locs1 h => ?_)
  refine lv_aload_n hx hb dX7_init_62 rfl (lv_at hl 0 rfl) ?_
  refine lv_bipush (v := 40) hx hb dX7_init_63 (by decide) ?_
  refine ke_newa (atype := .int) (t := 0) (N := 40) (n := 7) hx hb (hts _ (kc_at 4 rfl)) (hK.1.2 0 _ rfl).2 rfl h (by decide) (by decide) (by decide) rfl (Nat.le_of_ble_eq_true rfl) (Nat.le_of_ble_eq_true rfl) dX7_init_65 (fun H1 h => ?_)
  refine ke_put (X := 7) (index := 32) (i := 0) (k := 14) (fs := [(0, 0, 0), (1, (p + 1), 0), (1, (p + 2), 0), (1, (p + 3), 0), (1, (p + 4), 0), (0, 0, 0), (0, 0, 0), (0, 0, 0), (1, (p + 5), 0), (0, 0, 0), (0, 0, 0), (0, 0, 0), (0, 0, -1), (1, (p + 6), 0), (2, 0, 0), (0, 0, 0), (2, 0, 0), (0, 0, 0), (0, 0, 0), (2, 0, 0), (2, 0, 0), (0, 0, 0), (2, 0, 0), (2, 0, 0), (2, 0, 0), (2, 0, 0), (2, 0, 0), (0, 0, 0), (0, 0, 0), (0, 0, 0)]) (v := (1, (p + 7), 0)) (ty := tyX7 14) (cs' := [(1, 7, 0, [(0, 0, 0), (1, (p + 1), 0), (1, (p + 2), 0), (1, (p + 3), 0), (1, (p + 4), 0), (0, 0, 0), (0, 0, 0), (0, 0, 0), (1, (p + 5), 0), (0, 0, 0), (0, 0, 0), (0, 0, 0), (0, 0, -1), (1, (p + 6), 0), (1, (p + 7), 0), (0, 0, 0), (2, 0, 0), (0, 0, 0), (0, 0, 0), (2, 0, 0), (2, 0, 0), (0, 0, 0), (2, 0, 0), (2, 0, 0), (2, 0, 0), (2, 0, 0), (2, 0, 0), (0, 0, 0), (0, 0, 0), (0, 0, 0)]), (0, 0, 1130, []), (0, 0, 1130, []), (0, 0, 1130, []), (0, 0, 9040, []), (0, 0, 400, []), (0, 0, 94, []), (0, 0, 40, [])]) hx hb hts (by decide) hown (Or.inl hin) hK h rfl (by decide) (Nat.le_of_ble_eq_true rfl) (hts _ (kc_at 96 rfl)) (tyX7_ok 14 (by decide)) rfl rfl rfl dX7_init_67 (fun H1 locs1 h => ?_)
  refine lv_aload_n hx hb dX7_init_70 rfl (lv_at hl 0 rfl) ?_
  refine lv_bipush (v := 40) hx hb dX7_init_71 (by decide) ?_
  refine ke_newa (atype := .int) (t := 0) (N := 40) (n := 8) hx hb (hts _ (kc_at 4 rfl)) (hK.1.2 0 _ rfl).2 rfl h (by decide) (by decide) (by decide) rfl (Nat.le_of_ble_eq_true rfl) (Nat.le_of_ble_eq_true rfl) dX7_init_73 (fun H1 h => ?_)
  refine ke_put (X := 7) (index := 35) (i := 0) (k := 16) (fs := [(0, 0, 0), (1, (p + 1), 0), (1, (p + 2), 0), (1, (p + 3), 0), (1, (p + 4), 0), (0, 0, 0), (0, 0, 0), (0, 0, 0), (1, (p + 5), 0), (0, 0, 0), (0, 0, 0), (0, 0, 0), (0, 0, -1), (1, (p + 6), 0), (1, (p + 7), 0), (0, 0, 0), (2, 0, 0), (0, 0, 0), (0, 0, 0), (2, 0, 0), (2, 0, 0), (0, 0, 0), (2, 0, 0), (2, 0, 0), (2, 0, 0), (2, 0, 0), (2, 0, 0), (0, 0, 0), (0, 0, 0), (0, 0, 0)]) (v := (1, (p + 8), 0)) (ty := tyX7 16) (cs' := [(1, 7, 0, [(0, 0, 0), (1, (p + 1), 0), (1, (p + 2), 0), (1, (p + 3), 0), (1, (p + 4), 0), (0, 0, 0), (0, 0, 0), (0, 0, 0), (1, (p + 5), 0), (0, 0, 0), (0, 0, 0), (0, 0, 0), (0, 0, -1), (1, (p + 6), 0), (1, (p + 7), 0), (0, 0, 0), (1, (p + 8), 0), (0, 0, 0), (0, 0, 0), (2, 0, 0), (2, 0, 0), (0, 0, 0), (2, 0, 0), (2, 0, 0), (2, 0, 0), (2, 0, 0), (2, 0, 0), (0, 0, 0), (0, 0, 0), (0, 0, 0)]), (0, 0, 1130, []), (0, 0, 1130, []), (0, 0, 1130, []), (0, 0, 9040, []), (0, 0, 400, []), (0, 0, 94, []), (0, 0, 40, []), (0, 0, 40, [])]) hx hb hts (by decide) hown (Or.inl hin) hK h rfl (by decide) (Nat.le_of_ble_eq_true rfl) (hts _ (kc_at 97 rfl)) (tyX7_ok 16 (by decide)) rfl rfl rfl dX7_init_75 (fun H1 locs1 h => ?_)
  refine lv_aload_n hx hb dX7_init_78 rfl (lv_at hl 0 rfl) ?_
  refine lv_bipush (v := 8) hx hb dX7_init_79 (by decide) ?_
  refine ke_newa (atype := .int) (t := 0) (N := 8) (n := 9) hx hb (hts _ (kc_at 4 rfl)) (hK.1.2 0 _ rfl).2 rfl h (by decide) (by decide) (by decide) rfl (Nat.le_of_ble_eq_true rfl) (Nat.le_of_ble_eq_true rfl) dX7_init_81 (fun H1 h => ?_)
  refine ke_put (X := 7) (index := 38) (i := 0) (k := 19) (fs := [(0, 0, 0), (1, (p + 1), 0), (1, (p + 2), 0), (1, (p + 3), 0), (1, (p + 4), 0), (0, 0, 0), (0, 0, 0), (0, 0, 0), (1, (p + 5), 0), (0, 0, 0), (0, 0, 0), (0, 0, 0), (0, 0, -1), (1, (p + 6), 0), (1, (p + 7), 0), (0, 0, 0), (1, (p + 8), 0), (0, 0, 0), (0, 0, 0), (2, 0, 0), (2, 0, 0), (0, 0, 0), (2, 0, 0), (2, 0, 0), (2, 0, 0), (2, 0, 0), (2, 0, 0), (0, 0, 0), (0, 0, 0), (0, 0, 0)]) (v := (1, (p + 9), 0)) (ty := tyX7 19) (cs' := [(1, 7, 0, [(0, 0, 0), (1, (p + 1), 0), (1, (p + 2), 0), (1, (p + 3), 0), (1, (p + 4), 0), (0, 0, 0), (0, 0, 0), (0, 0, 0), (1, (p + 5), 0), (0, 0, 0), (0, 0, 0), (0, 0, 0), (0, 0, -1), (1, (p + 6), 0), (1, (p + 7), 0), (0, 0, 0), (1, (p + 8), 0), (0, 0, 0), (0, 0, 0), (1, (p + 9), 0), (2, 0, 0), (0, 0, 0), (2, 0, 0), (2, 0, 0), (2, 0, 0), (2, 0, 0), (2, 0, 0), (0, 0, 0), (0, 0, 0), (0, 0, 0)]), (0, 0, 1130, []), (0, 0, 1130, []), (0, 0, 1130, []), (0, 0, 9040, []), (0, 0, 400, []), (0, 0, 94, []), (0, 0, 40, []), (0, 0, 40, []), (0, 0, 8, [])]) hx hb hts (by decide) hown (Or.inl hin) hK h rfl (by decide) (Nat.le_of_ble_eq_true rfl) (hts _ (kc_at 98 rfl)) (tyX7_ok 19 (by decide)) rfl rfl rfl dX7_init_83 (fun H1 locs1 h => ?_)
  refine lv_aload_n hx hb dX7_init_86 rfl (lv_at hl 0 rfl) ?_
  refine lv_bipush (v := 8) hx hb dX7_init_87 (by decide) ?_
  refine ke_newa (atype := .int) (t := 0) (N := 8) (n := 10) hx hb (hts _ (kc_at 4 rfl)) (hK.1.2 0 _ rfl).2 rfl h (by decide) (by decide) (by decide) rfl (Nat.le_of_ble_eq_true rfl) (Nat.le_of_ble_eq_true rfl) dX7_init_89 (fun H1 h => ?_)
  refine ke_put (X := 7) (index := 41) (i := 0) (k := 20) (fs := [(0, 0, 0), (1, (p + 1), 0), (1, (p + 2), 0), (1, (p + 3), 0), (1, (p + 4), 0), (0, 0, 0), (0, 0, 0), (0, 0, 0), (1, (p + 5), 0), (0, 0, 0), (0, 0, 0), (0, 0, 0), (0, 0, -1), (1, (p + 6), 0), (1, (p + 7), 0), (0, 0, 0), (1, (p + 8), 0), (0, 0, 0), (0, 0, 0), (1, (p + 9), 0), (2, 0, 0), (0, 0, 0), (2, 0, 0), (2, 0, 0), (2, 0, 0), (2, 0, 0), (2, 0, 0), (0, 0, 0), (0, 0, 0), (0, 0, 0)]) (v := (1, (p + 10), 0)) (ty := tyX7 20) (cs' := [(1, 7, 0, [(0, 0, 0), (1, (p + 1), 0), (1, (p + 2), 0), (1, (p + 3), 0), (1, (p + 4), 0), (0, 0, 0), (0, 0, 0), (0, 0, 0), (1, (p + 5), 0), (0, 0, 0), (0, 0, 0), (0, 0, 0), (0, 0, -1), (1, (p + 6), 0), (1, (p + 7), 0), (0, 0, 0), (1, (p + 8), 0), (0, 0, 0), (0, 0, 0), (1, (p + 9), 0), (1, (p + 10), 0), (0, 0, 0), (2, 0, 0), (2, 0, 0), (2, 0, 0), (2, 0, 0), (2, 0, 0), (0, 0, 0), (0, 0, 0), (0, 0, 0)]), (0, 0, 1130, []), (0, 0, 1130, []), (0, 0, 1130, []), (0, 0, 9040, []), (0, 0, 400, []), (0, 0, 94, []), (0, 0, 40, []), (0, 0, 40, []), (0, 0, 8, []), (0, 0, 8, [])]) hx hb hts (by decide) hown (Or.inl hin) hK h rfl (by decide) (Nat.le_of_ble_eq_true rfl) (hts _ (kc_at 99 rfl)) (tyX7_ok 20 (by decide)) rfl rfl rfl dX7_init_91 (fun H1 locs1 h => ?_)
  refine lv_aload_n hx hb dX7_init_94 rfl (lv_at hl 0 rfl) ?_
  refine lv_bipush (v := Int32.ofInt (60)) hx hb dX7_init_95 (by decide) ?_
  refine ke_put (X := 7) (index := 44) (i := 0) (k := 21) (fs := [(0, 0, 0), (1, (p + 1), 0), (1, (p + 2), 0), (1, (p + 3), 0), (1, (p + 4), 0), (0, 0, 0), (0, 0, 0), (0, 0, 0), (1, (p + 5), 0), (0, 0, 0), (0, 0, 0), (0, 0, 0), (0, 0, -1), (1, (p + 6), 0), (1, (p + 7), 0), (0, 0, 0), (1, (p + 8), 0), (0, 0, 0), (0, 0, 0), (1, (p + 9), 0), (1, (p + 10), 0), (0, 0, 0), (2, 0, 0), (2, 0, 0), (2, 0, 0), (2, 0, 0), (2, 0, 0), (0, 0, 0), (0, 0, 0), (0, 0, 0)]) (v := (0, 0, 60)) (ty := tyX7 21) (cs' := [(1, 7, 0, [(0, 0, 0), (1, (p + 1), 0), (1, (p + 2), 0), (1, (p + 3), 0), (1, (p + 4), 0), (0, 0, 0), (0, 0, 0), (0, 0, 0), (1, (p + 5), 0), (0, 0, 0), (0, 0, 0), (0, 0, 0), (0, 0, -1), (1, (p + 6), 0), (1, (p + 7), 0), (0, 0, 0), (1, (p + 8), 0), (0, 0, 0), (0, 0, 0), (1, (p + 9), 0), (1, (p + 10), 0), (0, 0, 60), (2, 0, 0), (2, 0, 0), (2, 0, 0), (2, 0, 0), (2, 0, 0), (0, 0, 0), (0, 0, 0), (0, 0, 0)]), (0, 0, 1130, []), (0, 0, 1130, []), (0, 0, 1130, []), (0, 0, 9040, []), (0, 0, 400, []), (0, 0, 94, []), (0, 0, 40, []), (0, 0, 40, []), (0, 0, 8, []), (0, 0, 8, [])]) hx hb hts (by decide) hown (Or.inl hin) hK h rfl (by decide) (Nat.le_of_ble_eq_true rfl) (hts _ (kc_at 100 rfl)) (tyX7_ok 21 (by decide)) rfl rfl rfl dX7_init_97 (fun H1 locs1 h => ?_)
  refine lv_aload_n hx hb dX7_init_100 rfl (lv_at hl 0 rfl) ?_
  refine lv_bipush (v := 23) hx hb dX7_init_101 (by decide) ?_
  refine ke_newa (atype := .int) (t := 0) (N := 23) (n := 11) hx hb (hts _ (kc_at 4 rfl)) (hK.1.2 0 _ rfl).2 rfl h (by decide) (by decide) (by decide) rfl (Nat.le_of_ble_eq_true rfl) (Nat.le_of_ble_eq_true rfl) dX7_init_103 (fun H1 h => ?_)
  refine ke_put (X := 7) (index := 47) (i := 0) (k := 22) (fs := [(0, 0, 0), (1, (p + 1), 0), (1, (p + 2), 0), (1, (p + 3), 0), (1, (p + 4), 0), (0, 0, 0), (0, 0, 0), (0, 0, 0), (1, (p + 5), 0), (0, 0, 0), (0, 0, 0), (0, 0, 0), (0, 0, -1), (1, (p + 6), 0), (1, (p + 7), 0), (0, 0, 0), (1, (p + 8), 0), (0, 0, 0), (0, 0, 0), (1, (p + 9), 0), (1, (p + 10), 0), (0, 0, 60), (2, 0, 0), (2, 0, 0), (2, 0, 0), (2, 0, 0), (2, 0, 0), (0, 0, 0), (0, 0, 0), (0, 0, 0)]) (v := (1, (p + 11), 0)) (ty := tyX7 22) (cs' := [(1, 7, 0, [(0, 0, 0), (1, (p + 1), 0), (1, (p + 2), 0), (1, (p + 3), 0), (1, (p + 4), 0), (0, 0, 0), (0, 0, 0), (0, 0, 0), (1, (p + 5), 0), (0, 0, 0), (0, 0, 0), (0, 0, 0), (0, 0, -1), (1, (p + 6), 0), (1, (p + 7), 0), (0, 0, 0), (1, (p + 8), 0), (0, 0, 0), (0, 0, 0), (1, (p + 9), 0), (1, (p + 10), 0), (0, 0, 60), (1, (p + 11), 0), (2, 0, 0), (2, 0, 0), (2, 0, 0), (2, 0, 0), (0, 0, 0), (0, 0, 0), (0, 0, 0)]), (0, 0, 1130, []), (0, 0, 1130, []), (0, 0, 1130, []), (0, 0, 9040, []), (0, 0, 400, []), (0, 0, 94, []), (0, 0, 40, []), (0, 0, 40, []), (0, 0, 8, []), (0, 0, 8, []), (0, 0, 23, [])]) hx hb hts (by decide) hown (Or.inl hin) hK h rfl (by decide) (Nat.le_of_ble_eq_true rfl) (hts _ (kc_at 101 rfl)) (tyX7_ok 22 (by decide)) rfl rfl rfl dX7_init_105 (fun H1 locs1 h => ?_)
  refine lv_aload_n hx hb dX7_init_108 rfl (lv_at hl 0 rfl) ?_
  refine lv_bipush (v := 60) hx hb dX7_init_109 (by decide) ?_
  refine ke_newa (atype := .int) (t := 0) (N := 60) (n := 12) hx hb (hts _ (kc_at 4 rfl)) (hK.1.2 0 _ rfl).2 rfl h (by decide) (by decide) (by decide) rfl (Nat.le_of_ble_eq_true rfl) (Nat.le_of_ble_eq_true rfl) dX7_init_111 (fun H1 h => ?_)
  refine ke_put (X := 7) (index := 50) (i := 0) (k := 23) (fs := [(0, 0, 0), (1, (p + 1), 0), (1, (p + 2), 0), (1, (p + 3), 0), (1, (p + 4), 0), (0, 0, 0), (0, 0, 0), (0, 0, 0), (1, (p + 5), 0), (0, 0, 0), (0, 0, 0), (0, 0, 0), (0, 0, -1), (1, (p + 6), 0), (1, (p + 7), 0), (0, 0, 0), (1, (p + 8), 0), (0, 0, 0), (0, 0, 0), (1, (p + 9), 0), (1, (p + 10), 0), (0, 0, 60), (1, (p + 11), 0), (2, 0, 0), (2, 0, 0), (2, 0, 0), (2, 0, 0), (0, 0, 0), (0, 0, 0), (0, 0, 0)]) (v := (1, (p + 12), 0)) (ty := tyX7 23) (cs' := [(1, 7, 0, [(0, 0, 0), (1, (p + 1), 0), (1, (p + 2), 0), (1, (p + 3), 0), (1, (p + 4), 0), (0, 0, 0), (0, 0, 0), (0, 0, 0), (1, (p + 5), 0), (0, 0, 0), (0, 0, 0), (0, 0, 0), (0, 0, -1), (1, (p + 6), 0), (1, (p + 7), 0), (0, 0, 0), (1, (p + 8), 0), (0, 0, 0), (0, 0, 0), (1, (p + 9), 0), (1, (p + 10), 0), (0, 0, 60), (1, (p + 11), 0), (1, (p + 12), 0), (2, 0, 0), (2, 0, 0), (2, 0, 0), (0, 0, 0), (0, 0, 0), (0, 0, 0)]), (0, 0, 1130, []), (0, 0, 1130, []), (0, 0, 1130, []), (0, 0, 9040, []), (0, 0, 400, []), (0, 0, 94, []), (0, 0, 40, []), (0, 0, 40, []), (0, 0, 8, []), (0, 0, 8, []), (0, 0, 23, []), (0, 0, 60, [])]) hx hb hts (by decide) hown (Or.inl hin) hK h rfl (by decide) (Nat.le_of_ble_eq_true rfl) (hts _ (kc_at 102 rfl)) (tyX7_ok 23 (by decide)) rfl rfl rfl dX7_init_113 (fun H1 locs1 h => ?_)
  refine lv_aload_n hx hb dX7_init_116 rfl (lv_at hl 0 rfl) ?_
  refine lv_sipush (v := 1000) hx hb dX7_init_117 (by decide) ?_
  refine ke_newa (atype := .int) (t := 0) (N := 1000) (n := 13) hx hb (hts _ (kc_at 4 rfl)) (hK.1.2 0 _ rfl).2 rfl h (by decide) (by decide) (by decide) rfl (Nat.le_of_ble_eq_true rfl) (Nat.le_of_ble_eq_true rfl) dX7_init_120 (fun H1 h => ?_)
  refine ke_put (X := 7) (index := 53) (i := 0) (k := 24) (fs := [(0, 0, 0), (1, (p + 1), 0), (1, (p + 2), 0), (1, (p + 3), 0), (1, (p + 4), 0), (0, 0, 0), (0, 0, 0), (0, 0, 0), (1, (p + 5), 0), (0, 0, 0), (0, 0, 0), (0, 0, 0), (0, 0, -1), (1, (p + 6), 0), (1, (p + 7), 0), (0, 0, 0), (1, (p + 8), 0), (0, 0, 0), (0, 0, 0), (1, (p + 9), 0), (1, (p + 10), 0), (0, 0, 60), (1, (p + 11), 0), (1, (p + 12), 0), (2, 0, 0), (2, 0, 0), (2, 0, 0), (0, 0, 0), (0, 0, 0), (0, 0, 0)]) (v := (1, (p + 13), 0)) (ty := tyX7 24) (cs' := [(1, 7, 0, [(0, 0, 0), (1, (p + 1), 0), (1, (p + 2), 0), (1, (p + 3), 0), (1, (p + 4), 0), (0, 0, 0), (0, 0, 0), (0, 0, 0), (1, (p + 5), 0), (0, 0, 0), (0, 0, 0), (0, 0, 0), (0, 0, -1), (1, (p + 6), 0), (1, (p + 7), 0), (0, 0, 0), (1, (p + 8), 0), (0, 0, 0), (0, 0, 0), (1, (p + 9), 0), (1, (p + 10), 0), (0, 0, 60), (1, (p + 11), 0), (1, (p + 12), 0), (1, (p + 13), 0), (2, 0, 0), (2, 0, 0), (0, 0, 0), (0, 0, 0), (0, 0, 0)]), (0, 0, 1130, []), (0, 0, 1130, []), (0, 0, 1130, []), (0, 0, 9040, []), (0, 0, 400, []), (0, 0, 94, []), (0, 0, 40, []), (0, 0, 40, []), (0, 0, 8, []), (0, 0, 8, []), (0, 0, 23, []), (0, 0, 60, []), (0, 0, 1000, [])]) hx hb hts (by decide) hown (Or.inl hin) hK h rfl (by decide) (Nat.le_of_ble_eq_true rfl) (hts _ (kc_at 103 rfl)) (tyX7_ok 24 (by decide)) rfl rfl rfl dX7_init_122 (fun H1 locs1 h => ?_)
  refine lv_aload_n hx hb dX7_init_125 rfl (lv_at hl 0 rfl) ?_
  refine lv_sipush (v := 1000) hx hb dX7_init_126 (by decide) ?_
  refine ke_newa (atype := .int) (t := 0) (N := 1000) (n := 14) hx hb (hts _ (kc_at 4 rfl)) (hK.1.2 0 _ rfl).2 rfl h (by decide) (by decide) (by decide) rfl (Nat.le_of_ble_eq_true rfl) (Nat.le_of_ble_eq_true rfl) dX7_init_129 (fun H1 h => ?_)
  refine ke_put (X := 7) (index := 56) (i := 0) (k := 25) (fs := [(0, 0, 0), (1, (p + 1), 0), (1, (p + 2), 0), (1, (p + 3), 0), (1, (p + 4), 0), (0, 0, 0), (0, 0, 0), (0, 0, 0), (1, (p + 5), 0), (0, 0, 0), (0, 0, 0), (0, 0, 0), (0, 0, -1), (1, (p + 6), 0), (1, (p + 7), 0), (0, 0, 0), (1, (p + 8), 0), (0, 0, 0), (0, 0, 0), (1, (p + 9), 0), (1, (p + 10), 0), (0, 0, 60), (1, (p + 11), 0), (1, (p + 12), 0), (1, (p + 13), 0), (2, 0, 0), (2, 0, 0), (0, 0, 0), (0, 0, 0), (0, 0, 0)]) (v := (1, (p + 14), 0)) (ty := tyX7 25) (cs' := [(1, 7, 0, [(0, 0, 0), (1, (p + 1), 0), (1, (p + 2), 0), (1, (p + 3), 0), (1, (p + 4), 0), (0, 0, 0), (0, 0, 0), (0, 0, 0), (1, (p + 5), 0), (0, 0, 0), (0, 0, 0), (0, 0, 0), (0, 0, -1), (1, (p + 6), 0), (1, (p + 7), 0), (0, 0, 0), (1, (p + 8), 0), (0, 0, 0), (0, 0, 0), (1, (p + 9), 0), (1, (p + 10), 0), (0, 0, 60), (1, (p + 11), 0), (1, (p + 12), 0), (1, (p + 13), 0), (1, (p + 14), 0), (2, 0, 0), (0, 0, 0), (0, 0, 0), (0, 0, 0)]), (0, 0, 1130, []), (0, 0, 1130, []), (0, 0, 1130, []), (0, 0, 9040, []), (0, 0, 400, []), (0, 0, 94, []), (0, 0, 40, []), (0, 0, 40, []), (0, 0, 8, []), (0, 0, 8, []), (0, 0, 23, []), (0, 0, 60, []), (0, 0, 1000, []), (0, 0, 1000, [])]) hx hb hts (by decide) hown (Or.inl hin) hK h rfl (by decide) (Nat.le_of_ble_eq_true rfl) (hts _ (kc_at 104 rfl)) (tyX7_ok 25 (by decide)) rfl rfl rfl dX7_init_131 (fun H1 locs1 h => ?_)
  refine lv_aload_n hx hb dX7_init_134 rfl (lv_at hl 0 rfl) ?_
  refine lv_bipush (v := 8) hx hb dX7_init_135 (by decide) ?_
  refine ke_newa (atype := .int) (t := 0) (N := 8) (n := 15) hx hb (hts _ (kc_at 4 rfl)) (hK.1.2 0 _ rfl).2 rfl h (by decide) (by decide) (by decide) rfl (Nat.le_of_ble_eq_true rfl) (Nat.le_of_ble_eq_true rfl) dX7_init_137 (fun H1 h => ?_)
  refine ke_put (X := 7) (index := 59) (i := 0) (k := 26) (fs := [(0, 0, 0), (1, (p + 1), 0), (1, (p + 2), 0), (1, (p + 3), 0), (1, (p + 4), 0), (0, 0, 0), (0, 0, 0), (0, 0, 0), (1, (p + 5), 0), (0, 0, 0), (0, 0, 0), (0, 0, 0), (0, 0, -1), (1, (p + 6), 0), (1, (p + 7), 0), (0, 0, 0), (1, (p + 8), 0), (0, 0, 0), (0, 0, 0), (1, (p + 9), 0), (1, (p + 10), 0), (0, 0, 60), (1, (p + 11), 0), (1, (p + 12), 0), (1, (p + 13), 0), (1, (p + 14), 0), (2, 0, 0), (0, 0, 0), (0, 0, 0), (0, 0, 0)]) (v := (1, (p + 15), 0)) (ty := tyX7 26) (cs' := [(1, 7, 0, [(0, 0, 0), (1, (p + 1), 0), (1, (p + 2), 0), (1, (p + 3), 0), (1, (p + 4), 0), (0, 0, 0), (0, 0, 0), (0, 0, 0), (1, (p + 5), 0), (0, 0, 0), (0, 0, 0), (0, 0, 0), (0, 0, -1), (1, (p + 6), 0), (1, (p + 7), 0), (0, 0, 0), (1, (p + 8), 0), (0, 0, 0), (0, 0, 0), (1, (p + 9), 0), (1, (p + 10), 0), (0, 0, 60), (1, (p + 11), 0), (1, (p + 12), 0), (1, (p + 13), 0), (1, (p + 14), 0), (1, (p + 15), 0), (0, 0, 0), (0, 0, 0), (0, 0, 0)]), (0, 0, 1130, []), (0, 0, 1130, []), (0, 0, 1130, []), (0, 0, 9040, []), (0, 0, 400, []), (0, 0, 94, []), (0, 0, 40, []), (0, 0, 40, []), (0, 0, 8, []), (0, 0, 8, []), (0, 0, 23, []), (0, 0, 60, []), (0, 0, 1000, []), (0, 0, 1000, []), (0, 0, 8, [])]) hx hb hts (by decide) hown (Or.inl hin) hK h rfl (by decide) (Nat.le_of_ble_eq_true rfl) (hts _ (kc_at 105 rfl)) (tyX7_ok 26 (by decide)) rfl rfl rfl dX7_init_139 (fun H1 locs1 h => ?_)
  refine lv_aload_n hx hb dX7_init_142 rfl (lv_at hl 0 rfl) ?_
  refine ke_callW (cs' := [(1, 7, 0, [(0, 0, 0), (1, (p + 1), 0), (1, (p + 2), 0), (1, (p + 3), 0), (1, (p + 4), 0), (0, 0, 0), (0, 0, 0), (0, 0, 0), (1, (p + 5), 0), (0, 0, 0), (0, 0, 0), (0, 0, 0), (0, 0, -1), (1, (p + 6), 0), (1, (p + 7), 0), (0, 0, 0), (1, (p + 8), 0), (0, 0, 0), (0, 0, 0), (1, (p + 9), 0), (1, (p + 10), 0), (0, 0, 60), (1, (p + 11), 0), (1, (p + 12), 0), (1, (p + 13), 0), (1, (p + 14), 0), (1, (p + 15), 0), (0, 0, 0), (0, 0, 0), (0, 0, 0)]), (0, 0, 1130, []), (0, 0, 1130, []), (0, 0, 1130, []), (0, 0, 9040, []), (0, 0, 400, []), (0, 0, 94, []), (0, 0, 40, []), (0, 0, 40, []), (0, 0, 8, []), (0, 0, 8, []), (0, 0, 23, []), (0, 0, 60, []), (0, 0, 1000, []), (0, 0, 1000, []), (0, 0, 8, [])]) h (va_runV (As := []) (rest := []) ⟨hx, hb, hml, hown, hts⟩ (kc_b7 l D cy B p) (cwV 0 hts (jc_gV (kc_at 107 rfl) (kc_at 108 rfl) (kc_at 109 rfl) (kc_at 110 rfl) (kc_at 106 rfl)) rfl rfl rfl (by decide +kernel) ⟨(Nat.le_of_ble_eq_true rfl), (Nat.le_of_ble_eq_true rfl)⟩) (ke_preV (X := 7) (fs := [(0, 0, 0), (1, (p + 1), 0), (1, (p + 2), 0), (1, (p + 3), 0), (1, (p + 4), 0), (0, 0, 0), (0, 0, 0), (0, 0, 0), (1, (p + 5), 0), (0, 0, 0), (0, 0, 0), (0, 0, 0), (0, 0, -1), (1, (p + 6), 0), (1, (p + 7), 0), (0, 0, 0), (1, (p + 8), 0), (0, 0, 0), (0, 0, 0), (1, (p + 9), 0), (1, (p + 10), 0), (0, 0, 60), (1, (p + 11), 0), (1, (p + 12), 0), (1, (p + 13), 0), (1, (p + 14), 0), (1, (p + 15), 0), (0, 0, 0), (0, 0, 0), (0, 0, 0)]) hK h (by decide) rfl) rfl rfl hl.1 rfl (lv_room (Nat.le_of_ble_eq_true rfl)) dX7_init_143 ⟨(Nat.le_of_ble_eq_true rfl), (Nat.le_of_ble_eq_true rfl)⟩) (fun H1 locs1 h => ?_)
  exact W.vret hx hb hr (fun t ht hW => ke_end h ht) h.1.2.2 dX7_init_146
end KC
