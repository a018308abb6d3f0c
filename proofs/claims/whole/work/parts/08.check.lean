def fx_cn : List Nat := [8, 8, 9, 3, 3, 3, 3, 3, 3, 5, 5, 5, 5, 5, 5, 5, 5, 5, 5, 5, 0, 0, 0, 4, 4, 4, 4, 4, 4, 4, 4, 4, 4, 4, 4, 4, 4, 4, 4, 4, 4, 4, 4, 4, 4, 4, 4, 4, 4, 2, 2, 2, 2, 2, 2, 2, 2, 2, 2, 2, 2, 2, 1, 1, 1, 1, 1, 1, 1, 1, 1, 1, 1, 1, 1, 1, 1, 1, 1, 1, 1, 1, 1, 1, 1, 1, 1, 1, 1, 1, 1, 1, 1, 1, 1, 1, 6, 6, 6, 6, 6, 6, 6, 6, 6, 6, 6, 6, 6, 6, 6, 6, 6, 6, 6, 6, 6, 6, 6, 6, 6, 6, 6, 6, 6, 6, 6, 6, 6, 6, 6, 6, 6, 6, 6, 6, 6, 6, 6, 6, 6, 6, 6, 6, 6, 6, 6, 6, 7, 7, 7, 7, 7, 7, 7, 7, 7, 7, 7, 7, 7, 7, 7, 7, 7, 7, 7, 7, 7, 7, 7, 7, 7, 7, 7, 7, 7, 7, 7, 7, 7, 7, 7, 7, 7, 7, 7, 7, 7, 7, 7, 7, 7, 7, 7, 7, 7, 7, 7, 7, 7, 7, 7, 7, 7, 7, 7, 7, 7, 7, 7, 7, 7, 7, 7, 7, 7, 7, 7, 7, 7, 7, 7, 7, 7, 7, 7, 7, 7, 7, 7, 7, 7, 7, 7, 7, 7, 7, 7, 7, 7, 7, 7, 7, 7, 7, 7, 7, 7, 7, 7, 7, 7, 7, 7, 7, 7, 7, 7, 7, 7, 10, 10, 10, 10, 10, 10, 10, 10, 10, 10, 10, 10, 10, 10, 10, 10, 10, 10, 10, 10, 10, 10, 10, 10, 10, 10, 10, 10, 10, 10, 10, 10, 10]
def fx_own (mi : Nat) : Nat := fx_nth fx_cn mi 0
def fx_pwl : List (Nat × Nat × Nat) := [(3, 3, 0), (3, 4, 0), (3, 5, 0), (5, 4, 0), (5, 5, 0), (0, 2, 0), (0, 3, 0), (4, 9, 0), (4, 10, 0), (2, 6, 0), (2, 7, 0), (2, 9, 0), (2, 8, 0), (2, 4, 0), (2, 5, 0), (1, 8, 0), (1, 9, 0), (1, 10, 0), (6, 14, 0), (6, 10, 1), (6, 13, 0), (6, 11, 0), (6, 12, 0), (6, 9, 1), (7, 5, 0), (7, 29, 0), (7, 7, 0), (7, 0, 0), (7, 9, 0), (7, 11, 0), (7, 12, 0), (7, 17, 0), (7, 15, 0), (7, 18, 0), (7, 10, 0), (7, 28, 0), (7, 27, 0), (7, 21, 0), (7, 6, 1)]
def fx_lvl : List Nat := [0, 0, 0, 0, 0, 0, 1, 0, 1, 0, 7, 0, 0, 0, 0, 0, 6, 5, 5, 4, 0, 0, 0, 1, 0, 0, 2, 1, 1, 1, 0, 2, 0, 0, 1, 0, 1, 0, 2, 3, 2, 2, 2, 0, 0, 0, 0, 0, 1, 8, 0, 0, 4, 1, 1, 2, 3, 0, 0, 0, 1, 2, 3, 0, 1, 2, 4, 3, 0, 0, 0, 0, 0, 1, 0, 1, 2, 1, 1, 0, 2, 1, 3, 2, 1, 1, 2, 1, 3, 1, 2, 3, 3, 1, 3, 1, 1, 0, 9, 0, 0, 7, 7, 7, 7, 7, 7, 7, 6, 8, 8, 8, 8, 8, 7, 7, 7, 8, 8, 8, 8, 8, 7, 7, 7, 7, 7, 7, 7, 7, 5, 7, 7, 1, 2, 2, 5, 6, 7, 6, 6, 6, 6, 6, 4, 5, 5, 1, 0, 0, 0, 0, 1, 1, 1, 1, 1, 1, 2, 3, 0, 0, 1, 1, 2, 4, 5, 4, 0, 2, 2, 2, 2, 1, 3, 2, 0, 0, 1, 0, 1, 0, 0, 4, 5, 1, 1, 1, 0, 1, 0, 2, 1, 5, 5, 2, 6, 7, 3, 6, 3, 3, 8, 9, 0, 0, 2, 3, 5, 1, 3, 3, 4, 3, 0, 5, 5, 3, 0, 1, 6, 6, 3, 4, 5, 0, 6, 6, 6, 5, 6, 0, 2, 5, 6, 4, 5, 2, 3, 6, 6, 1, 7, 6, 6, 2, 6, 3, 6, 6, 5, 0, 5, 6, 0, 0, 1, 0, 2, 6, 7, 10, 10, 10, 10, 10, 10, 10, 10, 10, 10, 10, 10, 10, 10, 10, 10, 10, 10, 10, 10, 10, 10, 10, 10, 10, 10, 10, 10, 10, 10, 10, 10, 11]
def fx_lev (mj : Nat) : Nat := cond (Nat.beq mj 500) 1 (cond (Nat.beq mj 501) 3 (fx_nth fx_lvl mj 0))

def fx_ck0 : Instr → Bool
  | .iload_n _ => true
  | .iload _ => true
  | .aload_n _ => true
  | .aload _ => true
  | .i2l => true
  | .lcmp => true
  | .laload => true
  | .lastore => true
  | .iadd => true
  | .isub => true
  | .imul => true
  | .idiv => true
  | .irem => true
  | .iand => true
  | .ior => true
  | .ishl => true
  | .iushr => true
  | .dup => true
  | .dup2 => true
  | .pop => true
  | .iaload => true
  | .baload => true
  | .aaload => true
  | .iastore => true
  | .bastore => true
  | .arraylength => true
  | _ => false
def fx_il : Instr → Nat
  | .bipush _ => 2
  | .sipush _ => 3
  | .ldc _ => 2
  | .ldc_w _ => 3
  | .iload _ => 2
  | .aload _ => 2
  | .istore _ => 2
  | .astore _ => 2
  | .iinc .. => 3
  | .getfield _ => 3
  | .putfield _ => 3
  | .ifCond .. => 3
  | .if_icmp .. => 3
  | .goto _ => 3
  | .new _ => 3
  | .invokevirtual _ => 3
  | .invokestatic _ => 3
  | _ => 1
def fx_isw : Instr → Bool
  | .tableswitch .. => true
  | .lookupswitch .. => true
  | _ => false
def fx_rgb (x : Int) : Bool := decide (-2147483648 ≤ x) && decide (x < 2147483648)
def fx_swt (pc : Nat) : List (Int × Nat) → Int → List Int → Bool
  | [], _, [] => true
  | q :: l, lo, o :: r => decide (q.1 = lo) && decide ((pc : Int) + o = (q.2 : Int)) && fx_swt pc l (lo + 1) r
  | _, _, _ => false
def fx_swl2 (pc : Nat) : List (Int × Nat) → List (Int × Int) → Bool
  | [], [] => true
  | q :: l, o :: r => decide (q.1 = o.1) && decide ((pc : Int) + o.2 = (q.2 : Int)) && fx_swl2 pc l r
  | _, _ => false
noncomputable def fx_ckR (M : fx_M) (t : Nat) : Bool := match M.2.2.2.1 with
  | some .int => Nat.beq t 0
  | some .boolean => Nat.beq t 1
  | _ => false
noncomputable def fx_ckA (M : fx_M) : Bool := match M.2.2.2.1 with
  | some (.object _) => true
  | some (.array _) => true
  | _ => false
noncomputable def fx_ckV (M : fx_M) : Bool := match M.2.2.2.1 with
  | none => true
  | _ => false
noncomputable def fx_ckI (mi pc : Nat) (q : fx_Q) (sw : List (Int × Nat)) : Instr → Bool
  | .iconst n => decide (n = q.2.2.2.1) && fx_rgb q.2.2.2.1
  | .bipush n => decide ((Int8.ofInt n).toInt32 = Int32.ofInt q.2.2.2.1) && fx_rgb q.2.2.2.1
  | .sipush n => decide ((Int16.ofInt n).toInt32 = Int32.ofInt q.2.2.2.1) && fx_rgb q.2.2.2.1
  | .ldc k => Nat.beq q.1 62 && decide (0 ≤ q.2.2.2.1) && decide (q.2.2.2.1 < 17) && decide ((fx_own mi, k, q.2.2.2.1.toNat) ∈ fx_swl)
  | .ldc_w k => Nat.beq q.1 62 && decide (0 ≤ q.2.2.2.1) && decide (q.2.2.2.1 < 17) && decide ((fx_own mi, k, q.2.2.2.1.toNat) ∈ fx_swl)
  | .lconst n => decide ((n.val : Int) = q.2.2.2.1)
  | .istore_n k => Nat.blt k.val (fx_m mi).2.2.1
  | .istore i => Nat.blt i (fx_m mi).2.2.1
  | .astore_n k => Nat.blt k.val (fx_m mi).2.2.1
  | .astore i => Nat.blt i (fx_m mi).2.2.1
  | .iinc i _ => Nat.blt i (fx_m mi).2.2.1
  | .getfield k => Nat.beq (fx_form q.2.1) 5 && decide ((fx_own mi, k, (fx_kt q.2.1).2.1, q.2.2.1) ∈ fx_fwl) && Nat.blt q.2.2.1 (fx_fl q.2.1).length && decide (fx_nth (fx_fl q.2.1) q.2.2.1 (0, 0, 0) = (q.1, cond (Nat.beq q.1 0) 0 q.2.2.2.1, cond (Nat.beq q.1 0) 0 q.2.2.2.2))
  | .putfield k => Nat.beq (fx_form q.2.1) 5 && decide ((fx_own mi, k, (fx_kt q.2.1).2.1, q.2.2.1) ∈ fx_fwl) && Nat.blt q.2.2.1 (fx_fl q.2.1).length && Nat.beq (fx_nth (fx_fl q.2.1) q.2.2.1 (1, 0, 0)).1 0 && decide (((fx_kt q.2.1).2.1, q.2.2.1, q.1) ∈ fx_pwl)
  | .ifCond _ off => decide ((pc : Int) + off = (q.1 : Int))
  | .if_icmp _ off => decide ((pc : Int) + off = (q.1 : Int))
  | .goto off => decide ((pc : Int) + off = (q.1 : Int))
  | .tableswitch d lo hi offs => decide ((pc : Int) + d = (q.1 : Int)) && fx_swt pc sw lo offs.toList && decide (hi + 1 = lo + (offs.toList.length : Int))
  | .lookupswitch d ps => decide ((pc : Int) + d = (q.1 : Int)) && fx_swl2 pc sw ps.toList && (ps.toList.zip (ps.toList.drop 1)).all (fun (a, next) => a.1 < next.1)
  | .ireturn => fx_ckR (fx_m mi) q.1
  | .areturn => fx_ckA (fx_m mi)
  | .return_ => fx_ckV (fx_m mi)
  | .invokevirtual k => Nat.blt (fx_lev q.1) (fx_lev mi) && decide ((fx_own mi, k, q.1) ∈ fx_mwl) && (Nat.blt q.1 261 || Nat.beq q.1 500 || Nat.beq q.1 501)
  | .invokestatic k => Nat.blt (fx_lev q.1) (fx_lev mi) && (decide ((fx_own mi, k, q.1) ∈ fx_mwl) || decide ((fx_own mi, k, q.1) ∈ fx_nwl)) && Nat.blt q.1 293
  | .new k => Nat.ble 6 (fx_lev mi) && Nat.beq (fx_own mi) 6 && Nat.blt q.2.2.1 fx_ths.length && decide ((fx_nth fx_ths q.2.2.1 ("", 0, 0, 0, 0, "")).2.1 = k) && decide (((fx_nth fx_ths q.2.2.1 ("", 0, 0, 0, 0, "")).2.2.2.2.1 : Int) = q.2.2.2.1)
  | i => fx_ck0 i
noncomputable def fx_dcN (cc : ByteArray) (pc : Nat) (q : fx_Q) : Instr → Bool
  | .new _ => decide (decode cc (pc + 3) = .ok (.dup, 1)) && cond (Nat.beq q.2.1 2) (decide (decode cc (pc + 4) = .ok (.ldc (fx_nth fx_ths q.2.2.1 ("", 0, 0, 0, 0, "")).2.2.1, 2)) && decide (decode cc (pc + 6) = .ok (.invokespecial (fx_nth fx_ths q.2.2.1 ("", 0, 0, 0, 0, "")).2.2.2.1, 3)) && decide (decode cc (pc + 9) = .ok (.athrow, 1)))
      (decide (decode cc (pc + 4) = .ok (.ldc_w (fx_nth fx_ths q.2.2.1 ("", 0, 0, 0, 0, "")).2.2.1, 3)) && decide (decode cc (pc + 7) = .ok (.invokespecial (fx_nth fx_ths q.2.2.1 ("", 0, 0, 0, 0, "")).2.2.2.1, 3)) && decide (decode cc (pc + 10) = .ok (.athrow, 1)))
  | _ => true
noncomputable def fx_dcE (cc : ByteArray) : fx_I → Bool
  | (pc, len, ins, q, _) => decide (decode cc pc = .ok (ins, len)) && fx_dcN cc pc q ins
noncomputable def fx_ckE (mi : Nat) : fx_I → Bool
  | (pc, len, ins, q, sw) => fx_ckI mi pc q sw ins && (fx_isw ins || Nat.beq len (fx_il ins))
noncomputable def fx_ckC (mi : Nat) : Bool := (fx_code mi).all (fx_ckE mi)
noncomputable def fx_dcC (mi : Nat) : Bool := (fx_code mi).all (fx_dcE (fx_m mi).2.1)

set_option maxRecDepth 100000 in
theorem fx_ck_0 : ([0, 1, 2, 3, 4, 5, 6, 7, 8, 9, 10, 11, 12, 13, 14, 15, 16] : List Nat).all fx_ckC = true := by decide +kernel
set_option maxRecDepth 100000 in
theorem fx_ck_1 : ([17, 18, 19, 20, 21, 22, 23, 24, 25, 26] : List Nat).all fx_ckC = true := by decide +kernel
set_option maxRecDepth 100000 in
theorem fx_ck_2 : ([27, 28, 29, 30, 31, 32, 33, 34, 35, 36, 37] : List Nat).all fx_ckC = true := by decide +kernel
set_option maxRecDepth 100000 in
theorem fx_ck_3 : ([38, 39, 40, 41, 42, 43, 44, 45, 46, 47, 48, 49, 50, 51] : List Nat).all fx_ckC = true := by decide +kernel
set_option maxRecDepth 100000 in
theorem fx_ck_4 : ([52, 53, 54, 55, 56, 57, 58, 59, 60] : List Nat).all fx_ckC = true := by decide +kernel
set_option maxRecDepth 100000 in
theorem fx_ck_5 : ([61, 62, 63, 64, 65, 66] : List Nat).all fx_ckC = true := by decide +kernel
set_option maxRecDepth 100000 in
theorem fx_ck_6 : ([67, 68, 69, 70, 71, 72, 73, 74, 75, 76, 77, 78, 79, 80, 81] : List Nat).all fx_ckC = true := by decide +kernel
set_option maxRecDepth 100000 in
theorem fx_ck_7 : ([82, 83, 84, 85, 86, 87, 88, 89, 90, 91, 92, 93, 94] : List Nat).all fx_ckC = true := by decide +kernel
set_option maxRecDepth 100000 in
theorem fx_ck_8 : ([95, 96, 97, 98, 99, 100, 101, 102, 103, 104, 105, 106, 107, 108, 109, 110, 111, 112] : List Nat).all fx_ckC = true := by decide +kernel
set_option maxRecDepth 100000 in
theorem fx_ck_9 : ([113, 114, 115, 116, 117, 118, 119, 120, 121, 122, 123, 124, 125, 126, 127, 128, 129, 130, 131, 132] : List Nat).all fx_ckC = true := by decide +kernel
set_option maxRecDepth 100000 in
theorem fx_ck_10 : ([133, 134, 135, 136, 137, 138, 139, 140, 141, 142, 143, 144, 145, 146, 147, 148, 149, 150, 151, 152, 153, 154, 155, 156, 157] : List Nat).all fx_ckC = true := by decide +kernel
set_option maxRecDepth 100000 in
theorem fx_ck_11 : ([158, 159, 160, 161, 162, 163, 164, 165, 166, 167] : List Nat).all fx_ckC = true := by decide +kernel
set_option maxRecDepth 100000 in
theorem fx_ck_12 : ([168, 169, 170, 171, 172, 173, 174, 175, 176, 177, 178] : List Nat).all fx_ckC = true := by decide +kernel
set_option maxRecDepth 100000 in
theorem fx_ck_13 : ([179, 180, 181, 182, 183, 184, 185, 186, 187, 188, 189, 190, 191] : List Nat).all fx_ckC = true := by decide +kernel
set_option maxRecDepth 100000 in
theorem fx_ck_14 : ([192, 193, 194, 195, 196, 197, 198, 199, 200, 201] : List Nat).all fx_ckC = true := by decide +kernel
set_option maxRecDepth 100000 in
theorem fx_ck_15 : ([202, 203, 204, 205, 206, 207, 208, 209, 210] : List Nat).all fx_ckC = true := by decide +kernel
set_option maxRecDepth 100000 in
theorem fx_ck_16 : ([211, 212, 213, 214, 215, 216, 217, 218, 219, 220] : List Nat).all fx_ckC = true := by decide +kernel
set_option maxRecDepth 100000 in
theorem fx_ck_17 : ([221, 222, 223, 224, 225, 226, 227, 228, 229] : List Nat).all fx_ckC = true := by decide +kernel
set_option maxRecDepth 100000 in
theorem fx_ck_18 : ([230, 231, 232, 233, 234, 235, 236, 237, 238] : List Nat).all fx_ckC = true := by decide +kernel
set_option maxRecDepth 100000 in
theorem fx_ck_19 : ([239, 240, 241, 242, 243, 244, 245, 246, 247] : List Nat).all fx_ckC = true := by decide +kernel
set_option maxRecDepth 100000 in
theorem fx_ck_20 : ([248, 249, 250, 251, 252, 253, 254, 255, 256, 257, 258] : List Nat).all fx_ckC = true := by decide +kernel
set_option maxRecDepth 100000 in
theorem fx_ck_21 : ([259, 260, 261, 262, 263, 264, 265, 266, 267, 268, 269, 270, 271, 272, 273, 274, 275, 276, 277, 278, 279, 280, 281, 282, 283, 284] : List Nat).all fx_ckC = true := by decide +kernel
set_option maxRecDepth 100000 in
theorem fx_ck_22 : ([285, 286, 287, 288, 289, 290, 291, 292] : List Nat).all fx_ckC = true := by decide +kernel
set_option maxRecDepth 100000 in
theorem fx_ck_23 : ([293] : List Nat).all fx_ckC = true := by decide +kernel
