/-! ===== the interpreter of int code over a pool of objects that is fixed: kinds of objects, each with a number of them; what they hold as whole numbers ===== -/
/-- a value: kind 0 a whole number, 1 a long one, 3 nothing yet, 4 no answer, 5 thrown; from 10 on an object of that kind, by its number -/
abbrev fx_V : Type := Nat × Int
/-- what all objects hold: by kind, number, place -/
abbrev fx_S : Type := Nat → Int → Int → Int
/-- what an instruction means beyond its own text: target or kind, kind of the object, place, factor, summand -/
abbrev fx_Q : Type := Nat × Nat × Nat × Int × Int
abbrev fx_I : Type := Nat × Nat × Instr × fx_Q × List (Int × Nat)
abbrev fx_C : Type := List fx_I
abbrev fx_T : Type := Nat × List fx_V × List fx_V × fx_S
def fx_up (σ : fx_S) (K : Nat) (i j v : Int) : fx_S := fun K' i' j' => if K' = K ∧ i' = i ∧ j' = j then v else σ K' i' j'
def fx_nth {α : Type} : List α → Nat → α → α
  | [], _, d => d
  | a :: _, 0, _ => a
  | _ :: l, n + 1, d => fx_nth l n d
def fx_at : fx_C → Nat → fx_I
  | [], _ => (0, 0, .nop, (0, 0, 0, 0, 0), [])
  | e :: c, pc => cond (Nat.beq e.1 pc) e (fx_at c pc)
def fx_add (x y : Int) : Int := (Int32.ofInt x + Int32.ofInt y).toInt
def fx_sub (x y : Int) : Int := (Int32.ofInt x - Int32.ofInt y).toInt
def fx_mul (x y : Int) : Int := (Int32.ofInt x * Int32.ofInt y).toInt
def fx_div (x y : Int) : Int := (Int32.ofInt x / Int32.ofInt y).toInt
def fx_rem (x y : Int) : Int := (Int32.ofInt x - Int32.ofInt x / Int32.ofInt y * Int32.ofInt y).toInt
def fx_and (x y : Int) : Int := (Int32.ofInt x &&& Int32.ofInt y).toInt
def fx_or (x y : Int) : Int := (Int32.ofInt x ||| Int32.ofInt y).toInt
def fx_shl (x y : Int) : Int := (Int32.ofInt x <<< (Int32.ofInt y &&& 31)).toInt
def fx_ushr (x y : Int) : Int := ((Int32.ofInt x).toUInt32 >>> ((Int32.ofInt y).toUInt32 &&& Int32.toUInt32 31)).toInt32.toInt
/-- a switch: where it goes -/
def fx_sel (x : Int) : List (Int × Nat) → Nat → Nat
  | [], d => d
  | q :: l, d => if x = q.1 then q.2 else fx_sel x l d
/-- a branch -/
def fx_br {α : Type} (c : ClassFile.Cond) (x y : Int) (a b : α) : α := match c with
  | .eq => if x = y then a else b
  | .ne => if x = y then b else a
  | .lt => if x < y then a else b
  | .ge => if x < y then b else a
  | .gt => if y < x then a else b
  | .le => if y < x then b else a
/-- the kinds: form (0 ints, 1 booleans, 2 to 4 rows of objects, 5 an object, 6 longs, 7 a text, 9 none), length or class, how many, what the places hold (0: a number) -/
def fx_kts : List (Nat × Nat × Nat × List (Nat × Int × Int)) := [(9, 0, 0, []),
  (9, 0, 0, []),
  (9, 0, 0, []),
  (9, 0, 0, []),
  (9, 0, 0, []),
  (9, 0, 0, []),
  (9, 0, 0, []),
  (9, 0, 0, []),
  (9, 0, 0, []),
  (9, 0, 0, []),
  (5, 6, 1, [(11, 0, 0), (11, 0, 1), (11, 0, 2), (12, 0, 0), (26, 0, 0), (28, 0, 0), (33, 0, 0), (36, 0, 0), (36, 0, 1), (0, 0, 0), (0, 0, 0), (0, 0, 0), (0, 0, 0), (0, 0, 0), (0, 0, 0)]),
  (5, 4, 11, [(13, 1, 0), (14, 1, 0), (15, 1, 0), (16, 1, 0), (17, 1, 0), (18, 1, 0), (19, 1, 0), (20, 1, 0), (21, 1, 0), (0, 0, 0), (0, 0, 0)]),
  (3, 8, 1, [(11, 0, 3)]),
  (0, 8, 11, []),
  (1, 8, 11, []),
  (0, 60, 11, []),
  (0, 60, 11, []),
  (0, 60, 11, []),
  (0, 60, 11, []),
  (0, 60, 11, []),
  (1, 60, 11, []),
  (2, 8, 11, [(22, 8, 0)]),
  (5, 3, 90, [(23, 1, 0), (24, 1, 0), (25, 1, 0), (0, 0, 0), (0, 0, 0), (0, 0, 0)]),
  (0, 23, 90, []),
  (0, 23, 90, []),
  (0, 23, 90, []),
  (5, 0, 2, [(27, 1, 0), (22, 1, 88), (0, 0, 0), (0, 0, 0)]),
  (0, 5, 2, []),
  (5, 5, 1, [(29, 0, 0), (30, 0, 0), (31, 0, 0), (32, 0, 0), (0, 0, 0), (0, 0, 0)]),
  (0, 400, 1, []),
  (0, 401, 1, []),
  (0, 401, 1, []),
  (0, 401, 1, []),
  (5, 2, 1, [(28, 0, 0), (26, 0, 1), (34, 0, 0), (35, 0, 0), (0, 0, 0), (0, 0, 0), (0, 0, 0), (0, 0, 0), (0, 0, 0), (0, 0, 0)]),
  (0, 15, 1, []),
  (0, 15, 1, []),
  (5, 1, 2, [(11, 0, 0), (37, 1, 0), (38, 1, 0), (39, 1, 0), (40, 1, 0), (42, 1, 0), (44, 1, 0), (45, 1, 0), (0, 0, 0), (0, 0, 0), (0, 0, 0)]),
  (0, 122, 2, []),
  (0, 1001, 2, []),
  (1, 1001, 2, []),
  (4, 8, 2, [(41, 8, 0)]),
  (0, 121, 16, []),
  (4, 8, 2, [(43, 8, 0)]),
  (0, 121, 16, []),
  (0, 23, 2, []),
  (0, 8, 2, []),
  (5, 7, 1, [(0, 0, 0), (47, 0, 0), (48, 0, 0), (49, 0, 0), (50, 0, 0), (0, 0, 0), (0, 0, 0), (0, 0, 0), (51, 0, 0), (0, 0, 0), (0, 0, 0), (0, 0, 0), (0, 0, 0), (52, 0, 0), (53, 0, 0), (0, 0, 0), (54, 0, 0), (0, 0, 0), (0, 0, 0), (55, 0, 0), (56, 0, 0), (0, 0, 0), (57, 0, 0), (58, 0, 0), (59, 0, 0), (59, 0, 1), (60, 0, 0), (0, 0, 0), (0, 0, 0), (0, 0, 0)]),
  (0, 1130, 1, []),
  (0, 1130, 1, []),
  (0, 1130, 1, []),
  (0, 9040, 1, []),
  (0, 400, 1, []),
  (0, 94, 1, []),
  (0, 40, 1, []),
  (0, 40, 1, []),
  (0, 8, 1, []),
  (0, 8, 1, []),
  (0, 23, 1, []),
  (0, 60, 1, []),
  (0, 1000, 2, []),
  (0, 8, 1, []),
  (6, 1, 1, []),
  (7, 0, 17, [])]
def fx_kt (K : Nat) : Nat × Nat × Nat × List (Nat × Int × Int) := fx_nth fx_kts K (9, 0, 0, [])
def fx_form (K : Nat) : Nat := (fx_kt K).1
def fx_len (K : Nat) : Int := (fx_kt K).2.1
def fx_cnt (K : Nat) : Int := (fx_kt K).2.2.1
def fx_fl (K : Nat) : List (Nat × Int × Int) := (fx_kt K).2.2.2
def fx_w (v : fx_V) : Nat := cond (Nat.beq v.1 1) 2 1
def fx_ws1 : List fx_V → Nat
  | [] => 0
  | v :: l => fx_w v + fx_ws1 l
/-- what a step comes to: on, an answer, a call -/
abbrev fx_R : Type := fx_T ⊕ (fx_V ⊕ (Nat × List fx_V × List fx_V))
def fx_go (pc : Nat) (L st : List fx_V) (σ : fx_S) : Option fx_R := some (.inl (pc, L, st, σ))
def fx_load (k i pc : Nat) (L st : List fx_V) (σ : fx_S) : Option fx_R := match fx_nth L i (3, 0) with
  | (0, x) => cond (Nat.beq k 0) (fx_go pc L ((0, x) :: st) σ) none
  | (K, x) => cond (Nat.blt 9 K && Nat.beq k 1) (fx_go pc L ((K, x) :: st) σ) none
def fx_arr (f K : Nat) (j : Int) (a : Option fx_R) : Option fx_R := cond (Nat.beq (fx_form K) f) (if 0 ≤ j ∧ j < fx_len K then a else none) none
def fx_step (c : fx_C) (rk : Nat → Nat × Nat) (pc : Nat) (L st : List fx_V) (σ : fx_S) : Option fx_R :=
  match fx_at c pc with
  | (_, len, ins, (t, K0, p, a, b), sw) =>
    match ins, st with
    | .iconst _, st => fx_go (pc + 1) L ((0, a) :: st) σ
    | .bipush _, st => fx_go (pc + 2) L ((0, a) :: st) σ
    | .sipush _, st => fx_go (pc + 3) L ((0, a) :: st) σ
    | .ldc _, st => fx_go (pc + 2) L ((t, a) :: st) σ
    | .ldc_w _, st => fx_go (pc + 3) L ((t, a) :: st) σ
    | .iload_n k, st => fx_load 0 k (pc + 1) L st σ
    | .iload i, st => fx_load 0 i (pc + 2) L st σ
    | .aload_n k, st => fx_load 1 k (pc + 1) L st σ
    | .aload i, st => fx_load 1 i (pc + 2) L st σ
    | .istore_n k, (0, x) :: st => fx_go (pc + 1) (L.set k (0, x)) st σ
    | .istore i, (0, x) :: st => fx_go (pc + 2) (L.set i (0, x)) st σ
    | .astore_n k, (K, x) :: st => cond (Nat.blt 9 K) (fx_go (pc + 1) (L.set k (K, x)) st σ) none
    | .astore i, (K, x) :: st => cond (Nat.blt 9 K) (fx_go (pc + 2) (L.set i (K, x)) st σ) none
    | .iinc i n, st => match fx_nth L i (3, 0) with
      | (0, x) => fx_go (pc + 3) (L.set i (0, fx_add x n)) st σ
      | _ => none
    | .iadd, (0, y) :: (0, x) :: st => fx_go (pc + 1) L ((0, fx_add x y) :: st) σ
    | .isub, (0, y) :: (0, x) :: st => fx_go (pc + 1) L ((0, fx_sub x y) :: st) σ
    | .imul, (0, y) :: (0, x) :: st => fx_go (pc + 1) L ((0, fx_mul x y) :: st) σ
    | .idiv, (0, y) :: (0, x) :: st => if y = 0 then none else fx_go (pc + 1) L ((0, fx_div x y) :: st) σ
    | .irem, (0, y) :: (0, x) :: st => if y = 0 then none else fx_go (pc + 1) L ((0, fx_rem x y) :: st) σ
    | .iand, (0, y) :: (0, x) :: st => fx_go (pc + 1) L ((0, fx_and x y) :: st) σ
    | .ior, (0, y) :: (0, x) :: st => fx_go (pc + 1) L ((0, fx_or x y) :: st) σ
    | .ishl, (0, y) :: (0, x) :: st => fx_go (pc + 1) L ((0, fx_shl x y) :: st) σ
    | .iushr, (0, y) :: (0, x) :: st => fx_go (pc + 1) L ((0, fx_ushr x y) :: st) σ
    | .dup, v :: st => cond (Nat.beq v.1 1) none (fx_go (pc + 1) L (v :: v :: st) σ)
    | .dup2, v :: w :: st => cond (Nat.beq v.1 1 || Nat.beq w.1 1) none (fx_go (pc + 1) L (v :: w :: v :: w :: st) σ)
    | .pop, v :: st => cond (Nat.beq v.1 1) none (fx_go (pc + 1) L st σ)
    | .getfield _, (K, i) :: st => cond (Nat.beq K K0) (cond (Nat.beq t 0) (fx_go (pc + 3) L ((0, σ K0 i p) :: st) σ) (fx_go (pc + 3) L ((t, a * i + b) :: st) σ)) none
    | .putfield _, (0, v) :: (K, i) :: st => cond (Nat.beq K K0) (cond (Nat.beq t 0) (fx_go (pc + 3) L st (fx_up σ K0 i p v)) (if v = 0 ∨ v = 1 then fx_go (pc + 3) L st (fx_up σ K0 i p v) else none)) none
    | .iaload, (0, j) :: (K, i) :: st => fx_arr 0 K j (fx_go (pc + 1) L ((0, σ K i j) :: st) σ)
    | .baload, (0, j) :: (K, i) :: st => fx_arr 1 K j (fx_go (pc + 1) L ((0, σ K i j) :: st) σ)
    | .aaload, (0, j) :: (K, i) :: st => if 0 ≤ j ∧ j < fx_len K then (match fx_fl K with
      | (K', a', b') :: _ => cond (Nat.blt 1 (fx_form K) && Nat.blt (fx_form K) 5) (fx_go (pc + 1) L ((K', a' * i + b' + j) :: st) σ) none
      | [] => none) else none
    | .iastore, (0, v) :: (0, j) :: (K, i) :: st => fx_arr 0 K j (fx_go (pc + 1) L st (fx_up σ K i j v))
    | .bastore, (0, v) :: (0, j) :: (K, i) :: st => fx_arr 1 K j (if v = 0 ∨ v = 1 then fx_go (pc + 1) L st (fx_up σ K i j v) else none)
    | .arraylength, (K, _) :: st => cond (Nat.blt (fx_form K) 2) (fx_go (pc + 1) L ((0, fx_len K) :: st) σ) none
    | .ifCond c _, (0, x) :: st => fx_br c x 0 (fx_go t L st σ) (fx_go (pc + 3) L st σ)
    | .if_icmp c _, (0, y) :: (0, x) :: st => fx_br c x y (fx_go t L st σ) (fx_go (pc + 3) L st σ)
    | .goto _, st => fx_go t L st σ
    | .tableswitch .., (0, x) :: st => fx_go (fx_sel x sw t) L st σ
    | .lookupswitch .., (0, x) :: st => fx_go (fx_sel x sw t) L st σ
    | .ireturn, [(0, x)] => cond (Nat.beq t 0) (some (.inr (.inl (0, x)))) (if x = 0 ∨ x = 1 then some (.inr (.inl (0, x))) else none)
    | .return_, [] => some (.inr (.inl (4, 0)))
    | .areturn, [(K, x)] => cond (Nat.blt 9 K) (some (.inr (.inl (K, x)))) none
    | .new _, [] => cond (Nat.beq t 5) (some (.inr (.inl (5, a)))) none
    | .invokevirtual _, st => cond (Nat.blt 0 (rk t).1 && Nat.beq (fx_nth (st.take (rk t).2).reverse 0 (3, 0)).1 (rk t).1 && Nat.ble (rk t).2 st.length && Nat.ble (fx_ws1 (st.drop (rk t).2)) 8) (some (.inr (.inr (t, (st.take (rk t).2).reverse, st.drop (rk t).2)))) none
    | .invokestatic _, st => cond (Nat.beq 0 (rk t).1 && Nat.ble (rk t).2 st.length && Nat.ble (fx_ws1 (st.drop (rk t).2)) 8) (some (.inr (.inr (t, (st.take (rk t).2).reverse, st.drop (rk t).2)))) none
    | _, _ => none
