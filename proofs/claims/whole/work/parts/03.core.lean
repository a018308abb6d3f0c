abbrev fx_V : Type := Nat × Int
abbrev fx_S : Type := Nat → Int → Int → Int
abbrev fx_Q : Type := Nat × Nat × Nat × Int × Int
abbrev fx_I : Type := Nat × Nat × Instr × fx_Q × List (Int × Nat)
abbrev fx_C : Type := List fx_I
abbrev fx_T : Type := Nat × List fx_V × List fx_V × fx_S
def fx_up (σ : fx_S) (K : Nat) (i j v : Int) : fx_S := fun K' i' j' => if K' = K ∧ i' = i ∧ j' = j then v else σ K' i' j'
def fx_nth {α : Type} : List α → Nat → α → α
  | [], _, d => d
  | a :: _, 0, _ => a
  | _ :: l, n + 1, d => fx_nth l n d
def fx_at : fx_C → Nat → fx_I
  | [], _ => (0, 0, .nop, (0, 0, 0, 0, 0), [])
  | e :: c, pc => cond (Nat.beq e.1 pc) e (fx_at c pc)
def fx_add (x y : Int) : Int := (Int32.ofInt x + Int32.ofInt y).toInt
def fx_sub (x y : Int) : Int := (Int32.ofInt x - Int32.ofInt y).toInt
def fx_mul (x y : Int) : Int := (Int32.ofInt x * Int32.ofInt y).toInt
def fx_div (x y : Int) : Int := (Int32.ofInt x / Int32.ofInt y).toInt
def fx_rem (x y : Int) : Int := (Int32.ofInt x - Int32.ofInt x / Int32.ofInt y * Int32.ofInt y).toInt
def fx_and (x y : Int) : Int := (Int32.ofInt x &&& Int32.ofInt y).toInt
def fx_or (x y : Int) : Int := (Int32.ofInt x ||| Int32.ofInt y).toInt
def fx_shl (x y : Int) : Int := (Int32.ofInt x <<< (Int32.ofInt y &&& 31)).toInt
def fx_ushr (x y : Int) : Int := ((Int32.ofInt x).toUInt32 >>> ((Int32.ofInt y).toUInt32 &&& Int32.toUInt32 31)).toInt32.toInt
def fx_sel (x : Int) : List (Int × Nat) → Nat → Nat
  | [], d => d
  | q :: l, d => if x = q.1 then q.2 else fx_sel x l d
def fx_br {α : Type} (c : ClassFile.Cond) (x y : Int) (a b : α) : α := match c with
  | .eq => if x = y then a else b
  | .ne => if x = y then b else a
  | .lt => if x < y then a else b
  | .ge => if x < y then b else a
  | .gt => if y < x then a else b
  | .le => if y < x then b else a
def fx_kts : List (Nat × Nat × Nat × List (Nat × Int × Int)) := [(9, 0, 0, []),
  (9, 0, 0, []),
  (9, 0, 0, []),
  (9, 0, 0, []),
  (9, 0, 0, []),
  (9, 0, 0, []),
  (9, 0, 0, []),
  (9, 0, 0, []),
  (9, 0, 0, []),
  (8, 0, 1, []),
  (5, 6, 1, [(11, 0, 0), (11, 0, 1), (11, 0, 2), (12, 0, 0), (26, 0, 0), (28, 0, 0), (33, 0, 0), (36, 0, 0), (36, 0, 1), (0, 0, 0), (0, 0, 0), (0, 0, 0), (0, 0, 0), (0, 0, 0), (0, 0, 0)]),
  (5, 4, 11, [(13, 1, 0), (14, 1, 0), (15, 1, 0), (16, 1, 0), (17, 1, 0), (18, 1, 0), (19, 1, 0), (20, 1, 0), (21, 1, 0), (0, 0, 0), (0, 0, 0)]),
  (3, 8, 1, [(11, 0, 3)]),
  (0, 8, 11, []),
  (1, 8, 11, []),
  (0, 60, 11, []),
  (0, 60, 11, []),
  (0, 60, 11, []),
  (0, 60, 11, []),
  (0, 60, 11, []),
  (1, 60, 11, []),
  (2, 8, 11, [(22, 8, 0)]),
  (5, 3, 90, [(23, 1, 0), (24, 1, 0), (25, 1, 0), (0, 0, 0), (0, 0, 0), (0, 0, 0)]),
  (0, 23, 90, []),
  (0, 23, 90, []),
  (0, 23, 90, []),
  (5, 0, 2, [(27, 1, 0), (22, 1, 88), (0, 0, 0), (0, 0, 0)]),
  (0, 5, 2, []),
  (5, 5, 1, [(29, 0, 0), (30, 0, 0), (31, 0, 0), (32, 0, 0), (0, 0, 0), (0, 0, 0)]),
  (0, 400, 1, []),
  (0, 401, 1, []),
  (0, 401, 1, []),
  (0, 401, 1, []),
  (5, 2, 1, [(28, 0, 0), (26, 0, 1), (34, 0, 0), (35, 0, 0), (0, 0, 0), (0, 0, 0), (0, 0, 0), (0, 0, 0), (0, 0, 0), (0, 0, 0)]),
  (0, 15, 1, []),
  (0, 15, 1, []),
  (5, 1, 2, [(11, 0, 0), (37, 1, 0), (38, 1, 0), (39, 1, 0), (40, 1, 0), (42, 1, 0), (44, 1, 0), (45, 1, 0), (0, 0, 0), (0, 0, 0), (0, 0, 0)]),
  (0, 122, 2, []),
  (0, 1001, 2, []),
  (1, 1001, 2, []),
  (4, 8, 2, [(41, 8, 0)]),
  (0, 121, 16, []),
  (4, 8, 2, [(43, 8, 0)]),
  (0, 121, 16, []),
  (0, 23, 2, []),
  (0, 8, 2, []),
  (5, 7, 1, [(0, 0, 0), (47, 0, 0), (48, 0, 0), (49, 0, 0), (50, 0, 0), (0, 0, 0), (0, 0, 0), (0, 0, 0), (51, 0, 0), (0, 0, 0), (0, 0, 0), (0, 0, 0), (0, 0, 0), (52, 0, 0), (53, 0, 0), (0, 0, 0), (54, 0, 0), (0, 0, 0), (0, 0, 0), (55, 0, 0), (56, 0, 0), (0, 0, 0), (57, 0, 0), (58, 0, 0), (59, 0, 0), (59, 0, 1), (60, 0, 0), (0, 0, 0), (0, 0, 0), (0, 0, 0)]),
  (0, 1130, 1, []),
  (0, 1130, 1, []),
  (0, 1130, 1, []),
  (0, 9040, 1, []),
  (0, 400, 1, []),
  (0, 94, 1, []),
  (0, 40, 1, []),
  (0, 40, 1, []),
  (0, 8, 1, []),
  (0, 8, 1, []),
  (0, 23, 1, []),
  (0, 60, 1, []),
  (0, 1000, 2, []),
  (0, 8, 1, []),
  (6, 1, 1, []),
  (7, 0, 17, [])]
def fx_kt (K : Nat) : Nat × Nat × Nat × List (Nat × Int × Int) := fx_nth fx_kts K (9, 0, 0, [])
def fx_form (K : Nat) : Nat := (fx_kt K).1
def fx_len (K : Nat) : Int := (fx_kt K).2.1
def fx_cnt (K : Nat) : Int := (fx_kt K).2.2.1
def fx_fl (K : Nat) : List (Nat × Int × Int) := (fx_kt K).2.2.2
abbrev fx_R : Type := fx_T ⊕ (fx_V ⊕ (Nat × List fx_V × List fx_V))
def fx_go (pc : Nat) (L st : List fx_V) (σ : fx_S) : Option fx_R := some (.inl (pc, L, st, σ))
def fx_load (k i pc : Nat) (L st : List fx_V) (σ : fx_S) : Option fx_R := match fx_nth L i (3, 0) with
  | (0, x) => cond (Nat.beq k 0) (fx_go pc L ((0, x) :: st) σ) none
  | (K, x) => cond (Nat.blt 8 K && Nat.beq k 1) (fx_go pc L ((K, x) :: st) σ) none
def fx_num (v : fx_V) (f : Int → Option fx_R) : Option fx_R := match v with
  | (0, x) => f x
  | _ => none
def fx_p1 (st : List fx_V) (f : Int → List fx_V → Option fx_R) : Option fx_R := match st with
  | (0, x) :: st => f x st
  | _ => none
def fx_p2 (st : List fx_V) (f : Int → Int → List fx_V → Option fx_R) : Option fx_R := match st with
  | (0, y) :: (0, x) :: st => f x y st
  | _ => none
def fx_po (st : List fx_V) (f : Nat → Int → List fx_V → Option fx_R) : Option fx_R := match st with
  | (K, x) :: st => f K x st
  | [] => none
def fx_end (st : List fx_V) (r : Option fx_R) : Option fx_R := match st with
  | [] => r
  | _ => none
def fx_pl (st : List fx_V) (f : Int → List fx_V → Option fx_R) : Option fx_R := match st with
  | (1, x) :: st => f x st
  | _ => none
def fx_arr (f K : Nat) (j : Int) (a : Option fx_R) : Option fx_R := cond (Nat.beq (fx_form K) f) (if 0 ≤ j ∧ j < fx_len K then a else none) none
def fx_bit (v : Int) (a : Option fx_R) : Option fx_R := if v = 0 ∨ v = 1 then a else none
def fx_inv (mj n : Nat) (st : List fx_V) : Option fx_R := cond (Nat.ble n st.length && Nat.ble (st.drop n).length 8 && st.all (fun v => !Nat.beq v.1 1)) (some (.inr (.inr (mj, (st.take n).reverse, st.drop n)))) none
def fx_cmp (x y : Int) : Int := if x < y then -1 else if x = y then 0 else 1
def fx_exe (ins : Instr) (q : fx_Q) (sw : List (Int × Nat)) (rk : Nat → Nat × Nat) (pc : Nat) (L st : List fx_V) (σ : fx_S) : Option fx_R :=
  match ins with
    | .iconst _ => fx_go (pc + 1) L ((0, q.2.2.2.1) :: st) σ
    | .lconst _ => fx_go (pc + 1) L ((1, q.2.2.2.1) :: st) σ
    | .i2l => fx_p1 st fun x st => fx_go (pc + 1) L ((1, x) :: st) σ
    | .lcmp => fx_pl st fun y st => fx_pl st fun x st => fx_go (pc + 1) L ((0, fx_cmp x y) :: st) σ
    | .laload => fx_p1 st fun j st => fx_po st fun K i st => fx_arr 6 K j (fx_go (pc + 1) L ((1, σ K i j) :: st) σ)
    | .lastore => fx_pl st fun v st => fx_p1 st fun j st => fx_po st fun K i st => fx_arr 6 K j (fx_go (pc + 1) L st (fx_up σ K i j v))
    | .bipush _ => fx_go (pc + 2) L ((0, q.2.2.2.1) :: st) σ
    | .sipush _ => fx_go (pc + 3) L ((0, q.2.2.2.1) :: st) σ
    | .ldc _ => fx_go (pc + 2) L ((q.1, q.2.2.2.1) :: st) σ
    | .ldc_w _ => fx_go (pc + 3) L ((q.1, q.2.2.2.1) :: st) σ
    | .iload_n k => fx_load 0 k (pc + 1) L st σ
    | .iload i => fx_load 0 i (pc + 2) L st σ
    | .aload_n k => fx_load 1 k (pc + 1) L st σ
    | .aload i => fx_load 1 i (pc + 2) L st σ
    | .istore_n k => fx_p1 st fun x st => fx_go (pc + 1) (L.set k (0, x)) st σ
    | .istore i => fx_p1 st fun x st => fx_go (pc + 2) (L.set i (0, x)) st σ
    | .astore_n k => fx_po st fun K x st => cond (Nat.blt 8 K) (fx_go (pc + 1) (L.set k (K, x)) st σ) none
    | .astore i => fx_po st fun K x st => cond (Nat.blt 8 K) (fx_go (pc + 2) (L.set i (K, x)) st σ) none
    | .iinc i n => fx_num (fx_nth L i (3, 0)) fun x => fx_go (pc + 3) (L.set i (0, fx_add x n)) st σ
    | .iadd => fx_p2 st fun x y st => fx_go (pc + 1) L ((0, fx_add x y) :: st) σ
    | .isub => fx_p2 st fun x y st => fx_go (pc + 1) L ((0, fx_sub x y) :: st) σ
    | .imul => fx_p2 st fun x y st => fx_go (pc + 1) L ((0, fx_mul x y) :: st) σ
    | .idiv => fx_p2 st fun x y st => if y = 0 then none else fx_go (pc + 1) L ((0, fx_div x y) :: st) σ
    | .irem => fx_p2 st fun x y st => if y = 0 then none else fx_go (pc + 1) L ((0, fx_rem x y) :: st) σ
    | .iand => fx_p2 st fun x y st => fx_go (pc + 1) L ((0, fx_and x y) :: st) σ
    | .ior => fx_p2 st fun x y st => fx_go (pc + 1) L ((0, fx_or x y) :: st) σ
    | .ishl => fx_p2 st fun x y st => fx_go (pc + 1) L ((0, fx_shl x y) :: st) σ
    | .iushr => fx_p2 st fun x y st => fx_go (pc + 1) L ((0, fx_ushr x y) :: st) σ
    | .dup => fx_po st fun K x st => cond (Nat.beq K 1) none (fx_go (pc + 1) L ((K, x) :: (K, x) :: st) σ)
    | .dup2 => fx_po st fun K x st => fx_po st fun K' x' st => cond (Nat.beq K 1 || Nat.beq K' 1) none (fx_go (pc + 1) L ((K, x) :: (K', x') :: (K, x) :: (K', x') :: st) σ)
    | .pop => fx_po st fun K _ st => cond (Nat.beq K 1) none (fx_go (pc + 1) L st σ)
    | .getfield _ => fx_po st fun K i st => cond (Nat.beq K q.2.1) (cond (Nat.beq q.1 0) (fx_go (pc + 3) L ((0, σ q.2.1 i q.2.2.1) :: st) σ) (fx_go (pc + 3) L ((q.1, q.2.2.2.1 * i + q.2.2.2.2) :: st) σ)) none
    | .putfield _ => fx_p1 st fun v st => fx_po st fun K i st => cond (Nat.beq K q.2.1) (cond (Nat.beq q.1 0) (fx_go (pc + 3) L st (fx_up σ q.2.1 i q.2.2.1 v)) (fx_bit v (fx_go (pc + 3) L st (fx_up σ q.2.1 i q.2.2.1 v)))) none
    | .iaload => fx_p1 st fun j st => fx_po st fun K i st => cond (Nat.beq K 9) (if 0 ≤ j ∧ j < σ 9 0 (-1) then fx_go (pc + 1) L ((0, σ 9 0 j) :: st) σ else none) (fx_arr 0 K j (fx_go (pc + 1) L ((0, σ K i j) :: st) σ))
    | .baload => fx_p1 st fun j st => fx_po st fun K i st => fx_arr 1 K j (fx_go (pc + 1) L ((0, σ K i j) :: st) σ)
    | .aaload => fx_p1 st fun j st => fx_po st fun K i st => cond (Nat.blt 1 (fx_form K) && Nat.blt (fx_form K) 5) (if 0 ≤ j ∧ j < fx_len K then fx_go (pc + 1) L (((fx_nth (fx_fl K) 0 (0, 0, 0)).1, (fx_nth (fx_fl K) 0 (0, 0, 0)).2.1 * i + (fx_nth (fx_fl K) 0 (0, 0, 0)).2.2 + j) :: st) σ else none) none
    | .iastore => fx_p2 st fun j v st => fx_po st fun K i st => fx_arr 0 K j (fx_go (pc + 1) L st (fx_up σ K i j v))
    | .bastore => fx_p2 st fun j v st => fx_po st fun K i st => fx_arr 1 K j (fx_bit v (fx_go (pc + 1) L st (fx_up σ K i j v)))
    | .arraylength => fx_po st fun K _ st => cond (Nat.beq K 9) (fx_go (pc + 1) L ((0, σ 9 0 (-1)) :: st) σ) <| cond (Nat.blt (fx_form K) 2) (fx_go (pc + 1) L ((0, fx_len K) :: st) σ) none
    | .ifCond c _ => fx_p1 st fun x st => fx_br c x 0 (fx_go q.1 L st σ) (fx_go (pc + 3) L st σ)
    | .if_icmp c _ => fx_p2 st fun x y st => fx_br c x y (fx_go q.1 L st σ) (fx_go (pc + 3) L st σ)
    | .goto _ => fx_go q.1 L st σ
    | .tableswitch .. => fx_p1 st fun x st => fx_go (fx_sel x sw q.1) L st σ
    | .lookupswitch .. => fx_p1 st fun x st => fx_go (fx_sel x sw q.1) L st σ
    | .ireturn => fx_p1 st fun x st => fx_end st (cond (Nat.beq q.1 0) (some (.inr (.inl (0, x)))) (fx_bit x (some (.inr (.inl (0, x))))))
    | .return_ => fx_end st (some (.inr (.inl (4, 0))))
    | .areturn => fx_po st fun K x st => fx_end st (cond (Nat.blt 9 K) (some (.inr (.inl (K, x)))) none)
    | .new _ => fx_end st (some (.inr (.inl (5, q.2.2.2.1))))
    | .invokevirtual _ => cond (Nat.blt 0 (rk q.1).1 && Nat.beq (fx_nth (st.take (rk q.1).2).reverse 0 (3, 0)).1 (rk q.1).1) (fx_inv q.1 (rk q.1).2 st) none
    | .invokestatic _ => cond (Nat.beq 0 (rk q.1).1) (fx_inv q.1 (rk q.1).2 st) none
    | _ => none
def fx_step (c : fx_C) (rk : Nat → Nat × Nat) (pc : Nat) (L st : List fx_V) (σ : fx_S) : Option fx_R :=
  fx_exe (fx_at c pc).2.2.1 (fx_at c pc).2.2.2.1 (fx_at c pc).2.2.2.2 rk pc L st σ
