noncomputable def fx_prim (mj : Nat) (as : List fx_V) : Option fx_V := match as with
  | [(_, i)] => cond (Nat.beq mj 500) (some (0, ((fx_nth fx_tx i.toNat []).length : Int))) none
  | [(_, i), (0, k)] => cond (Nat.beq mj 501) (if 0 ≤ k ∧ k < ((fx_nth fx_tx i.toNat []).length : Int) then some (0, fx_nth (fx_nth fx_tx i.toNat []) k.toNat 0) else none) none
  | _ => none
def fx_pad : Nat → List fx_V → List fx_V
  | 0, _ => []
  | n + 1, [] => (3, 0) :: fx_pad n []
  | n + 1, v :: l => v :: fx_pad n l
noncomputable def fx_run : Nat → Nat → fx_T → Option (fx_V × fx_S × Nat)
  | 0, _, _ => none
  | n + 1, mi, (pc, L, st, σ) => match fx_step (fx_code mi) fx_rk pc L st σ with
    | none => none
    | some (.inl T) => fx_run n mi T
    | some (.inr (.inl v)) => some (v, σ, cond (Nat.beq v.1 5) 1 0)
    | some (.inr (.inr (mj, as, rest))) =>
      match cond (Nat.ble 500 mj) (match fx_prim mj as with | some v => some (v, σ, 0) | none => none) (fx_run n mj (0, fx_pad (fx_m mj).2.2.1 as, [], σ)) with
      | none => none
      | some (v, σ', k) => cond (Nat.beq v.1 5)
        (match fx_hd mi v.2 with
          | none => some (v, σ', k)
          | some (hp, i) => match fx_run n mi (hp, L.set i (3, 0), [], σ') with
            | none => none
            | some (w, σ'', k') => some (w, σ'', k + k'))
        (match fx_run n mi (pc + 3, L, cond (Nat.beq v.1 4) rest (v :: rest), σ') with
          | none => none
          | some (w, σ'', k') => some (w, σ'', k + k'))
