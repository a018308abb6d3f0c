/-! ===== how many exceptions a run of the law makes at most ===== -/
/-- where an entry goes on to -/
def fk_nx (ins : Instr) (q : fx_Q) (sw : List (Int × Nat)) (pc pc' : Nat) : Prop := match ins with
  | .ifCond .. => pc' = q.1 ∨ pc' = pc + 3
  | .if_icmp .. => pc' = q.1 ∨ pc' = pc + 3
  | .goto _ => pc' = q.1
  | .tableswitch .. => ∃ x, pc' = fx_sel x sw q.1
  | .lookupswitch .. => ∃ x, pc' = fx_sel x sw q.1
  | i => pc' = pc + fx_il i
/-- which local it writes -/
def fk_sl (ins : Instr) (L L' : List fx_V) : Prop := match ins with
  | .istore_n k => ∃ v, L' = L.set k v
  | .istore i => ∃ v, L' = L.set i v
  | .astore_n k => ∃ v, L' = L.set k v
  | .astore i => ∃ v, L' = L.set i v
  | .iinc i _ => ∃ v, L' = L.set i v
  | _ => L' = L
theorem fk_cond {b : Bool} {x y : Option fx_R} {R : fx_R} (h : cond b x y = some R) : x = some R ∨ y = some R := by
  cases b with
  | true => exact Or.inl h
  | false => exact Or.inr h
theorem fk_ite {c : Prop} [Decidable c] {x y : Option fx_R} {R : fx_R} (h : (if c then x else y) = some R) : x = some R ∨ y = some R := by
  by_cases e : c
  · rw [if_pos e] at h; exact Or.inl h
  · rw [if_neg e] at h; exact Or.inr h
theorem fk_end {st : List fx_V} {r : Option fx_R} {R : fx_R} (h : fx_end st r = some R) : r = some R := by
  cases st with
  | nil => exact h
  | cons a l => cases h
theorem fk_br {c : ClassFile.Cond} {x y : Int} {a b : Option fx_R} {R : fx_R} (h : fx_br c x y a b = some R) : a = some R ∨ b = some R := by
  revert h
  exact fx_br_inv (P := fun z => z = some R → a = some R ∨ b = some R) Or.inl Or.inr
set_option maxHeartbeats 4000000 in
theorem fk_exe {ins : Instr} {q : fx_Q} {sw : List (Int × Nat)} {rk : Nat → Nat × Nat} {pc pc' : Nat} {L L' st st' : List fx_V} {σ σ' : fx_S} (h : fx_exe ins q sw rk pc L st σ = some (.inl (pc', L', st', σ'))) : fk_nx ins q sw pc pc' ∧ fk_sl ins L L' := by
  unfold fx_exe at h
  split at h
  all_goals
    repeat' first
      | (obtain ⟨_, _, -, h1⟩ := fx_p1_inv h; clear h; rename _ => h)
      | (obtain ⟨_, _, -, h1⟩ := fx_pl_inv h; clear h; rename _ => h)
      | (obtain ⟨_, _, _, -, h1⟩ := fx_p2_inv h; clear h; rename _ => h)
      | (obtain ⟨_, _, _, -, h1⟩ := fx_po_inv h; clear h; rename _ => h)
      | (obtain ⟨_, -, h1⟩ := fx_num_inv h; clear h; rename _ => h)
      | (obtain ⟨-, -, h1⟩ := fx_arr_inv h; clear h; rename _ => h)
      | (have h1 := fk_end h; clear h; rename _ => h)
      | (have h1 := fk_br h; clear h; rcases h1 with h | h)
      | (have h1 := fk_cond h; clear h; rcases h1 with h | h)
      | (have h1 := fk_ite h; clear h; rcases h1 with h | h)
  all_goals first
    | (cases h; done)
    | (cases h; exact ⟨rfl, rfl⟩)
    | (cases h; exact ⟨rfl, _, rfl⟩)
    | (cases h; exact ⟨Or.inl rfl, rfl⟩)
    | (cases h; exact ⟨Or.inr rfl, rfl⟩)
    | (cases h; exact ⟨⟨_, rfl⟩, rfl⟩)
    | (obtain ⟨_, _, -, -, h1⟩ := fx_load_inv h; cases h1; exact ⟨rfl, rfl⟩)
    | (obtain ⟨-, -, -, h1⟩ := fx_inv_inv h; cases h1; done)
/-- the callees of an entry -/
noncomputable def fk_cl (b : Nat) (e : fx_I) : Bool := match e.2.2.1 with
  | .invokevirtual _ => Nat.ble 500 e.2.2.2.1.1 || Nat.blt e.2.2.2.1.1 b
  | .invokestatic _ => Nat.ble 500 e.2.2.2.1.1 || Nat.blt e.2.2.2.1.1 b
  | _ => true
set_option maxRecDepth 100000 in
theorem fk_cl0 : (List.range 150).all (fun mi => (fx_code mi).all (fk_cl 261)) = true := by decide +kernel
set_option maxRecDepth 100000 in
theorem fk_cl1 : ((List.range 143).map (· + 150)).all (fun mi => (fx_code mi).all (fk_cl 261)) = true := by decide +kernel
set_option maxRecDepth 100000 in
theorem fk_cl2 : (fx_code 293).all (fk_cl 293) = true := by decide +kernel
theorem fk_clA {mi : Nat} (h : mi < 293) : (fx_code mi).all (fk_cl 261) = true := by
  by_cases h1 : mi < 150
  · exact List.all_eq_true.mp fk_cl0 mi (List.mem_range.mpr h1)
  · exact List.all_eq_true.mp fk_cl1 mi (List.mem_map.mpr ⟨mi - 150, List.mem_range.mpr (by omega), by omega⟩)
theorem fk_cc {mi b pc mj : Nat} {L st as rest : List fx_V} {σ : fx_S} (hm : mi < 294) (hc : (fx_code mi).all (fk_cl b) = true) (h : fx_step (fx_code mi) fx_rk pc L st σ = some (.inr (.inr (mj, as, rest)))) : 500 ≤ mj ∨ mj < b := by
  obtain ⟨len, ins, q, sw, c1, c2, -, -, -, -, c3⟩ := fx_ent2 hm h
  have h1 := List.all_eq_true.mp hc _ c1
  rw [c2] at h1
  rcases fx_exe_out c3 with ⟨rfl, x, rfl, hb, hz⟩ | ⟨rfl, rfl, hz⟩ | ⟨rfl, K, x, rfl, h9, hz⟩ | ⟨⟨i, rfl⟩, rfl, hz⟩ | ⟨⟨i, rfl⟩, -, -, -, -, -, hz⟩ | ⟨⟨i, rfl⟩, -, -, -, -, hz⟩
  · cases hz
  · cases hz
  · cases hz
  · cases hz
  · cases hz
    have h2 : (Nat.ble 500 q.1 || Nat.blt q.1 b) = true := h1
    rw [Bool.or_eq_true] at h2
    exact h2.imp Nat.le_of_ble_eq_true fx_blt
  · cases hz
    have h2 : (Nat.ble 500 q.1 || Nat.blt q.1 b) = true := h1
    rw [Bool.or_eq_true] at h2
    exact h2.imp Nat.le_of_ble_eq_true fx_blt
/-- a method of the class or the reference: one at most, when it throws -/
theorem fk_pl : ∀ (n mi pc : Nat) (L st : List fx_V) (σ : fx_S) (v : fx_V) (σ' : fx_S) (k : Nat), mi < 261 → fx_run n mi (pc, L, st, σ) = some (v, σ', k) → k = cond (Nat.beq v.1 5) 1 0
  | 0, _, _, _, _, _, _, _, _, _, h => by cases h
  | n + 1, mi, pc, L, st, σ, v, σ', k, hm, h => by
    unfold fx_run at h
    split at h
    · cases h
    · next T e =>
      obtain ⟨pc', L', st', σ1⟩ := T
      exact fk_pl n mi pc' L' st' σ1 v σ' k hm h
    · next w e =>
      cases h
      rfl
    · next mj as rest e =>
      have hmj := fk_cc (by omega) (fk_clA (by omega)) e
      split at h
      · cases h
      · next w σ1 k1 e1 =>
        have hw : k1 = cond (Nat.beq w.1 5) 1 0 := by
          cases hb : Nat.ble 500 mj with
          | true =>
            rw [hb, cond_true] at e1
            split at e1
            · next u eu =>
              cases e1
              rw [(fx_prim_ok eu).1]
              rfl
            · cases e1
          | false =>
            rw [hb, cond_false] at e1
            have h5 : ¬ 500 ≤ mj := fun z => by rw [Nat.ble_eq_true_of_le z] at hb; cases hb
            exact fk_pl n mj _ _ _ _ _ _ _ (hmj.resolve_left h5) e1
        cases hb : Nat.beq w.1 5 with
        | true =>
          rw [hb, cond_true] at h
          have h6 : fx_hd mi w.2 = none := by
            unfold fx_hd
            rw [show Nat.ble 261 mi = false from fx_bltF (a := 260) (b := mi) (by omega)]
            rfl
          rw [h6] at h
          cases h
          exact hw
        | false =>
          rw [hb, cond_false] at h
          split at h
          · cases h
          · next w' σ2 k2 e3 =>
            cases h
            have h7 := fk_pl n mi _ _ _ _ _ _ _ hm e3
            rw [hw, hb, cond_false, Nat.zero_add]
            exact h7
/-- a handler gives a number back, and no more -/
theorem fk_hc : (List.range 32).all (fun j => (fx_nth fx_hds j []).all (fun q => (match (fx_at (fx_code (261 + j)) (q.2.1 + q.2.2.2)).2.2.1 with | .iconst _ => true | _ => false) && (match (fx_at (fx_code (261 + j)) (q.2.1 + q.2.2.2 + 1)).2.2.1 with | .ireturn => true | _ => false))) = true := by decide +kernel
theorem fk_hf {e : Int} {r : Nat × Nat} : ∀ {l : List (Int × Nat × Nat × Nat)}, fx_hf e l = some r → ∃ q ∈ l, r.1 = q.2.1 + q.2.2.2
  | [], h => by cases h
  | q :: l, h => by
    unfold fx_hf at h
    by_cases z : q.1 = e
    · rw [if_pos z] at h
      cases h
      exact ⟨q, List.mem_cons_self, rfl⟩
    · rw [if_neg z] at h
      obtain ⟨q', h1, h2⟩ := fk_hf h
      exact ⟨q', List.mem_cons_of_mem _ h1, h2⟩
theorem fk_hk {n mi hp i : Nat} {e : Int} {L : List fx_V} {σ σ' : fx_S} {v : fx_V} {k : Nat} (h : fx_hd mi e = some (hp, i)) (hr : fx_run n mi (hp, L, [], σ) = some (v, σ', k)) : k = 0 := by
  obtain ⟨h1, h2, h3⟩ := fx_hd_in h
  obtain ⟨q, hq, h4⟩ := fk_hf h3
  simp only at h4
  subst h4
  have h5 := List.all_eq_true.mp (List.all_eq_true.mp fk_hc (mi - 261) (List.mem_range.mpr (by omega))) q hq
  rw [show 261 + (mi - 261) = mi by omega, Bool.and_eq_true] at h5
  obtain ⟨h6, h7⟩ := h5
  cases n with
  | zero => cases hr
  | succ n =>
    unfold fx_run at hr
    unfold fx_step at hr
    generalize fx_at (fx_code mi) (q.2.1 + q.2.2.2) = en at h6 hr
    obtain ⟨p1, len1, ins1, q1, sw1⟩ := en
    cases ins1
    case iconst c =>
      simp only [fx_exe, fx_go] at hr
      cases n with
      | zero => cases hr
      | succ n =>
        unfold fx_run at hr
        unfold fx_step at hr
        generalize fx_at (fx_code mi) (q.2.1 + q.2.2.2 + 1) = en at h7 hr
        obtain ⟨p2, len2, ins2, q2, sw2⟩ := en
        cases ins2
        case ireturn =>
          simp only [fx_exe, fx_p1, fx_end] at hr
          split at hr
          · cases hr
          · next T e => rcases fk_cond e with e | e <;> first | (cases e; done) | (unfold fx_bit at e; rcases fk_ite e with e | e <;> cases e)
          · next w e =>
            cases hr
            have : v.1 = 0 := by
              rcases fk_cond e with e | e
              · cases e; rfl
              · unfold fx_bit at e
                rcases fk_ite e with e | e
                · cases e; rfl
                · cases e
            rw [this]; rfl
          · next e => rcases fk_cond e with e | e <;> first | (cases e; done) | (unfold fx_bit at e; rcases fk_ite e with e | e <;> cases e)
        all_goals (simp only at h7; cases h7)
    all_goals (simp only at h6; cases h6)
/-- the law's method round a call: one at most -/
theorem fk_ha : ∀ (n mi pc : Nat) (L st : List fx_V) (σ : fx_S) (v : fx_V) (σ' : fx_S) (k : Nat), 261 ≤ mi → mi < 293 → fx_run n mi (pc, L, st, σ) = some (v, σ', k) → k ≤ 1
  | 0, _, _, _, _, _, _, _, _, _, _, h => by cases h
  | n + 1, mi, pc, L, st, σ, v, σ', k, hm, hm2, h => by
    unfold fx_run at h
    split at h
    · cases h
    · next T e =>
      obtain ⟨pc', L', st', σ1⟩ := T
      exact fk_ha n mi pc' L' st' σ1 v σ' k hm hm2 h
    · next w e =>
      cases h
      exact (show ∀ b : Bool, cond b 1 0 ≤ 1 by decide) _
    · next mj as rest e =>
      have hmj := fk_cc (by omega) (fk_clA hm2) e
      split at h
      · cases h
      · next w σ1 k1 e1 =>
        have hw : k1 = cond (Nat.beq w.1 5) 1 0 := by
          cases hb : Nat.ble 500 mj with
          | true =>
            rw [hb, cond_true] at e1
            split at e1
            · next u eu =>
              cases e1
              rw [(fx_prim_ok eu).1]
              rfl
            · cases e1
          | false =>
            rw [hb, cond_false] at e1
            have h5 : ¬ 500 ≤ mj := fun z => by rw [Nat.ble_eq_true_of_le z] at hb; cases hb
            exact fk_pl n mj _ _ _ _ _ _ _ (hmj.resolve_left h5) e1
        cases hb : Nat.beq w.1 5 with
        | true =>
          rw [hb, cond_true] at h hw
          split at h
          · cases h
            omega
          · next hp i ei =>
            split at h
            · cases h
            · next w' σ2 k2 e2 =>
              cases h
              have := fk_hk ei e2
              omega
        | false =>
          rw [hb, cond_false] at h hw
          split at h
          · cases h
          · next w' σ2 k2 e2 =>
            cases h
            have := fk_ha n mi _ _ _ _ _ _ _ hm hm2 e2
            omega
/-- the law's own code goes forward, but for its loop's end, and leaves its counter alone -/
noncomputable def fk_ck : fx_I → Bool
  | (pc, len, ins, q, sw) => Nat.blt pc 33 || Nat.beq pc 2734 || Nat.beq pc 2737 || (match ins with
    | .ifCond .. => Nat.blt pc q.1 && !Nat.beq q.1 2737 && !Nat.beq (pc + 3) 2737
    | .if_icmp .. => Nat.blt pc q.1 && !Nat.beq q.1 2737 && !Nat.beq (pc + 3) 2737
    | .goto _ => Nat.blt pc q.1 && !Nat.beq q.1 2737
    | .tableswitch .. => Nat.blt pc q.1 && !Nat.beq q.1 2737 && sw.all (fun s => Nat.blt pc s.2 && !Nat.beq s.2 2737)
    | .lookupswitch .. => Nat.blt pc q.1 && !Nat.beq q.1 2737 && sw.all (fun s => Nat.blt pc s.2 && !Nat.beq s.2 2737)
    | .istore_n k => !Nat.beq (pc + 1) 2737 && !Nat.beq k 4 && !Nat.beq k 0
    | .istore i => !Nat.beq (pc + 2) 2737 && !Nat.beq i 4 && !Nat.beq i 0
    | .astore_n k => !Nat.beq (pc + 1) 2737 && !Nat.beq k 4 && !Nat.beq k 0
    | .astore i => !Nat.beq (pc + 2) 2737 && !Nat.beq i 4 && !Nat.beq i 0
    | .iinc .. => false
    | .invokevirtual _ => !Nat.beq (pc + 3) 2737 && Nat.blt pc 2740
    | .invokestatic _ => !Nat.beq (pc + 3) 2737 && Nat.blt pc 2740
    | ins => !Nat.beq (pc + fx_il ins) 2737 && Nat.blt 0 (fx_il ins))
set_option maxRecDepth 100000 in
theorem fk_ckA : (fx_code 293).all fk_ck = true := by decide +kernel
theorem fk_sel {x : Int} {d pc : Nat} : ∀ {sw : List (Int × Nat)}, sw.all (fun s => Nat.blt pc s.2 && !Nat.beq s.2 2737) = true → (pc < d ∧ d ≠ 2737) → pc < fx_sel x sw d ∧ fx_sel x sw d ≠ 2737
  | [], _, h => h
  | q :: l, h0, h => by
    rw [List.all_cons, Bool.and_eq_true] at h0
    unfold fx_sel
    by_cases z : x = q.1
    · rw [if_pos z]
      have h1 := h0.1
      rw [Bool.and_eq_true] at h1
      refine ⟨fx_blt h1.1, fun e => ?_⟩
      rw [e] at h1
      exact absurd h1.2 (by decide)
    · rw [if_neg z]
      exact fk_sel h0.2 h
theorem fk_nb {a b : Nat} (h : (!Nat.beq a b) = true) : a ≠ b := fun e => by
  subst e
  rw [show Nat.beq a a = true from Nat.beq_refl a] at h
  cases h
theorem fk_kp {L L' : List fx_V} {k : Nat} (h : ∃ v, L' = L.set k v) (h4 : k ≠ 4) (h0 : k ≠ 0) : L'[4]? = L[4]? ∧ L'[0]? = L[0]? := by
  obtain ⟨v, rfl⟩ := h
  exact ⟨List.getElem?_set_ne h4, List.getElem?_set_ne h0⟩
theorem fk_fw {pc pc' : Nat} {L L' st st' : List fx_V} {σ σ' : fx_S} (h : fx_step (fx_code 293) fx_rk pc L st σ = some (.inl (pc', L', st', σ'))) (h1 : 33 ≤ pc) (h2 : pc ≠ 2734) (h3 : pc ≠ 2737) : pc < pc' ∧ pc' ≠ 2737 ∧ L'[4]? = L[4]? ∧ L'[0]? = L[0]? := by
  obtain ⟨len, ins, q, sw, c1, c2, -, -, -, -, c3⟩ := fx_ent2 (by decide) h
  have c4 := List.all_eq_true.mp fk_ckA _ c1
  rw [c2] at c4
  obtain ⟨g1, g2⟩ := fk_exe c3
  have e1 : Nat.blt pc 33 = false := fx_bltF h1
  have e2 : Nat.beq pc 2734 = false := fx_bF h2
  have e3 : Nat.beq pc 2737 = false := fx_bF h3
  unfold fk_ck at c4
  simp only [e1, e2, e3, Bool.false_or] at c4
  cases ins
  case ifCond =>
    simp only [Bool.and_eq_true] at c4
    obtain ⟨⟨a1, a2⟩, a3⟩ := c4
    have a1 := fx_blt a1
    have a2 := fk_nb a2
    have a3 := fk_nb a3
    obtain rfl : L' = L := g2
    rcases g1 with rfl | rfl
    · exact ⟨a1, a2, rfl, rfl⟩
    · exact ⟨by omega, a3, rfl, rfl⟩
  case if_icmp =>
    simp only [Bool.and_eq_true] at c4
    obtain ⟨⟨a1, a2⟩, a3⟩ := c4
    have a1 := fx_blt a1
    have a2 := fk_nb a2
    have a3 := fk_nb a3
    obtain rfl : L' = L := g2
    rcases g1 with rfl | rfl
    · exact ⟨a1, a2, rfl, rfl⟩
    · exact ⟨by omega, a3, rfl, rfl⟩
  case goto =>
    simp only [Bool.and_eq_true] at c4
    obtain ⟨a1, a2⟩ := c4
    have a1 := fx_blt a1
    have a2 := fk_nb a2
    obtain rfl : L' = L := g2
    obtain rfl : pc' = q.1 := g1
    exact ⟨a1, a2, rfl, rfl⟩
  case tableswitch =>
    simp only [Bool.and_eq_true] at c4
    obtain ⟨⟨a1, a2⟩, a3⟩ := c4
    obtain rfl : L' = L := g2
    obtain ⟨x, rfl⟩ := g1
    obtain ⟨b1, b2⟩ := fk_sel (x := x) (by simpa only [Bool.and_eq_true] using a3) ⟨fx_blt a1, fk_nb a2⟩
    exact ⟨b1, b2, rfl, rfl⟩
  case lookupswitch =>
    simp only [Bool.and_eq_true] at c4
    obtain ⟨⟨a1, a2⟩, a3⟩ := c4
    obtain rfl : L' = L := g2
    obtain ⟨x, rfl⟩ := g1
    obtain ⟨b1, b2⟩ := fk_sel (x := x) (by simpa only [Bool.and_eq_true] using a3) ⟨fx_blt a1, fk_nb a2⟩
    exact ⟨b1, b2, rfl, rfl⟩
  case istore_n =>
    simp only [Bool.and_eq_true] at c4
    obtain rfl : pc' = pc + 1 := g1
    exact ⟨by omega, fk_nb c4.1.1, fk_kp g2 (fk_nb c4.1.2) (fk_nb c4.2)⟩
  case istore =>
    simp only [Bool.and_eq_true] at c4
    obtain rfl : pc' = pc + 2 := g1
    exact ⟨by omega, fk_nb c4.1.1, fk_kp g2 (fk_nb c4.1.2) (fk_nb c4.2)⟩
  case astore_n =>
    simp only [Bool.and_eq_true] at c4
    obtain rfl : pc' = pc + 1 := g1
    exact ⟨by omega, fk_nb c4.1.1, fk_kp g2 (fk_nb c4.1.2) (fk_nb c4.2)⟩
  case astore =>
    simp only [Bool.and_eq_true] at c4
    obtain rfl : pc' = pc + 2 := g1
    exact ⟨by omega, fk_nb c4.1.1, fk_kp g2 (fk_nb c4.1.2) (fk_nb c4.2)⟩
  case iinc => cases c4
  case invokevirtual =>
    simp only [Bool.and_eq_true] at c4
    obtain rfl : L' = L := g2
    obtain rfl : pc' = pc + 3 := g1
    exact ⟨by omega, fk_nb c4.1, rfl, rfl⟩
  case invokestatic =>
    simp only [Bool.and_eq_true] at c4
    obtain rfl : L' = L := g2
    obtain rfl : pc' = pc + 3 := g1
    exact ⟨by omega, fk_nb c4.1, rfl, rfl⟩
  all_goals
    (simp only [Bool.and_eq_true] at c4
     obtain rfl : L' = L := g2
     have g3 := g1
     simp only [fk_nx] at g3
     subst g3
     have b1 := fx_blt c4.2
     exact ⟨by omega, fk_nb c4.1, rfl, rfl⟩)
theorem fk_fc {pc mj : Nat} {L st as rest : List fx_V} {σ : fx_S} (h : fx_step (fx_code 293) fx_rk pc L st σ = some (.inr (.inr (mj, as, rest)))) (h1 : 33 ≤ pc) (h2 : pc ≠ 2734) (h3 : pc ≠ 2737) : pc + 3 ≠ 2737 ∧ pc < 2740 := by
  obtain ⟨len, ins, q, sw, c1, c2, -, -, -, -, c3⟩ := fx_ent2 (by decide) h
  have c4 := List.all_eq_true.mp fk_ckA _ c1
  rw [c2] at c4
  have e1 : Nat.blt pc 33 = false := fx_bltF h1
  have e2 : Nat.beq pc 2734 = false := fx_bF h2
  have e3 : Nat.beq pc 2737 = false := fx_bF h3
  unfold fk_ck at c4
  simp only [e1, e2, e3, Bool.false_or] at c4
  rcases fx_exe_out c3 with ⟨rfl, x, rfl, hb, hz⟩ | ⟨rfl, rfl, hz⟩ | ⟨rfl, K, x, rfl, h9, hz⟩ | ⟨⟨i, rfl⟩, rfl, hz⟩ | ⟨⟨i, rfl⟩, -, -, -, -, -, hz⟩ | ⟨⟨i, rfl⟩, -, -, -, -, hz⟩
  · cases hz
  · cases hz
  · cases hz
  · cases hz
  · simp only [Bool.and_eq_true] at c4
    exact ⟨fk_nb c4.1, fx_blt c4.2⟩
  · simp only [Bool.and_eq_true] at c4
    exact ⟨fk_nb c4.1, fx_blt c4.2⟩
theorem fk_r1 {n mi pc : Nat} {L st : List fx_V} {σ : fx_S} {T : fx_T} {r : fx_V × fx_S × Nat} (h : fx_run n mi (pc, L, st, σ) = some r) (hs : fx_step (fx_code mi) fx_rk pc L st σ = some (.inl T)) : ∃ n', n = n' + 1 ∧ fx_run n' mi T = some r := by
  cases n with
  | zero => cases h
  | succ n =>
    unfold fx_run at h
    rw [hs] at h
    exact ⟨n, rfl, h⟩
theorem fk_b1 : ∀ b : Bool, cond b 1 0 ≤ 1 := by decide
set_option maxRecDepth 100000 in
theorem fk_e23 : fx_at (fx_code 293) 23 = (23, 2, .iload 4, (0, 0, 0, 0, 0), []) := rfl
set_option maxRecDepth 100000 in
theorem fk_e25 : fx_at (fx_code 293) 25 = (25, 1, .aload_n 0, (0, 0, 0, 0, 0), []) := rfl
set_option maxRecDepth 100000 in
theorem fk_e26 : fx_at (fx_code 293) 26 = (26, 1, .arraylength, (0, 0, 0, 0, 0), []) := rfl
set_option maxRecDepth 100000 in
theorem fk_e27 : fx_at (fx_code 293) 27 = (27, 2, .bipush 6, (0, 0, 0, 6, 0), []) := rfl
set_option maxRecDepth 100000 in
theorem fk_e29 : fx_at (fx_code 293) 29 = (29, 1, .isub, (0, 0, 0, 0, 0), []) := rfl
set_option maxRecDepth 100000 in
theorem fk_e30 : fx_at (fx_code 293) 30 = (30, 3, .if_icmp .gt 2710, (2740, 0, 0, 0, 0), []) := rfl
set_option maxRecDepth 100000 in
theorem fk_e2734 : fx_at (fx_code 293) 2734 = (2734, 3, .iinc 4 6, (0, 0, 0, 0, 0), []) := rfl
set_option maxRecDepth 100000 in
theorem fk_e2737 : fx_at (fx_code 293) 2737 = (2737, 3, .goto (-2714), (23, 0, 0, 0, 0), []) := rfl
/-- the loop's head -/
theorem fk_top {n : Nat} {L st : List fx_V} {σ : fx_S} {r : fx_V × fx_S × Nat} {i len : Int} (hl : 0 ≤ len ∧ len ≤ 3072) (h : fx_run n 293 (23, L, st, σ) = some r) (hσ : σ 9 0 (-1) = len) (h0 : L[0]? = some (9, 0)) (h4 : L[4]? = some (0, i)) : ∃ n', n' < n ∧ ((len - 6 < i ∧ fx_run n' 293 (2740, L, st, σ) = some r) ∨ (i ≤ len - 6 ∧ fx_run n' 293 (33, L, st, σ) = some r)) := by
  have n0 : fx_nth L 0 (3, 0) = (9, 0) := fx_nth_of h0
  have n4 : fx_nth L 4 (3, 0) = (0, i) := fx_nth_of h4
  obtain ⟨n1, rfl, r1⟩ := fk_r1 (T := (25, L, (0, i) :: st, σ)) h (by unfold fx_step; rw [fk_e23]; show fx_load 0 4 25 L st σ = _; unfold fx_load; rw [n4]; rfl)
  obtain ⟨n2, rfl, r2⟩ := fk_r1 (T := (26, L, (9, 0) :: (0, i) :: st, σ)) r1 (by unfold fx_step; rw [fk_e25]; show fx_load 1 0 26 L ((0, i) :: st) σ = _; unfold fx_load; rw [n0]; rfl)
  obtain ⟨n3, rfl, r3⟩ := fk_r1 (T := (27, L, (0, len) :: (0, i) :: st, σ)) r2 (by unfold fx_step; rw [fk_e26, ← hσ]; rfl)
  obtain ⟨n4', rfl, r4⟩ := fk_r1 (T := (29, L, (0, 6) :: (0, len) :: (0, i) :: st, σ)) r3 (by unfold fx_step; rw [fk_e27]; rfl)
  obtain ⟨n5, rfl, r5⟩ := fk_r1 (T := (30, L, (0, len - 6) :: (0, i) :: st, σ)) r4 (by unfold fx_step; rw [fk_e29, ← fx_subE (x := len) (y := 6) ⟨by omega, by omega⟩]; rfl)
  by_cases z : len - 6 < i
  · obtain ⟨n6, rfl, r6⟩ := fk_r1 (T := (2740, L, st, σ)) r5 (by
      unfold fx_step
      rw [fk_e30]
      show (if len - 6 < i then fx_go 2740 L st σ else fx_go (30 + 3) L st σ) = _
      rw [if_pos z]; rfl)
    exact ⟨n6, by omega, Or.inl ⟨z, r6⟩⟩
  · obtain ⟨n6, rfl, r6⟩ := fk_r1 (T := (33, L, st, σ)) r5 (by
      unfold fx_step
      rw [fk_e30]
      show (if len - 6 < i then fx_go 2740 L st σ else fx_go (30 + 3) L st σ) = _
      rw [if_neg z]; rfl)
    exact ⟨n6, by omega, Or.inr ⟨by omega, r6⟩⟩
/-- the loop's end -/
theorem fk_bot {n : Nat} {L st : List fx_V} {σ : fx_S} {r : fx_V × fx_S × Nat} {i : Int} (hi : 0 ≤ i ∧ i ≤ 3072) (h : fx_run n 293 (2734, L, st, σ) = some r) (h4 : L[4]? = some (0, i)) : ∃ n', n' < n ∧ fx_run n' 293 (23, L.set 4 (0, i + 6), st, σ) = some r := by
  have n4 : fx_nth L 4 (3, 0) = (0, i) := fx_nth_of h4
  obtain ⟨n1, rfl, r1⟩ := fk_r1 (T := (2737, L.set 4 (0, i + 6), st, σ)) h (by
    unfold fx_step
    rw [fk_e2734]
    show fx_num (fx_nth L 4 (3, 0)) (fun x => fx_go (2734 + 3) (L.set 4 (0, fx_add x 6)) st σ) = _
    rw [n4, ← fx_addE' (x := i) (y := 6) ⟨by omega, by omega⟩]; rfl)
  obtain ⟨n2, rfl, r2⟩ := fk_r1 (T := (23, L.set 4 (0, i + 6), st, σ)) r1 (by unfold fx_step; rw [fk_e2737]; rfl)
  exact ⟨n2, by omega, r2⟩
def fk_P (len : Int) (n : Nat) : Prop := ∀ (pc : Nat) (L st : List fx_V) (σ : fx_S) (v : fx_V) (σ' : fx_S) (k : Nat) (i : Int), fx_run n 293 (pc, L, st, σ) = some (v, σ', k) → σ 9 0 (-1) = len → L[0]? = some (9, 0) → L[4]? = some (0, i) → fx_oL L → fx_oS st → fx_rgS σ → 0 ≤ i →
  (2740 ≤ pc → k ≤ 1) ∧ (33 ≤ pc → pc < 2740 → pc ≠ 2737 → i ≤ len - 6 → (k : Int) ≤ 152 * (len - 6 - i) + (2745 - (pc : Int)) / 3 + 1) ∧ (pc = 23 → i ≤ len → (k : Int) ≤ 152 * (len - i) + 2)
theorem fk_all {len : Int} (hl : 0 ≤ len ∧ len ≤ 3072) : ∀ n m : Nat, m ≤ n → fk_P len m
  | 0, m, hm => by
    obtain rfl : m = 0 := by omega
    intro pc L st σ v σ' k i h
    cases h
  | n + 1, m, hm => by
    have IH : ∀ m', m' < m → fk_P len m' := fun m' z => fk_all hl n m' (by omega)
    intro pc L st σ v σ' k i h hσ h0 h4 oL oS rg hi
    have G : 33 ≤ pc → pc ≠ 2734 → pc ≠ 2737 → (2740 ≤ pc → k ≤ 1) ∧ (pc < 2740 → i ≤ len - 6 → (k : Int) ≤ 152 * (len - 6 - i) + (2745 - (pc : Int)) / 3 + 1) := by
      intro p1 p2 p3
      cases m with
      | zero => cases h
      | succ m =>
        unfold fx_run at h
        split at h
        · cases h
        · next T e =>
          obtain ⟨pc', L', st', σ1⟩ := T
          obtain ⟨g1, g2, g4, g0⟩ := fk_fw e p1 p2 p3
          obtain ⟨len', ins, q, sw, c1, -, -, -, c2⟩ := fx_ent (by decide) e
          obtain ⟨o1, o2, o3, o4⟩ := fx_exe_ok c1 oL oS rg c2
          have o4 : σ1 9 = σ 9 := o4
          have P := IH m (by omega) pc' L' st' σ1 v σ' k i h (by rw [o4]; exact hσ) (by rw [g0]; exact h0) (by rw [g4]; exact h4) o1 o2 o3 hi
          refine ⟨fun z => P.1 (by omega), fun z z2 => ?_⟩
          by_cases z3 : 2740 ≤ pc'
          · have := P.1 z3
            omega
          · have := P.2.1 (by omega) (by omega) g2 z2
            omega
        · next w e =>
          cases h
          have h1 := fk_b1 (Nat.beq v.1 5)
          exact ⟨fun _ => h1, fun _ _ => by omega⟩
        · next mj as rest e =>
          obtain ⟨f1, f2⟩ := fk_fc e p1 p2 p3
          obtain ⟨len', ins, q, sw, c1, -, -, -, c2⟩ := fx_ent (by decide) e
          obtain ⟨g0, g1, g2, g3⟩ := fx_exe_ok c1 oL oS rg c2
          have hmj := fk_cc (b := 293) (by decide) fk_cl2 e
          split at h
          · cases h
          · next w σ1 k1 e1 =>
            have hw : k1 ≤ 1 ∧ fx_okV w ∧ fx_rgS σ1 ∧ σ1 9 = σ 9 := by
              cases hb : Nat.ble 500 mj with
              | true =>
                rw [hb, cond_true] at e1
                split at e1
                · next u eu =>
                  cases e1
                  obtain ⟨p1, p2⟩ := fx_prim_ok eu
                  exact ⟨by omega, Or.inr (Or.inr ⟨by omega, Or.inl ⟨Or.inl p1, p2⟩⟩), rg, rfl⟩
                · cases e1
              | false =>
                rw [hb, cond_false] at e1
                have h5 : ¬ 500 ≤ mj := fun z => by rw [Nat.ble_eq_true_of_le z] at hb; cases hb
                have hj := hmj.resolve_left h5
                refine ⟨?_, fx_pres m mj 0 _ _ _ _ _ _ (by omega) e1 (fx_pad_ok _ g1 g2) (fun _ h => by cases h) rg⟩
                by_cases z : mj < 261
                · rw [fk_pl m mj _ _ _ _ _ _ _ z e1]
                  exact fk_b1 _
                · exact fk_ha m mj _ _ _ _ _ _ _ (by omega) hj e1
            obtain ⟨w0, w1, w2, w3⟩ := hw
            cases hb : Nat.beq w.1 5 with
            | true =>
              rw [hb, cond_true] at h
              rw [show fx_hd 293 w.2 = none from rfl] at h
              cases h
              exact ⟨fun _ => w0, fun _ _ => by omega⟩
            | false =>
              rw [hb, cond_false] at h
              split at h
              · cases h
              · next w' σ2 k2 e2 =>
                cases h
                have hst : fx_oS (cond (Nat.beq w.1 4) rest (w :: rest)) := by
                  cases hb4 : Nat.beq w.1 4 with
                  | true => exact g3
                  | false =>
                    refine fx_oS_push g3 ?_
                    rcases w1 with z | z | z
                    · rw [fx_bT z] at hb4; cases hb4
                    · rw [fx_bT z.1] at hb; cases hb
                    · exact z.2
                have P := IH m (by omega) (pc + 3) L _ σ1 v σ' k2 i e2 (by rw [w3]; exact hσ) h0 h4 oL hst w2 hi
                refine ⟨fun z => by omega, fun z z2 => ?_⟩
                by_cases z3 : 2740 ≤ pc + 3
                · have := P.1 z3
                  omega
                · have := P.2.1 (by omega) (by omega) f1 z2
                  omega
    refine ⟨fun z => (G (by omega) (by omega) (by omega)).1 z, fun z1 z2 z3 z4 => ?_, fun z1 z2 => ?_⟩
    · by_cases z : pc = 2734
      · subst z
        obtain ⟨n', a1, a2⟩ := fk_bot ⟨hi, by omega⟩ h h4
        have hlen : 4 < L.length := (List.getElem?_eq_some_iff.mp h4).1
        have P := (IH n' a1 23 (L.set 4 (0, i + 6)) st σ v σ' k (i + 6) a2 hσ (by rw [List.getElem?_set_ne (by decide)]; exact h0) (by rw [List.getElem?_set_self hlen]) (fx_oL_set oL 4 (by simp) (fx_o1_of ⟨by omega, by omega⟩)) oS rg (by omega)).2.2 rfl (by omega)
        omega
      · exact (G z1 z z3).2 z2 z4
    · subst z1
      obtain ⟨n', a1, a2⟩ := fk_top hl h hσ h0 h4
      rcases a2 with ⟨b1, b2⟩ | ⟨b1, b2⟩
      · have P := (IH n' a1 2740 L st σ v σ' k i b2 hσ h0 h4 oL oS rg hi).1 (by omega)
        omega
      · have P := (IH n' a1 33 L st σ v σ' k i b2 hσ h0 h4 oL oS rg hi).2.1 (by omega) (by omega) (by omega) b1
        omega
set_option maxRecDepth 100000 in
theorem fk_e20 : fx_at (fx_code 293) 20 = (20, 1, .iconst 0, (0, 0, 0, 0, 0), []) := rfl
set_option maxRecDepth 100000 in
theorem fk_e21 : fx_at (fx_code 293) 21 = (21, 2, .istore 4, (0, 0, 0, 0, 0), []) := rfl
/-- the whole of the law, from behind its constructors -/
theorem fk_law {n : Nat} {w4 w5 w6 : fx_V} {σ σ' : fx_S} {v : fx_V} {k : Nat} (hl : 0 ≤ σ 9 0 (-1) ∧ σ 9 0 (-1) ≤ 3072) (oL : fx_oL [(9, 0), (10, 0), (46, 0), (61, 0), w4, w5, w6]) (rg : fx_rgS σ) (h : fx_run n 293 (20, [(9, 0), (10, 0), (46, 0), (61, 0), w4, w5, w6], [], σ) = some (v, σ', k)) : k ≤ 466946 := by
  obtain ⟨n1, rfl, r1⟩ := fk_r1 (T := (21, [(9, 0), (10, 0), (46, 0), (61, 0), w4, w5, w6], [(0, 0)], σ)) h (by unfold fx_step; rw [fk_e20]; rfl)
  obtain ⟨n2, rfl, r2⟩ := fk_r1 (T := (23, [(9, 0), (10, 0), (46, 0), (61, 0), (0, 0), w5, w6], [], σ)) r1 (by unfold fx_step; rw [fk_e21]; rfl)
  have P := (fk_all hl n2 n2 (Nat.le_refl _) 23 _ [] σ v σ' k 0 r2 rfl rfl rfl (fx_oL_set oL 4 (v := (0, 0)) (by simp) (fx_o1_of ⟨by omega, by omega⟩)) (fun _ h => by cases h) rg (by omega)).2.2 rfl (by omega)
  omega
