/-! ===== how many exceptions a run of the law makes at most ===== -/
/-- where an entry goes on to -/
def fk_nx (ins : Instr) (q : fx_Q) (sw : List (Int × Nat)) (pc pc' : Nat) : Prop := match ins with
  | .ifCond .. => pc' = q.1 ∨ pc' = pc + 3
  | .if_icmp .. => pc' = q.1 ∨ pc' = pc + 3
  | .goto _ => pc' = q.1
  | .tableswitch .. => ∃ x, pc' = fx_sel x sw q.1
  | .lookupswitch .. => ∃ x, pc' = fx_sel x sw q.1
  | i => pc' = pc + fx_il i
/-- which local it writes -/
def fk_sl (ins : Instr) (L L' : List fx_V) : Prop := match ins with
  | .istore_n k => ∃ v, L' = L.set k v
  | .istore i => ∃ v, L' = L.set i v
  | .astore_n k => ∃ v, L' = L.set k v
  | .astore i => ∃ v, L' = L.set i v
  | .iinc i _ => ∃ v, L' = L.set i v
  | _ => L' = L
theorem fk_cond {b : Bool} {x y : Option fx_R} {R : fx_R} (h : cond b x y = some R) : x = some R ∨ y = some R := by
  cases b with
  | true => exact Or.inl h
  | false => exact Or.inr h
theorem fk_ite {c : Prop} [Decidable c] {x y : Option fx_R} {R : fx_R} (h : (if c then x else y) = some R) : x = some R ∨ y = some R := by
  by_cases e : c
  · rw [if_pos e] at h; exact Or.inl h
  · rw [if_neg e] at h; exact Or.inr h
theorem fk_end {st : List fx_V} {r : Option fx_R} {R : fx_R} (h : fx_end st r = some R) : r = some R := by
  cases st with
  | nil => exact h
  | cons a l => cases h
theorem fk_br {c : ClassFile.Cond} {x y : Int} {a b : Option fx_R} {R : fx_R} (h : fx_br c x y a b = some R) : a = some R ∨ b = some R := by
  revert h
  exact fx_br_inv (P := fun z => z = some R → a = some R ∨ b = some R) Or.inl Or.inr
set_option maxHeartbeats 4000000 in
theorem fk_exe {ins : Instr} {q : fx_Q} {sw : List (Int × Nat)} {rk : Nat → Nat × Nat} {pc pc' : Nat} {L L' st st' : List fx_V} {σ σ' : fx_S} (h : fx_exe ins q sw rk pc L st σ = some (.inl (pc', L', st', σ'))) : fk_nx ins q sw pc pc' ∧ fk_sl ins L L' := by
  unfold fx_exe at h
  split at h
  all_goals
    repeat' first
      | (obtain ⟨_, _, -, h1⟩ := fx_p1_inv h; clear h; rename _ => h)
      | (obtain ⟨_, _, -, h1⟩ := fx_pl_inv h; clear h; rename _ => h)
      | (obtain ⟨_, _, _, -, h1⟩ := fx_p2_inv h; clear h; rename _ => h)
      | (obtain ⟨_, _, _, -, h1⟩ := fx_po_inv h; clear h; rename _ => h)
      | (obtain ⟨_, -, h1⟩ := fx_num_inv h; clear h; rename _ => h)
      | (obtain ⟨-, -, h1⟩ := fx_arr_inv h; clear h; rename _ => h)
      | (have h1 := fk_end h; clear h; rename _ => h)
      | (have h1 := fk_br h; clear h; rcases h1 with h | h)
      | (have h1 := fk_cond h; clear h; rcases h1 with h | h)
      | (have h1 := fk_ite h; clear h; rcases h1 with h | h)
  all_goals first
    | (cases h; done)
    | (cases h; exact ⟨rfl, rfl⟩)
    | (cases h; exact ⟨rfl, _, rfl⟩)
    | (cases h; exact ⟨Or.inl rfl, rfl⟩)
    | (cases h; exact ⟨Or.inr rfl, rfl⟩)
    | (cases h; exact ⟨⟨_, rfl⟩, rfl⟩)
    | (obtain ⟨_, _, -, -, h1⟩ := fx_load_inv h; cases h1; exact ⟨rfl, rfl⟩)
    | (obtain ⟨-, -, -, h1⟩ := fx_inv_inv h; cases h1; done)
/-- the callees of an entry -/
noncomputable def fk_cl (b : Nat) (e : fx_I) : Bool := match e.2.2.1 with
  | .invokevirtual _ => Nat.ble 500 e.2.2.2.1.1 || Nat.blt e.2.2.2.1.1 b
  | .invokestatic _ => Nat.ble 500 e.2.2.2.1.1 || Nat.blt e.2.2.2.1.1 b
  | _ => true
set_option maxRecDepth 100000 in
theorem fk_cl0 : (List.range 150).all (fun mi => (fx_code mi).all (fk_cl 261)) = true := by decide +kernel
set_option maxRecDepth 100000 in
theorem fk_cl1 : ((List.range 143).map (· + 150)).all (fun mi => (fx_code mi).all (fk_cl 261)) = true := by decide +kernel
set_option maxRecDepth 100000 in
theorem fk_cl2 : (fx_code 293).all (fk_cl 293) = true := by decide +kernel
theorem fk_clA {mi : Nat} (h : mi < 293) : (fx_code mi).all (fk_cl 261) = true := by
  by_cases h1 : mi < 150
  · exact List.all_eq_true.mp fk_cl0 mi (List.mem_range.mpr h1)
  · exact List.all_eq_true.mp fk_cl1 mi (List.mem_map.mpr ⟨mi - 150, List.mem_range.mpr (by omega), by omega⟩)
theorem fk_cc {mi b pc mj : Nat} {L st as rest : List fx_V} {σ : fx_S} (hm : mi < 294) (hc : (fx_code mi).all (fk_cl b) = true) (h : fx_step (fx_code mi) fx_rk pc L st σ = some (.inr (.inr (mj, as, rest)))) : 500 ≤ mj ∨ mj < b := by
  obtain ⟨len, ins, q, sw, c1, c2, -, -, -, -, c3⟩ := fx_ent2 hm h
  have h1 := List.all_eq_true.mp hc _ c1
  rw [c2] at h1
  rcases fx_exe_out c3 with ⟨rfl, x, rfl, hb, hz⟩ | ⟨rfl, rfl, hz⟩ | ⟨rfl, K, x, rfl, h9, hz⟩ | ⟨⟨i, rfl⟩, rfl, hz⟩ | ⟨⟨i, rfl⟩, -, -, -, -, -, hz⟩ | ⟨⟨i, rfl⟩, -, -, -, -, hz⟩
  · cases hz
  · cases hz
  · cases hz
  · cases hz
  · cases hz
    have h2 : (Nat.ble 500 q.1 || Nat.blt q.1 b) = true := h1
    rw [Bool.or_eq_true] at h2
    exact h2.imp Nat.le_of_ble_eq_true fx_blt
  · cases hz
    have h2 : (Nat.ble 500 q.1 || Nat.blt q.1 b) = true := h1
    rw [Bool.or_eq_true] at h2
    exact h2.imp Nat.le_of_ble_eq_true fx_blt
/-- a method of the class or the reference: one at most, when it throws -/
theorem fk_pl : ∀ (n mi pc : Nat) (L st : List fx_V) (σ : fx_S) (v : fx_V) (σ' : fx_S) (k : Nat), mi < 261 → fx_run n mi (pc, L, st, σ) = some (v, σ', k) → k = cond (Nat.beq v.1 5) 1 0
  | 0, _, _, _, _, _, _, _, _, _, h => by cases h
  | n + 1, mi, pc, L, st, σ, v, σ', k, hm, h => by
    unfold fx_run at h
    split at h
    · cases h
    · next T e =>
      obtain ⟨pc', L', st', σ1⟩ := T
      exact fk_pl n mi pc' L' st' σ1 v σ' k hm h
    · next w e =>
      cases h
      rfl
    · next mj as rest e =>
      have hmj := fk_cc (by omega) (fk_clA (by omega)) e
      split at h
      · cases h
      · next w σ1 k1 e1 =>
        have hw : k1 = cond (Nat.beq w.1 5) 1 0 := by
          cases hb : Nat.ble 500 mj with
          | true =>
            rw [hb, cond_true] at e1
            split at e1
            · next u eu =>
              cases e1
              rw [(fx_prim_ok eu).1]
              rfl
            · cases e1
          | false =>
            rw [hb, cond_false] at e1
            have h5 : ¬ 500 ≤ mj := fun z => by rw [Nat.ble_eq_true_of_le z] at hb; cases hb
            exact fk_pl n mj _ _ _ _ _ _ _ (hmj.resolve_left h5) e1
        cases hb : Nat.beq w.1 5 with
        | true =>
          rw [hb, cond_true] at h
          have h6 : fx_hd mi w.2 = none := by
            unfold fx_hd
            rw [show Nat.ble 261 mi = false from fx_bltF (a := 260) (b := mi) (by omega)]
            rfl
          rw [h6] at h
          cases h
          exact hw
        | false =>
          rw [hb, cond_false] at h
          split at h
          · cases h
          · next w' σ2 k2 e3 =>
            cases h
            have h7 := fk_pl n mi _ _ _ _ _ _ _ hm e3
            rw [hw, hb, cond_false, Nat.zero_add]
            exact h7
/-- a handler gives a number back, and no more -/
theorem fk_hc : (List.range 32).all (fun j => (fx_nth fx_hds j []).all (fun q => (match (fx_at (fx_code (261 + j)) (q.2.1 + q.2.2.2)).2.2.1 with | .iconst _ => true | _ => false) && (match (fx_at (fx_code (261 + j)) (q.2.1 + q.2.2.2 + 1)).2.2.1 with | .ireturn => true | _ => false))) = true := by decide +kernel
theorem fk_hf {e : Int} {r : Nat × Nat} : ∀ {l : List (Int × Nat × Nat × Nat)}, fx_hf e l = some r → ∃ q ∈ l, r.1 = q.2.1 + q.2.2.2
  | [], h => by cases h
  | q :: l, h => by
    unfold fx_hf at h
    by_cases z : q.1 = e
    · rw [if_pos z] at h
      cases h
      exact ⟨q, List.mem_cons_self, rfl⟩
    · rw [if_neg z] at h
      obtain ⟨q', h1, h2⟩ := fk_hf h
      exact ⟨q', List.mem_cons_of_mem _ h1, h2⟩
theorem fk_hk {n mi hp i : Nat} {e : Int} {L : List fx_V} {σ σ' : fx_S} {v : fx_V} {k : Nat} (h : fx_hd mi e = some (hp, i)) (hr : fx_run n mi (hp, L, [], σ) = some (v, σ', k)) : k = 0 := by
  obtain ⟨h1, h2, h3⟩ := fx_hd_in h
  obtain ⟨q, hq, h4⟩ := fk_hf h3
  simp only at h4
  subst h4
  have h5 := List.all_eq_true.mp (List.all_eq_true.mp fk_hc (mi - 261) (List.mem_range.mpr (by omega))) q hq
  rw [show 261 + (mi - 261) = mi by omega, Bool.and_eq_true] at h5
  obtain ⟨h6, h7⟩ := h5
  cases n with
  | zero => cases hr
  | succ n =>
    unfold fx_run at hr
    unfold fx_step at hr
    generalize fx_at (fx_code mi) (q.2.1 + q.2.2.2) = en at h6 hr
    obtain ⟨p1, len1, ins1, q1, sw1⟩ := en
    cases ins1
    case iconst c =>
      simp only [fx_exe, fx_go] at hr
      cases n with
      | zero => cases hr
      | succ n =>
        unfold fx_run at hr
        unfold fx_step at hr
        generalize fx_at (fx_code mi) (q.2.1 + q.2.2.2 + 1) = en at h7 hr
        obtain ⟨p2, len2, ins2, q2, sw2⟩ := en
        cases ins2
        case ireturn =>
          simp only [fx_exe, fx_p1, fx_end] at hr
          split at hr
          · cases hr
          · next T e => rcases fk_cond e with e | e <;> first | (cases e; done) | (unfold fx_bit at e; rcases fk_ite e with e | e <;> cases e)
          · next w e =>
            cases hr
            have : v.1 = 0 := by
              rcases fk_cond e with e | e
              · cases e; rfl
              · unfold fx_bit at e
                rcases fk_ite e with e | e
                · cases e; rfl
                · cases e
            rw [this]; rfl
          · next e => rcases fk_cond e with e | e <;> first | (cases e; done) | (unfold fx_bit at e; rcases fk_ite e with e | e <;> cases e)
        all_goals (simp only at h7; cases h7)
    all_goals (simp only at h6; cases h6)
/-- the law's method round a call: one at most -/
theorem fk_ha : ∀ (n mi pc : Nat) (L st : List fx_V) (σ : fx_S) (v : fx_V) (σ' : fx_S) (k : Nat), 261 ≤ mi → mi < 293 → fx_run n mi (pc, L, st, σ) = some (v, σ', k) → k ≤ 1
  | 0, _, _, _, _, _, _, _, _, _, _, h => by cases h
  | n + 1, mi, pc, L, st, σ, v, σ', k, hm, hm2, h => by
    unfold fx_run at h
    split at h
    · cases h
    · next T e =>
      obtain ⟨pc', L', st', σ1⟩ := T
      exact fk_ha n mi pc' L' st' σ1 v σ' k hm hm2 h
    · next w e =>
      cases h
      exact (show ∀ b : Bool, cond b 1 0 ≤ 1 by decide) _
    · next mj as rest e =>
      have hmj := fk_cc (by omega) (fk_clA hm2) e
      split at h
      · cases h
      · next w σ1 k1 e1 =>
        have hw : k1 = cond (Nat.beq w.1 5) 1 0 := by
          cases hb : Nat.ble 500 mj with
          | true =>
            rw [hb, cond_true] at e1
            split at e1
            · next u eu =>
              cases e1
              rw [(fx_prim_ok eu).1]
              rfl
            · cases e1
          | false =>
            rw [hb, cond_false] at e1
            have h5 : ¬ 500 ≤ mj := fun z => by rw [Nat.ble_eq_true_of_le z] at hb; cases hb
            exact fk_pl n mj _ _ _ _ _ _ _ (hmj.resolve_left h5) e1
        cases hb : Nat.beq w.1 5 with
        | true =>
          rw [hb, cond_true] at h hw
          split at h
          · cases h
            omega
          · next hp i ei =>
            split at h
            · cases h
            · next w' σ2 k2 e2 =>
              cases h
              have := fk_hk ei e2
              omega
        | false =>
          rw [hb, cond_false] at h hw
          split at h
          · cases h
          · next w' σ2 k2 e2 =>
            cases h
            have := fk_ha n mi _ _ _ _ _ _ _ hm hm2 e2
            omega
/-- the law's own code goes forward, but for its loop's end, and leaves its counter alone -/
noncomputable def fk_ck : fx_I → Bool
  | (pc, len, ins, q, sw) => Nat.blt pc 33 || Nat.beq pc 2734 || Nat.beq pc 2737 || (match ins with
    | .ifCond .. => Nat.blt pc q.1 && !Nat.beq q.1 2737 && !Nat.beq (pc + 3) 2737
    | .if_icmp .. => Nat.blt pc q.1 && !Nat.beq q.1 2737 && !Nat.beq (pc + 3) 2737
    | .goto _ => Nat.blt pc q.1 && !Nat.beq q.1 2737
    | .tableswitch .. => Nat.blt pc q.1 && !Nat.beq q.1 2737 && sw.all (fun s => Nat.blt pc s.2 && !Nat.beq s.2 2737)
    | .lookupswitch .. => Nat.blt pc q.1 && !Nat.beq q.1 2737 && sw.all (fun s => Nat.blt pc s.2 && !Nat.beq s.2 2737)
    | .istore_n k => !Nat.beq (pc + 1) 2737 && !Nat.beq k 4
    | .istore i => !Nat.beq (pc + 2) 2737 && !Nat.beq i 4
    | .astore_n k => !Nat.beq (pc + 1) 2737 && !Nat.beq k 4
    | .astore i => !Nat.beq (pc + 2) 2737 && !Nat.beq i 4
    | .iinc .. => false
    | .invokevirtual _ => !Nat.beq (pc + 3) 2737 && Nat.blt pc 2740
    | .invokestatic _ => !Nat.beq (pc + 3) 2737 && Nat.blt pc 2740
    | ins => !Nat.beq (pc + fx_il ins) 2737 && Nat.blt 0 (fx_il ins))
set_option maxRecDepth 100000 in
theorem fk_ckA : (fx_code 293).all fk_ck = true := by decide +kernel
theorem fk_sel {x : Int} {d pc : Nat} : ∀ {sw : List (Int × Nat)}, sw.all (fun s => Nat.blt pc s.2 && !Nat.beq s.2 2737) = true → (pc < d ∧ d ≠ 2737) → pc < fx_sel x sw d ∧ fx_sel x sw d ≠ 2737
  | [], _, h => h
  | q :: l, h0, h => by
    rw [List.all_cons, Bool.and_eq_true] at h0
    unfold fx_sel
    by_cases z : x = q.1
    · rw [if_pos z]
      have h1 := h0.1
      rw [Bool.and_eq_true] at h1
      refine ⟨fx_blt h1.1, fun e => ?_⟩
      rw [e] at h1
      exact absurd h1.2 (by decide)
    · rw [if_neg z]
      exact fk_sel h0.2 h
theorem fk_nb {a b : Nat} (h : (!Nat.beq a b) = true) : a ≠ b := fun e => by
  subst e
  rw [show Nat.beq a a = true from Nat.beq_refl a] at h
  cases h
theorem fk_get4 {L L' : List fx_V} {k : Nat} {i : Int} (h : ∃ v, L' = L.set k v) (hk : k ≠ 4) (h4 : L[4]? = some (0, i)) : L'[4]? = some (0, i) := by
  obtain ⟨v, rfl⟩ := h
  rw [List.getElem?_set_ne hk]
  exact h4
theorem fk_fw {pc pc' : Nat} {L L' st st' : List fx_V} {σ σ' : fx_S} {i : Int} (h : fx_step (fx_code 293) fx_rk pc L st σ = some (.inl (pc', L', st', σ'))) (h1 : 33 ≤ pc) (h2 : pc ≠ 2734) (h3 : pc ≠ 2737) (h4 : L[4]? = some (0, i)) : pc < pc' ∧ pc' ≠ 2737 ∧ L'[4]? = some (0, i) := by
  obtain ⟨len, ins, q, sw, c1, c2, -, -, -, -, c3⟩ := fx_ent2 (by decide) h
  have c4 := List.all_eq_true.mp fk_ckA _ c1
  rw [c2] at c4
  obtain ⟨g1, g2⟩ := fk_exe c3
  have e1 : Nat.blt pc 33 = false := fx_bltF h1
  have e2 : Nat.beq pc 2734 = false := fx_bF h2
  have e3 : Nat.beq pc 2737 = false := fx_bF h3
  unfold fk_ck at c4
  simp only [e1, e2, e3, Bool.false_or] at c4
  cases ins
  case ifCond =>
    simp only [Bool.and_eq_true] at c4
    obtain ⟨⟨a1, a2⟩, a3⟩ := c4
    have a1 := fx_blt a1
    have a2 := fk_nb a2
    have a3 := fk_nb a3
    obtain rfl : L' = L := g2
    rcases g1 with rfl | rfl
    · exact ⟨a1, a2, h4⟩
    · exact ⟨by omega, a3, h4⟩
  case if_icmp =>
    simp only [Bool.and_eq_true] at c4
    obtain ⟨⟨a1, a2⟩, a3⟩ := c4
    have a1 := fx_blt a1
    have a2 := fk_nb a2
    have a3 := fk_nb a3
    obtain rfl : L' = L := g2
    rcases g1 with rfl | rfl
    · exact ⟨a1, a2, h4⟩
    · exact ⟨by omega, a3, h4⟩
  case goto =>
    simp only [Bool.and_eq_true] at c4
    obtain ⟨a1, a2⟩ := c4
    have a1 := fx_blt a1
    have a2 := fk_nb a2
    obtain rfl : L' = L := g2
    obtain rfl : pc' = q.1 := g1
    exact ⟨a1, a2, h4⟩
  case tableswitch =>
    simp only [Bool.and_eq_true] at c4
    obtain ⟨⟨a1, a2⟩, a3⟩ := c4
    obtain rfl : L' = L := g2
    obtain ⟨x, rfl⟩ := g1
    obtain ⟨b1, b2⟩ := fk_sel (x := x) (by simpa only [Bool.and_eq_true] using a3) ⟨fx_blt a1, fk_nb a2⟩
    exact ⟨b1, b2, h4⟩
  case lookupswitch =>
    simp only [Bool.and_eq_true] at c4
    obtain ⟨⟨a1, a2⟩, a3⟩ := c4
    obtain rfl : L' = L := g2
    obtain ⟨x, rfl⟩ := g1
    obtain ⟨b1, b2⟩ := fk_sel (x := x) (by simpa only [Bool.and_eq_true] using a3) ⟨fx_blt a1, fk_nb a2⟩
    exact ⟨b1, b2, h4⟩
  case istore_n =>
    simp only [Bool.and_eq_true] at c4
    obtain rfl : pc' = pc + 1 := g1
    exact ⟨by omega, fk_nb c4.1, fk_get4 g2 (fk_nb c4.2) h4⟩
  case istore =>
    simp only [Bool.and_eq_true] at c4
    obtain rfl : pc' = pc + 2 := g1
    exact ⟨by omega, fk_nb c4.1, fk_get4 g2 (fk_nb c4.2) h4⟩
  case astore_n =>
    simp only [Bool.and_eq_true] at c4
    obtain rfl : pc' = pc + 1 := g1
    exact ⟨by omega, fk_nb c4.1, fk_get4 g2 (fk_nb c4.2) h4⟩
  case astore =>
    simp only [Bool.and_eq_true] at c4
    obtain rfl : pc' = pc + 2 := g1
    exact ⟨by omega, fk_nb c4.1, fk_get4 g2 (fk_nb c4.2) h4⟩
  case iinc => cases c4
  case invokevirtual =>
    simp only [Bool.and_eq_true] at c4
    obtain rfl : L' = L := g2
    obtain rfl : pc' = pc + 3 := g1
    exact ⟨by omega, fk_nb c4.1, h4⟩
  case invokestatic =>
    simp only [Bool.and_eq_true] at c4
    obtain rfl : L' = L := g2
    obtain rfl : pc' = pc + 3 := g1
    exact ⟨by omega, fk_nb c4.1, h4⟩
  all_goals
    (simp only [Bool.and_eq_true] at c4
     obtain rfl : L' = L := g2
     have g3 := g1
     simp only [fk_nx] at g3
     subst g3
     have b1 := fx_blt c4.2
     exact ⟨by omega, fk_nb c4.1, h4⟩)
theorem fk_fc {pc mj : Nat} {L st as rest : List fx_V} {σ : fx_S} (h : fx_step (fx_code 293) fx_rk pc L st σ = some (.inr (.inr (mj, as, rest)))) (h1 : 33 ≤ pc) (h2 : pc ≠ 2734) (h3 : pc ≠ 2737) : pc + 3 ≠ 2737 ∧ pc < 2740 := by
  obtain ⟨len, ins, q, sw, c1, c2, -, -, -, -, c3⟩ := fx_ent2 (by decide) h
  have c4 := List.all_eq_true.mp fk_ckA _ c1
  rw [c2] at c4
  have e1 : Nat.blt pc 33 = false := fx_bltF h1
  have e2 : Nat.beq pc 2734 = false := fx_bF h2
  have e3 : Nat.beq pc 2737 = false := fx_bF h3
  unfold fk_ck at c4
  simp only [e1, e2, e3, Bool.false_or] at c4
  rcases fx_exe_out c3 with ⟨rfl, x, rfl, hb, hz⟩ | ⟨rfl, rfl, hz⟩ | ⟨rfl, K, x, rfl, h9, hz⟩ | ⟨⟨i, rfl⟩, rfl, hz⟩ | ⟨⟨i, rfl⟩, -, -, -, -, -, hz⟩ | ⟨⟨i, rfl⟩, -, -, -, -, hz⟩
  · cases hz
  · cases hz
  · cases hz
  · cases hz
  · simp only [Bool.and_eq_true] at c4
    exact ⟨fk_nb c4.1, fx_blt c4.2⟩
  · simp only [Bool.and_eq_true] at c4
    exact ⟨fk_nb c4.1, fx_blt c4.2⟩
