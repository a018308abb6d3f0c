def fx_oT (r : Option fx_R) : Prop := ∀ z, r ≠ some (.inr z)
theorem fx_oT_go {pc : Nat} {L st : List fx_V} {σ : fx_S} : fx_oT (fx_go pc L st σ) := fun z h => by cases h
theorem fx_oT_no : fx_oT none := fun z h => by cases h
theorem fx_oT_p1 {st : List fx_V} {f : Int → List fx_V → Option fx_R} (h : ∀ x st, fx_oT (f x st)) : fx_oT (fx_p1 st f) := fun z e => by
  obtain ⟨x, st', -, e⟩ := fx_p1_inv e
  exact h _ _ z e
theorem fx_oT_pl {st : List fx_V} {f : Int → List fx_V → Option fx_R} (h : ∀ x st, fx_oT (f x st)) : fx_oT (fx_pl st f) := fun z e => by
  obtain ⟨x, st', -, e⟩ := fx_pl_inv e
  exact h _ _ z e
theorem fx_oT_p2 {st : List fx_V} {f : Int → Int → List fx_V → Option fx_R} (h : ∀ x y st, fx_oT (f x y st)) : fx_oT (fx_p2 st f) := fun z e => by
  obtain ⟨x, y, st', -, e⟩ := fx_p2_inv e
  exact h _ _ _ z e
theorem fx_oT_po {st : List fx_V} {f : Nat → Int → List fx_V → Option fx_R} (h : ∀ K x st, fx_oT (f K x st)) : fx_oT (fx_po st f) := fun z e => by
  obtain ⟨K, x, st', -, e⟩ := fx_po_inv e
  exact h _ _ _ z e
theorem fx_oT_num {v : fx_V} {f : Int → Option fx_R} (h : ∀ x, fx_oT (f x)) : fx_oT (fx_num v f) := fun z e => by
  obtain ⟨x, -, e⟩ := fx_num_inv e
  exact h _ z e
theorem fx_oT_cond {b : Bool} {r t : Option fx_R} (h : fx_oT r) (g : fx_oT t) : fx_oT (cond b r t) := by
  cases b
  · exact g
  · exact h
theorem fx_oT_ite {c : Prop} [Decidable c] {r t : Option fx_R} (h : fx_oT r) (g : fx_oT t) : fx_oT (if c then r else t) := by
  by_cases hc : c
  · rw [if_pos hc]; exact h
  · rw [if_neg hc]; exact g
theorem fx_oT_arr {f K : Nat} {j : Int} {r : Option fx_R} (h : fx_oT r) : fx_oT (fx_arr f K j r) := fun z e => by
  obtain ⟨-, -, e⟩ := fx_arr_inv e
  exact h z e
theorem fx_oT_bit {v : Int} {r : Option fx_R} (h : fx_oT r) : fx_oT (fx_bit v r) := fun z e => by
  obtain ⟨-, e⟩ := fx_ite_inv e
  exact h z e
theorem fx_oT_br {c : ClassFile.Cond} {x y : Int} {r t : Option fx_R} (h : fx_oT r) (g : fx_oT t) : fx_oT (fx_br c x y r t) := fx_br_inv h g
theorem fx_oT_ld {k i pc : Nat} {L st : List fx_V} {σ : fx_S} : fx_oT (fx_load k i pc L st σ) := fun z e => by
  obtain ⟨K, x, -, -, e⟩ := fx_load_inv e
  cases e
/-- what a step that isn't a step on comes from -/
theorem fx_exe_out {ins : Instr} {q : fx_Q} {sw : List (Int × Nat)} {rk : Nat → Nat × Nat} {pc : Nat} {L st : List fx_V} {σ : fx_S} {z : fx_V ⊕ (Nat × List fx_V × List fx_V)} (h : fx_exe ins q sw rk pc L st σ = some (.inr z)) :
    (ins = .ireturn ∧ ∃ x, st = [(0, x)] ∧ (Nat.beq q.1 0 = true ∨ x = 0 ∨ x = 1) ∧ z = .inl (0, x)) ∨ (ins = .return_ ∧ st = [] ∧ z = .inl (4, 0)) ∨ (ins = .areturn ∧ ∃ K x, st = [(K, x)] ∧ 9 < K ∧ z = .inl (K, x)) ∨ ((∃ i, ins = .new i) ∧ st = [] ∧ z = .inl (5, q.2.2.2.1)) ∨
    ((∃ i, ins = .invokevirtual i) ∧ 0 < (rk q.1).1 ∧ (fx_nth (st.take (rk q.1).2).reverse 0 (3, 0)).1 = (rk q.1).1 ∧ (rk q.1).2 ≤ st.length ∧ (st.drop (rk q.1).2).length ≤ 8 ∧ (∀ v ∈ st, v.1 ≠ 1) ∧ z = .inr (q.1, (st.take (rk q.1).2).reverse, st.drop (rk q.1).2)) ∨
    ((∃ i, ins = .invokestatic i) ∧ (rk q.1).1 = 0 ∧ (rk q.1).2 ≤ st.length ∧ (st.drop (rk q.1).2).length ≤ 8 ∧ (∀ v ∈ st, v.1 ≠ 1) ∧ z = .inr (q.1, (st.take (rk q.1).2).reverse, st.drop (rk q.1).2)) := by
  unfold fx_exe at h
  split at h
  case h_45 =>
    left
    obtain ⟨x, st', rfl, h1⟩ := fx_p1_inv h
    obtain ⟨rfl, h2⟩ := fx_end_inv h1
    refine ⟨rfl, x, rfl, ?_⟩
    cases hq : Nat.beq q.1 0 with
    | true => rw [hq] at h2; cases h2; exact ⟨Or.inl rfl, rfl⟩
    | false =>
      rw [hq] at h2
      obtain ⟨h3, h4⟩ := fx_ite_inv h2
      cases h4
      exact ⟨Or.inr h3, rfl⟩
  case h_46 =>
    right; left
    obtain ⟨rfl, h2⟩ := fx_end_inv h
    cases h2
    exact ⟨rfl, rfl, rfl⟩
  case h_47 =>
    right; right; left
    obtain ⟨K, x, st', rfl, h1⟩ := fx_po_inv h
    obtain ⟨rfl, h2⟩ := fx_end_inv h1
    obtain ⟨h3, h4⟩ := fx_cond_inv h2
    cases h4
    exact ⟨rfl, K, x, rfl, fx_blt h3, rfl⟩
  case h_48 =>
    right; right; right; left
    obtain ⟨rfl, h2⟩ := fx_end_inv h
    cases h2
    exact ⟨⟨_, rfl⟩, rfl, rfl⟩
  case h_49 =>
    right; right; right; right; left
    obtain ⟨h1, h2⟩ := fx_cond_inv h
    simp only [Bool.and_eq_true] at h1
    obtain ⟨a1, a2, a3, a4⟩ := fx_inv_inv h2
    cases a4
    exact ⟨⟨_, rfl⟩, fx_blt h1.1, fx_beq h1.2, a1, a2, a3, rfl⟩
  case h_50 =>
    right; right; right; right; right
    obtain ⟨h1, h2⟩ := fx_cond_inv h
    obtain ⟨a1, a2, a3, a4⟩ := fx_inv_inv h2
    cases a4
    exact ⟨⟨_, rfl⟩, (fx_beq h1).symm, a1, a2, a3, rfl⟩
  all_goals
    exfalso
    revert h
    refine fun h => ?_
    first
      | exact fx_oT_go z h
      | exact fx_oT_ld z h
      | exact fx_oT_no z h
      | exact fx_oT_p1 (fun _ _ => fx_oT_go) z h
      | exact fx_oT_po (fun _ _ _ => fx_oT_cond fx_oT_go fx_oT_no) z h
      | exact fx_oT_po (fun _ _ _ => fx_oT_cond fx_oT_no fx_oT_go) z h
      | exact fx_oT_po (fun _ _ _ => fx_oT_po fun _ _ _ => fx_oT_cond fx_oT_no fx_oT_go) z h
      | exact fx_oT_num (fun _ => fx_oT_go) z h
      | exact fx_oT_p2 (fun _ _ _ => fx_oT_go) z h
      | exact fx_oT_p2 (fun _ _ _ => fx_oT_ite fx_oT_no fx_oT_go) z h
      | exact fx_oT_pl (fun _ _ => fx_oT_pl fun _ _ => fx_oT_go) z h
      | exact fx_oT_p1 (fun _ _ => fx_oT_po fun _ _ _ => fx_oT_arr fx_oT_go) z h
      | exact fx_oT_pl (fun _ _ => fx_oT_p1 fun _ _ => fx_oT_po fun _ _ _ => fx_oT_arr fx_oT_go) z h
      | exact fx_oT_po (fun _ _ _ => fx_oT_cond (fx_oT_cond fx_oT_go fx_oT_go) fx_oT_no) z h
      | exact fx_oT_p1 (fun _ _ => fx_oT_po fun _ _ _ => fx_oT_cond (fx_oT_cond fx_oT_go (fx_oT_bit fx_oT_go)) fx_oT_no) z h
      | exact fx_oT_p1 (fun _ _ => fx_oT_po fun _ _ _ => fx_oT_cond (fx_oT_ite fx_oT_go fx_oT_no) (fx_oT_arr fx_oT_go)) z h
      | exact fx_oT_p1 (fun _ _ => fx_oT_po fun _ _ _ => fx_oT_cond (fx_oT_ite fx_oT_go fx_oT_no) fx_oT_no) z h
      | exact fx_oT_p2 (fun _ _ _ => fx_oT_po fun _ _ _ => fx_oT_arr fx_oT_go) z h
      | exact fx_oT_p2 (fun _ _ _ => fx_oT_po fun _ _ _ => fx_oT_arr (fx_oT_bit fx_oT_go)) z h
      | exact fx_oT_po (fun _ _ _ => fx_oT_cond fx_oT_go (fx_oT_cond fx_oT_go fx_oT_no)) z h
      | exact fx_oT_p1 (fun _ _ => fx_oT_br fx_oT_go fx_oT_go) z h
      | exact fx_oT_p2 (fun _ _ _ => fx_oT_br fx_oT_go fx_oT_go) z h
theorem fx_ent2 {mi pc : Nat} {L st : List fx_V} {σ : fx_S} {R : fx_R} (hm : mi < 294) (h : fx_step (fx_code mi) fx_rk pc L st σ = some R) : ∃ len ins q sw, fx_at (fx_code mi) pc ∈ fx_code mi ∧ fx_at (fx_code mi) pc = (pc, len, ins, q, sw) ∧ fx_ckI mi pc q sw ins = true ∧ (fx_isw ins || Nat.beq len (fx_il ins)) = true ∧ decode (fx_m mi).2.1 pc = .ok (ins, len) ∧ fx_dcN (fx_m mi).2.1 pc q ins = true ∧ fx_exe ins q sw fx_rk pc L st σ = some R := by
  rcases fx_at_in (c := fx_code mi) (pc := pc) with ⟨h1, h2⟩ | h1
  · have c1 := List.all_eq_true.mp (fx_ckAll mi hm) _ h1
    have c2 := List.all_eq_true.mp (fx_dcAll mi hm) _ h1
    unfold fx_step at h
    generalize fx_at (fx_code mi) pc = ee at *
    obtain ⟨pc', len, ins, q, sw⟩ := ee
    simp only at h2
    subst h2
    simp only [fx_ckE, Bool.and_eq_true] at c1
    simp only [fx_dcE, Bool.and_eq_true, decide_eq_true_eq] at c2
    exact ⟨len, ins, q, sw, h1, rfl, c1.1, c1.2, c2.1, c2.2, h⟩
  · unfold fx_step at h
    rw [h1] at h
    simp only [fx_exe] at h
    cases h
