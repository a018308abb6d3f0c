theorem fx_p1_inv {st : List fx_V} {f : Int → List fx_V → Option fx_R} {R : fx_R} (h : fx_p1 st f = some R) : ∃ x st', st = (0, x) :: st' ∧ f x st' = some R := by
  unfold fx_p1 at h
  split at h
  · exact ⟨_, _, rfl, h⟩
  · cases h
theorem fx_pl_inv {st : List fx_V} {f : Int → List fx_V → Option fx_R} {R : fx_R} (h : fx_pl st f = some R) : ∃ x st', st = (1, x) :: st' ∧ f x st' = some R := by
  unfold fx_pl at h
  split at h
  · exact ⟨_, _, rfl, h⟩
  · cases h
theorem fx_p2_inv {st : List fx_V} {f : Int → Int → List fx_V → Option fx_R} {R : fx_R} (h : fx_p2 st f = some R) : ∃ x y st', st = (0, y) :: (0, x) :: st' ∧ f x y st' = some R := by
  unfold fx_p2 at h
  split at h
  · exact ⟨_, _, _, rfl, h⟩
  · cases h
theorem fx_po_inv {st : List fx_V} {f : Nat → Int → List fx_V → Option fx_R} {R : fx_R} (h : fx_po st f = some R) : ∃ K x st', st = (K, x) :: st' ∧ f K x st' = some R := by
  unfold fx_po at h
  split at h
  · exact ⟨_, _, _, rfl, h⟩
  · cases h
theorem fx_num_inv {v : fx_V} {f : Int → Option fx_R} {R : fx_R} (h : fx_num v f = some R) : ∃ x, v = (0, x) ∧ f x = some R := by
  unfold fx_num at h
  split at h
  · exact ⟨_, rfl, h⟩
  · cases h
theorem fx_end_inv {st : List fx_V} {r : Option fx_R} {R : fx_R} (h : fx_end st r = some R) : st = [] ∧ r = some R := by
  unfold fx_end at h
  split at h
  · exact ⟨rfl, h⟩
  · cases h
theorem fx_cond_inv {b : Bool} {a : Option fx_R} {R : fx_R} (h : cond b a none = some R) : b = true ∧ a = some R := by
  cases b with
  | true => exact ⟨rfl, h⟩
  | false => cases h
theorem fx_conn_inv {b : Bool} {a : Option fx_R} {R : fx_R} (h : cond b none a = some R) : b = false ∧ a = some R := by
  cases b with
  | true => cases h
  | false => exact ⟨rfl, h⟩
theorem fx_ite_inv {c : Prop} [Decidable c] {a : Option fx_R} {R : fx_R} (h : (if c then a else none) = some R) : c ∧ a = some R := by
  by_cases hc : c
  · rw [if_pos hc] at h; exact ⟨hc, h⟩
  · rw [if_neg hc] at h; cases h
theorem fx_itn_inv {c : Prop} [Decidable c] {a : Option fx_R} {R : fx_R} (h : (if c then none else a) = some R) : ¬ c ∧ a = some R := by
  by_cases hc : c
  · rw [if_pos hc] at h; cases h
  · rw [if_neg hc] at h; exact ⟨hc, h⟩
theorem fx_arr_inv {f K : Nat} {j : Int} {a : Option fx_R} {R : fx_R} (h : fx_arr f K j a = some R) : fx_form K = f ∧ (0 ≤ j ∧ j < fx_len K) ∧ a = some R := by
  obtain ⟨h1, h2⟩ := fx_cond_inv h
  obtain ⟨h3, h4⟩ := fx_ite_inv h2
  exact ⟨fx_beq h1, h3, h4⟩
theorem fx_go_inv {pc : Nat} {L st : List fx_V} {σ : fx_S} {R : fx_R} (h : fx_go pc L st σ = some R) : R = .inl (pc, L, st, σ) := (Option.some.inj h).symm
theorem fx_load_inv {k i pc : Nat} {L st : List fx_V} {σ : fx_S} {R : fx_R} (h : fx_load k i pc L st σ = some R) : ∃ K x, fx_nth L i (3, 0) = (K, x) ∧ ((K = 0 ∧ k = 0) ∨ (9 ≤ K ∧ k = 1)) ∧ R = .inl (pc, L, (K, x) :: st, σ) := by
  unfold fx_load at h
  split at h
  · next x e =>
    obtain ⟨h1, h2⟩ := fx_cond_inv h
    exact ⟨0, x, e, Or.inl ⟨rfl, fx_beq h1⟩, fx_go_inv h2⟩
  · next K x _ e =>
    obtain ⟨h1, h2⟩ := fx_cond_inv h
    simp only [Bool.and_eq_true] at h1
    exact ⟨K, x, e, Or.inr ⟨fx_blt h1.1, fx_beq h1.2⟩, fx_go_inv h2⟩
theorem fx_inv_inv {mj n : Nat} {st : List fx_V} {R : fx_R} (h : fx_inv mj n st = some R) : n ≤ st.length ∧ (st.drop n).length ≤ 8 ∧ (∀ v ∈ st, v.1 ≠ 1) ∧ R = .inr (.inr (mj, (st.take n).reverse, st.drop n)) := by
  obtain ⟨h1, h2⟩ := fx_cond_inv h
  simp only [Bool.and_eq_true, List.all_eq_true] at h1
  refine ⟨Nat.le_of_ble_eq_true h1.1.1, Nat.le_of_ble_eq_true h1.1.2, fun v hv e => ?_, (Option.some.inj h2).symm⟩
  have h3 := h1.2 v hv
  rw [fx_bT e] at h3
  cases h3
theorem fx_br_inv {α : Type} {c : ClassFile.Cond} {x y : Int} {a b : α} {P : α → Prop} (ha : P a) (hb : P b) : P (fx_br c x y a b) := by
  unfold fx_br
  split <;> split <;> assumption
/-- what a step's outcome keeps -/
def fx_okR (σ : fx_S) : fx_R → Prop
  | .inl T => fx_oL T.2.1 ∧ fx_oS T.2.2.1 ∧ fx_rgS T.2.2.2 ∧ T.2.2.2 9 = σ 9
  | .inr (.inl v) => v.1 = 4 ∨ (v.1 = 5 ∧ 0 ≤ v.2 ∧ v.2 < 4) ∨ (v.1 ≠ 1 ∧ fx_o1 v)
  | .inr (.inr c) => (c.1 < 293 ∨ c.1 = 500 ∨ c.1 = 501) ∧ fx_oS c.2.1 ∧ (∀ v ∈ c.2.1, v.1 ≠ 1) ∧ fx_oS c.2.2
theorem fx_okgo {σ σ' : fx_S} {pc : Nat} {L st : List fx_V} {R : fx_R} (h : fx_go pc L st σ' = some R) (h1 : fx_oL L) (h2 : fx_oS st) (h3 : fx_rgS σ') (h4 : σ' 9 = σ 9) : fx_okR σ R := by
  rw [fx_go_inv h]
  exact ⟨h1, h2, h3, h4⟩
theorem fx_rgbI {x : Int} (h : fx_rgb x = true) : fx_rg x := by
  unfold fx_rgb at h
  simp only [Bool.and_eq_true, decide_eq_true_eq] at h
  exact h
theorem fx_up9 {σ : fx_S} {K : Nat} (h : K ≠ 9) (i j v : Int) : fx_up σ K i j v 9 = σ 9 := by
  funext i' j'
  unfold fx_up
  rw [if_neg fun q => h q.1.symm]
theorem fx_form9 {K f : Nat} (h : fx_form K = f) (hf : f ≠ 8) : K ≠ 9 := by
  intro e
  subst e
  exact hf h.symm
theorem fx_oS_tail {v : fx_V} {l : List fx_V} (h : fx_oS (v :: l)) : fx_oS l := (fx_oS_cons.mp h).2
theorem fx_oS_head {v : fx_V} {l : List fx_V} (h : fx_oS (v :: l)) : fx_o1 v := (fx_oS_cons.mp h).1
theorem fx_oS_push {v : fx_V} {l : List fx_V} (h : fx_oS l) (hv : fx_o1 v) : fx_oS (v :: l) := fx_oS_cons.mpr ⟨hv, h⟩
theorem fx_ths_ok : ∀ q ∈ fx_ths, q.2.2.2.2.1 < 4 := by decide +kernel
set_option maxHeartbeats 4000000 in
theorem fx_exe_ok {mi pc : Nat} {ins : Instr} {q : fx_Q} {sw : List (Int × Nat)} {rk : Nat → Nat × Nat} {L st : List fx_V} {σ : fx_S} {R : fx_R} (hck : fx_ckI mi pc q sw ins = true) (hL : fx_oL L) (hS : fx_oS st) (hσ : fx_rgS σ) (h : fx_exe ins q sw rk pc L st σ = some R) : fx_okR σ R := by
  have hld : ∀ {k i pc' : Nat}, fx_load k i pc' L st σ = some R → fx_okR σ R := by
    clear h
    intro k i pc' h
    obtain ⟨K, x, e, hK, rfl⟩ := fx_load_inv h
    exact ⟨hL, fx_oS_push hS (fx_oL_nth hL e (by simp only; omega)), hσ, rfl⟩
  have hp2 : ∀ {f : Int → Int → Int} {pc' : Nat}, (∀ x y, fx_rg (f x y)) → (fx_p2 st fun x y st => fx_go pc' L ((0, f x y) :: st) σ) = some R → fx_okR σ R := by
    clear h
    intro f pc' hf h
    have h0 := fx_p2_inv h
    clear h
    obtain ⟨x, y, st', rfl, h⟩ := h0
    exact fx_okgo h hL (fx_oS_push (fx_oS_tail (fx_oS_tail hS)) (fx_o1_of (hf x y))) hσ rfl
  have hst : ∀ {k pc' : Nat}, (fx_p1 st fun x st => fx_go pc' (L.set k (0, x)) st σ) = some R → fx_okR σ R := by
    clear h
    intro k pc' h
    have h0 := fx_p1_inv h
    clear h
    obtain ⟨x, st', rfl, h⟩ := h0
    exact fx_okgo h (fx_oL_set hL k (by simp) (fx_oS_head hS)) (fx_oS_tail hS) hσ rfl
  have hat : ∀ {k pc' : Nat}, (fx_po st fun K x st => cond (Nat.blt 8 K) (fx_go pc' (L.set k (K, x)) st σ) none) = some R → fx_okR σ R := by
    clear h
    intro k pc' h
    have h0 := fx_po_inv h
    clear h
    obtain ⟨K, x, st', rfl, h⟩ := h0
    have h0 := fx_cond_inv h
    clear h
    obtain ⟨h1, h⟩ := h0
    have h1 := fx_blt h1
    exact fx_okgo h (fx_oL_set hL k (by simp only; omega) (fx_oS_head hS)) (fx_oS_tail hS) hσ rfl
  have hinv : ∀ {mj n : Nat}, (mj < 293 ∨ mj = 500 ∨ mj = 501) → fx_inv mj n st = some R → fx_okR σ R := by
    clear h
    intro mj n h0 h
    obtain ⟨h1, h2, h3, rfl⟩ := fx_inv_inv h
    refine ⟨h0, fun v hv => hS v (List.mem_of_mem_take (List.mem_reverse.mp hv)), fun v hv => h3 v (List.mem_of_mem_take (List.mem_reverse.mp hv)), fun v hv => hS v (List.mem_of_mem_drop hv)⟩
  have hcon : ∀ {pc' : Nat}, fx_rgb q.2.2.2.1 = true → fx_go pc' L ((0, q.2.2.2.1) :: st) σ = some R → fx_okR σ R := fun h1 h => fx_okgo h hL (fx_oS_push hS (fx_o1_of (fx_rgbI h1))) hσ rfl
  have htx : ∀ {pc' : Nat}, q.1 = 62 → 0 ≤ q.2.2.2.1 → q.2.2.2.1 < 17 → fx_go pc' L ((q.1, q.2.2.2.1) :: st) σ = some R → fx_okR σ R := fun h0 h1 h2 h => fx_okgo h hL (fx_oS_push hS (by rw [h0]; exact fx_o1_ofK h1 h2)) hσ rfl
  unfold fx_exe at h
  split at h
  · simp only [fx_ckI, Bool.and_eq_true] at hck
    exact hcon hck.2 h
  · next n =>
    simp only [fx_ckI, decide_eq_true_eq] at hck
    have h2 := n.isLt
    exact fx_okgo h hL (fx_oS_push hS (fx_o1_of1 (by rw [← hck]; exact ⟨by omega, by omega⟩))) hσ rfl
  · have h0 := fx_p1_inv h
    clear h
    obtain ⟨x, st', rfl, h⟩ := h0
    exact fx_okgo h hL (fx_oS_push (fx_oS_tail hS) (fx_o1_of1 (fx_o1_num (fx_oS_head hS)))) hσ rfl
  · have h0 := fx_pl_inv h
    clear h
    obtain ⟨y, st', rfl, h⟩ := h0
    have h0 := fx_pl_inv h
    clear h
    obtain ⟨x, st'', rfl, h⟩ := h0
    exact fx_okgo h hL (fx_oS_push (fx_oS_tail (fx_oS_tail hS)) (fx_o1_of (by unfold fx_cmp; split <;> (try split) <;> exact ⟨by omega, by omega⟩))) hσ rfl
  · have h0 := fx_p1_inv h
    clear h
    obtain ⟨j, st', rfl, h⟩ := h0
    have h0 := fx_po_inv h
    clear h
    obtain ⟨K, i, st'', rfl, h⟩ := h0
    have h0 := fx_arr_inv h
    clear h
    obtain ⟨h1, h2, h⟩ := h0
    exact fx_okgo h hL (fx_oS_push (fx_oS_tail (fx_oS_tail hS)) (fx_o1_of1 (hσ K i j))) hσ rfl
  · have h0 := fx_pl_inv h
    clear h
    obtain ⟨v, st', rfl, h⟩ := h0
    have h0 := fx_p1_inv h
    clear h
    obtain ⟨j, st', rfl, h⟩ := h0
    have h0 := fx_po_inv h
    clear h
    obtain ⟨K, i, st'', rfl, h⟩ := h0
    have h0 := fx_arr_inv h
    clear h
    obtain ⟨h1, h2, h⟩ := h0
    exact fx_okgo h hL (fx_oS_tail (fx_oS_tail (fx_oS_tail hS))) (fx_rgS_up hσ K i j (fx_o1_lng (fx_oS_head hS))) (fx_up9 (fx_form9 h1 (by decide)) _ _ _)
  · simp only [fx_ckI, Bool.and_eq_true] at hck
    exact hcon hck.2 h
  · simp only [fx_ckI, Bool.and_eq_true] at hck
    exact hcon hck.2 h
  · simp only [fx_ckI, Bool.and_eq_true, decide_eq_true_eq] at hck
    exact htx (fx_beq hck.1.1.1) hck.1.1.2 hck.1.2 h
  · simp only [fx_ckI, Bool.and_eq_true, decide_eq_true_eq] at hck
    exact htx (fx_beq hck.1.1.1) hck.1.1.2 hck.1.2 h
  · exact hld h
  · exact hld h
  · exact hld h
  · exact hld h
  · exact hst h
  · exact hst h
  · exact hat h
  · exact hat h
  · next i n =>
    have h0 := fx_num_inv h
    clear h
    obtain ⟨x, e, h⟩ := h0
    exact fx_okgo h (fx_oL_set hL i (by simp) (fx_o1_of (fx_rgI _))) hS hσ rfl
  · exact hp2 (fun x y => fx_rgI _) h
  · exact hp2 (fun x y => fx_rgI _) h
  · exact hp2 (fun x y => fx_rgI _) h
  · have h0 := fx_p2_inv h
    clear h
    obtain ⟨x, y, st', rfl, h⟩ := h0
    have h0 := fx_itn_inv h
    clear h
    obtain ⟨-, h⟩ := h0
    exact fx_okgo h hL (fx_oS_push (fx_oS_tail (fx_oS_tail hS)) (fx_o1_of (fx_rgI _))) hσ rfl
  · have h0 := fx_p2_inv h
    clear h
    obtain ⟨x, y, st', rfl, h⟩ := h0
    have h0 := fx_itn_inv h
    clear h
    obtain ⟨-, h⟩ := h0
    exact fx_okgo h hL (fx_oS_push (fx_oS_tail (fx_oS_tail hS)) (fx_o1_of (fx_rgI _))) hσ rfl
  · exact hp2 (fun x y => fx_rgI _) h
  · exact hp2 (fun x y => fx_rgI _) h
  · exact hp2 (fun x y => fx_rgI _) h
  · exact hp2 (fun x y => fx_rgI _) h
  · have h0 := fx_po_inv h
    clear h
    obtain ⟨K, x, st', rfl, h⟩ := h0
    have h0 := fx_conn_inv h
    clear h
    obtain ⟨-, h⟩ := h0
    exact fx_okgo h hL (fx_oS_push hS (fx_oS_head hS)) hσ rfl
  · have h0 := fx_po_inv h
    clear h
    obtain ⟨K, x, st', rfl, h⟩ := h0
    have h0 := fx_po_inv h
    clear h
    obtain ⟨K', x', st'', rfl, h⟩ := h0
    have h0 := fx_conn_inv h
    clear h
    obtain ⟨-, h⟩ := h0
    exact fx_okgo h hL (fx_oS_push (fx_oS_push hS (fx_oS_head (fx_oS_tail hS))) (fx_oS_head hS)) hσ rfl
  · have h0 := fx_po_inv h
    clear h
    obtain ⟨K, x, st', rfl, h⟩ := h0
    have h0 := fx_conn_inv h
    clear h
    obtain ⟨-, h⟩ := h0
    exact fx_okgo h hL (fx_oS_tail hS) hσ rfl
  · simp only [fx_ckI, Bool.and_eq_true, decide_eq_true_eq] at hck
    obtain ⟨⟨⟨c1, c2⟩, c3⟩, c4⟩ := hck
    have h0 := fx_po_inv h
    clear h
    obtain ⟨K, i, st', rfl, h⟩ := h0
    have h0 := fx_cond_inv h
    clear h
    obtain ⟨h1, h⟩ := h0
    have h1 := fx_beq h1
    subst h1
    by_cases e : q.1 = 0
    · rw [fx_bT e] at h
      exact fx_okgo h hL (fx_oS_push (fx_oS_tail hS) (fx_o1_of (hσ _ _ _))) hσ rfl
    · rw [fx_bF e] at h c4
      have h5 := fx_beq c1
      have h6 : 2 ≤ q.2.1 := by
        refine Nat.not_lt.mp fun z => ?_
        have h7 := fx_oS_head hS
        rcases fx_o1_cases h7 with h8 | h8
        · rcases h8.1 with h9 | h9 <;> (rw [h9] at h5; exact absurd h5 (by decide))
        · omega
      obtain ⟨g1, g2, g3, g4⟩ := fx_o1_ref (fx_oS_head hS) h6
      have h8 := fx_fl_ok (K := q.2.1) (p := q.2.2.1) g2 h5 (fx_blt c3) (by rw [c4]; exact e) g3 g4
      rw [c4] at h8
      exact fx_okgo h hL (fx_oS_push (fx_oS_tail hS) (fx_o1_ofK h8.1 h8.2)) hσ rfl
  · simp only [fx_ckI, Bool.and_eq_true, decide_eq_true_eq] at hck
    have hK9 : q.2.1 ≠ 9 := fx_form9 (fx_beq hck.1.1.1.1) (by decide)
    have h0 := fx_p1_inv h
    clear h
    obtain ⟨v, st', rfl, h⟩ := h0
    have h0 := fx_po_inv h
    clear h
    obtain ⟨K, i, st'', rfl, h⟩ := h0
    have h0 := fx_cond_inv h
    clear h
    obtain ⟨h1, h⟩ := h0
    have hv := fx_o1_num (fx_oS_head hS)
    by_cases e : q.1 = 0
    · rw [fx_bT e] at h
      exact fx_okgo h hL (fx_oS_tail (fx_oS_tail hS)) (fx_rgS_up hσ _ _ _ hv) (fx_up9 hK9 _ _ _)
    · rw [fx_bF e] at h
      have h0 := fx_ite_inv h
      clear h
      obtain ⟨-, h⟩ := h0
      exact fx_okgo h hL (fx_oS_tail (fx_oS_tail hS)) (fx_rgS_up hσ _ _ _ hv) (fx_up9 hK9 _ _ _)
  · have h0 := fx_p1_inv h
    clear h
    obtain ⟨j, st', rfl, h⟩ := h0
    have h0 := fx_po_inv h
    clear h
    obtain ⟨K, i, st'', rfl, h⟩ := h0
    by_cases e : K = 9
    · rw [fx_bT e] at h
      have h0 := fx_ite_inv h
      clear h
      obtain ⟨-, h⟩ := h0
      exact fx_okgo h hL (fx_oS_push (fx_oS_tail (fx_oS_tail hS)) (fx_o1_of (hσ _ _ _))) hσ rfl
    · rw [fx_bF e] at h
      have h0 := fx_arr_inv h
      clear h
      obtain ⟨h1, h2, h⟩ := h0
      exact fx_okgo h hL (fx_oS_push (fx_oS_tail (fx_oS_tail hS)) (fx_o1_of (hσ _ _ _))) hσ rfl
  · have h0 := fx_p1_inv h
    clear h
    obtain ⟨j, st', rfl, h⟩ := h0
    have h0 := fx_po_inv h
    clear h
    obtain ⟨K, i, st'', rfl, h⟩ := h0
    have h0 := fx_arr_inv h
    clear h
    obtain ⟨h1, h2, h⟩ := h0
    exact fx_okgo h hL (fx_oS_push (fx_oS_tail (fx_oS_tail hS)) (fx_o1_of (hσ _ _ _))) hσ rfl
  · have h0 := fx_p1_inv h
    clear h
    obtain ⟨j, st', rfl, h⟩ := h0
    have h0 := fx_po_inv h
    clear h
    obtain ⟨K, i, st'', rfl, h⟩ := h0
    have h0 := fx_cond_inv h
    clear h
    obtain ⟨h1, h⟩ := h0
    simp only [Bool.and_eq_true] at h1
    have f1 := fx_blt h1.1
    have f2 := fx_blt h1.2
    have h0 := fx_ite_inv h
    clear h
    obtain ⟨h2, h⟩ := h0
    have h6 : 2 ≤ K := by
      refine Nat.not_lt.mp fun z => ?_
      rcases fx_o1_cases (fx_oS_head (fx_oS_tail hS)) with h8 | h8
      · rcases h8.1 with h9 | h9 <;> (rw [h9] at f2; exact absurd f2 (by decide))
      · omega
    obtain ⟨g1, g2, g3, g4⟩ := fx_o1_ref (fx_oS_head (fx_oS_tail hS)) h6
    have h8 := fx_el_ok (K := K) g2 f1 f2 g3 g4 h2.1 h2.2
    exact fx_okgo h hL (fx_oS_push (fx_oS_tail (fx_oS_tail hS)) (fx_o1_ofK h8.1 h8.2)) hσ rfl
  · have h0 := fx_p2_inv h
    clear h
    obtain ⟨j, v, st', rfl, h⟩ := h0
    have h0 := fx_po_inv h
    clear h
    obtain ⟨K, i, st'', rfl, h⟩ := h0
    have h0 := fx_arr_inv h
    clear h
    obtain ⟨h1, h2, h⟩ := h0
    exact fx_okgo h hL (fx_oS_tail (fx_oS_tail (fx_oS_tail hS))) (fx_rgS_up hσ _ _ _ (fx_o1_num (fx_oS_head hS))) (fx_up9 (fx_form9 h1 (by decide)) _ _ _)
  · have h0 := fx_p2_inv h
    clear h
    obtain ⟨j, v, st', rfl, h⟩ := h0
    have h0 := fx_po_inv h
    clear h
    obtain ⟨K, i, st'', rfl, h⟩ := h0
    have h0 := fx_arr_inv h
    clear h
    obtain ⟨h1, h2, h⟩ := h0
    have h0 := fx_ite_inv h
    clear h
    obtain ⟨-, h⟩ := h0
    exact fx_okgo h hL (fx_oS_tail (fx_oS_tail (fx_oS_tail hS))) (fx_rgS_up hσ _ _ _ (fx_o1_num (fx_oS_head hS))) (fx_up9 (fx_form9 h1 (by decide)) _ _ _)
  · have h0 := fx_po_inv h
    clear h
    obtain ⟨K, i, st', rfl, h⟩ := h0
    by_cases e : K = 9
    · rw [fx_bT e] at h
      exact fx_okgo h hL (fx_oS_push (fx_oS_tail hS) (fx_o1_of (hσ _ _ _))) hσ rfl
    · rw [fx_bF e] at h
      have h0 := fx_cond_inv h
      clear h
      obtain ⟨h1, h⟩ := h0
      have h2 : fx_rg (fx_len K) := by
        by_cases hK : K < 63
        · have := fx_len_ok hK
          exact ⟨by unfold fx_len; omega, by unfold fx_len; omega⟩
        · unfold fx_len fx_kt
          rw [fx_nth_ge _ _ _ (by rw [fx_klen]; omega)]
          exact ⟨by simp, by simp⟩
      exact fx_okgo h hL (fx_oS_push (fx_oS_tail hS) (fx_o1_of h2)) hσ rfl
  · have h0 := fx_p1_inv h
    clear h
    obtain ⟨x, st', rfl, h⟩ := h0
    exact fx_br_inv (P := fun z => z = some R → fx_okR σ R) (fun h => fx_okgo h hL (fx_oS_tail hS) hσ rfl) (fun h => fx_okgo h hL (fx_oS_tail hS) hσ rfl) h
  · have h0 := fx_p2_inv h
    clear h
    obtain ⟨x, y, st', rfl, h⟩ := h0
    exact fx_br_inv (P := fun z => z = some R → fx_okR σ R) (fun h => fx_okgo h hL (fx_oS_tail (fx_oS_tail hS)) hσ rfl) (fun h => fx_okgo h hL (fx_oS_tail (fx_oS_tail hS)) hσ rfl) h
  · exact fx_okgo h hL hS hσ rfl
  · have h0 := fx_p1_inv h
    clear h
    obtain ⟨x, st', rfl, h⟩ := h0
    exact fx_okgo h hL (fx_oS_tail hS) hσ rfl
  · have h0 := fx_p1_inv h
    clear h
    obtain ⟨x, st', rfl, h⟩ := h0
    exact fx_okgo h hL (fx_oS_tail hS) hσ rfl
  · have h0 := fx_p1_inv h
    clear h
    obtain ⟨x, st', rfl, h⟩ := h0
    have h0 := fx_end_inv h
    clear h
    obtain ⟨-, h⟩ := h0
    have hv : fx_okR σ (.inr (.inl (0, x))) := Or.inr (Or.inr ⟨by simp, fx_oS_head hS⟩)
    cases hq : Nat.beq q.1 0 with
    | true => rw [hq] at h; cases h; exact hv
    | false =>
      rw [hq] at h
      have h0 := fx_ite_inv h
      clear h
      obtain ⟨-, h⟩ := h0
      cases h; exact hv
  · have h0 := fx_end_inv h
    clear h
    obtain ⟨-, h⟩ := h0
    cases h
    exact Or.inl rfl
  · have h0 := fx_po_inv h
    clear h
    obtain ⟨K, x, st', rfl, h⟩ := h0
    have h0 := fx_end_inv h
    clear h
    obtain ⟨-, h⟩ := h0
    have h0 := fx_cond_inv h
    clear h
    obtain ⟨h1, h⟩ := h0
    cases h
    exact Or.inr (Or.inr ⟨by have := fx_blt h1; simp only; omega, fx_oS_head hS⟩)
  · have h0 := fx_end_inv h
    clear h
    obtain ⟨-, h⟩ := h0
    cases h
    simp only [fx_ckI, Bool.and_eq_true, decide_eq_true_eq] at hck
    obtain ⟨⟨⟨-, c3⟩, -⟩, c4⟩ := hck
    have c5 := fx_ths_ok _ (fx_nth_in (l := fx_ths) (n := q.2.2.1) ("", 0, 0, 0, 0, "") (fx_blt c3))
    exact Or.inr (Or.inl ⟨rfl, by simp only; omega, by simp only; omega⟩)
  · simp only [fx_ckI, Bool.and_eq_true, Bool.or_eq_true] at hck
    have h0 := fx_cond_inv h
    clear h
    obtain ⟨-, h⟩ := h0
    refine hinv ?_ h
    rcases hck.2 with (h2 | h2) | h2
    · have := fx_blt h2; omega
    · exact Or.inr (Or.inl (fx_beq h2))
    · exact Or.inr (Or.inr (fx_beq h2))
  · simp only [fx_ckI, Bool.and_eq_true, Bool.or_eq_true] at hck
    have h0 := fx_cond_inv h
    clear h
    obtain ⟨-, h⟩ := h0
    exact hinv (Or.inl (fx_blt hck.2)) h
  · cases h
theorem fx_at_in : ∀ {c : fx_C} {pc : Nat}, fx_at c pc ∈ c ∧ (fx_at c pc).1 = pc ∨ fx_at c pc = (0, 0, .nop, (0, 0, 0, 0, 0), [])
  | [], _ => Or.inr rfl
  | e :: c, pc => by
    rw [show fx_at (e :: c) pc = cond (Nat.beq e.1 pc) e (fx_at c pc) from rfl]
    cases h : Nat.beq e.1 pc with
    | true => exact Or.inl ⟨List.mem_cons_self, fx_beq h⟩
    | false =>
      rcases fx_at_in (c := c) (pc := pc) with h1 | h1
      · exact Or.inl ⟨List.mem_cons_of_mem _ h1.1, h1.2⟩
      · exact Or.inr h1
