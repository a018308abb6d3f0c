noncomputable def fr_K (T : Int → Int) (N : Int) (i : Nat) : Int := fs_tk T N (fs_a T N i)
noncomputable def fr_V (T : Int → Int) (N : Int) (i : Nat) : Int := fs_tv T N (fs_a T N i)
/-- the class's tokens, laid -/
def fr_tk (σ : fx_S) (T : Int → Int) (N : Int) (m : Nat) : Prop := (0 ≤ N ∧ N ≤ 400) ∧ (m : Int) ≤ N ∧ fs_a T N m = N ∧ σ 28 0 5 = (m : Int) + 1 ∧ σ 28 0 4 = N ∧ ∀ j : Nat, j ≤ m → σ 31 0 j = fs_a T N j ∧ σ 30 0 j = fr_K T N j ∧ (σ 30 0 j = 1 → σ 32 0 j = fr_V T N j) ∧ (j < m → fs_a T N j < N)
theorem fr_tk.k {σ τ : fx_S} {T : Int → Int} {N : Int} {m : Nat} (h : fr_tk σ T N m) (g : ∀ K o p, (K = 28 ∧ o = 0 ∧ (p = 4 ∨ p = 5)) ∨ (30 ≤ K ∧ K ≤ 32) → τ K o p = σ K o p) : fr_tk τ T N m := by
  obtain ⟨a, b, c, d, e, f⟩ := h
  refine ⟨a, b, c, (g 28 0 5 (by omega)).trans d, (g 28 0 4 (by omega)).trans e, fun j hj => ?_⟩
  rw [g 31 0 j (by omega), g 30 0 j (by omega), g 32 0 j (by omega)]
  exact f j hj
def fr_phi : List Int → Int
  | [] => 0
  | x :: _ => if x = 4 then 0 else fs_prec x
def fr_c4 : List Int → Int
  | [] => 0
  | x :: l => (if x = 4 then 1 else 0) + fr_c4 l
def fr_oo : List Int → Prop
  | [] => True
  | x :: l => fr_oo l ∧ (x = 4 ∨ (fs_iso x = true ∧ fr_phi l < fs_prec x))
theorem fs_prec_r {x : Int} : 1 ≤ fs_prec x ∧ fs_prec x ≤ 2 := by
  unfold fs_prec
  split <;> omega
theorem fs_iso_r {x : Int} (h : fs_iso x = true) : 6 ≤ x ∧ x ≤ 12 := by
  unfold fs_iso at h
  simpa using h
theorem fr_phi_r : ∀ l : List Int, 0 ≤ fr_phi l ∧ fr_phi l ≤ 2
  | [] => ⟨by decide, by decide⟩
  | x :: l => by
    have := @fs_prec_r x
    rw [fr_phi]
    split <;> omega
theorem fr_c4_r : ∀ l : List Int, 0 ≤ fr_c4 l ∧ fr_c4 l ≤ l.length
  | [] => ⟨by decide, by decide⟩
  | x :: l => by
    have := fr_c4_r l
    rw [fr_c4]
    have e : ((x :: l).length : Int) = l.length + 1 := by simp
    split <;> omega
theorem fr_oo_l : ∀ l : List Int, fr_oo l → (l.length : Int) ≤ 3 * fr_c4 l + fr_phi l
  | [], _ => by decide
  | x :: l, h => by
    have ih := fr_oo_l l h.1
    have hp := fr_phi_r l
    have e : ((x :: l).length : Int) = l.length + 1 := by simp
    rw [e, fr_c4, fr_phi]
    rcases h.2 with h2 | ⟨h2, h3⟩
    · rw [if_pos h2, if_pos h2]; omega
    · have := fs_iso_r h2
      rw [if_neg (by omega), if_neg (by omega)]; omega
/-- what the reduce leaves -/
theorem fs_red_p {y : Int} : ∀ (ops ands : List Int) (R : fx_S), fr_oo ops → (ops.length : Int) - fr_c4 ops + 1 = ands.length → fr_oo (fs_red y ops ands R).1 ∧ fr_c4 (fs_red y ops ands R).1 = fr_c4 ops ∧ ((fs_red y ops ands R).1.length : Int) - fr_c4 ops + 1 = (fs_red y ops ands R).2.1.length ∧ (fr_phi (fs_red y ops ands R).1 < y ∨ fr_phi (fs_red y ops ands R).1 = 0) ∧ (fs_red y ops ands R).2.2 10 0 0 = R 10 0 0 ∧ (fs_red y ops ands R).1.length ≤ ops.length
  | [], ands, R, h, hl => ⟨trivial, rfl, hl, Or.inr rfl, rfl, Nat.le_refl _⟩
  | op :: ops, [], R, h, hl => by
    have e : ((op :: ops).length : Int) = ops.length + 1 := by simp
    have := fr_c4_r (op :: ops)
    rw [e] at hl this
    simp at hl
    omega
  | op :: ops, [r], R, h, hl => by
    have e : ((op :: ops).length : Int) = ops.length + 1 := by simp
    have hc := fr_c4_r ops
    have e2 : fs_red y (op :: ops) [r] R = (op :: ops, [r], R) := rfl
    rw [e2]
    refine ⟨h, rfl, hl, ?_, rfl, Nat.le_refl _⟩
    right
    rw [fr_phi]
    rw [e, fr_c4] at hl
    have e3 : (([r] : List Int).length : Int) = 1 := by simp
    rw [e3] at hl
    by_cases z : op = 4
    · rw [if_pos z]
    · rw [if_neg z] at hl; omega
  | op :: ops, r :: l :: ands, R, h, hl => by
    have e : ((op :: ops).length : Int) = ops.length + 1 := by simp
    have e4 : ((r :: l :: ands).length : Int) = ands.length + 2 := by simp; omega
    have hpr := @fs_prec_r op
    by_cases z : (fs_iso op && decide (y ≤ fs_prec op)) = true
    · have e2 : fs_red y (op :: ops) (r :: l :: ands) R = fs_red y ops (R 9 0 0 :: ands) (fs_add R op l r) := by rw [fs_red, z]; rfl
      have hz : fs_iso op = true := by
        revert z
        cases fs_iso op <;> simp
      have hi := fs_iso_r hz
      have n4 : ¬ op = 4 := by omega
      rw [e, e4, fr_c4, if_neg n4] at hl
      have e5 : ((R 9 0 0 :: ands).length : Int) = ands.length + 1 := by simp
      have ih := fs_red_p (y := y) ops (R 9 0 0 :: ands) (fs_add R op l r) h.1 (by rw [e5]; omega)
      rw [e2, fr_c4, if_neg n4, Int.zero_add]
      obtain ⟨i1, i2, i3, i4, i5, i6⟩ := ih
      refine ⟨i1, i2, i3, i4, ?_, Nat.le_succ_of_le i6⟩
      rw [i5]
      exact (fs_add_r (R := R) (k := op) (a := l) (b := r) (j := 0)).1.2
    · have e2 : fs_red y (op :: ops) (r :: l :: ands) R = (op :: ops, r :: l :: ands, R) := by rw [fs_red, if_neg z]
      rw [e2]
      refine ⟨h, rfl, hl, ?_, rfl, Nat.le_refl _⟩
      rw [fr_phi]
      rcases h.2 with h2 | ⟨h2, -⟩
      · rw [if_pos h2]; exact Or.inr rfl
      · have hi := fs_iso_r h2
        rw [if_neg (by omega)]
        left
        rw [h2] at z
        simp at z
        omega
/-- a rule's tokens -/
noncomputable def fs_pr (T : Int → Int) (N t : Int) : Nat → Bool → Nat → Int → List Int → List Int → fx_S → Bool × Nat × fx_S
  | 0, _, i, _, _, _, R => (false, i, R)
  | n + 1, true, i, d, ops, ands, R =>
    if fr_K T N i = 4 ∧ d < 4 then fs_pr T N t n true (i + 1) (d + 1) (4 :: ops) ands R
    else if R 10 0 0 = 12 then (false, i, R)
    else if fr_K T N i = 13 then (if fr_K T N (i + 1) = 1 ∧ fr_V T N (i + 1) < t then fs_pr T N t n false (i + 2) d ops (R 9 0 0 :: ands) (fs_leaf R 13 (fr_V T N (i + 1))) else (false, i + 1, R))
    else if fr_K T N i = 1 ∧ fr_V T N i < 100 then fs_pr T N t n false (i + 1) d ops (R 9 0 0 :: ands) (fs_leaf R 1 (fr_V T N i)) else (false, i, R)
  | n + 1, false, i, d, ops, ands, R =>
    if fs_iso (fr_K T N i) = true then fs_pr T N t n true (i + 1) d (fr_K T N i :: (fs_red (fs_prec (fr_K T N i)) ops ands R).1) (fs_red (fs_prec (fr_K T N i)) ops ands R).2.1 (fs_red (fs_prec (fr_K T N i)) ops ands R).2.2
    else if fr_K T N i = 5 ∧ 0 < d then fs_pr T N t n false (i + 1) (d - 1) (fs_red 0 ops ands R).1.tail (fs_red 0 ops ands R).2.1 (fs_red 0 ops ands R).2.2
    else (decide (d = 0), i, (fs_red 0 ops ands R).2.2)
section FXRM
variable {σ : fx_S} {T : Int → Int} {N t : Int} {m i : Nat}
theorem fs_sk_N : fs_rn fs_spc T N N = N := fs_rn_e (Int.le_refl _)
theorem fr_a_N (h : fs_a T N m = N) : ∀ j, m ≤ j → fs_a T N j = N := by
  intro j hj
  obtain ⟨k, rfl⟩ := Nat.exists_eq_add_of_le hj
  induction k with
  | zero => exact h
  | succ k ih =>
    have ih := ih (by omega)
    rw [show m + (k + 1) = (m + k) + 1 by omega, fs_a, ih]
    have : fs_te T N N = N := by unfold fs_te; rw [if_pos (Int.le_refl _)]
    rw [this]; exact fs_sk_N
theorem fr_K_0 (h : fs_a T N m = N) {j : Nat} (hj : m ≤ j) : fr_K T N j = 0 := by
  unfold fr_K fs_tk
  rw [fr_a_N h j hj, if_pos (Int.le_refl _)]
theorem fr_K_m (h : fr_tk σ T N m) {j : Nat} (hj : fr_K T N j ≠ 0) : j < m := by
  apply Classical.byContradiction
  intro z
  exact hj (fr_K_0 h.2.2.1 (by omega))
theorem c50 (h : fr_tk σ T N m) (hi : σ 33 0 6 = (i : Int)) : fx_Rt 50 [(33, 0)] σ (0, fr_K T N i) σ := by
  refine t50_0 ?_
  rw [hi, h.2.2.2.1]
  refine ⟨fun a => ⟨by rw [fr_K_0 h.2.2.1 (by omega)], rfl⟩, fun a => ⟨⟨by omega, by have := h.1; have := h.2.1; omega⟩, by rw [(h.2.2.2.2.2 i (by omega)).2.1], rfl⟩⟩
theorem c51 (h : fr_tk σ T N m) : fx_Rt 51 [(33, 0), (0, (i : Int))] σ (0, 0) (fx_up σ 33 0 8 (fs_a T N i)) := by
  refine t51_0 ?_
  rw [h.2.2.2.1, h.2.2.2.2.1]
  refine ⟨fun a => ⟨rfl, by rw [fr_a_N h.2.2.1 i (by omega)]⟩, fun a => ⟨⟨by omega, by have := h.1; have := h.2.1; omega⟩, rfl, by rw [(h.2.2.2.2.2 i (by omega)).1]⟩⟩
theorem c57 {k n p : Int} (hn : σ 33 0 5 = n) (h0 : 0 ≤ n) (h1 : n < 15) (hp : σ 33 0 6 = p) (hr : fx_rg (p + 1)) : fx_Rt 57 [(33, 0), (0, k)] σ (4, 0) (fx_up (fx_up (fx_up σ 35 0 n k) 33 0 5 (n + 1)) 33 0 6 (p + 1)) := by
  refine t57_0 ?_
  rw [hn, hp]
  exact ⟨fun a => by omega, fun _ => ⟨⟨h0, h1⟩, ⟨by omega, by omega⟩, hr, rfl, rfl⟩⟩
theorem fs_leaf_r {R : fx_S} {k a j : Int} : (fs_leaf R k a 9 0 0 = R 9 0 0 + 1 ∧ fs_leaf R k a 10 0 0 = R 10 0 0 + 1) ∧ (fs_leaf R k a 11 0 j = fs_add R k a 0 11 0 j ∧ fs_leaf R k a 12 0 j = fs_add R k a 0 12 0 j ∧ fs_leaf R k a 13 0 j = fs_add R k a 0 13 0 j) := by
  refine ⟨⟨by simp [fs_leaf, fs_add, fx_up], by simp [fs_leaf, fs_add, fx_up]⟩, ⟨by simp [fs_leaf, fx_up], by simp [fs_leaf, fx_up], by simp [fs_leaf, fx_up]⟩⟩
/-- frame of the class's rule -/
def fr_f (σ τ : fx_S) : Prop := ∀ K o p, ¬ ((22 ≤ K ∧ K ≤ 25 ∧ o = 89) ∨ (K = 33 ∧ o = 0 ∧ (p = 4 ∨ p = 5 ∨ p = 6)) ∨ K = 34 ∨ K = 35) → τ K o p = σ K o p
theorem fr_f.trans {σ τ ρ : fx_S} (h : fr_f σ τ) (g : fr_f τ ρ) : fr_f σ ρ := fun K o p hK => (g K o p hK).trans (h K o p hK)
/-- a number read as a leaf -/
theorem c61b {x3 x4 : Int} {w2 : fx_V} {ops ands : List Int} {R : fx_S} (h : fr_tk σ T N m) (hi : σ 33 0 6 = (i : Int)) (hc : fr_cs σ ops ands R) (hv : fr_iv ands R) (hl : R 10 0 0 < 12) : fx_Wp 61 39 [(33, 0), (22, 89), w2, (0, x3), (0, x4)] [] σ (fun v τ => (¬ (fr_K T N i = 1 ∧ fr_V T N i < x4) ∧ v = (0, 0) ∧ τ = σ) ∨ ((fr_K T N i = 1 ∧ fr_V T N i < x4) ∧ v = (0, 1) ∧ fr_f σ τ ∧ τ 33 0 6 = (i : Int) + 1 ∧ fr_cs τ ops (R 9 0 0 :: ands) (fs_leaf R x3 (fr_V T N i)) ∧ fr_iv (R 9 0 0 :: ands) (fs_leaf R x3 (fr_V T N i)))) := by
  obtain ⟨v1, v2, v3, v4⟩ := hv
  obtain ⟨h1, h2, h3, h4, h5⟩ := hc
  refine t61_39 ((c50 h hi).I ⟨fun a => Or.inl ⟨fun z => a z.1, rfl, rfl⟩, fun a => ?_⟩)
  have him := fr_K_m h (j := i) (by omega)
  have hN := h.1
  have hmN := h.2.1
  obtain ⟨e1, e2, e3, -⟩ := h.2.2.2.2.2 i (by omega)
  have e3 := e3 (e2.trans a)
  rw [hi, e3, h2]
  refine ⟨⟨by omega, by omega⟩, fun b => ⟨fun c => by omega, fun c => ?_⟩, fun b => Or.inl ⟨fun z => by omega, rfl, rfl⟩⟩
  have hb : fr_K T N i = 1 ∧ fr_V T N i < x4 := ⟨a, b⟩
  -- c6
  have go : ∀ (ρ : fx_S), (∀ K o p, ¬ ((23 ≤ K ∧ K ≤ 25 ∧ o = 89 ∧ p = R 9 0 0) ∨ (K = 22 ∧ o = 89 ∧ (p = 3 ∨ p = 4 ∨ p = 5))) → ρ K o p = σ K o p) → ρ 22 89 3 = R 9 0 0 + 1 → ρ 22 89 4 = R 10 0 0 + 1 → ρ 22 89 5 = (if x3 = 13 then fx_or (σ 22 89 5) (fx_shl 1 (fr_V T N i)) else σ 22 89 5) → (ρ 23 89 (R 9 0 0) = x3 ∧ ρ 24 89 (R 9 0 0) = fr_V T N i ∧ ρ 25 89 (R 9 0 0) = 0) → (0 ≤ (ands.length : Int) ∧ (ands.length : Int) < 15) ∧ (fx_rg ((ρ 33 0 4) + 1)) ∧ (fx_rg ((ρ 33 0 6) + 1)) ∧ ((¬ (fr_K T N i = 1 ∧ fr_V T N i < x4) ∧ ((0, 1) : fx_V) = (0, 0) ∧ (fx_up (fx_up (fx_up ρ 34 0 (ands.length : Int) (R 9 0 0)) 33 0 4 ((ρ 33 0 4) + 1)) 33 0 6 ((ρ 33 0 6) + 1)) = σ) ∨ ((fr_K T N i = 1 ∧ fr_V T N i < x4) ∧ ((0, 1) : fx_V) = (0, 1) ∧ fr_f σ (fx_up (fx_up (fx_up ρ 34 0 (ands.length : Int) (R 9 0 0)) 33 0 4 ((ρ 33 0 4) + 1)) 33 0 6 ((ρ 33 0 6) + 1)) ∧ (fx_up (fx_up (fx_up ρ 34 0 (ands.length : Int) (R 9 0 0)) 33 0 4 ((ρ 33 0 4) + 1)) 33 0 6 ((ρ 33 0 6) + 1)) 33 0 6 = (i : Int) + 1 ∧ fr_cs (fx_up (fx_up (fx_up ρ 34 0 (ands.length : Int) (R 9 0 0)) 33 0 4 ((ρ 33 0 4) + 1)) 33 0 6 ((ρ 33 0 6) + 1)) ops (R 9 0 0 :: ands) (fs_leaf R x3 (fr_V T N i)) ∧ fr_iv (R 9 0 0 :: ands) (fs_leaf R x3 (fr_V T N i)))) := by
    intro ρ g g3 g4 g5 gn
    rw [g 33 0 4 (by omega), g 33 0 6 (by omega), h2, hi]
    refine ⟨⟨by omega, by omega⟩, ⟨by omega, by omega⟩, ⟨by omega, by omega⟩, Or.inr ⟨hb, rfl, ?_⟩⟩
    generalize hE : fx_up (fx_up (fx_up ρ 34 0 (ands.length : Int) (R 9 0 0)) 33 0 4 ((ands.length : Int) + 1)) 33 0 6 ((i : Int) + 1) = τ
    have q : ∀ (K : Nat) (o p : Int), ¬ ((K = 34 ∧ o = 0 ∧ p = ands.length) ∨ (K = 33 ∧ o = 0 ∧ (p = 4 ∨ p = 6))) → τ K o p = ρ K o p := fun K o p hK => by rw [← hE, fx_upE, if_neg (by omega), fx_upE, if_neg (by omega), fx_upE, if_neg (by omega)]
    have lr := fun j => fs_leaf_r (R := R) (k := x3) (a := fr_V T N i) (j := j)
    have lc : ((R 9 0 0 :: ands).length : Int) = ands.length + 1 := by simp
    have rra : fs_rr (fx_up τ 22 89 4 (R 10 0 0)) (fs_add R x3 (fr_V T N i) 0) := by
      refine fs_rr_add h5 v1 ?_ fx_upS ?_ ⟨?_, ?_, ?_⟩ (fun K j K0 K1 hj => ?_)
      · rw [fx_upJ (by omega), q 22 89 3 (by omega)]; exact g3
      · rw [fx_upJ (by omega), q 22 89 5 (by omega)]; exact g5
      · rw [fx_upK rfl, q 23 89 _ (by omega)]; exact gn.1
      · rw [fx_upK rfl, q 24 89 _ (by omega)]; exact gn.2.1
      · rw [fx_upK rfl, q 25 89 _ (by omega)]; exact gn.2.2
      · rw [fx_upE, if_neg (by omega), q K 89 j (by omega)]; exact g K 89 j (by omega)
    refine ⟨fun K o p hK => ?_, ?_, ⟨?_, ?_, ?_, ⟨?_, ?_⟩, ⟨?_, ?_, fun j j0 j1 => ?_, ?_⟩⟩, ?_, ?_, ?_, ?_⟩
    · rw [q K o p (by omega)]; exact g K o p (by omega)
    · rw [← hE, fx_upS]
    · rw [q 33 0 5 (by omega), g 33 0 5 (by omega)]; exact h1
    · rw [lc, ← hE, fx_upJ (by omega), fx_upS]
    · exact fs_stk_k h3 (fun j j0 j1 => by rw [q 35 0 j (by omega)]; exact g 35 0 j (by omega))
    · rw [← hE, fx_upK rfl, fx_upK rfl, fx_upS]
    · exact fs_stk_k h4 (fun j j0 j1 => by rw [q 34 0 j (by omega)]; exact g 34 0 j (by omega))
    · rw [(lr 0).1.1, q 22 89 3 (by omega)]; exact g3
    · rw [(lr 0).1.2, q 22 89 4 (by omega)]; exact g4
    · rw [(lr j).2.1, (lr j).2.2.1, (lr j).2.2.2]
      rw [(lr 0).1.1] at j1
      have := rra.2.2.1 j j0 (by rw [(fs_add_r (R := R) (k := x3) (a := fr_V T N i) (b := 0) (j := 0)).1.1]; exact j1)
      rw [fx_upK rfl, fx_upK rfl, fx_upK rfl] at this
      exact this
    · have := rra.2.2.2
      rw [fx_upJ (by omega), (fs_add_r (R := R) (k := x3) (a := fr_V T N i) (b := 0) (j := 0)).1.1] at this
      rw [(lr 0).1.1, this]
      exact (fs_bit_k _ (fun j j0 j1 => ⟨((lr j).2.1).symm, ((lr j).2.2.1).symm⟩))
    · rw [(lr 0).1.1]; omega
    · rw [(lr 0).1.1, (lr 0).1.2, lc]; omega
    · rw [(lr 0).1.2]; omega
    · rw [(lr 0).1.1, (lr 0).1.2]; omega
  refine t6_0 ?_
  rw [h5.2.1]
  refine ⟨⟨by omega, by omega⟩, fun z => ?_, fun z => ?_⟩
  · refine (c7 (σ := fx_up σ 22 89 4 (R 10 0 0 + 1)) (n := R 9 0 0) (by rw [fx_upJ (by omega)]; exact h5.1) v1 (by omega)).I (Or.inl ⟨rfl, go _ (fun K o p hK => ?_) ?_ ?_ ?_ ⟨?_, ?_, ?_⟩⟩)
    · rw [fx_upE, if_neg (by omega), fx_upE, if_neg (by omega), fx_upE, if_neg (by omega), fx_upE, if_neg (by omega), fx_upE, if_neg (by omega)]
    · simp [fx_up]
    · simp [fx_up]
    · rw [if_neg z]; simp [fx_up]
    · simp [fx_up]
    · simp [fx_up]
    · simp [fx_up]
  · refine (c7 (σ := fx_up (fx_up σ 22 89 4 (R 10 0 0 + 1)) 22 89 5 (fx_or (σ 22 89 5) (fx_shl 1 (fr_V T N i)))) (n := R 9 0 0) (by rw [fx_upJ (by omega), fx_upJ (by omega)]; exact h5.1) v1 (by omega)).I (Or.inl ⟨rfl, go _ (fun K o p hK => ?_) ?_ ?_ ?_ ⟨?_, ?_, ?_⟩⟩)
    · rw [fx_upE, if_neg (by omega), fx_upE, if_neg (by omega), fx_upE, if_neg (by omega), fx_upE, if_neg (by omega), fx_upE, if_neg (by omega), fx_upE, if_neg (by omega)]
    · simp [fx_up]
    · simp [fx_up]
    · rw [if_pos z]; simp [fx_up]
    · simp [fx_up]
    · simp [fx_up]
    · simp [fx_up]
end FXRM
