/-- nodes as they can be -/
def fr_nd (R : fx_S) (t : Int) : Prop := ∀ k, 0 ≤ k → k < R 9 0 0 → (R 11 0 k = 1 ∧ 0 ≤ R 12 0 k ∧ R 12 0 k < 100) ∨ (R 11 0 k = 13 ∧ 0 ≤ R 12 0 k ∧ R 12 0 k < t) ∨ (6 ≤ R 11 0 k ∧ R 11 0 k ≤ 12 ∧ 0 ≤ R 12 0 k ∧ R 12 0 k < k ∧ 0 ≤ R 13 0 k ∧ R 13 0 k < k)
def fr_W (ands : List Int) (R : fx_S) (t : Int) : Prop := fr_iv ands R ∧ fr_nd R t ∧ ∀ x ∈ ands, 0 ≤ x ∧ x < R 9 0 0
section FXRK
variable {T : Int → Int} {N t : Int} {m : Nat}
theorem fr_W_add {op r l : Int} {ands : List Int} {R : fx_S} (h : fr_W (r :: l :: ands) R t) (hop : fs_iso op = true) : fr_W (R 9 0 0 :: ands) (fs_add R op l r) t := by
  obtain ⟨⟨v1, v2, v3, v4⟩, h2, h3⟩ := h
  have hi := fs_iso_r hop
  have ar := fun j => fs_add_r (R := R) (k := op) (a := l) (b := r) (j := j)
  have hr := h3 r (by simp)
  have hl := h3 l (by simp)
  have l2 : ((r :: l :: ands).length : Int) = ands.length + 2 := by simp; omega
  have l3 : ((R 9 0 0 :: ands).length : Int) = ands.length + 1 := by simp
  refine ⟨⟨by rw [(ar 0).1.1]; omega, by rw [(ar 0).1.1, (ar 0).1.2]; omega, by rw [(ar 0).1.2]; exact v3, by rw [(ar 0).1.1, (ar 0).1.2]; omega⟩, fun k k0 k1 => ?_, fun x hx => ?_⟩
  · rw [(ar 0).1.1] at k1
    by_cases e : k = R 9 0 0
    · rw [e, (ar 0).2.1.1, (ar 0).2.1.2.1, (ar 0).2.1.2.2]
      exact Or.inr (Or.inr ⟨hi.1, hi.2, hl.1, hl.2, hr.1, hr.2⟩)
    · rw [((ar k).2.2 e).1, ((ar k).2.2 e).2.1, ((ar k).2.2 e).2.2]
      exact h2 k k0 (by omega)
  · rw [(ar 0).1.1]
    rcases List.mem_cons.mp hx with rfl | hx
    · omega
    · have := h3 x (by simp [hx])
      omega
theorem fr_W_leaf {k a : Int} {ands : List Int} {R : fx_S} (h : fr_W ands R t) (hl : R 10 0 0 ≠ 12) (hk : (k = 1 ∧ 0 ≤ a ∧ a < 100) ∨ (k = 13 ∧ 0 ≤ a ∧ a < t)) : fr_W (R 9 0 0 :: ands) (fs_leaf R k a) t := by
  obtain ⟨⟨v1, v2, v3, v4⟩, h2, h3⟩ := h
  have ar := fun j => fs_add_r (R := R) (k := k) (a := a) (b := 0) (j := j)
  have lr := fun j => fs_leaf_r (R := R) (k := k) (a := a) (j := j)
  have l3 : ((R 9 0 0 :: ands).length : Int) = ands.length + 1 := by simp
  refine ⟨⟨by rw [(lr 0).1.1]; omega, by rw [(lr 0).1.1, (lr 0).1.2]; omega, by rw [(lr 0).1.2]; omega, by rw [(lr 0).1.1, (lr 0).1.2]; omega⟩, fun j k0 k1 => ?_, fun x hx => ?_⟩
  · rw [(lr 0).1.1] at k1
    rw [(lr j).2.1, (lr j).2.2.1, (lr j).2.2.2]
    by_cases e : j = R 9 0 0
    · rw [e, (ar 0).2.1.1, (ar 0).2.1.2.1, (ar 0).2.1.2.2]
      rcases hk with hk | hk
      · exact Or.inl hk
      · exact Or.inr (Or.inl hk)
    · rw [((ar j).2.2 e).1, ((ar j).2.2 e).2.1, ((ar j).2.2 e).2.2]
      exact h2 j k0 (by omega)
  · rw [(lr 0).1.1]
    rcases List.mem_cons.mp hx with rfl | hx
    · omega
    · have := h3 x hx
      omega
theorem fr_W_red {y : Int} : ∀ (ops ands : List Int) (R : fx_S), fr_W ands R t → fr_W (fs_red y ops ands R).2.1 (fs_red y ops ands R).2.2 t
  | [], ands, R, h => h
  | op :: ops, [], R, h => h
  | op :: ops, [r], R, h => h
  | op :: ops, r :: l :: ands, R, h => by
    by_cases z : (fs_iso op && decide (y ≤ fs_prec op)) = true
    · have e2 : fs_red y (op :: ops) (r :: l :: ands) R = fs_red y ops (R 9 0 0 :: ands) (fs_add R op l r) := by rw [fs_red, z]; rfl
      have hz : fs_iso op = true := by
        revert z
        cases fs_iso op <;> simp
      rw [e2]
      exact fr_W_red ops _ _ (fr_W_add h hz)
    · have e2 : fs_red y (op :: ops) (r :: l :: ands) R = (op :: ops, r :: l :: ands, R) := by rw [fs_red, if_neg z]
      rw [e2]; exact h
/-- a rule that was read may be a thing's -/
theorem fs_pr_ok (hN : 0 ≤ N) (hm : fs_a T N m = N) : ∀ (n : Nat) (x : Bool) (i : Nat) (d : Int) (ops ands : List Int) (R : fx_S), fr_W ands R t → fr_oo ops → d = fr_c4 ops → (ops.length : Int) - d + (if x then 0 else 1) = ands.length → i ≤ m → (fs_pr T N t n x i d ops ands R).2.1 ≤ m ∧ ((fs_pr T N t n x i d ops ands R).1 = true → fs_okr (fs_pr T N t n x i d ops ands R).2.2 t)
  | 0, x, i, d, ops, ands, R, h, ho, hd, hl, hi => by
    rw [fs_pr]
    exact ⟨hi, fun z => absurd z Bool.false_ne_true⟩
  | n + 1, true, i, d, ops, ands, R, h, ho, hd, hl, hi => by
    simp only [if_true] at hl
    rw [fs_pr]
    by_cases z1 : fr_K T N i = 4 ∧ d < 4
    · rw [if_pos z1]
      have := fr_K_M hm (j := i) (by omega)
      exact fs_pr_ok hN hm n true (i + 1) (d + 1) (4 :: ops) ands R h ⟨ho, Or.inl rfl⟩ (by rw [fr_c4, if_pos rfl]; omega) (by simp; omega) (by omega)
    rw [if_neg z1]
    by_cases z2 : R 10 0 0 = 12
    · rw [if_pos z2]
      exact ⟨hi, fun z => absurd z Bool.false_ne_true⟩
    rw [if_neg z2]
    by_cases z3 : fr_K T N i = 13
    · rw [if_pos z3]
      have := fr_K_M hm (j := i) (by omega)
      by_cases z4 : fr_K T N (i + 1) = 1 ∧ fr_V T N (i + 1) < t
      · rw [if_pos z4]
        have := fr_K_M hm (j := i + 1) (by omega)
        exact fs_pr_ok hN hm n false (i + 2) d ops _ _ (fr_W_leaf h z2 (Or.inr ⟨rfl, fr_V_0 hN _, z4.2⟩)) ho hd (by simp; omega) (by omega)
      · rw [if_neg z4]
        exact ⟨by show i + 1 ≤ m; omega, fun z => absurd z Bool.false_ne_true⟩
    rw [if_neg z3]
    by_cases z4 : fr_K T N i = 1 ∧ fr_V T N i < 100
    · rw [if_pos z4]
      have := fr_K_M hm (j := i) (by omega)
      exact fs_pr_ok hN hm n false (i + 1) d ops _ _ (fr_W_leaf h z2 (Or.inl ⟨rfl, fr_V_0 hN _, z4.2⟩)) ho hd (by simp; omega) (by omega)
    · rw [if_neg z4]
      exact ⟨hi, fun z => absurd z Bool.false_ne_true⟩
  | n + 1, false, i, d, ops, ands, R, h, ho, hd, hl, hi => by
    have hl : (ops.length : Int) - fr_c4 ops + 1 = ands.length := by rw [← hd]; simpa using hl
    rw [fs_pr]
    by_cases z1 : fs_iso (fr_K T N i) = true
    · rw [if_pos z1]
      have hir := fs_iso_r z1
      have := fr_K_M hm (j := i) (by omega)
      have hpr := @fs_prec_r (fr_K T N i)
      obtain ⟨r1, r2, r3, r4, r5, r6⟩ := fs_red_p (y := fs_prec (fr_K T N i)) ops ands R ho hl
      exact fs_pr_ok hN hm n true (i + 1) d _ _ _ (fr_W_red ops ands R h) ⟨r1, Or.inr ⟨z1, by omega⟩⟩ (by rw [fr_c4, if_neg (by omega)]; omega) (by simp; omega) (by omega)
    rw [if_neg z1]
    obtain ⟨r1, r2, r3, r4, r5, r6⟩ := fs_red_p (y := 0) ops ands R ho hl
    have hW := fr_W_red (y := 0) ops ands R h
    by_cases z2 : fr_K T N i = 5 ∧ 0 < d
    · rw [if_pos z2]
      have := fr_K_M hm (j := i) (by omega)
      generalize fs_red 0 ops ands R = q at *
      obtain ⟨o, a2, R2⟩ := q
      simp only at hW r1 r2 r3 r4 r5 r6 ⊢
      have hph2 := fr_phi_r o
      cases o with
      | nil => rw [fr_c4] at r2; omega
      | cons x o =>
        have x4 : x = 4 := by
          apply Classical.byContradiction
          intro z
          have := @fs_prec_r x
          rw [fr_phi, if_neg z] at r4
          omega
        subst x4
        have lo : (((4 : Int) :: o).length : Int) = o.length + 1 := by simp
        rw [fr_c4, if_pos rfl] at r2
        rw [lo] at r3
        exact fs_pr_ok hN hm n false (i + 1) (d - 1) o a2 R2 hW r1.1 (by omega) (by simp; omega) (by omega)
    · rw [if_neg z2]
      refine ⟨hi, fun _ => ?_⟩
      generalize fs_red 0 ops ands R = q at *
      obtain ⟨o, a2, R2⟩ := q
      simp only at hW r1 r2 r3 r4 r5 r6 ⊢
      obtain ⟨⟨v1, v2, v3, v4⟩, w2, w3⟩ := hW
      have hc := fr_c4_r o
      have ho := fr_c4_r ops
      exact ⟨⟨v1, by omega⟩, ⟨by omega, v3⟩, w2, fun z => by omega⟩
end FXRK
