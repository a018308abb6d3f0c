theorem hm67 : fx_code 67 = fx_c67 := rfl
theorem t67_0 {o0 o1 x2 : Int} {σ : fx_S} {Q : fx_V → fx_S → Prop} (h : fx_CI 65 [(36, o0), (22, o1), (0, x2)] (fx_up σ 36 o0 10 0) Q (fun y1 σ1 => (fx_rg ((σ1 22 o1 3) - 1)) ∧ fx_Wp 67 22 [(36, o0), (22, o1), (0, x2), (0, ((σ1 22 o1 3) - 1)), (0, 0), (3, 0), (3, 0)] [] σ1 Q)) : fx_Ca 67 [(36, o0), (22, o1), (0, x2)] σ Q := by
  show fx_Wp 67 0 [(36, o0), (22, o1), (0, x2), (3, 0), (3, 0), (3, 0), (3, 0)] [] σ Q
  refine wi_aload_n (pc' := 1) hm67 rfl rfl rfl (by decide) ?_
  refine wi_iconst (pc' := 2) (v := 0) hm67 rfl rfl rfl ?_
  refine wi_putI (pc' := 5) hm67 rfl rfl (P := 10) rfl ?_
  refine wi_aload_n (pc' := 6) hm67 rfl rfl rfl (by decide) ?_
  refine wi_aload_n (pc' := 7) hm67 rfl rfl rfl (by decide) ?_
  refine wi_iload_n (pc' := 8) hm67 rfl rfl rfl ?_
  refine wc_I (pc' := 11) (by decide) rfl (by decide) ((fx_wE hm67 rfl).trans (fx_exV (mj := 65) (as := [(22, o1), (0, x2)]) (rest := []) rfl rk65 rfl rfl rfl rfl rfl)) h (fun y1 σ1 h => ?_)
  refine wi_pop (pc' := 12) hm67 rfl rfl rfl ?_
  refine wi_aload_n (pc' := 13) hm67 rfl rfl rfl (by decide) ?_
  refine wi_getI (pc' := 16) hm67 rfl rfl (P := 3) rfl ?_
  refine wi_iconst (pc' := 17) (v := 1) hm67 rfl rfl rfl ?_
  obtain ⟨g1, h⟩ := h
  refine wi_isub (pc' := 18) hm67 rfl rfl g1 ?_
  refine wi_istore_n (pc' := 19) (L' := [(36, o0), (22, o1), (0, x2), (0, ((σ1 22 o1 3) - 1)), (3, 0), (3, 0), (3, 0)]) hm67 rfl rfl rfl ?_
  refine wi_iconst (pc' := 20) (v := 0) hm67 rfl rfl rfl ?_
  refine wi_istore (pc' := 22) (L' := [(36, o0), (22, o1), (0, x2), (0, ((σ1 22 o1 3) - 1)), (0, 0), (3, 0), (3, 0)]) hm67 rfl rfl rfl ?_
  exact h
theorem t67_22 {o0 o1 x3 x4 : Int} {w2 w5 w6 : fx_V} {σ : fx_S} {Q : fx_V → fx_S → Prop} (h : (((σ 22 o1 3) ≤ x4 → Q (0, (-1)) σ) ∧ (x4 < (σ 22 o1 3) → (0 ≤ x3 ∧ x3 < 23) ∧ (((σ 23 o1 x3) = 1 → Q (0, (-1)) σ) ∧ ((σ 23 o1 x3) ≠ 1 → (((σ 23 o1 x3) = 2 → (0 ≤ (σ 24 o1 x3) ∧ (σ 24 o1 x3) < 23) ∧ (((σ 44 o0 (σ 24 o1 x3)) = (-1) → (((σ 44 o0 (σ 24 o1 x3)) ≠ (-1) → (fx_rg (x4 + 1)) ∧ fx_Wp 67 22 [(36, o0), (22, o1), w2, (0, (σ 25 o1 x3)), (0, (x4 + 1)), (0, (σ 24 o1 x3)), (0, (σ 25 o1 x3))] [] σ Q) ∧ ((σ 44 o0 (σ 24 o1 x3)) = (-1) → (fx_rg (x4 + 1)) ∧ fx_Wp 67 22 [(36, o0), (22, o1), w2, (0, (σ 24 o1 x3)), (0, (x4 + 1)), (0, (σ 24 o1 x3)), (0, (σ 25 o1 x3))] [] σ Q))) ∧ ((σ 44 o0 (σ 24 o1 x3)) ≠ (-1) → (0 ≤ (σ 25 o1 x3) ∧ (σ 25 o1 x3) < 23) ∧ (((σ 44 o0 (σ 25 o1 x3)) = (-1) → (((σ 44 o0 (σ 24 o1 x3)) ≠ (-1) → (fx_rg (x4 + 1)) ∧ fx_Wp 67 22 [(36, o0), (22, o1), w2, (0, (σ 25 o1 x3)), (0, (x4 + 1)), (0, (σ 24 o1 x3)), (0, (σ 25 o1 x3))] [] σ Q) ∧ ((σ 44 o0 (σ 24 o1 x3)) = (-1) → (fx_rg (x4 + 1)) ∧ fx_Wp 67 22 [(36, o0), (22, o1), w2, (0, (σ 24 o1 x3)), (0, (x4 + 1)), (0, (σ 24 o1 x3)), (0, (σ 25 o1 x3))] [] σ Q))) ∧ ((σ 44 o0 (σ 25 o1 x3)) ≠ (-1) → Q (0, (-1)) (fx_up σ 36 o0 10 1)))))) ∧ ((σ 23 o1 x3) ≠ 2 → (((σ 23 o1 x3) = 3 → (0 ≤ (σ 24 o1 x3) ∧ (σ 24 o1 x3) < 23) ∧ (((σ 44 o0 (σ 24 o1 x3)) = (-1) → (((σ 44 o0 (σ 24 o1 x3)) ≠ (-1) → (fx_rg (x4 + 1)) ∧ fx_Wp 67 22 [(36, o0), (22, o1), w2, (0, (σ 25 o1 x3)), (0, (x4 + 1)), (0, (σ 24 o1 x3)), (0, (σ 25 o1 x3))] [] σ Q) ∧ ((σ 44 o0 (σ 24 o1 x3)) = (-1) → (fx_rg (x4 + 1)) ∧ fx_Wp 67 22 [(36, o0), (22, o1), w2, (0, (σ 24 o1 x3)), (0, (x4 + 1)), (0, (σ 24 o1 x3)), (0, (σ 25 o1 x3))] [] σ Q))) ∧ ((σ 44 o0 (σ 24 o1 x3)) ≠ (-1) → (0 ≤ (σ 25 o1 x3) ∧ (σ 25 o1 x3) < 23) ∧ (((σ 44 o0 (σ 25 o1 x3)) = (-1) → (((σ 44 o0 (σ 24 o1 x3)) ≠ (-1) → (fx_rg (x4 + 1)) ∧ fx_Wp 67 22 [(36, o0), (22, o1), w2, (0, (σ 25 o1 x3)), (0, (x4 + 1)), (0, (σ 24 o1 x3)), (0, (σ 25 o1 x3))] [] σ Q) ∧ ((σ 44 o0 (σ 24 o1 x3)) = (-1) → (fx_rg (x4 + 1)) ∧ fx_Wp 67 22 [(36, o0), (22, o1), w2, (0, (σ 24 o1 x3)), (0, (x4 + 1)), (0, (σ 24 o1 x3)), (0, (σ 25 o1 x3))] [] σ Q))) ∧ ((σ 44 o0 (σ 25 o1 x3)) ≠ (-1) → Q (0, (-1)) (fx_up σ 36 o0 10 1)))))) ∧ ((σ 23 o1 x3) ≠ 3 → (((σ 23 o1 x3) = 4 → (0 ≤ (σ 24 o1 x3) ∧ (σ 24 o1 x3) < 23) ∧ (((σ 44 o0 (σ 24 o1 x3)) = (-1) → (((σ 44 o0 (σ 24 o1 x3)) ≠ (-1) → (fx_rg (x4 + 1)) ∧ fx_Wp 67 22 [(36, o0), (22, o1), w2, (0, (σ 25 o1 x3)), (0, (x4 + 1)), (0, (σ 24 o1 x3)), (0, (σ 25 o1 x3))] [] σ Q) ∧ ((σ 44 o0 (σ 24 o1 x3)) = (-1) → (fx_rg (x4 + 1)) ∧ fx_Wp 67 22 [(36, o0), (22, o1), w2, (0, (σ 24 o1 x3)), (0, (x4 + 1)), (0, (σ 24 o1 x3)), (0, (σ 25 o1 x3))] [] σ Q))) ∧ ((σ 44 o0 (σ 24 o1 x3)) ≠ (-1) → (0 ≤ (σ 25 o1 x3) ∧ (σ 25 o1 x3) < 23) ∧ (((σ 44 o0 (σ 25 o1 x3)) = (-1) → (((σ 44 o0 (σ 24 o1 x3)) ≠ (-1) → (fx_rg (x4 + 1)) ∧ fx_Wp 67 22 [(36, o0), (22, o1), w2, (0, (σ 25 o1 x3)), (0, (x4 + 1)), (0, (σ 24 o1 x3)), (0, (σ 25 o1 x3))] [] σ Q) ∧ ((σ 44 o0 (σ 24 o1 x3)) = (-1) → (fx_rg (x4 + 1)) ∧ fx_Wp 67 22 [(36, o0), (22, o1), w2, (0, (σ 24 o1 x3)), (0, (x4 + 1)), (0, (σ 24 o1 x3)), (0, (σ 25 o1 x3))] [] σ Q))) ∧ ((σ 44 o0 (σ 25 o1 x3)) ≠ (-1) → Q (0, (-1)) (fx_up σ 36 o0 10 1)))))) ∧ ((σ 23 o1 x3) ≠ 4 → (((σ 23 o1 x3) = 5 → (0 ≤ (σ 24 o1 x3) ∧ (σ 24 o1 x3) < 23) ∧ (((σ 44 o0 (σ 24 o1 x3)) = (-1) → (((σ 44 o0 (σ 24 o1 x3)) ≠ (-1) → (fx_rg (x4 + 1)) ∧ fx_Wp 67 22 [(36, o0), (22, o1), w2, (0, (σ 25 o1 x3)), (0, (x4 + 1)), (0, (σ 24 o1 x3)), (0, (σ 25 o1 x3))] [] σ Q) ∧ ((σ 44 o0 (σ 24 o1 x3)) = (-1) → (fx_rg (x4 + 1)) ∧ fx_Wp 67 22 [(36, o0), (22, o1), w2, (0, (σ 24 o1 x3)), (0, (x4 + 1)), (0, (σ 24 o1 x3)), (0, (σ 25 o1 x3))] [] σ Q))) ∧ ((σ 44 o0 (σ 24 o1 x3)) ≠ (-1) → (0 ≤ (σ 25 o1 x3) ∧ (σ 25 o1 x3) < 23) ∧ (((σ 44 o0 (σ 25 o1 x3)) = (-1) → (((σ 44 o0 (σ 24 o1 x3)) ≠ (-1) → (fx_rg (x4 + 1)) ∧ fx_Wp 67 22 [(36, o0), (22, o1), w2, (0, (σ 25 o1 x3)), (0, (x4 + 1)), (0, (σ 24 o1 x3)), (0, (σ 25 o1 x3))] [] σ Q) ∧ ((σ 44 o0 (σ 24 o1 x3)) = (-1) → (fx_rg (x4 + 1)) ∧ fx_Wp 67 22 [(36, o0), (22, o1), w2, (0, (σ 24 o1 x3)), (0, (x4 + 1)), (0, (σ 24 o1 x3)), (0, (σ 25 o1 x3))] [] σ Q))) ∧ ((σ 44 o0 (σ 25 o1 x3)) ≠ (-1) → Q (0, (-1)) (fx_up σ 36 o0 10 1)))))) ∧ ((σ 23 o1 x3) ≠ 5 → (((σ 23 o1 x3) = 6 → (0 ≤ (σ 24 o1 x3) ∧ (σ 24 o1 x3) < 23) ∧ (((σ 44 o0 (σ 24 o1 x3)) = (-1) → (((σ 44 o0 (σ 24 o1 x3)) ≠ (-1) → (fx_rg (x4 + 1)) ∧ fx_Wp 67 22 [(36, o0), (22, o1), w2, (0, (σ 25 o1 x3)), (0, (x4 + 1)), (0, (σ 24 o1 x3)), (0, (σ 25 o1 x3))] [] σ Q) ∧ ((σ 44 o0 (σ 24 o1 x3)) = (-1) → (fx_rg (x4 + 1)) ∧ fx_Wp 67 22 [(36, o0), (22, o1), w2, (0, (σ 24 o1 x3)), (0, (x4 + 1)), (0, (σ 24 o1 x3)), (0, (σ 25 o1 x3))] [] σ Q))) ∧ ((σ 44 o0 (σ 24 o1 x3)) ≠ (-1) → (0 ≤ (σ 25 o1 x3) ∧ (σ 25 o1 x3) < 23) ∧ (((σ 44 o0 (σ 25 o1 x3)) = (-1) → (((σ 44 o0 (σ 24 o1 x3)) ≠ (-1) → (fx_rg (x4 + 1)) ∧ fx_Wp 67 22 [(36, o0), (22, o1), w2, (0, (σ 25 o1 x3)), (0, (x4 + 1)), (0, (σ 24 o1 x3)), (0, (σ 25 o1 x3))] [] σ Q) ∧ ((σ 44 o0 (σ 24 o1 x3)) = (-1) → (fx_rg (x4 + 1)) ∧ fx_Wp 67 22 [(36, o0), (22, o1), w2, (0, (σ 24 o1 x3)), (0, (x4 + 1)), (0, (σ 24 o1 x3)), (0, (σ 25 o1 x3))] [] σ Q))) ∧ ((σ 44 o0 (σ 25 o1 x3)) ≠ (-1) → Q (0, (-1)) (fx_up σ 36 o0 10 1)))))) ∧ ((σ 23 o1 x3) ≠ 6 → (((σ 23 o1 x3) = 7 → (0 ≤ (σ 24 o1 x3) ∧ (σ 24 o1 x3) < 23) ∧ (((σ 44 o0 (σ 24 o1 x3)) = (-1) → (((σ 44 o0 (σ 24 o1 x3)) ≠ (-1) → (fx_rg (x4 + 1)) ∧ fx_Wp 67 22 [(36, o0), (22, o1), w2, (0, (σ 25 o1 x3)), (0, (x4 + 1)), (0, (σ 24 o1 x3)), (0, (σ 25 o1 x3))] [] σ Q) ∧ ((σ 44 o0 (σ 24 o1 x3)) = (-1) → (fx_rg (x4 + 1)) ∧ fx_Wp 67 22 [(36, o0), (22, o1), w2, (0, (σ 24 o1 x3)), (0, (x4 + 1)), (0, (σ 24 o1 x3)), (0, (σ 25 o1 x3))] [] σ Q))) ∧ ((σ 44 o0 (σ 24 o1 x3)) ≠ (-1) → (0 ≤ (σ 25 o1 x3) ∧ (σ 25 o1 x3) < 23) ∧ (((σ 44 o0 (σ 25 o1 x3)) = (-1) → (((σ 44 o0 (σ 24 o1 x3)) ≠ (-1) → (fx_rg (x4 + 1)) ∧ fx_Wp 67 22 [(36, o0), (22, o1), w2, (0, (σ 25 o1 x3)), (0, (x4 + 1)), (0, (σ 24 o1 x3)), (0, (σ 25 o1 x3))] [] σ Q) ∧ ((σ 44 o0 (σ 24 o1 x3)) = (-1) → (fx_rg (x4 + 1)) ∧ fx_Wp 67 22 [(36, o0), (22, o1), w2, (0, (σ 24 o1 x3)), (0, (x4 + 1)), (0, (σ 24 o1 x3)), (0, (σ 25 o1 x3))] [] σ Q))) ∧ ((σ 44 o0 (σ 25 o1 x3)) ≠ (-1) → Q (0, (-1)) (fx_up σ 36 o0 10 1)))))) ∧ ((σ 23 o1 x3) ≠ 7 → (((σ 23 o1 x3) = 8 → (0 ≤ (σ 24 o1 x3) ∧ (σ 24 o1 x3) < 23) ∧ (((σ 44 o0 (σ 24 o1 x3)) = (-1) → (((σ 44 o0 (σ 24 o1 x3)) ≠ (-1) → (fx_rg (x4 + 1)) ∧ fx_Wp 67 22 [(36, o0), (22, o1), w2, (0, (σ 25 o1 x3)), (0, (x4 + 1)), (0, (σ 24 o1 x3)), (0, (σ 25 o1 x3))] [] σ Q) ∧ ((σ 44 o0 (σ 24 o1 x3)) = (-1) → (fx_rg (x4 + 1)) ∧ fx_Wp 67 22 [(36, o0), (22, o1), w2, (0, (σ 24 o1 x3)), (0, (x4 + 1)), (0, (σ 24 o1 x3)), (0, (σ 25 o1 x3))] [] σ Q))) ∧ ((σ 44 o0 (σ 24 o1 x3)) ≠ (-1) → (0 ≤ (σ 25 o1 x3) ∧ (σ 25 o1 x3) < 23) ∧ (((σ 44 o0 (σ 25 o1 x3)) = (-1) → (((σ 44 o0 (σ 24 o1 x3)) ≠ (-1) → (fx_rg (x4 + 1)) ∧ fx_Wp 67 22 [(36, o0), (22, o1), w2, (0, (σ 25 o1 x3)), (0, (x4 + 1)), (0, (σ 24 o1 x3)), (0, (σ 25 o1 x3))] [] σ Q) ∧ ((σ 44 o0 (σ 24 o1 x3)) = (-1) → (fx_rg (x4 + 1)) ∧ fx_Wp 67 22 [(36, o0), (22, o1), w2, (0, (σ 24 o1 x3)), (0, (x4 + 1)), (0, (σ 24 o1 x3)), (0, (σ 25 o1 x3))] [] σ Q))) ∧ ((σ 44 o0 (σ 25 o1 x3)) ≠ (-1) → Q (0, (-1)) (fx_up σ 36 o0 10 1)))))) ∧ ((σ 23 o1 x3) ≠ 8 → (((σ 23 o1 x3) = 9 → (0 ≤ (σ 24 o1 x3) ∧ (σ 24 o1 x3) < 23) ∧ (((σ 44 o0 (σ 24 o1 x3)) = (-1) → (((σ 44 o0 (σ 24 o1 x3)) ≠ (-1) → (fx_rg (x4 + 1)) ∧ fx_Wp 67 22 [(36, o0), (22, o1), w2, (0, (σ 25 o1 x3)), (0, (x4 + 1)), (0, (σ 24 o1 x3)), (0, (σ 25 o1 x3))] [] σ Q) ∧ ((σ 44 o0 (σ 24 o1 x3)) = (-1) → (fx_rg (x4 + 1)) ∧ fx_Wp 67 22 [(36, o0), (22, o1), w2, (0, (σ 24 o1 x3)), (0, (x4 + 1)), (0, (σ 24 o1 x3)), (0, (σ 25 o1 x3))] [] σ Q))) ∧ ((σ 44 o0 (σ 24 o1 x3)) ≠ (-1) → (0 ≤ (σ 25 o1 x3) ∧ (σ 25 o1 x3) < 23) ∧ (((σ 44 o0 (σ 25 o1 x3)) = (-1) → (((σ 44 o0 (σ 24 o1 x3)) ≠ (-1) → (fx_rg (x4 + 1)) ∧ fx_Wp 67 22 [(36, o0), (22, o1), w2, (0, (σ 25 o1 x3)), (0, (x4 + 1)), (0, (σ 24 o1 x3)), (0, (σ 25 o1 x3))] [] σ Q) ∧ ((σ 44 o0 (σ 24 o1 x3)) = (-1) → (fx_rg (x4 + 1)) ∧ fx_Wp 67 22 [(36, o0), (22, o1), w2, (0, (σ 24 o1 x3)), (0, (x4 + 1)), (0, (σ 24 o1 x3)), (0, (σ 25 o1 x3))] [] σ Q))) ∧ ((σ 44 o0 (σ 25 o1 x3)) ≠ (-1) → Q (0, (-1)) (fx_up σ 36 o0 10 1)))))) ∧ ((σ 23 o1 x3) ≠ 9 → (((σ 23 o1 x3) = 10 → (fx_rg (x4 + 1)) ∧ fx_Wp 67 22 [(36, o0), (22, o1), w2, (0, (σ 25 o1 x3)), (0, (x4 + 1)), (0, (σ 24 o1 x3)), (0, (σ 25 o1 x3))] [] σ Q) ∧ ((σ 23 o1 x3) ≠ 10 → (((σ 23 o1 x3) = 11 → (0 ≤ (σ 25 o1 x3) ∧ (σ 25 o1 x3) < 23) ∧ (((σ 44 o0 (σ 25 o1 x3)) ≠ (-1) → (fx_rg (x4 + 1)) ∧ fx_Wp 67 22 [(36, o0), (22, o1), w2, (0, (σ 24 o1 x3)), (0, (x4 + 1)), (0, (σ 24 o1 x3)), (0, (σ 25 o1 x3))] [] σ Q) ∧ ((σ 44 o0 (σ 25 o1 x3)) = (-1) → (fx_rg (x4 + 1)) ∧ fx_Wp 67 22 [(36, o0), (22, o1), w2, (0, (σ 25 o1 x3)), (0, (x4 + 1)), (0, (σ 24 o1 x3)), (0, (σ 25 o1 x3))] [] σ Q))) ∧ ((σ 23 o1 x3) ≠ 11 → (((σ 23 o1 x3) = 12 → (0 ≤ (σ 25 o1 x3) ∧ (σ 25 o1 x3) < 23) ∧ (((σ 44 o0 (σ 25 o1 x3)) = (-1) → (fx_rg (x4 + 1)) ∧ fx_Wp 67 22 [(36, o0), (22, o1), w2, (0, (σ 24 o1 x3)), (0, (x4 + 1)), (0, (σ 24 o1 x3)), (0, (σ 25 o1 x3))] [] σ Q) ∧ ((σ 44 o0 (σ 25 o1 x3)) ≠ (-1) → Q (0, (-1)) (fx_up σ 36 o0 10 2)))) ∧ ((σ 23 o1 x3) ≠ 12 → (((σ 23 o1 x3) = 13 → Q (0, (σ 24 o1 x3)) σ) ∧ ((σ 23 o1 x3) ≠ 13 → (0 ≤ (σ 24 o1 x3) ∧ (σ 24 o1 x3) < 23) ∧ (((σ 44 o0 (σ 24 o1 x3)) = (-1) → (((σ 44 o0 (σ 24 o1 x3)) ≠ (-1) → (fx_rg (x4 + 1)) ∧ fx_Wp 67 22 [(36, o0), (22, o1), w2, (0, (σ 25 o1 x3)), (0, (x4 + 1)), (0, (σ 24 o1 x3)), (0, (σ 25 o1 x3))] [] σ Q) ∧ ((σ 44 o0 (σ 24 o1 x3)) = (-1) → (fx_rg (x4 + 1)) ∧ fx_Wp 67 22 [(36, o0), (22, o1), w2, (0, (σ 24 o1 x3)), (0, (x4 + 1)), (0, (σ 24 o1 x3)), (0, (σ 25 o1 x3))] [] σ Q))) ∧ ((σ 44 o0 (σ 24 o1 x3)) ≠ (-1) → (0 ≤ (σ 25 o1 x3) ∧ (σ 25 o1 x3) < 23) ∧ (((σ 44 o0 (σ 25 o1 x3)) = (-1) → (((σ 44 o0 (σ 24 o1 x3)) ≠ (-1) → (fx_rg (x4 + 1)) ∧ fx_Wp 67 22 [(36, o0), (22, o1), w2, (0, (σ 25 o1 x3)), (0, (x4 + 1)), (0, (σ 24 o1 x3)), (0, (σ 25 o1 x3))] [] σ Q) ∧ ((σ 44 o0 (σ 24 o1 x3)) = (-1) → (fx_rg (x4 + 1)) ∧ fx_Wp 67 22 [(36, o0), (22, o1), w2, (0, (σ 24 o1 x3)), (0, (x4 + 1)), (0, (σ 24 o1 x3)), (0, (σ 25 o1 x3))] [] σ Q))) ∧ ((σ 44 o0 (σ 25 o1 x3)) ≠ (-1) → Q (0, (-1)) (fx_up σ 36 o0 10 1)))))))))))))))))))))))))))))))))) : fx_Wp 67 22 [(36, o0), (22, o1), w2, (0, x3), (0, x4), w5, w6] [] σ Q := by
  refine wi_iload (pc' := 24) hm67 rfl rfl rfl ?_
  refine wi_aload_n (pc' := 25) hm67 rfl rfl rfl (by decide) ?_
  refine wi_getI (pc' := 28) hm67 rfl rfl (P := 3) rfl ?_
  refine wi_ic_ge (pc' := 31) (t := 231) hm67 rfl rfl rfl (fun hc => ?_) (fun hc => ?_)
  · replace h := h.1 hc
    refine wi_iconst (pc' := 232) (v := (-1)) hm67 rfl rfl rfl ?_
    exact wi_iret hm67 rfl h
  · replace h := h.2 hc
    refine wi_aload_n (pc' := 32) hm67 rfl rfl rfl (by decide) ?_
    refine wi_getR (pc' := 35) (x := o1) hm67 rfl rfl rfl (by omega) ?_
    refine wi_iload_n (pc' := 36) hm67 rfl rfl rfl ?_
    obtain ⟨g1, h⟩ := h
    refine wi_iaload (pc' := 37) hm67 rfl rfl rfl rfl (N := 23) rfl g1 ?_
    refine wi_istore (pc' := 39) (L' := [(36, o0), (22, o1), w2, (0, x3), (0, x4), (0, (σ 24 o1 x3)), w6]) hm67 rfl rfl rfl ?_
    refine wi_aload_n (pc' := 40) hm67 rfl rfl rfl (by decide) ?_
    refine wi_getR (pc' := 43) (x := o1) hm67 rfl rfl rfl (by omega) ?_
    refine wi_iload_n (pc' := 44) hm67 rfl rfl rfl ?_
    refine wi_iaload (pc' := 45) hm67 rfl rfl rfl rfl (N := 23) rfl g1 ?_
    refine wi_istore (pc' := 47) (L' := [(36, o0), (22, o1), w2, (0, x3), (0, x4), (0, (σ 24 o1 x3)), (0, (σ 25 o1 x3))]) hm67 rfl rfl rfl ?_
    refine wi_aload_n (pc' := 48) hm67 rfl rfl rfl (by decide) ?_
    refine wi_getR (pc' := 51) (x := o1) hm67 rfl rfl rfl (by omega) ?_
    refine wi_iload_n (pc' := 52) hm67 rfl rfl rfl ?_
    refine wi_iaload (pc' := 53) hm67 rfl rfl rfl rfl (N := 23) rfl g1 ?_
    refine wi_tsw hm67 rfl ?_
    refine fx_swc (fun hc => ?_) (fun hc => ?_)
    · replace h := h.1 hc
      refine wi_iconst (pc' := 124) (v := (-1)) hm67 rfl rfl rfl ?_
      exact wi_iret hm67 rfl h
    · replace h := h.2 hc
      refine fx_swc (fun hc => ?_) (fun hc => ?_)
      · replace h := h.1 hc
        refine wi_aload_n (pc' := 178) hm67 rfl rfl rfl (by decide) ?_
        refine wi_getR (pc' := 181) (x := o0) hm67 rfl rfl rfl (by omega) ?_
        refine wi_iload (pc' := 183) hm67 rfl rfl rfl ?_
        obtain ⟨g2, h⟩ := h
        refine wi_iaload (pc' := 184) hm67 rfl rfl rfl rfl (N := 23) rfl g2 ?_
        refine wi_iconst (pc' := 185) (v := (-1)) hm67 rfl rfl rfl ?_
        refine wi_ic_eq (pc' := 188) (t := 206) hm67 rfl rfl rfl (fun hc => ?_) (fun hc => ?_)
        · replace h := h.1 hc
          refine wi_aload_n (pc' := 207) hm67 rfl rfl rfl (by decide) ?_
          refine wi_getR (pc' := 210) (x := o0) hm67 rfl rfl rfl (by omega) ?_
          refine wi_iload (pc' := 212) hm67 rfl rfl rfl ?_
          refine wi_iaload (pc' := 213) hm67 rfl rfl rfl rfl (N := 23) rfl g2 ?_
          refine wi_iconst (pc' := 214) (v := (-1)) hm67 rfl rfl rfl ?_
          refine wi_ic_ne (pc' := 217) (t := 222) hm67 rfl rfl rfl (fun hc => ?_) (fun hc => ?_)
          · replace h := h.1 hc
            refine wi_iload (pc' := 224) hm67 rfl rfl rfl ?_
            refine wi_istore_n (pc' := 225) (L' := [(36, o0), (22, o1), w2, (0, (σ 25 o1 x3)), (0, x4), (0, (σ 24 o1 x3)), (0, (σ 25 o1 x3))]) hm67 rfl rfl rfl ?_
            obtain ⟨g3, h⟩ := h
            refine wi_iinc (pc' := 228) (L' := [(36, o0), (22, o1), w2, (0, (σ 25 o1 x3)), (0, (x4 + 1)), (0, (σ 24 o1 x3)), (0, (σ 25 o1 x3))]) hm67 rfl rfl rfl g3 rfl ?_
            refine wi_goto (t := 22) hm67 rfl rfl ?_
            exact h
          · replace h := h.2 hc
            refine wi_iload (pc' := 219) hm67 rfl rfl rfl ?_
            refine wi_goto (t := 224) hm67 rfl rfl ?_
            refine wi_istore_n (pc' := 225) (L' := [(36, o0), (22, o1), w2, (0, (σ 24 o1 x3)), (0, x4), (0, (σ 24 o1 x3)), (0, (σ 25 o1 x3))]) hm67 rfl rfl rfl ?_
            obtain ⟨g3, h⟩ := h
            refine wi_iinc (pc' := 228) (L' := [(36, o0), (22, o1), w2, (0, (σ 24 o1 x3)), (0, (x4 + 1)), (0, (σ 24 o1 x3)), (0, (σ 25 o1 x3))]) hm67 rfl rfl rfl g3 rfl ?_
            refine wi_goto (t := 22) hm67 rfl rfl ?_
            exact h
        · replace h := h.2 hc
          refine wi_aload_n (pc' := 189) hm67 rfl rfl rfl (by decide) ?_
          refine wi_getR (pc' := 192) (x := o0) hm67 rfl rfl rfl (by omega) ?_
          refine wi_iload (pc' := 194) hm67 rfl rfl rfl ?_
          obtain ⟨g3, h⟩ := h
          refine wi_iaload (pc' := 195) hm67 rfl rfl rfl rfl (N := 23) rfl g3 ?_
          refine wi_iconst (pc' := 196) (v := (-1)) hm67 rfl rfl rfl ?_
          refine wi_ic_eq (pc' := 199) (t := 206) hm67 rfl rfl rfl (fun hc => ?_) (fun hc => ?_)
          · replace h := h.1 hc
            refine wi_aload_n (pc' := 207) hm67 rfl rfl rfl (by decide) ?_
            refine wi_getR (pc' := 210) (x := o0) hm67 rfl rfl rfl (by omega) ?_
            refine wi_iload (pc' := 212) hm67 rfl rfl rfl ?_
            refine wi_iaload (pc' := 213) hm67 rfl rfl rfl rfl (N := 23) rfl g2 ?_
            refine wi_iconst (pc' := 214) (v := (-1)) hm67 rfl rfl rfl ?_
            refine wi_ic_ne (pc' := 217) (t := 222) hm67 rfl rfl rfl (fun hc => ?_) (fun hc => ?_)
            · replace h := h.1 hc
              refine wi_iload (pc' := 224) hm67 rfl rfl rfl ?_
              refine wi_istore_n (pc' := 225) (L' := [(36, o0), (22, o1), w2, (0, (σ 25 o1 x3)), (0, x4), (0, (σ 24 o1 x3)), (0, (σ 25 o1 x3))]) hm67 rfl rfl rfl ?_
              obtain ⟨g4, h⟩ := h
              refine wi_iinc (pc' := 228) (L' := [(36, o0), (22, o1), w2, (0, (σ 25 o1 x3)), (0, (x4 + 1)), (0, (σ 24 o1 x3)), (0, (σ 25 o1 x3))]) hm67 rfl rfl rfl g4 rfl ?_
              refine wi_goto (t := 22) hm67 rfl rfl ?_
              exact h
            · replace h := h.2 hc
              refine wi_iload (pc' := 219) hm67 rfl rfl rfl ?_
              refine wi_goto (t := 224) hm67 rfl rfl ?_
              refine wi_istore_n (pc' := 225) (L' := [(36, o0), (22, o1), w2, (0, (σ 24 o1 x3)), (0, x4), (0, (σ 24 o1 x3)), (0, (σ 25 o1 x3))]) hm67 rfl rfl rfl ?_
              obtain ⟨g4, h⟩ := h
              refine wi_iinc (pc' := 228) (L' := [(36, o0), (22, o1), w2, (0, (σ 24 o1 x3)), (0, (x4 + 1)), (0, (σ 24 o1 x3)), (0, (σ 25 o1 x3))]) hm67 rfl rfl rfl g4 rfl ?_
              refine wi_goto (t := 22) hm67 rfl rfl ?_
              exact h
          · replace h := h.2 hc
            refine wi_aload_n (pc' := 200) hm67 rfl rfl rfl (by decide) ?_
            refine wi_iconst (pc' := 201) (v := 1) hm67 rfl rfl rfl ?_
            refine wi_putI (pc' := 204) hm67 rfl rfl (P := 10) rfl ?_
            refine wi_iconst (pc' := 205) (v := (-1)) hm67 rfl rfl rfl ?_
            exact wi_iret hm67 rfl h
      · replace h := h.2 hc
        refine fx_swc (fun hc => ?_) (fun hc => ?_)
        · replace h := h.1 hc
          refine wi_aload_n (pc' := 178) hm67 rfl rfl rfl (by decide) ?_
          refine wi_getR (pc' := 181) (x := o0) hm67 rfl rfl rfl (by omega) ?_
          refine wi_iload (pc' := 183) hm67 rfl rfl rfl ?_
          obtain ⟨g2, h⟩ := h
          refine wi_iaload (pc' := 184) hm67 rfl rfl rfl rfl (N := 23) rfl g2 ?_
          refine wi_iconst (pc' := 185) (v := (-1)) hm67 rfl rfl rfl ?_
          refine wi_ic_eq (pc' := 188) (t := 206) hm67 rfl rfl rfl (fun hc => ?_) (fun hc => ?_)
          · replace h := h.1 hc
            refine wi_aload_n (pc' := 207) hm67 rfl rfl rfl (by decide) ?_
            refine wi_getR (pc' := 210) (x := o0) hm67 rfl rfl rfl (by omega) ?_
            refine wi_iload (pc' := 212) hm67 rfl rfl rfl ?_
            refine wi_iaload (pc' := 213) hm67 rfl rfl rfl rfl (N := 23) rfl g2 ?_
            refine wi_iconst (pc' := 214) (v := (-1)) hm67 rfl rfl rfl ?_
            refine wi_ic_ne (pc' := 217) (t := 222) hm67 rfl rfl rfl (fun hc => ?_) (fun hc => ?_)
            · replace h := h.1 hc
              refine wi_iload (pc' := 224) hm67 rfl rfl rfl ?_
              refine wi_istore_n (pc' := 225) (L' := [(36, o0), (22, o1), w2, (0, (σ 25 o1 x3)), (0, x4), (0, (σ 24 o1 x3)), (0, (σ 25 o1 x3))]) hm67 rfl rfl rfl ?_
              obtain ⟨g3, h⟩ := h
              refine wi_iinc (pc' := 228) (L' := [(36, o0), (22, o1), w2, (0, (σ 25 o1 x3)), (0, (x4 + 1)), (0, (σ 24 o1 x3)), (0, (σ 25 o1 x3))]) hm67 rfl rfl rfl g3 rfl ?_
              refine wi_goto (t := 22) hm67 rfl rfl ?_
              exact h
            · replace h := h.2 hc
              refine wi_iload (pc' := 219) hm67 rfl rfl rfl ?_
              refine wi_goto (t := 224) hm67 rfl rfl ?_
              refine wi_istore_n (pc' := 225) (L' := [(36, o0), (22, o1), w2, (0, (σ 24 o1 x3)), (0, x4), (0, (σ 24 o1 x3)), (0, (σ 25 o1 x3))]) hm67 rfl rfl rfl ?_
              obtain ⟨g3, h⟩ := h
              refine wi_iinc (pc' := 228) (L' := [(36, o0), (22, o1), w2, (0, (σ 24 o1 x3)), (0, (x4 + 1)), (0, (σ 24 o1 x3)), (0, (σ 25 o1 x3))]) hm67 rfl rfl rfl g3 rfl ?_
              refine wi_goto (t := 22) hm67 rfl rfl ?_
              exact h
          · replace h := h.2 hc
            refine wi_aload_n (pc' := 189) hm67 rfl rfl rfl (by decide) ?_
            refine wi_getR (pc' := 192) (x := o0) hm67 rfl rfl rfl (by omega) ?_
            refine wi_iload (pc' := 194) hm67 rfl rfl rfl ?_
            obtain ⟨g3, h⟩ := h
            refine wi_iaload (pc' := 195) hm67 rfl rfl rfl rfl (N := 23) rfl g3 ?_
            refine wi_iconst (pc' := 196) (v := (-1)) hm67 rfl rfl rfl ?_
            refine wi_ic_eq (pc' := 199) (t := 206) hm67 rfl rfl rfl (fun hc => ?_) (fun hc => ?_)
            · replace h := h.1 hc
              refine wi_aload_n (pc' := 207) hm67 rfl rfl rfl (by decide) ?_
              refine wi_getR (pc' := 210) (x := o0) hm67 rfl rfl rfl (by omega) ?_
              refine wi_iload (pc' := 212) hm67 rfl rfl rfl ?_
              refine wi_iaload (pc' := 213) hm67 rfl rfl rfl rfl (N := 23) rfl g2 ?_
              refine wi_iconst (pc' := 214) (v := (-1)) hm67 rfl rfl rfl ?_
              refine wi_ic_ne (pc' := 217) (t := 222) hm67 rfl rfl rfl (fun hc => ?_) (fun hc => ?_)
              · replace h := h.1 hc
                refine wi_iload (pc' := 224) hm67 rfl rfl rfl ?_
                refine wi_istore_n (pc' := 225) (L' := [(36, o0), (22, o1), w2, (0, (σ 25 o1 x3)), (0, x4), (0, (σ 24 o1 x3)), (0, (σ 25 o1 x3))]) hm67 rfl rfl rfl ?_
                obtain ⟨g4, h⟩ := h
                refine wi_iinc (pc' := 228) (L' := [(36, o0), (22, o1), w2, (0, (σ 25 o1 x3)), (0, (x4 + 1)), (0, (σ 24 o1 x3)), (0, (σ 25 o1 x3))]) hm67 rfl rfl rfl g4 rfl ?_
                refine wi_goto (t := 22) hm67 rfl rfl ?_
                exact h
              · replace h := h.2 hc
                refine wi_iload (pc' := 219) hm67 rfl rfl rfl ?_
                refine wi_goto (t := 224) hm67 rfl rfl ?_
                refine wi_istore_n (pc' := 225) (L' := [(36, o0), (22, o1), w2, (0, (σ 24 o1 x3)), (0, x4), (0, (σ 24 o1 x3)), (0, (σ 25 o1 x3))]) hm67 rfl rfl rfl ?_
                obtain ⟨g4, h⟩ := h
                refine wi_iinc (pc' := 228) (L' := [(36, o0), (22, o1), w2, (0, (σ 24 o1 x3)), (0, (x4 + 1)), (0, (σ 24 o1 x3)), (0, (σ 25 o1 x3))]) hm67 rfl rfl rfl g4 rfl ?_
                refine wi_goto (t := 22) hm67 rfl rfl ?_
                exact h
            · replace h := h.2 hc
              refine wi_aload_n (pc' := 200) hm67 rfl rfl rfl (by decide) ?_
              refine wi_iconst (pc' := 201) (v := 1) hm67 rfl rfl rfl ?_
              refine wi_putI (pc' := 204) hm67 rfl rfl (P := 10) rfl ?_
              refine wi_iconst (pc' := 205) (v := (-1)) hm67 rfl rfl rfl ?_
              exact wi_iret hm67 rfl h
        · replace h := h.2 hc
          refine fx_swc (fun hc => ?_) (fun hc => ?_)
          · replace h := h.1 hc
            refine wi_aload_n (pc' := 178) hm67 rfl rfl rfl (by decide) ?_
            refine wi_getR (pc' := 181) (x := o0) hm67 rfl rfl rfl (by omega) ?_
            refine wi_iload (pc' := 183) hm67 rfl rfl rfl ?_
            obtain ⟨g2, h⟩ := h
            refine wi_iaload (pc' := 184) hm67 rfl rfl rfl rfl (N := 23) rfl g2 ?_
            refine wi_iconst (pc' := 185) (v := (-1)) hm67 rfl rfl rfl ?_
            refine wi_ic_eq (pc' := 188) (t := 206) hm67 rfl rfl rfl (fun hc => ?_) (fun hc => ?_)
            · replace h := h.1 hc
              refine wi_aload_n (pc' := 207) hm67 rfl rfl rfl (by decide) ?_
              refine wi_getR (pc' := 210) (x := o0) hm67 rfl rfl rfl (by omega) ?_
              refine wi_iload (pc' := 212) hm67 rfl rfl rfl ?_
              refine wi_iaload (pc' := 213) hm67 rfl rfl rfl rfl (N := 23) rfl g2 ?_
              refine wi_iconst (pc' := 214) (v := (-1)) hm67 rfl rfl rfl ?_
              refine wi_ic_ne (pc' := 217) (t := 222) hm67 rfl rfl rfl (fun hc => ?_) (fun hc => ?_)
              · replace h := h.1 hc
                refine wi_iload (pc' := 224) hm67 rfl rfl rfl ?_
                refine wi_istore_n (pc' := 225) (L' := [(36, o0), (22, o1), w2, (0, (σ 25 o1 x3)), (0, x4), (0, (σ 24 o1 x3)), (0, (σ 25 o1 x3))]) hm67 rfl rfl rfl ?_
                obtain ⟨g3, h⟩ := h
                refine wi_iinc (pc' := 228) (L' := [(36, o0), (22, o1), w2, (0, (σ 25 o1 x3)), (0, (x4 + 1)), (0, (σ 24 o1 x3)), (0, (σ 25 o1 x3))]) hm67 rfl rfl rfl g3 rfl ?_
                refine wi_goto (t := 22) hm67 rfl rfl ?_
                exact h
              · replace h := h.2 hc
                refine wi_iload (pc' := 219) hm67 rfl rfl rfl ?_
                refine wi_goto (t := 224) hm67 rfl rfl ?_
                refine wi_istore_n (pc' := 225) (L' := [(36, o0), (22, o1), w2, (0, (σ 24 o1 x3)), (0, x4), (0, (σ 24 o1 x3)), (0, (σ 25 o1 x3))]) hm67 rfl rfl rfl ?_
                obtain ⟨g3, h⟩ := h
                refine wi_iinc (pc' := 228) (L' := [(36, o0), (22, o1), w2, (0, (σ 24 o1 x3)), (0, (x4 + 1)), (0, (σ 24 o1 x3)), (0, (σ 25 o1 x3))]) hm67 rfl rfl rfl g3 rfl ?_
                refine wi_goto (t := 22) hm67 rfl rfl ?_
                exact h
            · replace h := h.2 hc
              refine wi_aload_n (pc' := 189) hm67 rfl rfl rfl (by decide) ?_
              refine wi_getR (pc' := 192) (x := o0) hm67 rfl rfl rfl (by omega) ?_
              refine wi_iload (pc' := 194) hm67 rfl rfl rfl ?_
              obtain ⟨g3, h⟩ := h
              refine wi_iaload (pc' := 195) hm67 rfl rfl rfl rfl (N := 23) rfl g3 ?_
              refine wi_iconst (pc' := 196) (v := (-1)) hm67 rfl rfl rfl ?_
              refine wi_ic_eq (pc' := 199) (t := 206) hm67 rfl rfl rfl (fun hc => ?_) (fun hc => ?_)
              · replace h := h.1 hc
                refine wi_aload_n (pc' := 207) hm67 rfl rfl rfl (by decide) ?_
                refine wi_getR (pc' := 210) (x := o0) hm67 rfl rfl rfl (by omega) ?_
                refine wi_iload (pc' := 212) hm67 rfl rfl rfl ?_
                refine wi_iaload (pc' := 213) hm67 rfl rfl rfl rfl (N := 23) rfl g2 ?_
                refine wi_iconst (pc' := 214) (v := (-1)) hm67 rfl rfl rfl ?_
                refine wi_ic_ne (pc' := 217) (t := 222) hm67 rfl rfl rfl (fun hc => ?_) (fun hc => ?_)
                · replace h := h.1 hc
                  refine wi_iload (pc' := 224) hm67 rfl rfl rfl ?_
                  refine wi_istore_n (pc' := 225) (L' := [(36, o0), (22, o1), w2, (0, (σ 25 o1 x3)), (0, x4), (0, (σ 24 o1 x3)), (0, (σ 25 o1 x3))]) hm67 rfl rfl rfl ?_
                  obtain ⟨g4, h⟩ := h
                  refine wi_iinc (pc' := 228) (L' := [(36, o0), (22, o1), w2, (0, (σ 25 o1 x3)), (0, (x4 + 1)), (0, (σ 24 o1 x3)), (0, (σ 25 o1 x3))]) hm67 rfl rfl rfl g4 rfl ?_
                  refine wi_goto (t := 22) hm67 rfl rfl ?_
                  exact h
                · replace h := h.2 hc
                  refine wi_iload (pc' := 219) hm67 rfl rfl rfl ?_
                  refine wi_goto (t := 224) hm67 rfl rfl ?_
                  refine wi_istore_n (pc' := 225) (L' := [(36, o0), (22, o1), w2, (0, (σ 24 o1 x3)), (0, x4), (0, (σ 24 o1 x3)), (0, (σ 25 o1 x3))]) hm67 rfl rfl rfl ?_
                  obtain ⟨g4, h⟩ := h
                  refine wi_iinc (pc' := 228) (L' := [(36, o0), (22, o1), w2, (0, (σ 24 o1 x3)), (0, (x4 + 1)), (0, (σ 24 o1 x3)), (0, (σ 25 o1 x3))]) hm67 rfl rfl rfl g4 rfl ?_
                  refine wi_goto (t := 22) hm67 rfl rfl ?_
                  exact h
              · replace h := h.2 hc
                refine wi_aload_n (pc' := 200) hm67 rfl rfl rfl (by decide) ?_
                refine wi_iconst (pc' := 201) (v := 1) hm67 rfl rfl rfl ?_
                refine wi_putI (pc' := 204) hm67 rfl rfl (P := 10) rfl ?_
                refine wi_iconst (pc' := 205) (v := (-1)) hm67 rfl rfl rfl ?_
                exact wi_iret hm67 rfl h
          · replace h := h.2 hc
            refine fx_swc (fun hc => ?_) (fun hc => ?_)
            · replace h := h.1 hc
              refine wi_aload_n (pc' := 178) hm67 rfl rfl rfl (by decide) ?_
              refine wi_getR (pc' := 181) (x := o0) hm67 rfl rfl rfl (by omega) ?_
              refine wi_iload (pc' := 183) hm67 rfl rfl rfl ?_
              obtain ⟨g2, h⟩ := h
              refine wi_iaload (pc' := 184) hm67 rfl rfl rfl rfl (N := 23) rfl g2 ?_
              refine wi_iconst (pc' := 185) (v := (-1)) hm67 rfl rfl rfl ?_
              refine wi_ic_eq (pc' := 188) (t := 206) hm67 rfl rfl rfl (fun hc => ?_) (fun hc => ?_)
              · replace h := h.1 hc
                refine wi_aload_n (pc' := 207) hm67 rfl rfl rfl (by decide) ?_
                refine wi_getR (pc' := 210) (x := o0) hm67 rfl rfl rfl (by omega) ?_
                refine wi_iload (pc' := 212) hm67 rfl rfl rfl ?_
                refine wi_iaload (pc' := 213) hm67 rfl rfl rfl rfl (N := 23) rfl g2 ?_
                refine wi_iconst (pc' := 214) (v := (-1)) hm67 rfl rfl rfl ?_
                refine wi_ic_ne (pc' := 217) (t := 222) hm67 rfl rfl rfl (fun hc => ?_) (fun hc => ?_)
                · replace h := h.1 hc
                  refine wi_iload (pc' := 224) hm67 rfl rfl rfl ?_
                  refine wi_istore_n (pc' := 225) (L' := [(36, o0), (22, o1), w2, (0, (σ 25 o1 x3)), (0, x4), (0, (σ 24 o1 x3)), (0, (σ 25 o1 x3))]) hm67 rfl rfl rfl ?_
                  obtain ⟨g3, h⟩ := h
                  refine wi_iinc (pc' := 228) (L' := [(36, o0), (22, o1), w2, (0, (σ 25 o1 x3)), (0, (x4 + 1)), (0, (σ 24 o1 x3)), (0, (σ 25 o1 x3))]) hm67 rfl rfl rfl g3 rfl ?_
                  refine wi_goto (t := 22) hm67 rfl rfl ?_
                  exact h
                · replace h := h.2 hc
                  refine wi_iload (pc' := 219) hm67 rfl rfl rfl ?_
                  refine wi_goto (t := 224) hm67 rfl rfl ?_
                  refine wi_istore_n (pc' := 225) (L' := [(36, o0), (22, o1), w2, (0, (σ 24 o1 x3)), (0, x4), (0, (σ 24 o1 x3)), (0, (σ 25 o1 x3))]) hm67 rfl rfl rfl ?_
                  obtain ⟨g3, h⟩ := h
                  refine wi_iinc (pc' := 228) (L' := [(36, o0), (22, o1), w2, (0, (σ 24 o1 x3)), (0, (x4 + 1)), (0, (σ 24 o1 x3)), (0, (σ 25 o1 x3))]) hm67 rfl rfl rfl g3 rfl ?_
                  refine wi_goto (t := 22) hm67 rfl rfl ?_
                  exact h
              · replace h := h.2 hc
                refine wi_aload_n (pc' := 189) hm67 rfl rfl rfl (by decide) ?_
                refine wi_getR (pc' := 192) (x := o0) hm67 rfl rfl rfl (by omega) ?_
                refine wi_iload (pc' := 194) hm67 rfl rfl rfl ?_
                obtain ⟨g3, h⟩ := h
                refine wi_iaload (pc' := 195) hm67 rfl rfl rfl rfl (N := 23) rfl g3 ?_
                refine wi_iconst (pc' := 196) (v := (-1)) hm67 rfl rfl rfl ?_
                refine wi_ic_eq (pc' := 199) (t := 206) hm67 rfl rfl rfl (fun hc => ?_) (fun hc => ?_)
                · replace h := h.1 hc
                  refine wi_aload_n (pc' := 207) hm67 rfl rfl rfl (by decide) ?_
                  refine wi_getR (pc' := 210) (x := o0) hm67 rfl rfl rfl (by omega) ?_
                  refine wi_iload (pc' := 212) hm67 rfl rfl rfl ?_
                  refine wi_iaload (pc' := 213) hm67 rfl rfl rfl rfl (N := 23) rfl g2 ?_
                  refine wi_iconst (pc' := 214) (v := (-1)) hm67 rfl rfl rfl ?_
                  refine wi_ic_ne (pc' := 217) (t := 222) hm67 rfl rfl rfl (fun hc => ?_) (fun hc => ?_)
                  · replace h := h.1 hc
                    refine wi_iload (pc' := 224) hm67 rfl rfl rfl ?_
                    refine wi_istore_n (pc' := 225) (L' := [(36, o0), (22, o1), w2, (0, (σ 25 o1 x3)), (0, x4), (0, (σ 24 o1 x3)), (0, (σ 25 o1 x3))]) hm67 rfl rfl rfl ?_
                    obtain ⟨g4, h⟩ := h
                    refine wi_iinc (pc' := 228) (L' := [(36, o0), (22, o1), w2, (0, (σ 25 o1 x3)), (0, (x4 + 1)), (0, (σ 24 o1 x3)), (0, (σ 25 o1 x3))]) hm67 rfl rfl rfl g4 rfl ?_
                    refine wi_goto (t := 22) hm67 rfl rfl ?_
                    exact h
                  · replace h := h.2 hc
                    refine wi_iload (pc' := 219) hm67 rfl rfl rfl ?_
                    refine wi_goto (t := 224) hm67 rfl rfl ?_
                    refine wi_istore_n (pc' := 225) (L' := [(36, o0), (22, o1), w2, (0, (σ 24 o1 x3)), (0, x4), (0, (σ 24 o1 x3)), (0, (σ 25 o1 x3))]) hm67 rfl rfl rfl ?_
                    obtain ⟨g4, h⟩ := h
                    refine wi_iinc (pc' := 228) (L' := [(36, o0), (22, o1), w2, (0, (σ 24 o1 x3)), (0, (x4 + 1)), (0, (σ 24 o1 x3)), (0, (σ 25 o1 x3))]) hm67 rfl rfl rfl g4 rfl ?_
                    refine wi_goto (t := 22) hm67 rfl rfl ?_
                    exact h
                · replace h := h.2 hc
                  refine wi_aload_n (pc' := 200) hm67 rfl rfl rfl (by decide) ?_
                  refine wi_iconst (pc' := 201) (v := 1) hm67 rfl rfl rfl ?_
                  refine wi_putI (pc' := 204) hm67 rfl rfl (P := 10) rfl ?_
                  refine wi_iconst (pc' := 205) (v := (-1)) hm67 rfl rfl rfl ?_
                  exact wi_iret hm67 rfl h
            · replace h := h.2 hc
              refine fx_swc (fun hc => ?_) (fun hc => ?_)
              · replace h := h.1 hc
                refine wi_aload_n (pc' := 178) hm67 rfl rfl rfl (by decide) ?_
                refine wi_getR (pc' := 181) (x := o0) hm67 rfl rfl rfl (by omega) ?_
                refine wi_iload (pc' := 183) hm67 rfl rfl rfl ?_
                obtain ⟨g2, h⟩ := h
                refine wi_iaload (pc' := 184) hm67 rfl rfl rfl rfl (N := 23) rfl g2 ?_
                refine wi_iconst (pc' := 185) (v := (-1)) hm67 rfl rfl rfl ?_
                refine wi_ic_eq (pc' := 188) (t := 206) hm67 rfl rfl rfl (fun hc => ?_) (fun hc => ?_)
                · replace h := h.1 hc
                  refine wi_aload_n (pc' := 207) hm67 rfl rfl rfl (by decide) ?_
                  refine wi_getR (pc' := 210) (x := o0) hm67 rfl rfl rfl (by omega) ?_
                  refine wi_iload (pc' := 212) hm67 rfl rfl rfl ?_
                  refine wi_iaload (pc' := 213) hm67 rfl rfl rfl rfl (N := 23) rfl g2 ?_
                  refine wi_iconst (pc' := 214) (v := (-1)) hm67 rfl rfl rfl ?_
                  refine wi_ic_ne (pc' := 217) (t := 222) hm67 rfl rfl rfl (fun hc => ?_) (fun hc => ?_)
                  · replace h := h.1 hc
                    refine wi_iload (pc' := 224) hm67 rfl rfl rfl ?_
                    refine wi_istore_n (pc' := 225) (L' := [(36, o0), (22, o1), w2, (0, (σ 25 o1 x3)), (0, x4), (0, (σ 24 o1 x3)), (0, (σ 25 o1 x3))]) hm67 rfl rfl rfl ?_
                    obtain ⟨g3, h⟩ := h
                    refine wi_iinc (pc' := 228) (L' := [(36, o0), (22, o1), w2, (0, (σ 25 o1 x3)), (0, (x4 + 1)), (0, (σ 24 o1 x3)), (0, (σ 25 o1 x3))]) hm67 rfl rfl rfl g3 rfl ?_
                    refine wi_goto (t := 22) hm67 rfl rfl ?_
                    exact h
                  · replace h := h.2 hc
                    refine wi_iload (pc' := 219) hm67 rfl rfl rfl ?_
                    refine wi_goto (t := 224) hm67 rfl rfl ?_
                    refine wi_istore_n (pc' := 225) (L' := [(36, o0), (22, o1), w2, (0, (σ 24 o1 x3)), (0, x4), (0, (σ 24 o1 x3)), (0, (σ 25 o1 x3))]) hm67 rfl rfl rfl ?_
                    obtain ⟨g3, h⟩ := h
                    refine wi_iinc (pc' := 228) (L' := [(36, o0), (22, o1), w2, (0, (σ 24 o1 x3)), (0, (x4 + 1)), (0, (σ 24 o1 x3)), (0, (σ 25 o1 x3))]) hm67 rfl rfl rfl g3 rfl ?_
                    refine wi_goto (t := 22) hm67 rfl rfl ?_
                    exact h
                · replace h := h.2 hc
                  refine wi_aload_n (pc' := 189) hm67 rfl rfl rfl (by decide) ?_
                  refine wi_getR (pc' := 192) (x := o0) hm67 rfl rfl rfl (by omega) ?_
                  refine wi_iload (pc' := 194) hm67 rfl rfl rfl ?_
                  obtain ⟨g3, h⟩ := h
                  refine wi_iaload (pc' := 195) hm67 rfl rfl rfl rfl (N := 23) rfl g3 ?_
                  refine wi_iconst (pc' := 196) (v := (-1)) hm67 rfl rfl rfl ?_
                  refine wi_ic_eq (pc' := 199) (t := 206) hm67 rfl rfl rfl (fun hc => ?_) (fun hc => ?_)
                  · replace h := h.1 hc
                    refine wi_aload_n (pc' := 207) hm67 rfl rfl rfl (by decide) ?_
                    refine wi_getR (pc' := 210) (x := o0) hm67 rfl rfl rfl (by omega) ?_
                    refine wi_iload (pc' := 212) hm67 rfl rfl rfl ?_
                    refine wi_iaload (pc' := 213) hm67 rfl rfl rfl rfl (N := 23) rfl g2 ?_
                    refine wi_iconst (pc' := 214) (v := (-1)) hm67 rfl rfl rfl ?_
                    refine wi_ic_ne (pc' := 217) (t := 222) hm67 rfl rfl rfl (fun hc => ?_) (fun hc => ?_)
                    · replace h := h.1 hc
                      refine wi_iload (pc' := 224) hm67 rfl rfl rfl ?_
                      refine wi_istore_n (pc' := 225) (L' := [(36, o0), (22, o1), w2, (0, (σ 25 o1 x3)), (0, x4), (0, (σ 24 o1 x3)), (0, (σ 25 o1 x3))]) hm67 rfl rfl rfl ?_
                      obtain ⟨g4, h⟩ := h
                      refine wi_iinc (pc' := 228) (L' := [(36, o0), (22, o1), w2, (0, (σ 25 o1 x3)), (0, (x4 + 1)), (0, (σ 24 o1 x3)), (0, (σ 25 o1 x3))]) hm67 rfl rfl rfl g4 rfl ?_
                      refine wi_goto (t := 22) hm67 rfl rfl ?_
                      exact h
                    · replace h := h.2 hc
                      refine wi_iload (pc' := 219) hm67 rfl rfl rfl ?_
                      refine wi_goto (t := 224) hm67 rfl rfl ?_
                      refine wi_istore_n (pc' := 225) (L' := [(36, o0), (22, o1), w2, (0, (σ 24 o1 x3)), (0, x4), (0, (σ 24 o1 x3)), (0, (σ 25 o1 x3))]) hm67 rfl rfl rfl ?_
                      obtain ⟨g4, h⟩ := h
                      refine wi_iinc (pc' := 228) (L' := [(36, o0), (22, o1), w2, (0, (σ 24 o1 x3)), (0, (x4 + 1)), (0, (σ 24 o1 x3)), (0, (σ 25 o1 x3))]) hm67 rfl rfl rfl g4 rfl ?_
                      refine wi_goto (t := 22) hm67 rfl rfl ?_
                      exact h
                  · replace h := h.2 hc
                    refine wi_aload_n (pc' := 200) hm67 rfl rfl rfl (by decide) ?_
                    refine wi_iconst (pc' := 201) (v := 1) hm67 rfl rfl rfl ?_
                    refine wi_putI (pc' := 204) hm67 rfl rfl (P := 10) rfl ?_
                    refine wi_iconst (pc' := 205) (v := (-1)) hm67 rfl rfl rfl ?_
                    exact wi_iret hm67 rfl h
              · replace h := h.2 hc
                refine fx_swc (fun hc => ?_) (fun hc => ?_)
                · replace h := h.1 hc
                  refine wi_aload_n (pc' := 178) hm67 rfl rfl rfl (by decide) ?_
                  refine wi_getR (pc' := 181) (x := o0) hm67 rfl rfl rfl (by omega) ?_
                  refine wi_iload (pc' := 183) hm67 rfl rfl rfl ?_
                  obtain ⟨g2, h⟩ := h
                  refine wi_iaload (pc' := 184) hm67 rfl rfl rfl rfl (N := 23) rfl g2 ?_
                  refine wi_iconst (pc' := 185) (v := (-1)) hm67 rfl rfl rfl ?_
                  refine wi_ic_eq (pc' := 188) (t := 206) hm67 rfl rfl rfl (fun hc => ?_) (fun hc => ?_)
                  · replace h := h.1 hc
                    refine wi_aload_n (pc' := 207) hm67 rfl rfl rfl (by decide) ?_
                    refine wi_getR (pc' := 210) (x := o0) hm67 rfl rfl rfl (by omega) ?_
                    refine wi_iload (pc' := 212) hm67 rfl rfl rfl ?_
                    refine wi_iaload (pc' := 213) hm67 rfl rfl rfl rfl (N := 23) rfl g2 ?_
                    refine wi_iconst (pc' := 214) (v := (-1)) hm67 rfl rfl rfl ?_
                    refine wi_ic_ne (pc' := 217) (t := 222) hm67 rfl rfl rfl (fun hc => ?_) (fun hc => ?_)
                    · replace h := h.1 hc
                      refine wi_iload (pc' := 224) hm67 rfl rfl rfl ?_
                      refine wi_istore_n (pc' := 225) (L' := [(36, o0), (22, o1), w2, (0, (σ 25 o1 x3)), (0, x4), (0, (σ 24 o1 x3)), (0, (σ 25 o1 x3))]) hm67 rfl rfl rfl ?_
                      obtain ⟨g3, h⟩ := h
                      refine wi_iinc (pc' := 228) (L' := [(36, o0), (22, o1), w2, (0, (σ 25 o1 x3)), (0, (x4 + 1)), (0, (σ 24 o1 x3)), (0, (σ 25 o1 x3))]) hm67 rfl rfl rfl g3 rfl ?_
                      refine wi_goto (t := 22) hm67 rfl rfl ?_
                      exact h
                    · replace h := h.2 hc
                      refine wi_iload (pc' := 219) hm67 rfl rfl rfl ?_
                      refine wi_goto (t := 224) hm67 rfl rfl ?_
                      refine wi_istore_n (pc' := 225) (L' := [(36, o0), (22, o1), w2, (0, (σ 24 o1 x3)), (0, x4), (0, (σ 24 o1 x3)), (0, (σ 25 o1 x3))]) hm67 rfl rfl rfl ?_
                      obtain ⟨g3, h⟩ := h
                      refine wi_iinc (pc' := 228) (L' := [(36, o0), (22, o1), w2, (0, (σ 24 o1 x3)), (0, (x4 + 1)), (0, (σ 24 o1 x3)), (0, (σ 25 o1 x3))]) hm67 rfl rfl rfl g3 rfl ?_
                      refine wi_goto (t := 22) hm67 rfl rfl ?_
                      exact h
                  · replace h := h.2 hc
                    refine wi_aload_n (pc' := 189) hm67 rfl rfl rfl (by decide) ?_
                    refine wi_getR (pc' := 192) (x := o0) hm67 rfl rfl rfl (by omega) ?_
                    refine wi_iload (pc' := 194) hm67 rfl rfl rfl ?_
                    obtain ⟨g3, h⟩ := h
                    refine wi_iaload (pc' := 195) hm67 rfl rfl rfl rfl (N := 23) rfl g3 ?_
                    refine wi_iconst (pc' := 196) (v := (-1)) hm67 rfl rfl rfl ?_
                    refine wi_ic_eq (pc' := 199) (t := 206) hm67 rfl rfl rfl (fun hc => ?_) (fun hc => ?_)
                    · replace h := h.1 hc
                      refine wi_aload_n (pc' := 207) hm67 rfl rfl rfl (by decide) ?_
                      refine wi_getR (pc' := 210) (x := o0) hm67 rfl rfl rfl (by omega) ?_
                      refine wi_iload (pc' := 212) hm67 rfl rfl rfl ?_
                      refine wi_iaload (pc' := 213) hm67 rfl rfl rfl rfl (N := 23) rfl g2 ?_
                      refine wi_iconst (pc' := 214) (v := (-1)) hm67 rfl rfl rfl ?_
                      refine wi_ic_ne (pc' := 217) (t := 222) hm67 rfl rfl rfl (fun hc => ?_) (fun hc => ?_)
                      · replace h := h.1 hc
                        refine wi_iload (pc' := 224) hm67 rfl rfl rfl ?_
                        refine wi_istore_n (pc' := 225) (L' := [(36, o0), (22, o1), w2, (0, (σ 25 o1 x3)), (0, x4), (0, (σ 24 o1 x3)), (0, (σ 25 o1 x3))]) hm67 rfl rfl rfl ?_
                        obtain ⟨g4, h⟩ := h
                        refine wi_iinc (pc' := 228) (L' := [(36, o0), (22, o1), w2, (0, (σ 25 o1 x3)), (0, (x4 + 1)), (0, (σ 24 o1 x3)), (0, (σ 25 o1 x3))]) hm67 rfl rfl rfl g4 rfl ?_
                        refine wi_goto (t := 22) hm67 rfl rfl ?_
                        exact h
                      · replace h := h.2 hc
                        refine wi_iload (pc' := 219) hm67 rfl rfl rfl ?_
                        refine wi_goto (t := 224) hm67 rfl rfl ?_
                        refine wi_istore_n (pc' := 225) (L' := [(36, o0), (22, o1), w2, (0, (σ 24 o1 x3)), (0, x4), (0, (σ 24 o1 x3)), (0, (σ 25 o1 x3))]) hm67 rfl rfl rfl ?_
                        obtain ⟨g4, h⟩ := h
                        refine wi_iinc (pc' := 228) (L' := [(36, o0), (22, o1), w2, (0, (σ 24 o1 x3)), (0, (x4 + 1)), (0, (σ 24 o1 x3)), (0, (σ 25 o1 x3))]) hm67 rfl rfl rfl g4 rfl ?_
                        refine wi_goto (t := 22) hm67 rfl rfl ?_
                        exact h
                    · replace h := h.2 hc
                      refine wi_aload_n (pc' := 200) hm67 rfl rfl rfl (by decide) ?_
                      refine wi_iconst (pc' := 201) (v := 1) hm67 rfl rfl rfl ?_
                      refine wi_putI (pc' := 204) hm67 rfl rfl (P := 10) rfl ?_
                      refine wi_iconst (pc' := 205) (v := (-1)) hm67 rfl rfl rfl ?_
                      exact wi_iret hm67 rfl h
                · replace h := h.2 hc
                  refine fx_swc (fun hc => ?_) (fun hc => ?_)
                  · replace h := h.1 hc
                    refine wi_aload_n (pc' := 178) hm67 rfl rfl rfl (by decide) ?_
                    refine wi_getR (pc' := 181) (x := o0) hm67 rfl rfl rfl (by omega) ?_
                    refine wi_iload (pc' := 183) hm67 rfl rfl rfl ?_
                    obtain ⟨g2, h⟩ := h
                    refine wi_iaload (pc' := 184) hm67 rfl rfl rfl rfl (N := 23) rfl g2 ?_
                    refine wi_iconst (pc' := 185) (v := (-1)) hm67 rfl rfl rfl ?_
                    refine wi_ic_eq (pc' := 188) (t := 206) hm67 rfl rfl rfl (fun hc => ?_) (fun hc => ?_)
                    · replace h := h.1 hc
                      refine wi_aload_n (pc' := 207) hm67 rfl rfl rfl (by decide) ?_
                      refine wi_getR (pc' := 210) (x := o0) hm67 rfl rfl rfl (by omega) ?_
                      refine wi_iload (pc' := 212) hm67 rfl rfl rfl ?_
                      refine wi_iaload (pc' := 213) hm67 rfl rfl rfl rfl (N := 23) rfl g2 ?_
                      refine wi_iconst (pc' := 214) (v := (-1)) hm67 rfl rfl rfl ?_
                      refine wi_ic_ne (pc' := 217) (t := 222) hm67 rfl rfl rfl (fun hc => ?_) (fun hc => ?_)
                      · replace h := h.1 hc
                        refine wi_iload (pc' := 224) hm67 rfl rfl rfl ?_
                        refine wi_istore_n (pc' := 225) (L' := [(36, o0), (22, o1), w2, (0, (σ 25 o1 x3)), (0, x4), (0, (σ 24 o1 x3)), (0, (σ 25 o1 x3))]) hm67 rfl rfl rfl ?_
                        obtain ⟨g3, h⟩ := h
                        refine wi_iinc (pc' := 228) (L' := [(36, o0), (22, o1), w2, (0, (σ 25 o1 x3)), (0, (x4 + 1)), (0, (σ 24 o1 x3)), (0, (σ 25 o1 x3))]) hm67 rfl rfl rfl g3 rfl ?_
                        refine wi_goto (t := 22) hm67 rfl rfl ?_
                        exact h
                      · replace h := h.2 hc
                        refine wi_iload (pc' := 219) hm67 rfl rfl rfl ?_
                        refine wi_goto (t := 224) hm67 rfl rfl ?_
                        refine wi_istore_n (pc' := 225) (L' := [(36, o0), (22, o1), w2, (0, (σ 24 o1 x3)), (0, x4), (0, (σ 24 o1 x3)), (0, (σ 25 o1 x3))]) hm67 rfl rfl rfl ?_
                        obtain ⟨g3, h⟩ := h
                        refine wi_iinc (pc' := 228) (L' := [(36, o0), (22, o1), w2, (0, (σ 24 o1 x3)), (0, (x4 + 1)), (0, (σ 24 o1 x3)), (0, (σ 25 o1 x3))]) hm67 rfl rfl rfl g3 rfl ?_
                        refine wi_goto (t := 22) hm67 rfl rfl ?_
                        exact h
                    · replace h := h.2 hc
                      refine wi_aload_n (pc' := 189) hm67 rfl rfl rfl (by decide) ?_
                      refine wi_getR (pc' := 192) (x := o0) hm67 rfl rfl rfl (by omega) ?_
                      refine wi_iload (pc' := 194) hm67 rfl rfl rfl ?_
                      obtain ⟨g3, h⟩ := h
                      refine wi_iaload (pc' := 195) hm67 rfl rfl rfl rfl (N := 23) rfl g3 ?_
                      refine wi_iconst (pc' := 196) (v := (-1)) hm67 rfl rfl rfl ?_
                      refine wi_ic_eq (pc' := 199) (t := 206) hm67 rfl rfl rfl (fun hc => ?_) (fun hc => ?_)
                      · replace h := h.1 hc
                        refine wi_aload_n (pc' := 207) hm67 rfl rfl rfl (by decide) ?_
                        refine wi_getR (pc' := 210) (x := o0) hm67 rfl rfl rfl (by omega) ?_
                        refine wi_iload (pc' := 212) hm67 rfl rfl rfl ?_
                        refine wi_iaload (pc' := 213) hm67 rfl rfl rfl rfl (N := 23) rfl g2 ?_
                        refine wi_iconst (pc' := 214) (v := (-1)) hm67 rfl rfl rfl ?_
                        refine wi_ic_ne (pc' := 217) (t := 222) hm67 rfl rfl rfl (fun hc => ?_) (fun hc => ?_)
                        · replace h := h.1 hc
                          refine wi_iload (pc' := 224) hm67 rfl rfl rfl ?_
                          refine wi_istore_n (pc' := 225) (L' := [(36, o0), (22, o1), w2, (0, (σ 25 o1 x3)), (0, x4), (0, (σ 24 o1 x3)), (0, (σ 25 o1 x3))]) hm67 rfl rfl rfl ?_
                          obtain ⟨g4, h⟩ := h
                          refine wi_iinc (pc' := 228) (L' := [(36, o0), (22, o1), w2, (0, (σ 25 o1 x3)), (0, (x4 + 1)), (0, (σ 24 o1 x3)), (0, (σ 25 o1 x3))]) hm67 rfl rfl rfl g4 rfl ?_
                          refine wi_goto (t := 22) hm67 rfl rfl ?_
                          exact h
                        · replace h := h.2 hc
                          refine wi_iload (pc' := 219) hm67 rfl rfl rfl ?_
                          refine wi_goto (t := 224) hm67 rfl rfl ?_
                          refine wi_istore_n (pc' := 225) (L' := [(36, o0), (22, o1), w2, (0, (σ 24 o1 x3)), (0, x4), (0, (σ 24 o1 x3)), (0, (σ 25 o1 x3))]) hm67 rfl rfl rfl ?_
                          obtain ⟨g4, h⟩ := h
                          refine wi_iinc (pc' := 228) (L' := [(36, o0), (22, o1), w2, (0, (σ 24 o1 x3)), (0, (x4 + 1)), (0, (σ 24 o1 x3)), (0, (σ 25 o1 x3))]) hm67 rfl rfl rfl g4 rfl ?_
                          refine wi_goto (t := 22) hm67 rfl rfl ?_
                          exact h
                      · replace h := h.2 hc
                        refine wi_aload_n (pc' := 200) hm67 rfl rfl rfl (by decide) ?_
                        refine wi_iconst (pc' := 201) (v := 1) hm67 rfl rfl rfl ?_
                        refine wi_putI (pc' := 204) hm67 rfl rfl (P := 10) rfl ?_
                        refine wi_iconst (pc' := 205) (v := (-1)) hm67 rfl rfl rfl ?_
                        exact wi_iret hm67 rfl h
                  · replace h := h.2 hc
                    refine fx_swc (fun hc => ?_) (fun hc => ?_)
                    · replace h := h.1 hc
                      refine wi_aload_n (pc' := 178) hm67 rfl rfl rfl (by decide) ?_
                      refine wi_getR (pc' := 181) (x := o0) hm67 rfl rfl rfl (by omega) ?_
                      refine wi_iload (pc' := 183) hm67 rfl rfl rfl ?_
                      obtain ⟨g2, h⟩ := h
                      refine wi_iaload (pc' := 184) hm67 rfl rfl rfl rfl (N := 23) rfl g2 ?_
                      refine wi_iconst (pc' := 185) (v := (-1)) hm67 rfl rfl rfl ?_
                      refine wi_ic_eq (pc' := 188) (t := 206) hm67 rfl rfl rfl (fun hc => ?_) (fun hc => ?_)
                      · replace h := h.1 hc
                        refine wi_aload_n (pc' := 207) hm67 rfl rfl rfl (by decide) ?_
                        refine wi_getR (pc' := 210) (x := o0) hm67 rfl rfl rfl (by omega) ?_
                        refine wi_iload (pc' := 212) hm67 rfl rfl rfl ?_
                        refine wi_iaload (pc' := 213) hm67 rfl rfl rfl rfl (N := 23) rfl g2 ?_
                        refine wi_iconst (pc' := 214) (v := (-1)) hm67 rfl rfl rfl ?_
                        refine wi_ic_ne (pc' := 217) (t := 222) hm67 rfl rfl rfl (fun hc => ?_) (fun hc => ?_)
                        · replace h := h.1 hc
                          refine wi_iload (pc' := 224) hm67 rfl rfl rfl ?_
                          refine wi_istore_n (pc' := 225) (L' := [(36, o0), (22, o1), w2, (0, (σ 25 o1 x3)), (0, x4), (0, (σ 24 o1 x3)), (0, (σ 25 o1 x3))]) hm67 rfl rfl rfl ?_
                          obtain ⟨g3, h⟩ := h
                          refine wi_iinc (pc' := 228) (L' := [(36, o0), (22, o1), w2, (0, (σ 25 o1 x3)), (0, (x4 + 1)), (0, (σ 24 o1 x3)), (0, (σ 25 o1 x3))]) hm67 rfl rfl rfl g3 rfl ?_
                          refine wi_goto (t := 22) hm67 rfl rfl ?_
                          exact h
                        · replace h := h.2 hc
                          refine wi_iload (pc' := 219) hm67 rfl rfl rfl ?_
                          refine wi_goto (t := 224) hm67 rfl rfl ?_
                          refine wi_istore_n (pc' := 225) (L' := [(36, o0), (22, o1), w2, (0, (σ 24 o1 x3)), (0, x4), (0, (σ 24 o1 x3)), (0, (σ 25 o1 x3))]) hm67 rfl rfl rfl ?_
                          obtain ⟨g3, h⟩ := h
                          refine wi_iinc (pc' := 228) (L' := [(36, o0), (22, o1), w2, (0, (σ 24 o1 x3)), (0, (x4 + 1)), (0, (σ 24 o1 x3)), (0, (σ 25 o1 x3))]) hm67 rfl rfl rfl g3 rfl ?_
                          refine wi_goto (t := 22) hm67 rfl rfl ?_
                          exact h
                      · replace h := h.2 hc
                        refine wi_aload_n (pc' := 189) hm67 rfl rfl rfl (by decide) ?_
                        refine wi_getR (pc' := 192) (x := o0) hm67 rfl rfl rfl (by omega) ?_
                        refine wi_iload (pc' := 194) hm67 rfl rfl rfl ?_
                        obtain ⟨g3, h⟩ := h
                        refine wi_iaload (pc' := 195) hm67 rfl rfl rfl rfl (N := 23) rfl g3 ?_
                        refine wi_iconst (pc' := 196) (v := (-1)) hm67 rfl rfl rfl ?_
                        refine wi_ic_eq (pc' := 199) (t := 206) hm67 rfl rfl rfl (fun hc => ?_) (fun hc => ?_)
                        · replace h := h.1 hc
                          refine wi_aload_n (pc' := 207) hm67 rfl rfl rfl (by decide) ?_
                          refine wi_getR (pc' := 210) (x := o0) hm67 rfl rfl rfl (by omega) ?_
                          refine wi_iload (pc' := 212) hm67 rfl rfl rfl ?_
                          refine wi_iaload (pc' := 213) hm67 rfl rfl rfl rfl (N := 23) rfl g2 ?_
                          refine wi_iconst (pc' := 214) (v := (-1)) hm67 rfl rfl rfl ?_
                          refine wi_ic_ne (pc' := 217) (t := 222) hm67 rfl rfl rfl (fun hc => ?_) (fun hc => ?_)
                          · replace h := h.1 hc
                            refine wi_iload (pc' := 224) hm67 rfl rfl rfl ?_
                            refine wi_istore_n (pc' := 225) (L' := [(36, o0), (22, o1), w2, (0, (σ 25 o1 x3)), (0, x4), (0, (σ 24 o1 x3)), (0, (σ 25 o1 x3))]) hm67 rfl rfl rfl ?_
                            obtain ⟨g4, h⟩ := h
                            refine wi_iinc (pc' := 228) (L' := [(36, o0), (22, o1), w2, (0, (σ 25 o1 x3)), (0, (x4 + 1)), (0, (σ 24 o1 x3)), (0, (σ 25 o1 x3))]) hm67 rfl rfl rfl g4 rfl ?_
                            refine wi_goto (t := 22) hm67 rfl rfl ?_
                            exact h
                          · replace h := h.2 hc
                            refine wi_iload (pc' := 219) hm67 rfl rfl rfl ?_
                            refine wi_goto (t := 224) hm67 rfl rfl ?_
                            refine wi_istore_n (pc' := 225) (L' := [(36, o0), (22, o1), w2, (0, (σ 24 o1 x3)), (0, x4), (0, (σ 24 o1 x3)), (0, (σ 25 o1 x3))]) hm67 rfl rfl rfl ?_
                            obtain ⟨g4, h⟩ := h
                            refine wi_iinc (pc' := 228) (L' := [(36, o0), (22, o1), w2, (0, (σ 24 o1 x3)), (0, (x4 + 1)), (0, (σ 24 o1 x3)), (0, (σ 25 o1 x3))]) hm67 rfl rfl rfl g4 rfl ?_
                            refine wi_goto (t := 22) hm67 rfl rfl ?_
                            exact h
                        · replace h := h.2 hc
                          refine wi_aload_n (pc' := 200) hm67 rfl rfl rfl (by decide) ?_
                          refine wi_iconst (pc' := 201) (v := 1) hm67 rfl rfl rfl ?_
                          refine wi_putI (pc' := 204) hm67 rfl rfl (P := 10) rfl ?_
                          refine wi_iconst (pc' := 205) (v := (-1)) hm67 rfl rfl rfl ?_
                          exact wi_iret hm67 rfl h
                    · replace h := h.2 hc
                      refine fx_swc (fun hc => ?_) (fun hc => ?_)
                      · replace h := h.1 hc
                        refine wi_iload (pc' := 127) hm67 rfl rfl rfl ?_
                        refine wi_istore_n (pc' := 128) (L' := [(36, o0), (22, o1), w2, (0, (σ 25 o1 x3)), (0, x4), (0, (σ 24 o1 x3)), (0, (σ 25 o1 x3))]) hm67 rfl rfl rfl ?_
                        refine wi_goto (t := 225) hm67 rfl rfl ?_
                        obtain ⟨g2, h⟩ := h
                        refine wi_iinc (pc' := 228) (L' := [(36, o0), (22, o1), w2, (0, (σ 25 o1 x3)), (0, (x4 + 1)), (0, (σ 24 o1 x3)), (0, (σ 25 o1 x3))]) hm67 rfl rfl rfl g2 rfl ?_
                        refine wi_goto (t := 22) hm67 rfl rfl ?_
                        exact h
                      · replace h := h.2 hc
                        refine fx_swc (fun hc => ?_) (fun hc => ?_)
                        · replace h := h.1 hc
                          refine wi_aload_n (pc' := 132) hm67 rfl rfl rfl (by decide) ?_
                          refine wi_getR (pc' := 135) (x := o0) hm67 rfl rfl rfl (by omega) ?_
                          refine wi_iload (pc' := 137) hm67 rfl rfl rfl ?_
                          obtain ⟨g2, h⟩ := h
                          refine wi_iaload (pc' := 138) hm67 rfl rfl rfl rfl (N := 23) rfl g2 ?_
                          refine wi_iconst (pc' := 139) (v := (-1)) hm67 rfl rfl rfl ?_
                          refine wi_ic_ne (pc' := 142) (t := 147) hm67 rfl rfl rfl (fun hc => ?_) (fun hc => ?_)
                          · replace h := h.1 hc
                            refine wi_iload (pc' := 149) hm67 rfl rfl rfl ?_
                            refine wi_istore_n (pc' := 150) (L' := [(36, o0), (22, o1), w2, (0, (σ 24 o1 x3)), (0, x4), (0, (σ 24 o1 x3)), (0, (σ 25 o1 x3))]) hm67 rfl rfl rfl ?_
                            refine wi_goto (t := 225) hm67 rfl rfl ?_
                            obtain ⟨g3, h⟩ := h
                            refine wi_iinc (pc' := 228) (L' := [(36, o0), (22, o1), w2, (0, (σ 24 o1 x3)), (0, (x4 + 1)), (0, (σ 24 o1 x3)), (0, (σ 25 o1 x3))]) hm67 rfl rfl rfl g3 rfl ?_
                            refine wi_goto (t := 22) hm67 rfl rfl ?_
                            exact h
                          · replace h := h.2 hc
                            refine wi_iload (pc' := 144) hm67 rfl rfl rfl ?_
                            refine wi_goto (t := 149) hm67 rfl rfl ?_
                            refine wi_istore_n (pc' := 150) (L' := [(36, o0), (22, o1), w2, (0, (σ 25 o1 x3)), (0, x4), (0, (σ 24 o1 x3)), (0, (σ 25 o1 x3))]) hm67 rfl rfl rfl ?_
                            refine wi_goto (t := 225) hm67 rfl rfl ?_
                            obtain ⟨g3, h⟩ := h
                            refine wi_iinc (pc' := 228) (L' := [(36, o0), (22, o1), w2, (0, (σ 25 o1 x3)), (0, (x4 + 1)), (0, (σ 24 o1 x3)), (0, (σ 25 o1 x3))]) hm67 rfl rfl rfl g3 rfl ?_
                            refine wi_goto (t := 22) hm67 rfl rfl ?_
                            exact h
                        · replace h := h.2 hc
                          refine fx_swc (fun hc => ?_) (fun hc => ?_)
                          · replace h := h.1 hc
                            refine wi_aload_n (pc' := 154) hm67 rfl rfl rfl (by decide) ?_
                            refine wi_getR (pc' := 157) (x := o0) hm67 rfl rfl rfl (by omega) ?_
                            refine wi_iload (pc' := 159) hm67 rfl rfl rfl ?_
                            obtain ⟨g2, h⟩ := h
                            refine wi_iaload (pc' := 160) hm67 rfl rfl rfl rfl (N := 23) rfl g2 ?_
                            refine wi_iconst (pc' := 161) (v := (-1)) hm67 rfl rfl rfl ?_
                            refine wi_ic_eq (pc' := 164) (t := 171) hm67 rfl rfl rfl (fun hc => ?_) (fun hc => ?_)
                            · replace h := h.1 hc
                              refine wi_iload (pc' := 173) hm67 rfl rfl rfl ?_
                              refine wi_istore_n (pc' := 174) (L' := [(36, o0), (22, o1), w2, (0, (σ 24 o1 x3)), (0, x4), (0, (σ 24 o1 x3)), (0, (σ 25 o1 x3))]) hm67 rfl rfl rfl ?_
                              refine wi_goto (t := 225) hm67 rfl rfl ?_
                              obtain ⟨g3, h⟩ := h
                              refine wi_iinc (pc' := 228) (L' := [(36, o0), (22, o1), w2, (0, (σ 24 o1 x3)), (0, (x4 + 1)), (0, (σ 24 o1 x3)), (0, (σ 25 o1 x3))]) hm67 rfl rfl rfl g3 rfl ?_
                              refine wi_goto (t := 22) hm67 rfl rfl ?_
                              exact h
                            · replace h := h.2 hc
                              refine wi_aload_n (pc' := 165) hm67 rfl rfl rfl (by decide) ?_
                              refine wi_iconst (pc' := 166) (v := 2) hm67 rfl rfl rfl ?_
                              refine wi_putI (pc' := 169) hm67 rfl rfl (P := 10) rfl ?_
                              refine wi_iconst (pc' := 170) (v := (-1)) hm67 rfl rfl rfl ?_
                              exact wi_iret hm67 rfl h
                          · replace h := h.2 hc
                            refine fx_swc (fun hc => ?_) (fun hc => ?_)
                            · replace h := h.1 hc
                              refine wi_iload (pc' := 122) hm67 rfl rfl rfl ?_
                              exact wi_iret hm67 rfl h
                            · replace h := h.2 hc
                              refine fx_swn ?_
                              refine wi_aload_n (pc' := 178) hm67 rfl rfl rfl (by decide) ?_
                              refine wi_getR (pc' := 181) (x := o0) hm67 rfl rfl rfl (by omega) ?_
                              refine wi_iload (pc' := 183) hm67 rfl rfl rfl ?_
                              obtain ⟨g2, h⟩ := h
                              refine wi_iaload (pc' := 184) hm67 rfl rfl rfl rfl (N := 23) rfl g2 ?_
                              refine wi_iconst (pc' := 185) (v := (-1)) hm67 rfl rfl rfl ?_
                              refine wi_ic_eq (pc' := 188) (t := 206) hm67 rfl rfl rfl (fun hc => ?_) (fun hc => ?_)
                              · replace h := h.1 hc
                                refine wi_aload_n (pc' := 207) hm67 rfl rfl rfl (by decide) ?_
                                refine wi_getR (pc' := 210) (x := o0) hm67 rfl rfl rfl (by omega) ?_
                                refine wi_iload (pc' := 212) hm67 rfl rfl rfl ?_
                                refine wi_iaload (pc' := 213) hm67 rfl rfl rfl rfl (N := 23) rfl g2 ?_
                                refine wi_iconst (pc' := 214) (v := (-1)) hm67 rfl rfl rfl ?_
                                refine wi_ic_ne (pc' := 217) (t := 222) hm67 rfl rfl rfl (fun hc => ?_) (fun hc => ?_)
                                · replace h := h.1 hc
                                  refine wi_iload (pc' := 224) hm67 rfl rfl rfl ?_
                                  refine wi_istore_n (pc' := 225) (L' := [(36, o0), (22, o1), w2, (0, (σ 25 o1 x3)), (0, x4), (0, (σ 24 o1 x3)), (0, (σ 25 o1 x3))]) hm67 rfl rfl rfl ?_
                                  obtain ⟨g3, h⟩ := h
                                  refine wi_iinc (pc' := 228) (L' := [(36, o0), (22, o1), w2, (0, (σ 25 o1 x3)), (0, (x4 + 1)), (0, (σ 24 o1 x3)), (0, (σ 25 o1 x3))]) hm67 rfl rfl rfl g3 rfl ?_
                                  refine wi_goto (t := 22) hm67 rfl rfl ?_
                                  exact h
                                · replace h := h.2 hc
                                  refine wi_iload (pc' := 219) hm67 rfl rfl rfl ?_
                                  refine wi_goto (t := 224) hm67 rfl rfl ?_
                                  refine wi_istore_n (pc' := 225) (L' := [(36, o0), (22, o1), w2, (0, (σ 24 o1 x3)), (0, x4), (0, (σ 24 o1 x3)), (0, (σ 25 o1 x3))]) hm67 rfl rfl rfl ?_
                                  obtain ⟨g3, h⟩ := h
                                  refine wi_iinc (pc' := 228) (L' := [(36, o0), (22, o1), w2, (0, (σ 24 o1 x3)), (0, (x4 + 1)), (0, (σ 24 o1 x3)), (0, (σ 25 o1 x3))]) hm67 rfl rfl rfl g3 rfl ?_
                                  refine wi_goto (t := 22) hm67 rfl rfl ?_
                                  exact h
                              · replace h := h.2 hc
                                refine wi_aload_n (pc' := 189) hm67 rfl rfl rfl (by decide) ?_
                                refine wi_getR (pc' := 192) (x := o0) hm67 rfl rfl rfl (by omega) ?_
                                refine wi_iload (pc' := 194) hm67 rfl rfl rfl ?_
                                obtain ⟨g3, h⟩ := h
                                refine wi_iaload (pc' := 195) hm67 rfl rfl rfl rfl (N := 23) rfl g3 ?_
                                refine wi_iconst (pc' := 196) (v := (-1)) hm67 rfl rfl rfl ?_
                                refine wi_ic_eq (pc' := 199) (t := 206) hm67 rfl rfl rfl (fun hc => ?_) (fun hc => ?_)
                                · replace h := h.1 hc
                                  refine wi_aload_n (pc' := 207) hm67 rfl rfl rfl (by decide) ?_
                                  refine wi_getR (pc' := 210) (x := o0) hm67 rfl rfl rfl (by omega) ?_
                                  refine wi_iload (pc' := 212) hm67 rfl rfl rfl ?_
                                  refine wi_iaload (pc' := 213) hm67 rfl rfl rfl rfl (N := 23) rfl g2 ?_
                                  refine wi_iconst (pc' := 214) (v := (-1)) hm67 rfl rfl rfl ?_
                                  refine wi_ic_ne (pc' := 217) (t := 222) hm67 rfl rfl rfl (fun hc => ?_) (fun hc => ?_)
                                  · replace h := h.1 hc
                                    refine wi_iload (pc' := 224) hm67 rfl rfl rfl ?_
                                    refine wi_istore_n (pc' := 225) (L' := [(36, o0), (22, o1), w2, (0, (σ 25 o1 x3)), (0, x4), (0, (σ 24 o1 x3)), (0, (σ 25 o1 x3))]) hm67 rfl rfl rfl ?_
                                    obtain ⟨g4, h⟩ := h
                                    refine wi_iinc (pc' := 228) (L' := [(36, o0), (22, o1), w2, (0, (σ 25 o1 x3)), (0, (x4 + 1)), (0, (σ 24 o1 x3)), (0, (σ 25 o1 x3))]) hm67 rfl rfl rfl g4 rfl ?_
                                    refine wi_goto (t := 22) hm67 rfl rfl ?_
                                    exact h
                                  · replace h := h.2 hc
                                    refine wi_iload (pc' := 219) hm67 rfl rfl rfl ?_
                                    refine wi_goto (t := 224) hm67 rfl rfl ?_
                                    refine wi_istore_n (pc' := 225) (L' := [(36, o0), (22, o1), w2, (0, (σ 24 o1 x3)), (0, x4), (0, (σ 24 o1 x3)), (0, (σ 25 o1 x3))]) hm67 rfl rfl rfl ?_
                                    obtain ⟨g4, h⟩ := h
                                    refine wi_iinc (pc' := 228) (L' := [(36, o0), (22, o1), w2, (0, (σ 24 o1 x3)), (0, (x4 + 1)), (0, (σ 24 o1 x3)), (0, (σ 25 o1 x3))]) hm67 rfl rfl rfl g4 rfl ?_
                                    refine wi_goto (t := 22) hm67 rfl rfl ?_
                                    exact h
                                · replace h := h.2 hc
                                  refine wi_aload_n (pc' := 200) hm67 rfl rfl rfl (by decide) ?_
                                  refine wi_iconst (pc' := 201) (v := 1) hm67 rfl rfl rfl ?_
                                  refine wi_putI (pc' := 204) hm67 rfl rfl (P := 10) rfl ?_
                                  refine wi_iconst (pc' := 205) (v := (-1)) hm67 rfl rfl rfl ?_
                                  exact wi_iret hm67 rfl h
theorem hm68 : fx_code 68 = fx_c68 := rfl
theorem t68_0 {o0 x1 x2 : Int} {σ : fx_S} {Q : fx_V → fx_S → Prop} (h : (0 ≤ x1 ∧ x1 < 8) ∧ (0 ≤ x2 ∧ x2 < 1001) ∧ (0 ≤ (σ 38 o0 x2) ∧ (σ 38 o0 x2) < 121) ∧ Q (0, (σ 43 (8 * o0 + 0 + x1) (σ 38 o0 x2))) σ) : fx_Ca 68 [(36, o0), (0, x1), (0, x2)] σ Q := by
  show fx_Wp 68 0 [(36, o0), (0, x1), (0, x2)] [] σ Q
  refine wi_aload_n (pc' := 1) hm68 rfl rfl rfl (by decide) ?_
  refine wi_getR (pc' := 4) (x := o0) hm68 rfl rfl rfl (by omega) ?_
  refine wi_iload_n (pc' := 5) hm68 rfl rfl rfl ?_
  obtain ⟨g1, h⟩ := h
  refine wi_aaload (pc' := 6) (x := (8 * o0 + 0 + x1)) hm68 rfl rfl rfl rfl (N := 8) rfl g1 (by omega) ?_
  refine wi_aload_n (pc' := 7) hm68 rfl rfl rfl (by decide) ?_
  refine wi_getR (pc' := 10) (x := o0) hm68 rfl rfl rfl (by omega) ?_
  refine wi_iload_n (pc' := 11) hm68 rfl rfl rfl ?_
  obtain ⟨g2, h⟩ := h
  refine wi_iaload (pc' := 12) hm68 rfl rfl rfl rfl (N := 1001) rfl g2 ?_
  obtain ⟨g3, h⟩ := h
  refine wi_iaload (pc' := 13) hm68 rfl rfl rfl rfl (N := 121) rfl g3 ?_
  exact wi_iret hm68 rfl h
theorem hm69 : fx_code 69 = fx_c69 := rfl
theorem t69_0 {o0 x1 x2 : Int} {σ : fx_S} {Q : fx_V → fx_S → Prop} (h : (0 ≤ x1 ∧ x1 < 8) ∧ (0 ≤ x2 ∧ x2 < 1001) ∧ (0 ≤ (σ 38 o0 x2) ∧ (σ 38 o0 x2) < 121) ∧ Q (0, (σ 41 (8 * o0 + 0 + x1) (σ 38 o0 x2))) σ) : fx_Ca 69 [(36, o0), (0, x1), (0, x2)] σ Q := by
  show fx_Wp 69 0 [(36, o0), (0, x1), (0, x2)] [] σ Q
  refine wi_aload_n (pc' := 1) hm69 rfl rfl rfl (by decide) ?_
  refine wi_getR (pc' := 4) (x := o0) hm69 rfl rfl rfl (by omega) ?_
  refine wi_iload_n (pc' := 5) hm69 rfl rfl rfl ?_
  obtain ⟨g1, h⟩ := h
  refine wi_aaload (pc' := 6) (x := (8 * o0 + 0 + x1)) hm69 rfl rfl rfl rfl (N := 8) rfl g1 (by omega) ?_
  refine wi_aload_n (pc' := 7) hm69 rfl rfl rfl (by decide) ?_
  refine wi_getR (pc' := 10) (x := o0) hm69 rfl rfl rfl (by omega) ?_
  refine wi_iload_n (pc' := 11) hm69 rfl rfl rfl ?_
  obtain ⟨g2, h⟩ := h
  refine wi_iaload (pc' := 12) hm69 rfl rfl rfl rfl (N := 1001) rfl g2 ?_
  obtain ⟨g3, h⟩ := h
  refine wi_iaload (pc' := 13) hm69 rfl rfl rfl rfl (N := 121) rfl g3 ?_
  exact wi_iret hm69 rfl h
theorem hm70 : fx_code 70 = fx_c70 := rfl
theorem t70_0 {o0 x1 : Int} {σ : fx_S} {Q : fx_V → fx_S → Prop} (h : (fx_rg (x1 + 1)) ∧ (0 ≤ (x1 + 1) ∧ (x1 + 1) < 122) ∧ (0 ≤ x1 ∧ x1 < 122) ∧ (fx_rg ((σ 37 o0 (x1 + 1)) - (σ 37 o0 x1))) ∧ Q (0, ((σ 37 o0 (x1 + 1)) - (σ 37 o0 x1))) σ) : fx_Ca 70 [(36, o0), (0, x1)] σ Q := by
  show fx_Wp 70 0 [(36, o0), (0, x1)] [] σ Q
  refine wi_aload_n (pc' := 1) hm70 rfl rfl rfl (by decide) ?_
  refine wi_getR (pc' := 4) (x := o0) hm70 rfl rfl rfl (by omega) ?_
  refine wi_iload_n (pc' := 5) hm70 rfl rfl rfl ?_
  refine wi_iconst (pc' := 6) (v := 1) hm70 rfl rfl rfl ?_
  obtain ⟨g1, h⟩ := h
  refine wi_iadd (pc' := 7) hm70 rfl rfl g1 ?_
  obtain ⟨g2, h⟩ := h
  refine wi_iaload (pc' := 8) hm70 rfl rfl rfl rfl (N := 122) rfl g2 ?_
  refine wi_aload_n (pc' := 9) hm70 rfl rfl rfl (by decide) ?_
  refine wi_getR (pc' := 12) (x := o0) hm70 rfl rfl rfl (by omega) ?_
  refine wi_iload_n (pc' := 13) hm70 rfl rfl rfl ?_
  obtain ⟨g3, h⟩ := h
  refine wi_iaload (pc' := 14) hm70 rfl rfl rfl rfl (N := 122) rfl g3 ?_
  obtain ⟨g4, h⟩ := h
  refine wi_isub (pc' := 15) hm70 rfl rfl g4 ?_
  exact wi_iret hm70 rfl h
theorem hm71 : fx_code 71 = fx_c71 := rfl
theorem t71_0 {o0 x1 x2 : Int} {σ : fx_S} {Q : fx_V → fx_S → Prop} (h : (fx_rg (x2 + 1)) ∧ fx_Wp 71 4 [(36, o0), (0, x1), (0, x2), (0, (x2 + 1))] [] σ Q) : fx_Ca 71 [(36, o0), (0, x1), (0, x2)] σ Q := by
  show fx_Wp 71 0 [(36, o0), (0, x1), (0, x2), (3, 0)] [] σ Q
  refine wi_iload_n (pc' := 1) hm71 rfl rfl rfl ?_
  refine wi_iconst (pc' := 2) (v := 1) hm71 rfl rfl rfl ?_
  obtain ⟨g1, h⟩ := h
  refine wi_iadd (pc' := 3) hm71 rfl rfl g1 ?_
  refine wi_istore_n (pc' := 4) (L' := [(36, o0), (0, x1), (0, x2), (0, (x2 + 1))]) hm71 rfl rfl rfl ?_
  exact h
theorem t71_4 {o0 x1 x2 x3 : Int} {σ : fx_S} {Q : fx_V → fx_S → Prop} (h : (((σ 36 o0 8) ≤ x3 → Q (0, x3) σ) ∧ (x3 < (σ 36 o0 8) → (0 ≤ x1 ∧ x1 < 8) ∧ (0 ≤ x3 ∧ x3 < 121) ∧ (0 ≤ x2 ∧ x2 < 121) ∧ (((σ 43 (8 * o0 + 0 + x1) x3) ≠ (σ 43 (8 * o0 + 0 + x1) x2) → Q (0, x3) σ) ∧ ((σ 43 (8 * o0 + 0 + x1) x3) = (σ 43 (8 * o0 + 0 + x1) x2) → (fx_rg (x3 + 1)) ∧ fx_Wp 71 4 [(36, o0), (0, x1), (0, x2), (0, (x3 + 1))] [] σ Q))))) : fx_Wp 71 4 [(36, o0), (0, x1), (0, x2), (0, x3)] [] σ Q := by
  refine wi_iload_n (pc' := 5) hm71 rfl rfl rfl ?_
  refine wi_aload_n (pc' := 6) hm71 rfl rfl rfl (by decide) ?_
  refine wi_getI (pc' := 9) hm71 rfl rfl (P := 8) rfl ?_
  refine wi_ic_ge (pc' := 12) (t := 37) hm71 rfl rfl rfl (fun hc => ?_) (fun hc => ?_)
  · replace h := h.1 hc
    refine wi_iload_n (pc' := 38) hm71 rfl rfl rfl ?_
    exact wi_iret hm71 rfl h
  · replace h := h.2 hc
    refine wi_aload_n (pc' := 13) hm71 rfl rfl rfl (by decide) ?_
    refine wi_getR (pc' := 16) (x := o0) hm71 rfl rfl rfl (by omega) ?_
    refine wi_iload_n (pc' := 17) hm71 rfl rfl rfl ?_
    obtain ⟨g1, h⟩ := h
    refine wi_aaload (pc' := 18) (x := (8 * o0 + 0 + x1)) hm71 rfl rfl rfl rfl (N := 8) rfl g1 (by omega) ?_
    refine wi_iload_n (pc' := 19) hm71 rfl rfl rfl ?_
    obtain ⟨g2, h⟩ := h
    refine wi_iaload (pc' := 20) hm71 rfl rfl rfl rfl (N := 121) rfl g2 ?_
    refine wi_aload_n (pc' := 21) hm71 rfl rfl rfl (by decide) ?_
    refine wi_getR (pc' := 24) (x := o0) hm71 rfl rfl rfl (by omega) ?_
    refine wi_iload_n (pc' := 25) hm71 rfl rfl rfl ?_
    refine wi_aaload (pc' := 26) (x := (8 * o0 + 0 + x1)) hm71 rfl rfl rfl rfl (N := 8) rfl g1 (by omega) ?_
    refine wi_iload_n (pc' := 27) hm71 rfl rfl rfl ?_
    obtain ⟨g3, h⟩ := h
    refine wi_iaload (pc' := 28) hm71 rfl rfl rfl rfl (N := 121) rfl g3 ?_
    refine wi_ic_ne (pc' := 31) (t := 37) hm71 rfl rfl rfl (fun hc => ?_) (fun hc => ?_)
    · replace h := h.1 hc
      refine wi_iload_n (pc' := 38) hm71 rfl rfl rfl ?_
      exact wi_iret hm71 rfl h
    · replace h := h.2 hc
      obtain ⟨g4, h⟩ := h
      refine wi_iinc (pc' := 34) (L' := [(36, o0), (0, x1), (0, x2), (0, (x3 + 1))]) hm71 rfl rfl rfl g4 rfl ?_
      refine wi_goto (t := 4) hm71 rfl rfl ?_
      exact h
theorem hm72 : fx_code 72 = fx_c72 := rfl
theorem t72_0 {o0 x1 x2 : Int} {σ : fx_S} {Q : fx_V → fx_S → Prop} (h : (0 ≤ x2 ∧ x2 < 1001) ∧ fx_Wp 72 7 [(36, o0), (0, x1), (0, x2), (0, (σ 38 o0 x2))] [] σ Q) : fx_Ca 72 [(36, o0), (0, x1), (0, x2)] σ Q := by
  show fx_Wp 72 0 [(36, o0), (0, x1), (0, x2), (3, 0)] [] σ Q
  refine wi_aload_n (pc' := 1) hm72 rfl rfl rfl (by decide) ?_
  refine wi_getR (pc' := 4) (x := o0) hm72 rfl rfl rfl (by omega) ?_
  refine wi_iload_n (pc' := 5) hm72 rfl rfl rfl ?_
  obtain ⟨g1, h⟩ := h
  refine wi_iaload (pc' := 6) hm72 rfl rfl rfl rfl (N := 1001) rfl g1 ?_
  refine wi_istore_n (pc' := 7) (L' := [(36, o0), (0, x1), (0, x2), (0, (σ 38 o0 x2))]) hm72 rfl rfl rfl ?_
  exact h
theorem t72_7 {o0 x1 x3 : Int} {w2 : fx_V} {σ : fx_S} {Q : fx_V → fx_S → Prop} (h : ((x3 ≤ 0 → (0 ≤ x3 ∧ x3 < 122) ∧ Q (0, (σ 37 o0 x3)) σ) ∧ (0 < x3 → (0 ≤ x1 ∧ x1 < 8) ∧ (fx_rg (x3 - 1)) ∧ (0 ≤ (x3 - 1) ∧ (x3 - 1) < 121) ∧ (0 ≤ x3 ∧ x3 < 121) ∧ (((σ 43 (8 * o0 + 0 + x1) (x3 - 1)) ≠ (σ 43 (8 * o0 + 0 + x1) x3) → (0 ≤ x3 ∧ x3 < 122) ∧ Q (0, (σ 37 o0 x3)) σ) ∧ ((σ 43 (8 * o0 + 0 + x1) (x3 - 1)) = (σ 43 (8 * o0 + 0 + x1) x3) → (fx_rg (x3 + (-1))) ∧ fx_Wp 72 7 [(36, o0), (0, x1), w2, (0, (x3 + (-1)))] [] σ Q))))) : fx_Wp 72 7 [(36, o0), (0, x1), w2, (0, x3)] [] σ Q := by
  refine wi_iload_n (pc' := 8) hm72 rfl rfl rfl ?_
  refine wi_if_le (pc' := 11) (t := 38) hm72 rfl rfl rfl (fun hc => ?_) (fun hc => ?_)
  · replace h := h.1 hc
    refine wi_aload_n (pc' := 39) hm72 rfl rfl rfl (by decide) ?_
    refine wi_getR (pc' := 42) (x := o0) hm72 rfl rfl rfl (by omega) ?_
    refine wi_iload_n (pc' := 43) hm72 rfl rfl rfl ?_
    obtain ⟨g1, h⟩ := h
    refine wi_iaload (pc' := 44) hm72 rfl rfl rfl rfl (N := 122) rfl g1 ?_
    exact wi_iret hm72 rfl h
  · replace h := h.2 hc
    refine wi_aload_n (pc' := 12) hm72 rfl rfl rfl (by decide) ?_
    refine wi_getR (pc' := 15) (x := o0) hm72 rfl rfl rfl (by omega) ?_
    refine wi_iload_n (pc' := 16) hm72 rfl rfl rfl ?_
    obtain ⟨g1, h⟩ := h
    refine wi_aaload (pc' := 17) (x := (8 * o0 + 0 + x1)) hm72 rfl rfl rfl rfl (N := 8) rfl g1 (by omega) ?_
    refine wi_iload_n (pc' := 18) hm72 rfl rfl rfl ?_
    refine wi_iconst (pc' := 19) (v := 1) hm72 rfl rfl rfl ?_
    obtain ⟨g2, h⟩ := h
    refine wi_isub (pc' := 20) hm72 rfl rfl g2 ?_
    obtain ⟨g3, h⟩ := h
    refine wi_iaload (pc' := 21) hm72 rfl rfl rfl rfl (N := 121) rfl g3 ?_
    refine wi_aload_n (pc' := 22) hm72 rfl rfl rfl (by decide) ?_
    refine wi_getR (pc' := 25) (x := o0) hm72 rfl rfl rfl (by omega) ?_
    refine wi_iload_n (pc' := 26) hm72 rfl rfl rfl ?_
    refine wi_aaload (pc' := 27) (x := (8 * o0 + 0 + x1)) hm72 rfl rfl rfl rfl (N := 8) rfl g1 (by omega) ?_
    refine wi_iload_n (pc' := 28) hm72 rfl rfl rfl ?_
    obtain ⟨g4, h⟩ := h
    refine wi_iaload (pc' := 29) hm72 rfl rfl rfl rfl (N := 121) rfl g4 ?_
    refine wi_ic_ne (pc' := 32) (t := 38) hm72 rfl rfl rfl (fun hc => ?_) (fun hc => ?_)
    · replace h := h.1 hc
      refine wi_aload_n (pc' := 39) hm72 rfl rfl rfl (by decide) ?_
      refine wi_getR (pc' := 42) (x := o0) hm72 rfl rfl rfl (by omega) ?_
      refine wi_iload_n (pc' := 43) hm72 rfl rfl rfl ?_
      obtain ⟨g5, h⟩ := h
      refine wi_iaload (pc' := 44) hm72 rfl rfl rfl rfl (N := 122) rfl g5 ?_
      exact wi_iret hm72 rfl h
    · replace h := h.2 hc
      obtain ⟨g5, h⟩ := h
      refine wi_iinc (pc' := 35) (L' := [(36, o0), (0, x1), w2, (0, (x3 + (-1)))]) hm72 rfl rfl rfl g5 rfl ?_
      refine wi_goto (t := 7) hm72 rfl rfl ?_
      exact h
theorem hm73 : fx_code 73 = fx_c73 := rfl
theorem t73_0 {o0 x1 x2 : Int} {σ : fx_S} {Q : fx_V → fx_S → Prop} (h : (0 ≤ x2 ∧ x2 < 1001) ∧ fx_CI 71 [(36, o0), (0, x1), (0, (σ 38 o0 x2))] σ Q (fun y1 σ1 => (0 ≤ y1 ∧ y1 < 122) ∧ Q (0, (σ1 37 o0 y1)) σ1)) : fx_Ca 73 [(36, o0), (0, x1), (0, x2)] σ Q := by
  show fx_Wp 73 0 [(36, o0), (0, x1), (0, x2)] [] σ Q
  refine wi_aload_n (pc' := 1) hm73 rfl rfl rfl (by decide) ?_
  refine wi_getR (pc' := 4) (x := o0) hm73 rfl rfl rfl (by omega) ?_
  refine wi_aload_n (pc' := 5) hm73 rfl rfl rfl (by decide) ?_
  refine wi_iload_n (pc' := 6) hm73 rfl rfl rfl ?_
  refine wi_aload_n (pc' := 7) hm73 rfl rfl rfl (by decide) ?_
  refine wi_getR (pc' := 10) (x := o0) hm73 rfl rfl rfl (by omega) ?_
  refine wi_iload_n (pc' := 11) hm73 rfl rfl rfl ?_
  obtain ⟨g1, h⟩ := h
  refine wi_iaload (pc' := 12) hm73 rfl rfl rfl rfl (N := 1001) rfl g1 ?_
  refine wc_I (pc' := 15) (by decide) rfl (by decide) ((fx_wE hm73 rfl).trans (fx_exV (mj := 71) (as := [(0, x1), (0, (σ 38 o0 x2))]) (rest := [(37, o0)]) rfl rk71 rfl rfl rfl rfl rfl)) h (fun y1 σ1 h => ?_)
  obtain ⟨g2, h⟩ := h
  refine wi_iaload (pc' := 16) hm73 rfl rfl rfl rfl (N := 122) rfl g2 ?_
  exact wi_iret hm73 rfl h
theorem hm74 : fx_code 74 = fx_c74 := rfl
theorem t74_0 {o0 x1 x2 x3 : Int} {σ : fx_S} {Q : fx_V → fx_S → Prop} (h : (0 ≤ x1 ∧ x1 < 8) ∧ (0 ≤ x2 ∧ x2 < 121) ∧ (((σ 43 (8 * o0 + 0 + x1) x2) ≠ (-1) → ((x3 = 0 → ((x2 = 0 → Q (0, 1) σ) ∧ (x2 ≠ 0 → (fx_rg (x2 - 1)) ∧ (0 ≤ (x2 - 1) ∧ (x2 - 1) < 121) ∧ (((σ 43 (8 * o0 + 0 + x1) (x2 - 1)) = (σ 43 (8 * o0 + 0 + x1) x2) → Q (0, 0) σ) ∧ ((σ 43 (8 * o0 + 0 + x1) (x2 - 1)) ≠ (σ 43 (8 * o0 + 0 + x1) x2) → Q (0, 1) σ))))) ∧ (x3 ≠ 0 → Q (0, 0) σ))) ∧ ((σ 43 (8 * o0 + 0 + x1) x2) = (-1) → ((x3 = 1 → ((x2 = 0 → Q (0, 1) σ) ∧ (x2 ≠ 0 → (fx_rg (x2 - 1)) ∧ (0 ≤ (x2 - 1) ∧ (x2 - 1) < 121) ∧ (((σ 43 (8 * o0 + 0 + x1) (x2 - 1)) = (σ 43 (8 * o0 + 0 + x1) x2) → Q (0, 0) σ) ∧ ((σ 43 (8 * o0 + 0 + x1) (x2 - 1)) ≠ (σ 43 (8 * o0 + 0 + x1) x2) → Q (0, 1) σ))))) ∧ (x3 ≠ 1 → Q (0, 0) σ))))) : fx_Ca 74 [(36, o0), (0, x1), (0, x2), (0, x3)] σ Q := by
  show fx_Wp 74 0 [(36, o0), (0, x1), (0, x2), (0, x3)] [] σ Q
  refine wi_iload_n (pc' := 1) hm74 rfl rfl rfl ?_
  refine wi_aload_n (pc' := 2) hm74 rfl rfl rfl (by decide) ?_
  refine wi_getR (pc' := 5) (x := o0) hm74 rfl rfl rfl (by omega) ?_
  refine wi_iload_n (pc' := 6) hm74 rfl rfl rfl ?_
  obtain ⟨g1, h⟩ := h
  refine wi_aaload (pc' := 7) (x := (8 * o0 + 0 + x1)) hm74 rfl rfl rfl rfl (N := 8) rfl g1 (by omega) ?_
  refine wi_iload_n (pc' := 8) hm74 rfl rfl rfl ?_
  obtain ⟨g2, h⟩ := h
  refine wi_iaload (pc' := 9) hm74 rfl rfl rfl rfl (N := 121) rfl g2 ?_
  refine wi_iconst (pc' := 10) (v := (-1)) hm74 rfl rfl rfl ?_
  refine wi_ic_ne (pc' := 13) (t := 17) hm74 rfl rfl rfl (fun hc => ?_) (fun hc => ?_)
  · replace h := h.1 hc
    refine wi_iconst (pc' := 18) (v := 0) hm74 rfl rfl rfl ?_
    refine wi_ic_eq (pc' := 21) (t := 23) hm74 rfl rfl rfl (fun hc => ?_) (fun hc => ?_)
    · replace h := h.1 hc
      refine wi_iload_n (pc' := 24) hm74 rfl rfl rfl ?_
      refine wi_if_eq (pc' := 27) (t := 48) hm74 rfl rfl rfl (fun hc => ?_) (fun hc => ?_)
      · replace h := h.1 hc
        refine wi_iconst (pc' := 49) (v := 1) hm74 rfl rfl rfl ?_
        refine wi_goto (t := 53) hm74 rfl rfl ?_
        exact wi_zret hm74 rfl (by decide) h
      · replace h := h.2 hc
        refine wi_aload_n (pc' := 28) hm74 rfl rfl rfl (by decide) ?_
        refine wi_getR (pc' := 31) (x := o0) hm74 rfl rfl rfl (by omega) ?_
        refine wi_iload_n (pc' := 32) hm74 rfl rfl rfl ?_
        refine wi_aaload (pc' := 33) (x := (8 * o0 + 0 + x1)) hm74 rfl rfl rfl rfl (N := 8) rfl g1 (by omega) ?_
        refine wi_iload_n (pc' := 34) hm74 rfl rfl rfl ?_
        refine wi_iconst (pc' := 35) (v := 1) hm74 rfl rfl rfl ?_
        obtain ⟨g3, h⟩ := h
        refine wi_isub (pc' := 36) hm74 rfl rfl g3 ?_
        obtain ⟨g4, h⟩ := h
        refine wi_iaload (pc' := 37) hm74 rfl rfl rfl rfl (N := 121) rfl g4 ?_
        refine wi_aload_n (pc' := 38) hm74 rfl rfl rfl (by decide) ?_
        refine wi_getR (pc' := 41) (x := o0) hm74 rfl rfl rfl (by omega) ?_
        refine wi_iload_n (pc' := 42) hm74 rfl rfl rfl ?_
        refine wi_aaload (pc' := 43) (x := (8 * o0 + 0 + x1)) hm74 rfl rfl rfl rfl (N := 8) rfl g1 (by omega) ?_
        refine wi_iload_n (pc' := 44) hm74 rfl rfl rfl ?_
        refine wi_iaload (pc' := 45) hm74 rfl rfl rfl rfl (N := 121) rfl g2 ?_
        refine wi_ic_eq (pc' := 48) (t := 52) hm74 rfl rfl rfl (fun hc => ?_) (fun hc => ?_)
        · replace h := h.1 hc
          refine wi_iconst (pc' := 53) (v := 0) hm74 rfl rfl rfl ?_
          exact wi_zret hm74 rfl (by decide) h
        · replace h := h.2 hc
          refine wi_iconst (pc' := 49) (v := 1) hm74 rfl rfl rfl ?_
          refine wi_goto (t := 53) hm74 rfl rfl ?_
          exact wi_zret hm74 rfl (by decide) h
    · replace h := h.2 hc
      refine wi_iconst (pc' := 22) (v := 0) hm74 rfl rfl rfl ?_
      exact wi_zret hm74 rfl (by decide) h
  · replace h := h.2 hc
    refine wi_iconst (pc' := 14) (v := 1) hm74 rfl rfl rfl ?_
    refine wi_goto (t := 18) hm74 rfl rfl ?_
    refine wi_ic_eq (pc' := 21) (t := 23) hm74 rfl rfl rfl (fun hc => ?_) (fun hc => ?_)
    · replace h := h.1 hc
      refine wi_iload_n (pc' := 24) hm74 rfl rfl rfl ?_
      refine wi_if_eq (pc' := 27) (t := 48) hm74 rfl rfl rfl (fun hc => ?_) (fun hc => ?_)
      · replace h := h.1 hc
        refine wi_iconst (pc' := 49) (v := 1) hm74 rfl rfl rfl ?_
        refine wi_goto (t := 53) hm74 rfl rfl ?_
        exact wi_zret hm74 rfl (by decide) h
      · replace h := h.2 hc
        refine wi_aload_n (pc' := 28) hm74 rfl rfl rfl (by decide) ?_
        refine wi_getR (pc' := 31) (x := o0) hm74 rfl rfl rfl (by omega) ?_
        refine wi_iload_n (pc' := 32) hm74 rfl rfl rfl ?_
        refine wi_aaload (pc' := 33) (x := (8 * o0 + 0 + x1)) hm74 rfl rfl rfl rfl (N := 8) rfl g1 (by omega) ?_
        refine wi_iload_n (pc' := 34) hm74 rfl rfl rfl ?_
        refine wi_iconst (pc' := 35) (v := 1) hm74 rfl rfl rfl ?_
        obtain ⟨g3, h⟩ := h
        refine wi_isub (pc' := 36) hm74 rfl rfl g3 ?_
        obtain ⟨g4, h⟩ := h
        refine wi_iaload (pc' := 37) hm74 rfl rfl rfl rfl (N := 121) rfl g4 ?_
        refine wi_aload_n (pc' := 38) hm74 rfl rfl rfl (by decide) ?_
        refine wi_getR (pc' := 41) (x := o0) hm74 rfl rfl rfl (by omega) ?_
        refine wi_iload_n (pc' := 42) hm74 rfl rfl rfl ?_
        refine wi_aaload (pc' := 43) (x := (8 * o0 + 0 + x1)) hm74 rfl rfl rfl rfl (N := 8) rfl g1 (by omega) ?_
        refine wi_iload_n (pc' := 44) hm74 rfl rfl rfl ?_
        refine wi_iaload (pc' := 45) hm74 rfl rfl rfl rfl (N := 121) rfl g2 ?_
        refine wi_ic_eq (pc' := 48) (t := 52) hm74 rfl rfl rfl (fun hc => ?_) (fun hc => ?_)
        · replace h := h.1 hc
          refine wi_iconst (pc' := 53) (v := 0) hm74 rfl rfl rfl ?_
          exact wi_zret hm74 rfl (by decide) h
        · replace h := h.2 hc
          refine wi_iconst (pc' := 49) (v := 1) hm74 rfl rfl rfl ?_
          refine wi_goto (t := 53) hm74 rfl rfl ?_
          exact wi_zret hm74 rfl (by decide) h
    · replace h := h.2 hc
      refine wi_iconst (pc' := 22) (v := 0) hm74 rfl rfl rfl ?_
      exact wi_zret hm74 rfl (by decide) h
theorem hm75 : fx_code 75 = fx_c75 := rfl
theorem t75_0 {o0 x1 x2 : Int} {σ : fx_S} {Q : fx_V → fx_S → Prop} (h : fx_Wp 75 5 [(36, o0), (0, x1), (0, x2), (0, 0), (0, 0)] [] σ Q) : fx_Ca 75 [(36, o0), (0, x1), (0, x2)] σ Q := by
  show fx_Wp 75 0 [(36, o0), (0, x1), (0, x2), (3, 0), (3, 0)] [] σ Q
  refine wi_iconst (pc' := 1) (v := 0) hm75 rfl rfl rfl ?_
  refine wi_istore_n (pc' := 2) (L' := [(36, o0), (0, x1), (0, x2), (0, 0), (3, 0)]) hm75 rfl rfl rfl ?_
  refine wi_iconst (pc' := 3) (v := 0) hm75 rfl rfl rfl ?_
  refine wi_istore (pc' := 5) (L' := [(36, o0), (0, x1), (0, x2), (0, 0), (0, 0)]) hm75 rfl rfl rfl ?_
  exact h
theorem t75_5 {o0 x1 x2 x3 x4 : Int} {σ : fx_S} {Q : fx_V → fx_S → Prop} (h : (((σ 36 o0 8) ≤ x4 → Q (0, x3) σ) ∧ (x4 < (σ 36 o0 8) → fx_CI 74 [(36, o0), (0, x1), (0, x4), (0, x2)] σ Q (fun y1 σ1 => ((y1 = 0 → (fx_rg (x4 + 1)) ∧ fx_Wp 75 5 [(36, o0), (0, x1), (0, x2), (0, x3), (0, (x4 + 1))] [] σ1 Q) ∧ (y1 ≠ 0 → (fx_rg (x3 + 1)) ∧ (fx_rg (x4 + 1)) ∧ fx_Wp 75 5 [(36, o0), (0, x1), (0, x2), (0, (x3 + 1)), (0, (x4 + 1))] [] σ1 Q)))))) : fx_Wp 75 5 [(36, o0), (0, x1), (0, x2), (0, x3), (0, x4)] [] σ Q := by
  refine wi_iload (pc' := 7) hm75 rfl rfl rfl ?_
  refine wi_aload_n (pc' := 8) hm75 rfl rfl rfl (by decide) ?_
  refine wi_getI (pc' := 11) hm75 rfl rfl (P := 8) rfl ?_
  refine wi_ic_ge (pc' := 14) (t := 34) hm75 rfl rfl rfl (fun hc => ?_) (fun hc => ?_)
  · replace h := h.1 hc
    refine wi_iload_n (pc' := 35) hm75 rfl rfl rfl ?_
    exact wi_iret hm75 rfl h
  · replace h := h.2 hc
    refine wi_aload_n (pc' := 15) hm75 rfl rfl rfl (by decide) ?_
    refine wi_iload_n (pc' := 16) hm75 rfl rfl rfl ?_
    refine wi_iload (pc' := 18) hm75 rfl rfl rfl ?_
    refine wi_iload_n (pc' := 19) hm75 rfl rfl rfl ?_
    refine wc_I (pc' := 22) (by decide) rfl (by decide) ((fx_wE hm75 rfl).trans (fx_exV (mj := 74) (as := [(0, x1), (0, x4), (0, x2)]) (rest := []) rfl rk74 rfl rfl rfl rfl rfl)) h (fun y1 σ1 h => ?_)
    refine wi_if_eq (pc' := 25) (t := 28) hm75 rfl rfl rfl (fun hc => ?_) (fun hc => ?_)
    · replace h := h.1 hc
      obtain ⟨g1, h⟩ := h
      refine wi_iinc (pc' := 31) (L' := [(36, o0), (0, x1), (0, x2), (0, x3), (0, (x4 + 1))]) hm75 rfl rfl rfl g1 rfl ?_
      refine wi_goto (t := 5) hm75 rfl rfl ?_
      exact h
    · replace h := h.2 hc
      obtain ⟨g1, h⟩ := h
      refine wi_iinc (pc' := 28) (L' := [(36, o0), (0, x1), (0, x2), (0, (x3 + 1)), (0, x4)]) hm75 rfl rfl rfl g1 rfl ?_
      obtain ⟨g2, h⟩ := h
      refine wi_iinc (pc' := 31) (L' := [(36, o0), (0, x1), (0, x2), (0, (x3 + 1)), (0, (x4 + 1))]) hm75 rfl rfl rfl g2 rfl ?_
      refine wi_goto (t := 5) hm75 rfl rfl ?_
      exact h
theorem hm76 : fx_code 76 = fx_c76 := rfl
theorem t76_0 {o0 : Int} {σ : fx_S} {Q : fx_V → fx_S → Prop} (h : fx_Wp 76 4 [(36, o0), (0, 0), (0, 0)] [] σ Q) : fx_Ca 76 [(36, o0)] σ Q := by
  show fx_Wp 76 0 [(36, o0), (3, 0), (3, 0)] [] σ Q
  refine wi_iconst (pc' := 1) (v := 0) hm76 rfl rfl rfl ?_
  refine wi_istore_n (pc' := 2) (L' := [(36, o0), (0, 0), (3, 0)]) hm76 rfl rfl rfl ?_
  refine wi_iconst (pc' := 3) (v := 0) hm76 rfl rfl rfl ?_
  refine wi_istore_n (pc' := 4) (L' := [(36, o0), (0, 0), (0, 0)]) hm76 rfl rfl rfl ?_
  exact h
theorem t76_4 {o0 x1 x2 : Int} {σ : fx_S} {Q : fx_V → fx_S → Prop} (h : ((8 ≤ x2 → Q (0, x1) σ) ∧ (x2 < 8 → fx_CI 75 [(36, o0), (0, x2), (0, 0)] σ Q (fun y1 σ1 => (fx_rg (x1 + y1)) ∧ (fx_rg (x2 + 1)) ∧ fx_Wp 76 4 [(36, o0), (0, (x1 + y1)), (0, (x2 + 1))] [] σ1 Q)))) : fx_Wp 76 4 [(36, o0), (0, x1), (0, x2)] [] σ Q := by
  refine wi_iload_n (pc' := 5) hm76 rfl rfl rfl ?_
  refine wi_bipush (pc' := 7) (v := 8) hm76 rfl rfl rfl ?_
  refine wi_ic_ge (pc' := 10) (t := 25) hm76 rfl rfl rfl (fun hc => ?_) (fun hc => ?_)
  · replace h := h.1 hc
    refine wi_iload_n (pc' := 26) hm76 rfl rfl rfl ?_
    exact wi_iret hm76 rfl h
  · replace h := h.2 hc
    refine wi_iload_n (pc' := 11) hm76 rfl rfl rfl ?_
    refine wi_aload_n (pc' := 12) hm76 rfl rfl rfl (by decide) ?_
    refine wi_iload_n (pc' := 13) hm76 rfl rfl rfl ?_
    refine wi_iconst (pc' := 14) (v := 0) hm76 rfl rfl rfl ?_
    refine wc_I (pc' := 17) (by decide) rfl (by decide) ((fx_wE hm76 rfl).trans (fx_exV (mj := 75) (as := [(0, x2), (0, 0)]) (rest := [(0, x1)]) rfl rk75 rfl rfl rfl rfl rfl)) h (fun y1 σ1 h => ?_)
    obtain ⟨g1, h⟩ := h
    refine wi_iadd (pc' := 18) hm76 rfl rfl g1 ?_
    refine wi_istore_n (pc' := 19) (L' := [(36, o0), (0, (x1 + y1)), (0, x2)]) hm76 rfl rfl rfl ?_
    obtain ⟨g2, h⟩ := h
    refine wi_iinc (pc' := 22) (L' := [(36, o0), (0, (x1 + y1)), (0, (x2 + 1))]) hm76 rfl rfl rfl g2 rfl ?_
    refine wi_goto (t := 4) hm76 rfl rfl ?_
    exact h
theorem hm77 : fx_code 77 = fx_c77 := rfl
theorem t77_0 {o0 x1 x2 x3 : Int} {σ : fx_S} {Q : fx_V → fx_S → Prop} (h : fx_Wp 77 6 [(36, o0), (0, x1), (0, x2), (0, x3), (0, 0), (0, 0)] [] σ Q) : fx_Ca 77 [(36, o0), (0, x1), (0, x2), (0, x3)] σ Q := by
  show fx_Wp 77 0 [(36, o0), (0, x1), (0, x2), (0, x3), (3, 0), (3, 0)] [] σ Q
  refine wi_iconst (pc' := 1) (v := 0) hm77 rfl rfl rfl ?_
  refine wi_istore (pc' := 3) (L' := [(36, o0), (0, x1), (0, x2), (0, x3), (0, 0), (3, 0)]) hm77 rfl rfl rfl ?_
  refine wi_iconst (pc' := 4) (v := 0) hm77 rfl rfl rfl ?_
  refine wi_istore (pc' := 6) (L' := [(36, o0), (0, x1), (0, x2), (0, x3), (0, 0), (0, 0)]) hm77 rfl rfl rfl ?_
  exact h
theorem t77_6 {o0 x1 x2 x3 x4 x5 : Int} {σ : fx_S} {Q : fx_V → fx_S → Prop} (h : (((σ 36 o0 8) ≤ x5 → Q (0, (-1)) σ) ∧ (x5 < (σ 36 o0 8) → fx_CI 74 [(36, o0), (0, x1), (0, x5), (0, x3)] σ Q (fun y1 σ1 => ((y1 = 0 → (fx_rg (x5 + 1)) ∧ fx_Wp 77 6 [(36, o0), (0, x1), (0, x2), (0, x3), (0, x4), (0, (x5 + 1))] [] σ1 Q) ∧ (y1 ≠ 0 → ((x4 ≠ x2 → (fx_rg (x4 + 1)) ∧ (fx_rg (x5 + 1)) ∧ fx_Wp 77 6 [(36, o0), (0, x1), (0, x2), (0, x3), (0, (x4 + 1)), (0, (x5 + 1))] [] σ1 Q) ∧ (x4 = x2 → Q (0, x5) σ1)))))))) : fx_Wp 77 6 [(36, o0), (0, x1), (0, x2), (0, x3), (0, x4), (0, x5)] [] σ Q := by
  refine wi_iload (pc' := 8) hm77 rfl rfl rfl ?_
  refine wi_aload_n (pc' := 9) hm77 rfl rfl rfl (by decide) ?_
  refine wi_getI (pc' := 12) hm77 rfl rfl (P := 8) rfl ?_
  refine wi_ic_ge (pc' := 15) (t := 44) hm77 rfl rfl rfl (fun hc => ?_) (fun hc => ?_)
  · replace h := h.1 hc
    refine wi_iconst (pc' := 45) (v := (-1)) hm77 rfl rfl rfl ?_
    exact wi_iret hm77 rfl h
  · replace h := h.2 hc
    refine wi_aload_n (pc' := 16) hm77 rfl rfl rfl (by decide) ?_
    refine wi_iload_n (pc' := 17) hm77 rfl rfl rfl ?_
    refine wi_iload (pc' := 19) hm77 rfl rfl rfl ?_
    refine wi_iload_n (pc' := 20) hm77 rfl rfl rfl ?_
    refine wc_I (pc' := 23) (by decide) rfl (by decide) ((fx_wE hm77 rfl).trans (fx_exV (mj := 74) (as := [(0, x1), (0, x5), (0, x3)]) (rest := []) rfl rk74 rfl rfl rfl rfl rfl)) h (fun y1 σ1 h => ?_)
    refine wi_if_eq (pc' := 26) (t := 38) hm77 rfl rfl rfl (fun hc => ?_) (fun hc => ?_)
    · replace h := h.1 hc
      obtain ⟨g1, h⟩ := h
      refine wi_iinc (pc' := 41) (L' := [(36, o0), (0, x1), (0, x2), (0, x3), (0, x4), (0, (x5 + 1))]) hm77 rfl rfl rfl g1 rfl ?_
      refine wi_goto (t := 6) hm77 rfl rfl ?_
      exact h
    · replace h := h.2 hc
      refine wi_iload (pc' := 28) hm77 rfl rfl rfl ?_
      refine wi_iload_n (pc' := 29) hm77 rfl rfl rfl ?_
      refine wi_ic_ne (pc' := 32) (t := 35) hm77 rfl rfl rfl (fun hc => ?_) (fun hc => ?_)
      · replace h := h.1 hc
        obtain ⟨g1, h⟩ := h
        refine wi_iinc (pc' := 38) (L' := [(36, o0), (0, x1), (0, x2), (0, x3), (0, (x4 + 1)), (0, x5)]) hm77 rfl rfl rfl g1 rfl ?_
        obtain ⟨g2, h⟩ := h
        refine wi_iinc (pc' := 41) (L' := [(36, o0), (0, x1), (0, x2), (0, x3), (0, (x4 + 1)), (0, (x5 + 1))]) hm77 rfl rfl rfl g2 rfl ?_
        refine wi_goto (t := 6) hm77 rfl rfl ?_
        exact h
      · replace h := h.2 hc
        refine wi_iload (pc' := 34) hm77 rfl rfl rfl ?_
        exact wi_iret hm77 rfl h
theorem hm78 : fx_code 78 = fx_c78 := rfl
theorem t78_0 {o0 x1 x2 : Int} {σ : fx_S} {Q : fx_V → fx_S → Prop} (h : fx_Wp 78 11 [(36, o0), (0, x1), (0, x2), (0, (-1)), (0, 0), (0, 0), (0, 0), (3, 0)] [] σ Q) : fx_Ca 78 [(36, o0), (0, x1), (0, x2)] σ Q := by
  show fx_Wp 78 0 [(36, o0), (0, x1), (0, x2), (3, 0), (3, 0), (3, 0), (3, 0), (3, 0)] [] σ Q
  refine wi_iconst (pc' := 1) (v := (-1)) hm78 rfl rfl rfl ?_
  refine wi_istore_n (pc' := 2) (L' := [(36, o0), (0, x1), (0, x2), (0, (-1)), (3, 0), (3, 0), (3, 0), (3, 0)]) hm78 rfl rfl rfl ?_
  refine wi_iconst (pc' := 3) (v := 0) hm78 rfl rfl rfl ?_
  refine wi_istore (pc' := 5) (L' := [(36, o0), (0, x1), (0, x2), (0, (-1)), (0, 0), (3, 0), (3, 0), (3, 0)]) hm78 rfl rfl rfl ?_
  refine wi_iconst (pc' := 6) (v := 0) hm78 rfl rfl rfl ?_
  refine wi_istore (pc' := 8) (L' := [(36, o0), (0, x1), (0, x2), (0, (-1)), (0, 0), (0, 0), (3, 0), (3, 0)]) hm78 rfl rfl rfl ?_
  refine wi_iconst (pc' := 9) (v := 0) hm78 rfl rfl rfl ?_
  refine wi_istore (pc' := 11) (L' := [(36, o0), (0, x1), (0, x2), (0, (-1)), (0, 0), (0, 0), (0, 0), (3, 0)]) hm78 rfl rfl rfl ?_
  exact h
theorem t78_11 {o0 x1 x2 x3 x4 x5 x6 : Int} {w7 : fx_V} {σ : fx_S} {Q : fx_V → fx_S → Prop} (h : (((σ 36 o0 8) ≤ x6 → Q (0, x3) σ) ∧ (x6 < (σ 36 o0 8) → fx_CI 74 [(36, o0), (0, x1), (0, x6), (0, x2)] σ Q (fun y1 σ1 => ((y1 = 0 → (fx_rg (x6 + 1)) ∧ fx_Wp 78 11 [(36, o0), (0, x1), (0, x2), (0, x3), (0, x4), (0, x5), (0, (x6 + 1)), w7] [] σ1 Q) ∧ (y1 ≠ 0 → fx_CI 71 [(36, o0), (0, x1), (0, x6)] σ1 Q (fun y2 σ2 => (0 ≤ y2 ∧ y2 < 122) ∧ (0 ≤ x6 ∧ x6 < 122) ∧ (fx_rg ((σ2 37 o0 y2) - (σ2 37 o0 x6))) ∧ ((((σ2 37 o0 y2) - (σ2 37 o0 x6)) ≤ x4 → (fx_rg (x5 + 1)) ∧ (fx_rg (x6 + 1)) ∧ fx_Wp 78 11 [(36, o0), (0, x1), (0, x2), (0, x3), (0, x4), (0, (x5 + 1)), (0, (x6 + 1)), (0, ((σ2 37 o0 y2) - (σ2 37 o0 x6)))] [] σ2 Q) ∧ (x4 < ((σ2 37 o0 y2) - (σ2 37 o0 x6)) → (fx_rg (x5 + 1)) ∧ (fx_rg (x6 + 1)) ∧ fx_Wp 78 11 [(36, o0), (0, x1), (0, x2), (0, x5), (0, ((σ2 37 o0 y2) - (σ2 37 o0 x6))), (0, (x5 + 1)), (0, (x6 + 1)), (0, ((σ2 37 o0 y2) - (σ2 37 o0 x6)))] [] σ2 Q))))))))) : fx_Wp 78 11 [(36, o0), (0, x1), (0, x2), (0, x3), (0, x4), (0, x5), (0, x6), w7] [] σ Q := by
  refine wi_iload (pc' := 13) hm78 rfl rfl rfl ?_
  refine wi_aload_n (pc' := 14) hm78 rfl rfl rfl (by decide) ?_
  refine wi_getI (pc' := 17) hm78 rfl rfl (P := 8) rfl ?_
  refine wi_ic_ge (pc' := 20) (t := 76) hm78 rfl rfl rfl (fun hc => ?_) (fun hc => ?_)
  · replace h := h.1 hc
    refine wi_iload_n (pc' := 77) hm78 rfl rfl rfl ?_
    exact wi_iret hm78 rfl h
  · replace h := h.2 hc
    refine wi_aload_n (pc' := 21) hm78 rfl rfl rfl (by decide) ?_
    refine wi_iload_n (pc' := 22) hm78 rfl rfl rfl ?_
    refine wi_iload (pc' := 24) hm78 rfl rfl rfl ?_
    refine wi_iload_n (pc' := 25) hm78 rfl rfl rfl ?_
    refine wc_I (pc' := 28) (by decide) rfl (by decide) ((fx_wE hm78 rfl).trans (fx_exV (mj := 74) (as := [(0, x1), (0, x6), (0, x2)]) (rest := []) rfl rk74 rfl rfl rfl rfl rfl)) h (fun y1 σ1 h => ?_)
    refine wi_if_eq (pc' := 31) (t := 70) hm78 rfl rfl rfl (fun hc => ?_) (fun hc => ?_)
    · replace h := h.1 hc
      obtain ⟨g1, h⟩ := h
      refine wi_iinc (pc' := 73) (L' := [(36, o0), (0, x1), (0, x2), (0, x3), (0, x4), (0, x5), (0, (x6 + 1)), w7]) hm78 rfl rfl rfl g1 rfl ?_
      refine wi_goto (t := 11) hm78 rfl rfl ?_
      exact h
    · replace h := h.2 hc
      refine wi_aload_n (pc' := 32) hm78 rfl rfl rfl (by decide) ?_
      refine wi_getR (pc' := 35) (x := o0) hm78 rfl rfl rfl (by omega) ?_
      refine wi_aload_n (pc' := 36) hm78 rfl rfl rfl (by decide) ?_
      refine wi_iload_n (pc' := 37) hm78 rfl rfl rfl ?_
      refine wi_iload (pc' := 39) hm78 rfl rfl rfl ?_
      refine wc_I (pc' := 42) (by decide) rfl (by decide) ((fx_wE hm78 rfl).trans (fx_exV (mj := 71) (as := [(0, x1), (0, x6)]) (rest := [(37, o0)]) rfl rk71 rfl rfl rfl rfl rfl)) h (fun y2 σ2 h => ?_)
      obtain ⟨g1, h⟩ := h
      refine wi_iaload (pc' := 43) hm78 rfl rfl rfl rfl (N := 122) rfl g1 ?_
      refine wi_aload_n (pc' := 44) hm78 rfl rfl rfl (by decide) ?_
      refine wi_getR (pc' := 47) (x := o0) hm78 rfl rfl rfl (by omega) ?_
      refine wi_iload (pc' := 49) hm78 rfl rfl rfl ?_
      obtain ⟨g2, h⟩ := h
      refine wi_iaload (pc' := 50) hm78 rfl rfl rfl rfl (N := 122) rfl g2 ?_
      obtain ⟨g3, h⟩ := h
      refine wi_isub (pc' := 51) hm78 rfl rfl g3 ?_
      refine wi_istore (pc' := 53) (L' := [(36, o0), (0, x1), (0, x2), (0, x3), (0, x4), (0, x5), (0, x6), (0, ((σ2 37 o0 y2) - (σ2 37 o0 x6)))]) hm78 rfl rfl rfl ?_
      refine wi_iload (pc' := 55) hm78 rfl rfl rfl ?_
      refine wi_iload (pc' := 57) hm78 rfl rfl rfl ?_
      refine wi_ic_le (pc' := 60) (t := 67) hm78 rfl rfl rfl (fun hc => ?_) (fun hc => ?_)
      · replace h := h.1 hc
        obtain ⟨g4, h⟩ := h
        refine wi_iinc (pc' := 70) (L' := [(36, o0), (0, x1), (0, x2), (0, x3), (0, x4), (0, (x5 + 1)), (0, x6), (0, ((σ2 37 o0 y2) - (σ2 37 o0 x6)))]) hm78 rfl rfl rfl g4 rfl ?_
        obtain ⟨g5, h⟩ := h
        refine wi_iinc (pc' := 73) (L' := [(36, o0), (0, x1), (0, x2), (0, x3), (0, x4), (0, (x5 + 1)), (0, (x6 + 1)), (0, ((σ2 37 o0 y2) - (σ2 37 o0 x6)))]) hm78 rfl rfl rfl g5 rfl ?_
        refine wi_goto (t := 11) hm78 rfl rfl ?_
        exact h
      · replace h := h.2 hc
        refine wi_iload (pc' := 62) hm78 rfl rfl rfl ?_
        refine wi_istore (pc' := 64) (L' := [(36, o0), (0, x1), (0, x2), (0, x3), (0, ((σ2 37 o0 y2) - (σ2 37 o0 x6))), (0, x5), (0, x6), (0, ((σ2 37 o0 y2) - (σ2 37 o0 x6)))]) hm78 rfl rfl rfl ?_
        refine wi_iload (pc' := 66) hm78 rfl rfl rfl ?_
        refine wi_istore_n (pc' := 67) (L' := [(36, o0), (0, x1), (0, x2), (0, x5), (0, ((σ2 37 o0 y2) - (σ2 37 o0 x6))), (0, x5), (0, x6), (0, ((σ2 37 o0 y2) - (σ2 37 o0 x6)))]) hm78 rfl rfl rfl ?_
        obtain ⟨g4, h⟩ := h
        refine wi_iinc (pc' := 70) (L' := [(36, o0), (0, x1), (0, x2), (0, x5), (0, ((σ2 37 o0 y2) - (σ2 37 o0 x6))), (0, (x5 + 1)), (0, x6), (0, ((σ2 37 o0 y2) - (σ2 37 o0 x6)))]) hm78 rfl rfl rfl g4 rfl ?_
        obtain ⟨g5, h⟩ := h
        refine wi_iinc (pc' := 73) (L' := [(36, o0), (0, x1), (0, x2), (0, x5), (0, ((σ2 37 o0 y2) - (σ2 37 o0 x6))), (0, (x5 + 1)), (0, (x6 + 1)), (0, ((σ2 37 o0 y2) - (σ2 37 o0 x6)))]) hm78 rfl rfl rfl g5 rfl ?_
        refine wi_goto (t := 11) hm78 rfl rfl ?_
        exact h
theorem hm79 : fx_code 79 = fx_c79 := rfl
theorem t79_0 {o0 x1 x2 x3 : Int} {σ : fx_S} {Q : fx_V → fx_S → Prop} (h : (0 ≤ x2 ∧ x2 < 1001) ∧ (0 ≤ x1 ∧ x1 < 8) ∧ (0 ≤ (σ 38 o0 x2) ∧ (σ 38 o0 x2) < 121) ∧ (((σ 43 (8 * o0 + 0 + x1) (σ 38 o0 x2)) ≠ x3 → (fx_rg ((σ 38 o0 x2) + 1)) ∧ fx_Wp 79 29 [(36, o0), (0, x1), (0, x2), (0, x3), (0, (σ 38 o0 x2)), (0, ((σ 38 o0 x2) + 1))] [] σ Q) ∧ ((σ 43 (8 * o0 + 0 + x1) (σ 38 o0 x2)) = x3 → Q (0, x2) σ))) : fx_Ca 79 [(36, o0), (0, x1), (0, x2), (0, x3)] σ Q := by
  show fx_Wp 79 0 [(36, o0), (0, x1), (0, x2), (0, x3), (3, 0), (3, 0)] [] σ Q
  refine wi_aload_n (pc' := 1) hm79 rfl rfl rfl (by decide) ?_
  refine wi_getR (pc' := 4) (x := o0) hm79 rfl rfl rfl (by omega) ?_
  refine wi_iload_n (pc' := 5) hm79 rfl rfl rfl ?_
  obtain ⟨g1, h⟩ := h
  refine wi_iaload (pc' := 6) hm79 rfl rfl rfl rfl (N := 1001) rfl g1 ?_
  refine wi_istore (pc' := 8) (L' := [(36, o0), (0, x1), (0, x2), (0, x3), (0, (σ 38 o0 x2)), (3, 0)]) hm79 rfl rfl rfl ?_
  refine wi_aload_n (pc' := 9) hm79 rfl rfl rfl (by decide) ?_
  refine wi_getR (pc' := 12) (x := o0) hm79 rfl rfl rfl (by omega) ?_
  refine wi_iload_n (pc' := 13) hm79 rfl rfl rfl ?_
  obtain ⟨g2, h⟩ := h
  refine wi_aaload (pc' := 14) (x := (8 * o0 + 0 + x1)) hm79 rfl rfl rfl rfl (N := 8) rfl g2 (by omega) ?_
  refine wi_iload (pc' := 16) hm79 rfl rfl rfl ?_
  obtain ⟨g3, h⟩ := h
  refine wi_iaload (pc' := 17) hm79 rfl rfl rfl rfl (N := 121) rfl g3 ?_
  refine wi_iload_n (pc' := 18) hm79 rfl rfl rfl ?_
  refine wi_ic_ne (pc' := 21) (t := 23) hm79 rfl rfl rfl (fun hc => ?_) (fun hc => ?_)
  · replace h := h.1 hc
    refine wi_iload (pc' := 25) hm79 rfl rfl rfl ?_
    refine wi_iconst (pc' := 26) (v := 1) hm79 rfl rfl rfl ?_
    obtain ⟨g4, h⟩ := h
    refine wi_iadd (pc' := 27) hm79 rfl rfl g4 ?_
    refine wi_istore (pc' := 29) (L' := [(36, o0), (0, x1), (0, x2), (0, x3), (0, (σ 38 o0 x2)), (0, ((σ 38 o0 x2) + 1))]) hm79 rfl rfl rfl ?_
    exact h
  · replace h := h.2 hc
    refine wi_iload_n (pc' := 22) hm79 rfl rfl rfl ?_
    exact wi_iret hm79 rfl h
theorem t79_29 {o0 x1 x3 x5 : Int} {w2 w4 : fx_V} {σ : fx_S} {Q : fx_V → fx_S → Prop} (h : (((σ 36 o0 8) ≤ x5 → Q (0, (-1)) σ) ∧ (x5 < (σ 36 o0 8) → (0 ≤ x1 ∧ x1 < 8) ∧ (0 ≤ x5 ∧ x5 < 121) ∧ (((σ 43 (8 * o0 + 0 + x1) x5) ≠ x3 → (fx_rg (x5 + 1)) ∧ fx_Wp 79 29 [(36, o0), (0, x1), w2, (0, x3), w4, (0, (x5 + 1))] [] σ Q) ∧ ((σ 43 (8 * o0 + 0 + x1) x5) = x3 → (0 ≤ x5 ∧ x5 < 122) ∧ Q (0, (σ 37 o0 x5)) σ))))) : fx_Wp 79 29 [(36, o0), (0, x1), w2, (0, x3), w4, (0, x5)] [] σ Q := by
  refine wi_iload (pc' := 31) hm79 rfl rfl rfl ?_
  refine wi_aload_n (pc' := 32) hm79 rfl rfl rfl (by decide) ?_
  refine wi_getI (pc' := 35) hm79 rfl rfl (P := 8) rfl ?_
  refine wi_ic_ge (pc' := 38) (t := 65) hm79 rfl rfl rfl (fun hc => ?_) (fun hc => ?_)
  · replace h := h.1 hc
    refine wi_iconst (pc' := 66) (v := (-1)) hm79 rfl rfl rfl ?_
    exact wi_iret hm79 rfl h
  · replace h := h.2 hc
    refine wi_aload_n (pc' := 39) hm79 rfl rfl rfl (by decide) ?_
    refine wi_getR (pc' := 42) (x := o0) hm79 rfl rfl rfl (by omega) ?_
    refine wi_iload_n (pc' := 43) hm79 rfl rfl rfl ?_
    obtain ⟨g1, h⟩ := h
    refine wi_aaload (pc' := 44) (x := (8 * o0 + 0 + x1)) hm79 rfl rfl rfl rfl (N := 8) rfl g1 (by omega) ?_
    refine wi_iload (pc' := 46) hm79 rfl rfl rfl ?_
    obtain ⟨g2, h⟩ := h
    refine wi_iaload (pc' := 47) hm79 rfl rfl rfl rfl (N := 121) rfl g2 ?_
    refine wi_iload_n (pc' := 48) hm79 rfl rfl rfl ?_
    refine wi_ic_ne (pc' := 51) (t := 59) hm79 rfl rfl rfl (fun hc => ?_) (fun hc => ?_)
    · replace h := h.1 hc
      obtain ⟨g3, h⟩ := h
      refine wi_iinc (pc' := 62) (L' := [(36, o0), (0, x1), w2, (0, x3), w4, (0, (x5 + 1))]) hm79 rfl rfl rfl g3 rfl ?_
      refine wi_goto (t := 29) hm79 rfl rfl ?_
      exact h
    · replace h := h.2 hc
      refine wi_aload_n (pc' := 52) hm79 rfl rfl rfl (by decide) ?_
      refine wi_getR (pc' := 55) (x := o0) hm79 rfl rfl rfl (by omega) ?_
      refine wi_iload (pc' := 57) hm79 rfl rfl rfl ?_
      obtain ⟨g3, h⟩ := h
      refine wi_iaload (pc' := 58) hm79 rfl rfl rfl rfl (N := 122) rfl g3 ?_
      exact wi_iret hm79 rfl h
theorem hm80 : fx_code 80 = fx_c80 := rfl
theorem t80_0 {o0 x1 x2 : Int} {σ : fx_S} {Q : fx_V → fx_S → Prop} (h : fx_CI 68 [(36, o0), (0, x1), (0, x2)] σ Q (fun y1 σ1 => ((y1 = (-1) → fx_CI 72 [(36, o0), (0, x1), (0, x2)] σ1 Q (fun y2 σ2 => (fx_rg (y2 - 1)) ∧ fx_CI 73 [(36, o0), (0, x1), (0, x2)] σ2 Q (fun y3 σ3 => ((y3 ≠ 1000 → (((y2 - 1) < 0 → Q (0, y3) σ3) ∧ (0 ≤ (y2 - 1) → (fx_rg (x2 - (y2 - 1))) ∧ (fx_rg (y3 - x2)) ∧ (((y3 - x2) < (x2 - (y2 - 1)) → Q (0, y3) σ3) ∧ ((x2 - (y2 - 1)) ≤ (y3 - x2) → Q (0, (y2 - 1)) σ3))))) ∧ (y3 = 1000 → Q (0, (y2 - 1)) σ3))))) ∧ (y1 ≠ (-1) → Q (0, x2) σ1)))) : fx_Ca 80 [(36, o0), (0, x1), (0, x2)] σ Q := by
  show fx_Wp 80 0 [(36, o0), (0, x1), (0, x2), (3, 0), (3, 0)] [] σ Q
  refine wi_aload_n (pc' := 1) hm80 rfl rfl rfl (by decide) ?_
  refine wi_iload_n (pc' := 2) hm80 rfl rfl rfl ?_
  refine wi_iload_n (pc' := 3) hm80 rfl rfl rfl ?_
  refine wc_I (pc' := 6) (by decide) rfl (by decide) ((fx_wE hm80 rfl).trans (fx_exV (mj := 68) (as := [(0, x1), (0, x2)]) (rest := []) rfl rk68 rfl rfl rfl rfl rfl)) h (fun y1 σ1 h => ?_)
  refine wi_iconst (pc' := 7) (v := (-1)) hm80 rfl rfl rfl ?_
  refine wi_ic_eq (pc' := 10) (t := 12) hm80 rfl rfl rfl (fun hc => ?_) (fun hc => ?_)
  · replace h := h.1 hc
    refine wi_aload_n (pc' := 13) hm80 rfl rfl rfl (by decide) ?_
    refine wi_iload_n (pc' := 14) hm80 rfl rfl rfl ?_
    refine wi_iload_n (pc' := 15) hm80 rfl rfl rfl ?_
    refine wc_I (pc' := 18) (by decide) rfl (by decide) ((fx_wE hm80 rfl).trans (fx_exV (mj := 72) (as := [(0, x1), (0, x2)]) (rest := []) rfl rk72 rfl rfl rfl rfl rfl)) h (fun y2 σ2 h => ?_)
    refine wi_iconst (pc' := 19) (v := 1) hm80 rfl rfl rfl ?_
    obtain ⟨g1, h⟩ := h
    refine wi_isub (pc' := 20) hm80 rfl rfl g1 ?_
    refine wi_istore_n (pc' := 21) (L' := [(36, o0), (0, x1), (0, x2), (0, (y2 - 1)), (3, 0)]) hm80 rfl rfl rfl ?_
    refine wi_aload_n (pc' := 22) hm80 rfl rfl rfl (by decide) ?_
    refine wi_iload_n (pc' := 23) hm80 rfl rfl rfl ?_
    refine wi_iload_n (pc' := 24) hm80 rfl rfl rfl ?_
    refine wc_I (pc' := 27) (by decide) rfl (by decide) ((fx_wE hm80 rfl).trans (fx_exV (mj := 73) (as := [(0, x1), (0, x2)]) (rest := []) rfl rk73 rfl rfl rfl rfl rfl)) h (fun y3 σ3 h => ?_)
    refine wi_istore (pc' := 29) (L' := [(36, o0), (0, x1), (0, x2), (0, (y2 - 1)), (0, y3)]) hm80 rfl rfl rfl ?_
    refine wi_iload (pc' := 31) hm80 rfl rfl rfl ?_
    refine wi_sipush (pc' := 34) (v := 1000) hm80 rfl rfl rfl ?_
    refine wi_ic_ne (pc' := 37) (t := 39) hm80 rfl rfl rfl (fun hc => ?_) (fun hc => ?_)
    · replace h := h.1 hc
      refine wi_iload_n (pc' := 40) hm80 rfl rfl rfl ?_
      refine wi_if_lt (pc' := 43) (t := 57) hm80 rfl rfl rfl (fun hc => ?_) (fun hc => ?_)
      · replace h := h.1 hc
        refine wi_iload (pc' := 59) hm80 rfl rfl rfl ?_
        exact wi_iret hm80 rfl h
      · replace h := h.2 hc
        refine wi_iload_n (pc' := 44) hm80 rfl rfl rfl ?_
        refine wi_iload_n (pc' := 45) hm80 rfl rfl rfl ?_
        obtain ⟨g2, h⟩ := h
        refine wi_isub (pc' := 46) hm80 rfl rfl g2 ?_
        refine wi_iload (pc' := 48) hm80 rfl rfl rfl ?_
        refine wi_iload_n (pc' := 49) hm80 rfl rfl rfl ?_
        obtain ⟨g3, h⟩ := h
        refine wi_isub (pc' := 50) hm80 rfl rfl g3 ?_
        refine wi_ic_gt (pc' := 53) (t := 57) hm80 rfl rfl rfl (fun hc => ?_) (fun hc => ?_)
        · replace h := h.1 hc
          refine wi_iload (pc' := 59) hm80 rfl rfl rfl ?_
          exact wi_iret hm80 rfl h
        · replace h := h.2 hc
          refine wi_iload_n (pc' := 54) hm80 rfl rfl rfl ?_
          refine wi_goto (t := 59) hm80 rfl rfl ?_
          exact wi_iret hm80 rfl h
    · replace h := h.2 hc
      refine wi_iload_n (pc' := 38) hm80 rfl rfl rfl ?_
      exact wi_iret hm80 rfl h
  · replace h := h.2 hc
    refine wi_iload_n (pc' := 11) hm80 rfl rfl rfl ?_
    exact wi_iret hm80 rfl h
theorem hm81 : fx_code 81 = fx_c81 := rfl
theorem t81_0 {o0 x1 x2 : Int} {σ : fx_S} {Q : fx_V → fx_S → Prop} (h : (0 ≤ x2 ∧ x2 < 1001) ∧ fx_CI 71 [(36, o0), (0, x1), (0, (σ 38 o0 x2))] σ Q (fun y1 σ1 => fx_Wp 81 12 [(36, o0), (0, x1), (0, x2), (0, y1)] [] σ1 Q)) : fx_Ca 81 [(36, o0), (0, x1), (0, x2)] σ Q := by
  show fx_Wp 81 0 [(36, o0), (0, x1), (0, x2), (3, 0)] [] σ Q
  refine wi_aload_n (pc' := 1) hm81 rfl rfl rfl (by decide) ?_
  refine wi_iload_n (pc' := 2) hm81 rfl rfl rfl ?_
  refine wi_aload_n (pc' := 3) hm81 rfl rfl rfl (by decide) ?_
  refine wi_getR (pc' := 6) (x := o0) hm81 rfl rfl rfl (by omega) ?_
  refine wi_iload_n (pc' := 7) hm81 rfl rfl rfl ?_
  obtain ⟨g1, h⟩ := h
  refine wi_iaload (pc' := 8) hm81 rfl rfl rfl rfl (N := 1001) rfl g1 ?_
  refine wc_I (pc' := 11) (by decide) rfl (by decide) ((fx_wE hm81 rfl).trans (fx_exV (mj := 71) (as := [(0, x1), (0, (σ 38 o0 x2))]) (rest := []) rfl rk71 rfl rfl rfl rfl rfl)) h (fun y1 σ1 h => ?_)
  refine wi_istore_n (pc' := 12) (L' := [(36, o0), (0, x1), (0, x2), (0, y1)]) hm81 rfl rfl rfl ?_
  exact h
theorem t81_12 {o0 x1 x3 : Int} {w2 : fx_V} {σ : fx_S} {Q : fx_V → fx_S → Prop} (h : (((σ 36 o0 8) ≤ x3 → Q (0, (-1)) σ) ∧ (x3 < (σ 36 o0 8) → (0 ≤ x1 ∧ x1 < 8) ∧ (0 ≤ x3 ∧ x3 < 121) ∧ (((σ 43 (8 * o0 + 0 + x1) x3) = (-1) → (fx_rg (x3 + 1)) ∧ fx_Wp 81 12 [(36, o0), (0, x1), w2, (0, (x3 + 1))] [] σ Q) ∧ ((σ 43 (8 * o0 + 0 + x1) x3) ≠ (-1) → (0 ≤ x3 ∧ x3 < 122) ∧ Q (0, (σ 37 o0 x3)) σ))))) : fx_Wp 81 12 [(36, o0), (0, x1), w2, (0, x3)] [] σ Q := by
  refine wi_iload_n (pc' := 13) hm81 rfl rfl rfl ?_
  refine wi_aload_n (pc' := 14) hm81 rfl rfl rfl (by decide) ?_
  refine wi_getI (pc' := 17) hm81 rfl rfl (P := 8) rfl ?_
  refine wi_ic_ge (pc' := 20) (t := 45) hm81 rfl rfl rfl (fun hc => ?_) (fun hc => ?_)
  · replace h := h.1 hc
    refine wi_iconst (pc' := 46) (v := (-1)) hm81 rfl rfl rfl ?_
    exact wi_iret hm81 rfl h
  · replace h := h.2 hc
    refine wi_aload_n (pc' := 21) hm81 rfl rfl rfl (by decide) ?_
    refine wi_getR (pc' := 24) (x := o0) hm81 rfl rfl rfl (by omega) ?_
    refine wi_iload_n (pc' := 25) hm81 rfl rfl rfl ?_
    obtain ⟨g1, h⟩ := h
    refine wi_aaload (pc' := 26) (x := (8 * o0 + 0 + x1)) hm81 rfl rfl rfl rfl (N := 8) rfl g1 (by omega) ?_
    refine wi_iload_n (pc' := 27) hm81 rfl rfl rfl ?_
    obtain ⟨g2, h⟩ := h
    refine wi_iaload (pc' := 28) hm81 rfl rfl rfl rfl (N := 121) rfl g2 ?_
    refine wi_iconst (pc' := 29) (v := (-1)) hm81 rfl rfl rfl ?_
    refine wi_ic_eq (pc' := 32) (t := 39) hm81 rfl rfl rfl (fun hc => ?_) (fun hc => ?_)
    · replace h := h.1 hc
      obtain ⟨g3, h⟩ := h
      refine wi_iinc (pc' := 42) (L' := [(36, o0), (0, x1), w2, (0, (x3 + 1))]) hm81 rfl rfl rfl g3 rfl ?_
      refine wi_goto (t := 12) hm81 rfl rfl ?_
      exact h
    · replace h := h.2 hc
      refine wi_aload_n (pc' := 33) hm81 rfl rfl rfl (by decide) ?_
      refine wi_getR (pc' := 36) (x := o0) hm81 rfl rfl rfl (by omega) ?_
      refine wi_iload_n (pc' := 37) hm81 rfl rfl rfl ?_
      obtain ⟨g3, h⟩ := h
      refine wi_iaload (pc' := 38) hm81 rfl rfl rfl rfl (N := 122) rfl g3 ?_
      exact wi_iret hm81 rfl h
theorem hm82 : fx_code 82 = fx_c82 := rfl
theorem t82_0 {o0 x1 x2 x3 : Int} {σ : fx_S} {Q : fx_V → fx_S → Prop} (h : fx_Wp 82 6 [(36, o0), (0, x1), (0, x2), (0, x3), (0, 0), (0, 0)] [] σ Q) : fx_Ca 82 [(36, o0), (0, x1), (0, x2), (0, x3)] σ Q := by
  show fx_Wp 82 0 [(36, o0), (0, x1), (0, x2), (0, x3), (3, 0), (3, 0)] [] σ Q
  refine wi_iconst (pc' := 1) (v := 0) hm82 rfl rfl rfl ?_
  refine wi_istore (pc' := 3) (L' := [(36, o0), (0, x1), (0, x2), (0, x3), (0, 0), (3, 0)]) hm82 rfl rfl rfl ?_
  refine wi_iconst (pc' := 4) (v := 0) hm82 rfl rfl rfl ?_
  refine wi_istore (pc' := 6) (L' := [(36, o0), (0, x1), (0, x2), (0, x3), (0, 0), (0, 0)]) hm82 rfl rfl rfl ?_
  exact h
theorem t82_6 {o0 x1 x2 x3 x4 x5 : Int} {σ : fx_S} {Q : fx_V → fx_S → Prop} (h : (((σ 36 o0 8) ≤ x5 → Q (0, x4) σ) ∧ (x5 < (σ 36 o0 8) → fx_CI 74 [(36, o0), (0, x1), (0, x5), (0, 0)] σ Q (fun y1 σ1 => ((y1 = 0 → (fx_rg (x5 + 1)) ∧ fx_Wp 82 6 [(36, o0), (0, x1), (0, x2), (0, x3), (0, x4), (0, (x5 + 1))] [] σ1 Q) ∧ (y1 ≠ 0 → (0 ≤ x5 ∧ x5 < 122) ∧ fx_CI 71 [(36, o0), (0, x1), (0, x5)] σ1 Q (fun y2 σ2 => (0 ≤ y2 ∧ y2 < 122) ∧ fx_CI 83 [(36, o0), (0, (σ1 37 o0 x5)), (0, (σ2 37 o0 y2)), (0, x2), (0, x3)] σ2 Q (fun y3 σ3 => (fx_rg (x4 + y3)) ∧ (fx_rg (x5 + 1)) ∧ fx_Wp 82 6 [(36, o0), (0, x1), (0, x2), (0, x3), (0, (x4 + y3)), (0, (x5 + 1))] [] σ3 Q)))))))) : fx_Wp 82 6 [(36, o0), (0, x1), (0, x2), (0, x3), (0, x4), (0, x5)] [] σ Q := by
  refine wi_iload (pc' := 8) hm82 rfl rfl rfl ?_
  refine wi_aload_n (pc' := 9) hm82 rfl rfl rfl (by decide) ?_
  refine wi_getI (pc' := 12) hm82 rfl rfl (P := 8) rfl ?_
  refine wi_ic_ge (pc' := 15) (t := 62) hm82 rfl rfl rfl (fun hc => ?_) (fun hc => ?_)
  · replace h := h.1 hc
    refine wi_iload (pc' := 64) hm82 rfl rfl rfl ?_
    exact wi_iret hm82 rfl h
  · replace h := h.2 hc
    refine wi_aload_n (pc' := 16) hm82 rfl rfl rfl (by decide) ?_
    refine wi_iload_n (pc' := 17) hm82 rfl rfl rfl ?_
    refine wi_iload (pc' := 19) hm82 rfl rfl rfl ?_
    refine wi_iconst (pc' := 20) (v := 0) hm82 rfl rfl rfl ?_
    refine wc_I (pc' := 23) (by decide) rfl (by decide) ((fx_wE hm82 rfl).trans (fx_exV (mj := 74) (as := [(0, x1), (0, x5), (0, 0)]) (rest := []) rfl rk74 rfl rfl rfl rfl rfl)) h (fun y1 σ1 h => ?_)
    refine wi_if_eq (pc' := 26) (t := 56) hm82 rfl rfl rfl (fun hc => ?_) (fun hc => ?_)
    · replace h := h.1 hc
      obtain ⟨g1, h⟩ := h
      refine wi_iinc (pc' := 59) (L' := [(36, o0), (0, x1), (0, x2), (0, x3), (0, x4), (0, (x5 + 1))]) hm82 rfl rfl rfl g1 rfl ?_
      refine wi_goto (t := 6) hm82 rfl rfl ?_
      exact h
    · replace h := h.2 hc
      refine wi_iload (pc' := 28) hm82 rfl rfl rfl ?_
      refine wi_aload_n (pc' := 29) hm82 rfl rfl rfl (by decide) ?_
      refine wi_aload_n (pc' := 30) hm82 rfl rfl rfl (by decide) ?_
      refine wi_getR (pc' := 33) (x := o0) hm82 rfl rfl rfl (by omega) ?_
      refine wi_iload (pc' := 35) hm82 rfl rfl rfl ?_
      obtain ⟨g1, h⟩ := h
      refine wi_iaload (pc' := 36) hm82 rfl rfl rfl rfl (N := 122) rfl g1 ?_
      refine wi_aload_n (pc' := 37) hm82 rfl rfl rfl (by decide) ?_
      refine wi_getR (pc' := 40) (x := o0) hm82 rfl rfl rfl (by omega) ?_
      refine wi_aload_n (pc' := 41) hm82 rfl rfl rfl (by decide) ?_
      refine wi_iload_n (pc' := 42) hm82 rfl rfl rfl ?_
      refine wi_iload (pc' := 44) hm82 rfl rfl rfl ?_
      refine wc_I (pc' := 47) (by decide) rfl (by decide) ((fx_wE hm82 rfl).trans (fx_exV (mj := 71) (as := [(0, x1), (0, x5)]) (rest := [(37, o0), (0, (σ1 37 o0 x5)), (36, o0), (0, x4)]) rfl rk71 rfl rfl rfl rfl rfl)) h (fun y2 σ2 h => ?_)
      obtain ⟨g2, h⟩ := h
      refine wi_iaload (pc' := 48) hm82 rfl rfl rfl rfl (N := 122) rfl g2 ?_
      refine wi_iload_n (pc' := 49) hm82 rfl rfl rfl ?_
      refine wi_iload_n (pc' := 50) hm82 rfl rfl rfl ?_
      refine wc_I (pc' := 53) (by decide) rfl (by decide) ((fx_wE hm82 rfl).trans (fx_exV (mj := 83) (as := [(0, (σ1 37 o0 x5)), (0, (σ2 37 o0 y2)), (0, x2), (0, x3)]) (rest := [(0, x4)]) rfl rk83 rfl rfl rfl rfl rfl)) h (fun y3 σ3 h => ?_)
      obtain ⟨g3, h⟩ := h
      refine wi_iadd (pc' := 54) hm82 rfl rfl g3 ?_
      refine wi_istore (pc' := 56) (L' := [(36, o0), (0, x1), (0, x2), (0, x3), (0, (x4 + y3)), (0, x5)]) hm82 rfl rfl rfl ?_
      obtain ⟨g4, h⟩ := h
      refine wi_iinc (pc' := 59) (L' := [(36, o0), (0, x1), (0, x2), (0, x3), (0, (x4 + y3)), (0, (x5 + 1))]) hm82 rfl rfl rfl g4 rfl ?_
      refine wi_goto (t := 6) hm82 rfl rfl ?_
      exact h
theorem hm83 : fx_code 83 = fx_c83 := rfl
theorem t83_0 {o0 x1 x2 x3 x4 : Int} {σ : fx_S} {Q : fx_V → fx_S → Prop} (h : fx_Wp 83 6 [(36, o0), (0, x1), (0, x2), (0, x3), (0, x4), (0, 0), (0, 0)] [] σ Q) : fx_Ca 83 [(36, o0), (0, x1), (0, x2), (0, x3), (0, x4)] σ Q := by
  show fx_Wp 83 0 [(36, o0), (0, x1), (0, x2), (0, x3), (0, x4), (3, 0), (3, 0)] [] σ Q
  refine wi_iconst (pc' := 1) (v := 0) hm83 rfl rfl rfl ?_
  refine wi_istore (pc' := 3) (L' := [(36, o0), (0, x1), (0, x2), (0, x3), (0, x4), (0, 0), (3, 0)]) hm83 rfl rfl rfl ?_
  refine wi_iconst (pc' := 4) (v := 0) hm83 rfl rfl rfl ?_
  refine wi_istore (pc' := 6) (L' := [(36, o0), (0, x1), (0, x2), (0, x3), (0, x4), (0, 0), (0, 0)]) hm83 rfl rfl rfl ?_
  exact h
theorem t83_6 {o0 x1 x2 x3 x4 x5 x6 : Int} {σ : fx_S} {Q : fx_V → fx_S → Prop} (h : (((σ 36 o0 8) ≤ x6 → Q (0, x5) σ) ∧ (x6 < (σ 36 o0 8) → fx_CI 74 [(36, o0), (0, x3), (0, x6), (0, 0)] σ Q (fun y1 σ1 => ((y1 = 0 → (fx_rg (x6 + 1)) ∧ fx_Wp 83 6 [(36, o0), (0, x1), (0, x2), (0, x3), (0, x4), (0, x5), (0, (x6 + 1))] [] σ1 Q) ∧ (y1 ≠ 0 → (0 ≤ x6 ∧ x6 < 122) ∧ fx_CI 71 [(36, o0), (0, x3), (0, x6)] σ1 Q (fun y2 σ2 => (0 ≤ y2 ∧ y2 < 122) ∧ fx_CI 147 [(0, x1), (0, x2), (0, (σ1 37 o0 x6)), (0, (σ2 37 o0 y2))] σ2 Q (fun y3 σ3 => ((y3 ≠ x4 → (fx_rg (x6 + 1)) ∧ fx_Wp 83 6 [(36, o0), (0, x1), (0, x2), (0, x3), (0, x4), (0, x5), (0, (x6 + 1))] [] σ3 Q) ∧ (y3 = x4 → (fx_rg (x5 + 1)) ∧ (fx_rg (x6 + 1)) ∧ fx_Wp 83 6 [(36, o0), (0, x1), (0, x2), (0, x3), (0, x4), (0, (x5 + 1)), (0, (x6 + 1))] [] σ3 Q)))))))))) : fx_Wp 83 6 [(36, o0), (0, x1), (0, x2), (0, x3), (0, x4), (0, x5), (0, x6)] [] σ Q := by
  refine wi_iload (pc' := 8) hm83 rfl rfl rfl ?_
  refine wi_aload_n (pc' := 9) hm83 rfl rfl rfl (by decide) ?_
  refine wi_getI (pc' := 12) hm83 rfl rfl (P := 8) rfl ?_
  refine wi_ic_ge (pc' := 15) (t := 64) hm83 rfl rfl rfl (fun hc => ?_) (fun hc => ?_)
  · replace h := h.1 hc
    refine wi_iload (pc' := 66) hm83 rfl rfl rfl ?_
    exact wi_iret hm83 rfl h
  · replace h := h.2 hc
    refine wi_aload_n (pc' := 16) hm83 rfl rfl rfl (by decide) ?_
    refine wi_iload_n (pc' := 17) hm83 rfl rfl rfl ?_
    refine wi_iload (pc' := 19) hm83 rfl rfl rfl ?_
    refine wi_iconst (pc' := 20) (v := 0) hm83 rfl rfl rfl ?_
    refine wc_I (pc' := 23) (by decide) rfl (by decide) ((fx_wE hm83 rfl).trans (fx_exV (mj := 74) (as := [(0, x3), (0, x6), (0, 0)]) (rest := []) rfl rk74 rfl rfl rfl rfl rfl)) h (fun y1 σ1 h => ?_)
    refine wi_if_eq (pc' := 26) (t := 58) hm83 rfl rfl rfl (fun hc => ?_) (fun hc => ?_)
    · replace h := h.1 hc
      obtain ⟨g1, h⟩ := h
      refine wi_iinc (pc' := 61) (L' := [(36, o0), (0, x1), (0, x2), (0, x3), (0, x4), (0, x5), (0, (x6 + 1))]) hm83 rfl rfl rfl g1 rfl ?_
      refine wi_goto (t := 6) hm83 rfl rfl ?_
      exact h
    · replace h := h.2 hc
      refine wi_iload_n (pc' := 27) hm83 rfl rfl rfl ?_
      refine wi_iload_n (pc' := 28) hm83 rfl rfl rfl ?_
      refine wi_aload_n (pc' := 29) hm83 rfl rfl rfl (by decide) ?_
      refine wi_getR (pc' := 32) (x := o0) hm83 rfl rfl rfl (by omega) ?_
      refine wi_iload (pc' := 34) hm83 rfl rfl rfl ?_
      obtain ⟨g1, h⟩ := h
      refine wi_iaload (pc' := 35) hm83 rfl rfl rfl rfl (N := 122) rfl g1 ?_
      refine wi_aload_n (pc' := 36) hm83 rfl rfl rfl (by decide) ?_
      refine wi_getR (pc' := 39) (x := o0) hm83 rfl rfl rfl (by omega) ?_
      refine wi_aload_n (pc' := 40) hm83 rfl rfl rfl (by decide) ?_
      refine wi_iload_n (pc' := 41) hm83 rfl rfl rfl ?_
      refine wi_iload (pc' := 43) hm83 rfl rfl rfl ?_
      refine wc_I (pc' := 46) (by decide) rfl (by decide) ((fx_wE hm83 rfl).trans (fx_exV (mj := 71) (as := [(0, x3), (0, x6)]) (rest := [(37, o0), (0, (σ1 37 o0 x6)), (0, x2), (0, x1)]) rfl rk71 rfl rfl rfl rfl rfl)) h (fun y2 σ2 h => ?_)
      obtain ⟨g2, h⟩ := h
      refine wi_iaload (pc' := 47) hm83 rfl rfl rfl rfl (N := 122) rfl g2 ?_
      refine wc_I (pc' := 50) (by decide) rfl (by decide) ((fx_wE hm83 rfl).trans (fx_exS (mj := 147) (as := [(0, x1), (0, x2), (0, (σ1 37 o0 x6)), (0, (σ2 37 o0 y2))]) (rest := []) rfl rk147 rfl rfl rfl rfl)) h (fun y3 σ3 h => ?_)
      refine wi_iload (pc' := 52) hm83 rfl rfl rfl ?_
      refine wi_ic_ne (pc' := 55) (t := 58) hm83 rfl rfl rfl (fun hc => ?_) (fun hc => ?_)
      · replace h := h.1 hc
        obtain ⟨g3, h⟩ := h
        refine wi_iinc (pc' := 61) (L' := [(36, o0), (0, x1), (0, x2), (0, x3), (0, x4), (0, x5), (0, (x6 + 1))]) hm83 rfl rfl rfl g3 rfl ?_
        refine wi_goto (t := 6) hm83 rfl rfl ?_
        exact h
      · replace h := h.2 hc
        obtain ⟨g3, h⟩ := h
        refine wi_iinc (pc' := 58) (L' := [(36, o0), (0, x1), (0, x2), (0, x3), (0, x4), (0, (x5 + 1)), (0, x6)]) hm83 rfl rfl rfl g3 rfl ?_
        obtain ⟨g4, h⟩ := h
        refine wi_iinc (pc' := 61) (L' := [(36, o0), (0, x1), (0, x2), (0, x3), (0, x4), (0, (x5 + 1)), (0, (x6 + 1))]) hm83 rfl rfl rfl g4 rfl ?_
        refine wi_goto (t := 6) hm83 rfl rfl ?_
        exact h
theorem hm84 : fx_code 84 = fx_c84 := rfl
theorem t84_0 {o0 x1 x2 : Int} {σ : fx_S} {Q : fx_V → fx_S → Prop} (h : fx_Wp 84 5 [(36, o0), (0, x1), (0, x2), (0, 0), (0, 0)] [] σ Q) : fx_Ca 84 [(36, o0), (0, x1), (0, x2)] σ Q := by
  show fx_Wp 84 0 [(36, o0), (0, x1), (0, x2), (3, 0), (3, 0)] [] σ Q
  refine wi_iconst (pc' := 1) (v := 0) hm84 rfl rfl rfl ?_
  refine wi_istore_n (pc' := 2) (L' := [(36, o0), (0, x1), (0, x2), (0, 0), (3, 0)]) hm84 rfl rfl rfl ?_
  refine wi_iconst (pc' := 3) (v := 0) hm84 rfl rfl rfl ?_
  refine wi_istore (pc' := 5) (L' := [(36, o0), (0, x1), (0, x2), (0, 0), (0, 0)]) hm84 rfl rfl rfl ?_
  exact h
theorem t84_5 {o0 x1 x2 x3 x4 : Int} {σ : fx_S} {Q : fx_V → fx_S → Prop} (h : (((σ 36 o0 8) ≤ x4 → Q (0, x3) σ) ∧ (x4 < (σ 36 o0 8) → (0 ≤ x1 ∧ x1 < 8) ∧ (0 ≤ x4 ∧ x4 < 121) ∧ (((σ 43 (8 * o0 + 0 + x1) x4) = (-1) → (fx_rg (x4 + 1)) ∧ fx_Wp 84 5 [(36, o0), (0, x1), (0, x2), (0, x3), (0, (x4 + 1))] [] σ Q) ∧ ((σ 43 (8 * o0 + 0 + x1) x4) ≠ (-1) → (0 ≤ x2 ∧ x2 < 8) ∧ (((σ 43 (8 * o0 + 0 + x2) x4) = (-1) → (fx_rg (x4 + 1)) ∧ fx_Wp 84 5 [(36, o0), (0, x1), (0, x2), (0, x3), (0, (x4 + 1))] [] σ Q) ∧ ((σ 43 (8 * o0 + 0 + x2) x4) ≠ (-1) → fx_CI 70 [(36, o0), (0, x4)] σ Q (fun y1 σ1 => (fx_rg (x3 + y1)) ∧ (fx_rg (x4 + 1)) ∧ fx_Wp 84 5 [(36, o0), (0, x1), (0, x2), (0, (x3 + y1)), (0, (x4 + 1))] [] σ1 Q)))))))) : fx_Wp 84 5 [(36, o0), (0, x1), (0, x2), (0, x3), (0, x4)] [] σ Q := by
  refine wi_iload (pc' := 7) hm84 rfl rfl rfl ?_
  refine wi_aload_n (pc' := 8) hm84 rfl rfl rfl (by decide) ?_
  refine wi_getI (pc' := 11) hm84 rfl rfl (P := 8) rfl ?_
  refine wi_ic_ge (pc' := 14) (t := 55) hm84 rfl rfl rfl (fun hc => ?_) (fun hc => ?_)
  · replace h := h.1 hc
    refine wi_iload_n (pc' := 56) hm84 rfl rfl rfl ?_
    exact wi_iret hm84 rfl h
  · replace h := h.2 hc
    refine wi_aload_n (pc' := 15) hm84 rfl rfl rfl (by decide) ?_
    refine wi_getR (pc' := 18) (x := o0) hm84 rfl rfl rfl (by omega) ?_
    refine wi_iload_n (pc' := 19) hm84 rfl rfl rfl ?_
    obtain ⟨g1, h⟩ := h
    refine wi_aaload (pc' := 20) (x := (8 * o0 + 0 + x1)) hm84 rfl rfl rfl rfl (N := 8) rfl g1 (by omega) ?_
    refine wi_iload (pc' := 22) hm84 rfl rfl rfl ?_
    obtain ⟨g2, h⟩ := h
    refine wi_iaload (pc' := 23) hm84 rfl rfl rfl rfl (N := 121) rfl g2 ?_
    refine wi_iconst (pc' := 24) (v := (-1)) hm84 rfl rfl rfl ?_
    refine wi_ic_eq (pc' := 27) (t := 49) hm84 rfl rfl rfl (fun hc => ?_) (fun hc => ?_)
    · replace h := h.1 hc
      obtain ⟨g3, h⟩ := h
      refine wi_iinc (pc' := 52) (L' := [(36, o0), (0, x1), (0, x2), (0, x3), (0, (x4 + 1))]) hm84 rfl rfl rfl g3 rfl ?_
      refine wi_goto (t := 5) hm84 rfl rfl ?_
      exact h
    · replace h := h.2 hc
      refine wi_aload_n (pc' := 28) hm84 rfl rfl rfl (by decide) ?_
      refine wi_getR (pc' := 31) (x := o0) hm84 rfl rfl rfl (by omega) ?_
      refine wi_iload_n (pc' := 32) hm84 rfl rfl rfl ?_
      obtain ⟨g3, h⟩ := h
      refine wi_aaload (pc' := 33) (x := (8 * o0 + 0 + x2)) hm84 rfl rfl rfl rfl (N := 8) rfl g3 (by omega) ?_
      refine wi_iload (pc' := 35) hm84 rfl rfl rfl ?_
      refine wi_iaload (pc' := 36) hm84 rfl rfl rfl rfl (N := 121) rfl g2 ?_
      refine wi_iconst (pc' := 37) (v := (-1)) hm84 rfl rfl rfl ?_
      refine wi_ic_eq (pc' := 40) (t := 49) hm84 rfl rfl rfl (fun hc => ?_) (fun hc => ?_)
      · replace h := h.1 hc
        obtain ⟨g4, h⟩ := h
        refine wi_iinc (pc' := 52) (L' := [(36, o0), (0, x1), (0, x2), (0, x3), (0, (x4 + 1))]) hm84 rfl rfl rfl g4 rfl ?_
        refine wi_goto (t := 5) hm84 rfl rfl ?_
        exact h
      · replace h := h.2 hc
        refine wi_iload_n (pc' := 41) hm84 rfl rfl rfl ?_
        refine wi_aload_n (pc' := 42) hm84 rfl rfl rfl (by decide) ?_
        refine wi_iload (pc' := 44) hm84 rfl rfl rfl ?_
        refine wc_I (pc' := 47) (by decide) rfl (by decide) ((fx_wE hm84 rfl).trans (fx_exV (mj := 70) (as := [(0, x4)]) (rest := [(0, x3)]) rfl rk70 rfl rfl rfl rfl rfl)) h (fun y1 σ1 h => ?_)
        obtain ⟨g4, h⟩ := h
        refine wi_iadd (pc' := 48) hm84 rfl rfl g4 ?_
        refine wi_istore_n (pc' := 49) (L' := [(36, o0), (0, x1), (0, x2), (0, (x3 + y1)), (0, x4)]) hm84 rfl rfl rfl ?_
        obtain ⟨g5, h⟩ := h
        refine wi_iinc (pc' := 52) (L' := [(36, o0), (0, x1), (0, x2), (0, (x3 + y1)), (0, (x4 + 1))]) hm84 rfl rfl rfl g5 rfl ?_
        refine wi_goto (t := 5) hm84 rfl rfl ?_
        exact h
theorem hm85 : fx_code 85 = fx_c85 := rfl
theorem t85_0 {o0 x1 x2 : Int} {σ : fx_S} {Q : fx_V → fx_S → Prop} (h : fx_Wp 85 5 [(36, o0), (0, x1), (0, x2), (0, 0), (0, 0)] [] σ Q) : fx_Ca 85 [(36, o0), (0, x1), (0, x2)] σ Q := by
  show fx_Wp 85 0 [(36, o0), (0, x1), (0, x2), (3, 0), (3, 0)] [] σ Q
  refine wi_iconst (pc' := 1) (v := 0) hm85 rfl rfl rfl ?_
  refine wi_istore_n (pc' := 2) (L' := [(36, o0), (0, x1), (0, x2), (0, 0), (3, 0)]) hm85 rfl rfl rfl ?_
  refine wi_iconst (pc' := 3) (v := 0) hm85 rfl rfl rfl ?_
  refine wi_istore (pc' := 5) (L' := [(36, o0), (0, x1), (0, x2), (0, 0), (0, 0)]) hm85 rfl rfl rfl ?_
  exact h
theorem t85_5 {o0 x1 x2 x3 x4 : Int} {σ : fx_S} {Q : fx_V → fx_S → Prop} (h : (((σ 36 o0 8) ≤ x4 → Q (0, x3) σ) ∧ (x4 < (σ 36 o0 8) → (0 ≤ x1 ∧ x1 < 8) ∧ (0 ≤ x4 ∧ x4 < 121) ∧ (((σ 43 (8 * o0 + 0 + x1) x4) ≠ x2 → (fx_rg (x4 + 1)) ∧ fx_Wp 85 5 [(36, o0), (0, x1), (0, x2), (0, x3), (0, (x4 + 1))] [] σ Q) ∧ ((σ 43 (8 * o0 + 0 + x1) x4) = x2 → fx_CI 70 [(36, o0), (0, x4)] σ Q (fun y1 σ1 => (fx_rg (x3 + y1)) ∧ (fx_rg (x4 + 1)) ∧ fx_Wp 85 5 [(36, o0), (0, x1), (0, x2), (0, (x3 + y1)), (0, (x4 + 1))] [] σ1 Q)))))) : fx_Wp 85 5 [(36, o0), (0, x1), (0, x2), (0, x3), (0, x4)] [] σ Q := by
  refine wi_iload (pc' := 7) hm85 rfl rfl rfl ?_
  refine wi_aload_n (pc' := 8) hm85 rfl rfl rfl (by decide) ?_
  refine wi_getI (pc' := 11) hm85 rfl rfl (P := 8) rfl ?_
  refine wi_ic_ge (pc' := 14) (t := 42) hm85 rfl rfl rfl (fun hc => ?_) (fun hc => ?_)
  · replace h := h.1 hc
    refine wi_iload_n (pc' := 43) hm85 rfl rfl rfl ?_
    exact wi_iret hm85 rfl h
  · replace h := h.2 hc
    refine wi_aload_n (pc' := 15) hm85 rfl rfl rfl (by decide) ?_
    refine wi_getR (pc' := 18) (x := o0) hm85 rfl rfl rfl (by omega) ?_
    refine wi_iload_n (pc' := 19) hm85 rfl rfl rfl ?_
    obtain ⟨g1, h⟩ := h
    refine wi_aaload (pc' := 20) (x := (8 * o0 + 0 + x1)) hm85 rfl rfl rfl rfl (N := 8) rfl g1 (by omega) ?_
    refine wi_iload (pc' := 22) hm85 rfl rfl rfl ?_
    obtain ⟨g2, h⟩ := h
    refine wi_iaload (pc' := 23) hm85 rfl rfl rfl rfl (N := 121) rfl g2 ?_
    refine wi_iload_n (pc' := 24) hm85 rfl rfl rfl ?_
    refine wi_ic_ne (pc' := 27) (t := 36) hm85 rfl rfl rfl (fun hc => ?_) (fun hc => ?_)
    · replace h := h.1 hc
      obtain ⟨g3, h⟩ := h
      refine wi_iinc (pc' := 39) (L' := [(36, o0), (0, x1), (0, x2), (0, x3), (0, (x4 + 1))]) hm85 rfl rfl rfl g3 rfl ?_
      refine wi_goto (t := 5) hm85 rfl rfl ?_
      exact h
    · replace h := h.2 hc
      refine wi_iload_n (pc' := 28) hm85 rfl rfl rfl ?_
      refine wi_aload_n (pc' := 29) hm85 rfl rfl rfl (by decide) ?_
      refine wi_iload (pc' := 31) hm85 rfl rfl rfl ?_
      refine wc_I (pc' := 34) (by decide) rfl (by decide) ((fx_wE hm85 rfl).trans (fx_exV (mj := 70) (as := [(0, x4)]) (rest := [(0, x3)]) rfl rk70 rfl rfl rfl rfl rfl)) h (fun y1 σ1 h => ?_)
      obtain ⟨g3, h⟩ := h
      refine wi_iadd (pc' := 35) hm85 rfl rfl g3 ?_
      refine wi_istore_n (pc' := 36) (L' := [(36, o0), (0, x1), (0, x2), (0, (x3 + y1)), (0, x4)]) hm85 rfl rfl rfl ?_
      obtain ⟨g4, h⟩ := h
      refine wi_iinc (pc' := 39) (L' := [(36, o0), (0, x1), (0, x2), (0, (x3 + y1)), (0, (x4 + 1))]) hm85 rfl rfl rfl g4 rfl ?_
      refine wi_goto (t := 5) hm85 rfl rfl ?_
      exact h
theorem hm86 : fx_code 86 = fx_c86 := rfl
theorem t86_0 {o0 x1 : Int} {σ : fx_S} {Q : fx_V → fx_S → Prop} (h : fx_Wp 86 7 [(36, o0), (0, x1), (0, (-1)), (0, 0), (0, 0), (3, 0)] [] σ Q) : fx_Ca 86 [(36, o0), (0, x1)] σ Q := by
  show fx_Wp 86 0 [(36, o0), (0, x1), (3, 0), (3, 0), (3, 0), (3, 0)] [] σ Q
  refine wi_iconst (pc' := 1) (v := (-1)) hm86 rfl rfl rfl ?_
  refine wi_istore_n (pc' := 2) (L' := [(36, o0), (0, x1), (0, (-1)), (3, 0), (3, 0), (3, 0)]) hm86 rfl rfl rfl ?_
  refine wi_iconst (pc' := 3) (v := 0) hm86 rfl rfl rfl ?_
  refine wi_istore_n (pc' := 4) (L' := [(36, o0), (0, x1), (0, (-1)), (0, 0), (3, 0), (3, 0)]) hm86 rfl rfl rfl ?_
  refine wi_iconst (pc' := 5) (v := 0) hm86 rfl rfl rfl ?_
  refine wi_istore (pc' := 7) (L' := [(36, o0), (0, x1), (0, (-1)), (0, 0), (0, 0), (3, 0)]) hm86 rfl rfl rfl ?_
  exact h
theorem t86_7 {o0 x1 x2 x3 x4 : Int} {w5 : fx_V} {σ : fx_S} {Q : fx_V → fx_S → Prop} (h : ((100 ≤ x4 → Q (0, x2) σ) ∧ (x4 < 100 → fx_CI 85 [(36, o0), (0, x1), (0, x4)] σ Q (fun y1 σ1 => ((y1 ≤ x3 → (fx_rg (x4 + 1)) ∧ fx_Wp 86 7 [(36, o0), (0, x1), (0, x2), (0, x3), (0, (x4 + 1)), (0, y1)] [] σ1 Q) ∧ (x3 < y1 → (fx_rg (x4 + 1)) ∧ fx_Wp 86 7 [(36, o0), (0, x1), (0, x4), (0, y1), (0, (x4 + 1)), (0, y1)] [] σ1 Q)))))) : fx_Wp 86 7 [(36, o0), (0, x1), (0, x2), (0, x3), (0, x4), w5] [] σ Q := by
  refine wi_iload (pc' := 9) hm86 rfl rfl rfl ?_
  refine wi_bipush (pc' := 11) (v := 100) hm86 rfl rfl rfl ?_
  refine wi_ic_ge (pc' := 14) (t := 41) hm86 rfl rfl rfl (fun hc => ?_) (fun hc => ?_)
  · replace h := h.1 hc
    refine wi_iload_n (pc' := 42) hm86 rfl rfl rfl ?_
    exact wi_iret hm86 rfl h
  · replace h := h.2 hc
    refine wi_aload_n (pc' := 15) hm86 rfl rfl rfl (by decide) ?_
    refine wi_iload_n (pc' := 16) hm86 rfl rfl rfl ?_
    refine wi_iload (pc' := 18) hm86 rfl rfl rfl ?_
    refine wc_I (pc' := 21) (by decide) rfl (by decide) ((fx_wE hm86 rfl).trans (fx_exV (mj := 85) (as := [(0, x1), (0, x4)]) (rest := []) rfl rk85 rfl rfl rfl rfl rfl)) h (fun y1 σ1 h => ?_)
    refine wi_istore (pc' := 23) (L' := [(36, o0), (0, x1), (0, x2), (0, x3), (0, x4), (0, y1)]) hm86 rfl rfl rfl ?_
    refine wi_iload (pc' := 25) hm86 rfl rfl rfl ?_
    refine wi_iload_n (pc' := 26) hm86 rfl rfl rfl ?_
    refine wi_ic_le (pc' := 29) (t := 35) hm86 rfl rfl rfl (fun hc => ?_) (fun hc => ?_)
    · replace h := h.1 hc
      obtain ⟨g1, h⟩ := h
      refine wi_iinc (pc' := 38) (L' := [(36, o0), (0, x1), (0, x2), (0, x3), (0, (x4 + 1)), (0, y1)]) hm86 rfl rfl rfl g1 rfl ?_
      refine wi_goto (t := 7) hm86 rfl rfl ?_
      exact h
    · replace h := h.2 hc
      refine wi_iload (pc' := 31) hm86 rfl rfl rfl ?_
      refine wi_istore_n (pc' := 32) (L' := [(36, o0), (0, x1), (0, x2), (0, y1), (0, x4), (0, y1)]) hm86 rfl rfl rfl ?_
      refine wi_iload (pc' := 34) hm86 rfl rfl rfl ?_
      refine wi_istore_n (pc' := 35) (L' := [(36, o0), (0, x1), (0, x4), (0, y1), (0, x4), (0, y1)]) hm86 rfl rfl rfl ?_
      obtain ⟨g1, h⟩ := h
      refine wi_iinc (pc' := 38) (L' := [(36, o0), (0, x1), (0, x4), (0, y1), (0, (x4 + 1)), (0, y1)]) hm86 rfl rfl rfl g1 rfl ?_
      refine wi_goto (t := 7) hm86 rfl rfl ?_
      exact h
theorem hm87 : fx_code 87 = fx_c87 := rfl
theorem t87_0 {o0 x1 : Int} {σ : fx_S} {Q : fx_V → fx_S → Prop} (h : fx_Wp 87 4 [(36, o0), (0, x1), (0, 0), (0, 0)] [] σ Q) : fx_Ca 87 [(36, o0), (0, x1)] σ Q := by
  show fx_Wp 87 0 [(36, o0), (0, x1), (3, 0), (3, 0)] [] σ Q
  refine wi_iconst (pc' := 1) (v := 0) hm87 rfl rfl rfl ?_
  refine wi_istore_n (pc' := 2) (L' := [(36, o0), (0, x1), (0, 0), (3, 0)]) hm87 rfl rfl rfl ?_
  refine wi_iconst (pc' := 3) (v := 0) hm87 rfl rfl rfl ?_
  refine wi_istore_n (pc' := 4) (L' := [(36, o0), (0, x1), (0, 0), (0, 0)]) hm87 rfl rfl rfl ?_
  exact h
theorem t87_4 {o0 x1 x2 x3 : Int} {σ : fx_S} {Q : fx_V → fx_S → Prop} (h : (((σ 36 o0 8) ≤ x3 → Q (0, x2) σ) ∧ (x3 < (σ 36 o0 8) → (0 ≤ x1 ∧ x1 < 8) ∧ (0 ≤ x3 ∧ x3 < 121) ∧ (((σ 43 (8 * o0 + 0 + x1) x3) = (-1) → (fx_rg (x3 + 1)) ∧ fx_Wp 87 4 [(36, o0), (0, x1), (0, x2), (0, (x3 + 1))] [] σ Q) ∧ ((σ 43 (8 * o0 + 0 + x1) x3) ≠ (-1) → fx_CI 70 [(36, o0), (0, x3)] σ Q (fun y1 σ1 => (fx_rg ((σ 43 (8 * o0 + 0 + x1) x3) * y1)) ∧ (fx_rg (x2 + ((σ 43 (8 * o0 + 0 + x1) x3) * y1))) ∧ (fx_rg (x3 + 1)) ∧ fx_Wp 87 4 [(36, o0), (0, x1), (0, (x2 + ((σ 43 (8 * o0 + 0 + x1) x3) * y1))), (0, (x3 + 1))] [] σ1 Q)))))) : fx_Wp 87 4 [(36, o0), (0, x1), (0, x2), (0, x3)] [] σ Q := by
  refine wi_iload_n (pc' := 5) hm87 rfl rfl rfl ?_
  refine wi_aload_n (pc' := 6) hm87 rfl rfl rfl (by decide) ?_
  refine wi_getI (pc' := 9) hm87 rfl rfl (P := 8) rfl ?_
  refine wi_ic_ge (pc' := 12) (t := 47) hm87 rfl rfl rfl (fun hc => ?_) (fun hc => ?_)
  · replace h := h.1 hc
    refine wi_iload_n (pc' := 48) hm87 rfl rfl rfl ?_
    exact wi_iret hm87 rfl h
  · replace h := h.2 hc
    refine wi_aload_n (pc' := 13) hm87 rfl rfl rfl (by decide) ?_
    refine wi_getR (pc' := 16) (x := o0) hm87 rfl rfl rfl (by omega) ?_
    refine wi_iload_n (pc' := 17) hm87 rfl rfl rfl ?_
    obtain ⟨g1, h⟩ := h
    refine wi_aaload (pc' := 18) (x := (8 * o0 + 0 + x1)) hm87 rfl rfl rfl rfl (N := 8) rfl g1 (by omega) ?_
    refine wi_iload_n (pc' := 19) hm87 rfl rfl rfl ?_
    obtain ⟨g2, h⟩ := h
    refine wi_iaload (pc' := 20) hm87 rfl rfl rfl rfl (N := 121) rfl g2 ?_
    refine wi_iconst (pc' := 21) (v := (-1)) hm87 rfl rfl rfl ?_
    refine wi_ic_eq (pc' := 24) (t := 41) hm87 rfl rfl rfl (fun hc => ?_) (fun hc => ?_)
    · replace h := h.1 hc
      obtain ⟨g3, h⟩ := h
      refine wi_iinc (pc' := 44) (L' := [(36, o0), (0, x1), (0, x2), (0, (x3 + 1))]) hm87 rfl rfl rfl g3 rfl ?_
      refine wi_goto (t := 4) hm87 rfl rfl ?_
      exact h
    · replace h := h.2 hc
      refine wi_iload_n (pc' := 25) hm87 rfl rfl rfl ?_
      refine wi_aload_n (pc' := 26) hm87 rfl rfl rfl (by decide) ?_
      refine wi_getR (pc' := 29) (x := o0) hm87 rfl rfl rfl (by omega) ?_
      refine wi_iload_n (pc' := 30) hm87 rfl rfl rfl ?_
      refine wi_aaload (pc' := 31) (x := (8 * o0 + 0 + x1)) hm87 rfl rfl rfl rfl (N := 8) rfl g1 (by omega) ?_
      refine wi_iload_n (pc' := 32) hm87 rfl rfl rfl ?_
      refine wi_iaload (pc' := 33) hm87 rfl rfl rfl rfl (N := 121) rfl g2 ?_
      refine wi_aload_n (pc' := 34) hm87 rfl rfl rfl (by decide) ?_
      refine wi_iload_n (pc' := 35) hm87 rfl rfl rfl ?_
      refine wc_I (pc' := 38) (by decide) rfl (by decide) ((fx_wE hm87 rfl).trans (fx_exV (mj := 70) (as := [(0, x3)]) (rest := [(0, (σ 43 (8 * o0 + 0 + x1) x3)), (0, x2)]) rfl rk70 rfl rfl rfl rfl rfl)) h (fun y1 σ1 h => ?_)
      obtain ⟨g3, h⟩ := h
      refine wi_imul (pc' := 39) hm87 rfl rfl g3 ?_
      obtain ⟨g4, h⟩ := h
      refine wi_iadd (pc' := 40) hm87 rfl rfl g4 ?_
      refine wi_istore_n (pc' := 41) (L' := [(36, o0), (0, x1), (0, (x2 + ((σ 43 (8 * o0 + 0 + x1) x3) * y1))), (0, x3)]) hm87 rfl rfl rfl ?_
      obtain ⟨g5, h⟩ := h
      refine wi_iinc (pc' := 44) (L' := [(36, o0), (0, x1), (0, (x2 + ((σ 43 (8 * o0 + 0 + x1) x3) * y1))), (0, (x3 + 1))]) hm87 rfl rfl rfl g5 rfl ?_
      refine wi_goto (t := 4) hm87 rfl rfl ?_
      exact h
theorem hm88 : fx_code 88 = fx_c88 := rfl
theorem t88_0 {o0 x1 : Int} {σ : fx_S} {Q : fx_V → fx_S → Prop} (h : fx_Wp 88 4 [(36, o0), (0, x1), (0, 0), (0, 0)] [] σ Q) : fx_Ca 88 [(36, o0), (0, x1)] σ Q := by
  show fx_Wp 88 0 [(36, o0), (0, x1), (3, 0), (3, 0)] [] σ Q
  refine wi_iconst (pc' := 1) (v := 0) hm88 rfl rfl rfl ?_
  refine wi_istore_n (pc' := 2) (L' := [(36, o0), (0, x1), (0, 0), (3, 0)]) hm88 rfl rfl rfl ?_
  refine wi_iconst (pc' := 3) (v := 0) hm88 rfl rfl rfl ?_
  refine wi_istore_n (pc' := 4) (L' := [(36, o0), (0, x1), (0, 0), (0, 0)]) hm88 rfl rfl rfl ?_
  exact h
theorem t88_4 {o0 x1 x2 x3 : Int} {σ : fx_S} {Q : fx_V → fx_S → Prop} (h : (((σ 36 o0 8) ≤ x3 → Q (0, x2) σ) ∧ (x3 < (σ 36 o0 8) → (0 ≤ x3 ∧ x3 < 122) ∧ fx_CI 42 [(11, 0), (0, x1), (0, (σ 37 o0 x3))] σ Q (fun y1 σ1 => ((y1 = 0 → (fx_rg (x3 + 1)) ∧ fx_Wp 88 4 [(36, o0), (0, x1), (0, x2), (0, (x3 + 1))] [] σ1 Q) ∧ (y1 ≠ 0 → fx_CI 70 [(36, o0), (0, x3)] σ1 Q (fun y2 σ2 => (fx_rg (x2 + y2)) ∧ (fx_rg (x3 + 1)) ∧ fx_Wp 88 4 [(36, o0), (0, x1), (0, (x2 + y2)), (0, (x3 + 1))] [] σ2 Q))))))) : fx_Wp 88 4 [(36, o0), (0, x1), (0, x2), (0, x3)] [] σ Q := by
  refine wi_iload_n (pc' := 5) hm88 rfl rfl rfl ?_
  refine wi_aload_n (pc' := 6) hm88 rfl rfl rfl (by decide) ?_
  refine wi_getI (pc' := 9) hm88 rfl rfl (P := 8) rfl ?_
  refine wi_ic_ge (pc' := 12) (t := 43) hm88 rfl rfl rfl (fun hc => ?_) (fun hc => ?_)
  · replace h := h.1 hc
    refine wi_iload_n (pc' := 44) hm88 rfl rfl rfl ?_
    exact wi_iret hm88 rfl h
  · replace h := h.2 hc
    refine wi_aload_n (pc' := 13) hm88 rfl rfl rfl (by decide) ?_
    refine wi_getR (pc' := 16) (x := 0) hm88 rfl rfl rfl (by omega) ?_
    refine wi_iload_n (pc' := 17) hm88 rfl rfl rfl ?_
    refine wi_aload_n (pc' := 18) hm88 rfl rfl rfl (by decide) ?_
    refine wi_getR (pc' := 21) (x := o0) hm88 rfl rfl rfl (by omega) ?_
    refine wi_iload_n (pc' := 22) hm88 rfl rfl rfl ?_
    obtain ⟨g1, h⟩ := h
    refine wi_iaload (pc' := 23) hm88 rfl rfl rfl rfl (N := 122) rfl g1 ?_
    refine wc_I (pc' := 26) (by decide) rfl (by decide) ((fx_wE hm88 rfl).trans (fx_exV (mj := 42) (as := [(0, x1), (0, (σ 37 o0 x3))]) (rest := []) rfl rk42 rfl rfl rfl rfl rfl)) h (fun y1 σ1 h => ?_)
    refine wi_if_eq (pc' := 29) (t := 37) hm88 rfl rfl rfl (fun hc => ?_) (fun hc => ?_)
    · replace h := h.1 hc
      obtain ⟨g2, h⟩ := h
      refine wi_iinc (pc' := 40) (L' := [(36, o0), (0, x1), (0, x2), (0, (x3 + 1))]) hm88 rfl rfl rfl g2 rfl ?_
      refine wi_goto (t := 4) hm88 rfl rfl ?_
      exact h
    · replace h := h.2 hc
      refine wi_iload_n (pc' := 30) hm88 rfl rfl rfl ?_
      refine wi_aload_n (pc' := 31) hm88 rfl rfl rfl (by decide) ?_
      refine wi_iload_n (pc' := 32) hm88 rfl rfl rfl ?_
      refine wc_I (pc' := 35) (by decide) rfl (by decide) ((fx_wE hm88 rfl).trans (fx_exV (mj := 70) (as := [(0, x3)]) (rest := [(0, x2)]) rfl rk70 rfl rfl rfl rfl rfl)) h (fun y2 σ2 h => ?_)
      obtain ⟨g2, h⟩ := h
      refine wi_iadd (pc' := 36) hm88 rfl rfl g2 ?_
      refine wi_istore_n (pc' := 37) (L' := [(36, o0), (0, x1), (0, (x2 + y2)), (0, x3)]) hm88 rfl rfl rfl ?_
      obtain ⟨g3, h⟩ := h
      refine wi_iinc (pc' := 40) (L' := [(36, o0), (0, x1), (0, (x2 + y2)), (0, (x3 + 1))]) hm88 rfl rfl rfl g3 rfl ?_
      refine wi_goto (t := 4) hm88 rfl rfl ?_
      exact h
theorem hm89 : fx_code 89 = fx_c89 := rfl
theorem t89_0 {o0 x1 : Int} {σ : fx_S} {Q : fx_V → fx_S → Prop} (h : (0 ≤ x1 ∧ x1 < 60) ∧ (0 ≤ (σ 15 0 x1) ∧ (σ 15 0 x1) < 8) ∧ fx_Wp 89 20 [(36, o0), (0, x1), (41, (8 * o0 + 0 + (σ 15 0 x1))), (0, 0), (0, 0)] [] σ Q) : fx_Ca 89 [(36, o0), (0, x1)] σ Q := by
  show fx_Wp 89 0 [(36, o0), (0, x1), (3, 0), (3, 0), (3, 0)] [] σ Q
  refine wi_aload_n (pc' := 1) hm89 rfl rfl rfl (by decide) ?_
  refine wi_getR (pc' := 4) (x := o0) hm89 rfl rfl rfl (by omega) ?_
  refine wi_aload_n (pc' := 5) hm89 rfl rfl rfl (by decide) ?_
  refine wi_getR (pc' := 8) (x := 0) hm89 rfl rfl rfl (by omega) ?_
  refine wi_getR (pc' := 11) (x := 0) hm89 rfl rfl rfl (by omega) ?_
  refine wi_iload_n (pc' := 12) hm89 rfl rfl rfl ?_
  obtain ⟨g1, h⟩ := h
  refine wi_iaload (pc' := 13) hm89 rfl rfl rfl rfl (N := 60) rfl g1 ?_
  obtain ⟨g2, h⟩ := h
  refine wi_aaload (pc' := 14) (x := (8 * o0 + 0 + (σ 15 0 x1))) hm89 rfl rfl rfl rfl (N := 8) rfl g2 (by omega) ?_
  refine wi_astore_n (pc' := 15) (L' := [(36, o0), (0, x1), (41, (8 * o0 + 0 + (σ 15 0 x1))), (3, 0), (3, 0)]) hm89 rfl rfl (by decide) rfl ?_
  refine wi_iconst (pc' := 16) (v := 0) hm89 rfl rfl rfl ?_
  refine wi_istore_n (pc' := 17) (L' := [(36, o0), (0, x1), (41, (8 * o0 + 0 + (σ 15 0 x1))), (0, 0), (3, 0)]) hm89 rfl rfl rfl ?_
  refine wi_iconst (pc' := 18) (v := 0) hm89 rfl rfl rfl ?_
  refine wi_istore (pc' := 20) (L' := [(36, o0), (0, x1), (41, (8 * o0 + 0 + (σ 15 0 x1))), (0, 0), (0, 0)]) hm89 rfl rfl rfl ?_
  exact h
theorem t89_20 {o0 x1 o2 x3 x4 : Int} {σ : fx_S} {Q : fx_V → fx_S → Prop} (h : (((σ 36 o0 8) ≤ x4 → Q (0, x3) σ) ∧ (x4 < (σ 36 o0 8) → (0 ≤ x4 ∧ x4 < 121) ∧ (((σ 41 o2 x4) ≠ x1 → (fx_rg (x4 + 1)) ∧ fx_Wp 89 20 [(36, o0), (0, x1), (41, o2), (0, x3), (0, (x4 + 1))] [] σ Q) ∧ ((σ 41 o2 x4) = x1 → fx_CI 70 [(36, o0), (0, x4)] σ Q (fun y1 σ1 => (fx_rg (x3 + y1)) ∧ (fx_rg (x4 + 1)) ∧ fx_Wp 89 20 [(36, o0), (0, x1), (41, o2), (0, (x3 + y1)), (0, (x4 + 1))] [] σ1 Q)))))) : fx_Wp 89 20 [(36, o0), (0, x1), (41, o2), (0, x3), (0, x4)] [] σ Q := by
  refine wi_iload (pc' := 22) hm89 rfl rfl rfl ?_
  refine wi_aload_n (pc' := 23) hm89 rfl rfl rfl (by decide) ?_
  refine wi_getI (pc' := 26) hm89 rfl rfl (P := 8) rfl ?_
  refine wi_ic_ge (pc' := 29) (t := 52) hm89 rfl rfl rfl (fun hc => ?_) (fun hc => ?_)
  · replace h := h.1 hc
    refine wi_iload_n (pc' := 53) hm89 rfl rfl rfl ?_
    exact wi_iret hm89 rfl h
  · replace h := h.2 hc
    refine wi_aload_n (pc' := 30) hm89 rfl rfl rfl (by decide) ?_
    refine wi_iload (pc' := 32) hm89 rfl rfl rfl ?_
    obtain ⟨g1, h⟩ := h
    refine wi_iaload (pc' := 33) hm89 rfl rfl rfl rfl (N := 121) rfl g1 ?_
    refine wi_iload_n (pc' := 34) hm89 rfl rfl rfl ?_
    refine wi_ic_ne (pc' := 37) (t := 46) hm89 rfl rfl rfl (fun hc => ?_) (fun hc => ?_)
    · replace h := h.1 hc
      obtain ⟨g2, h⟩ := h
      refine wi_iinc (pc' := 49) (L' := [(36, o0), (0, x1), (41, o2), (0, x3), (0, (x4 + 1))]) hm89 rfl rfl rfl g2 rfl ?_
      refine wi_goto (t := 20) hm89 rfl rfl ?_
      exact h
    · replace h := h.2 hc
      refine wi_iload_n (pc' := 38) hm89 rfl rfl rfl ?_
      refine wi_aload_n (pc' := 39) hm89 rfl rfl rfl (by decide) ?_
      refine wi_iload (pc' := 41) hm89 rfl rfl rfl ?_
      refine wc_I (pc' := 44) (by decide) rfl (by decide) ((fx_wE hm89 rfl).trans (fx_exV (mj := 70) (as := [(0, x4)]) (rest := [(0, x3)]) rfl rk70 rfl rfl rfl rfl rfl)) h (fun y1 σ1 h => ?_)
      obtain ⟨g2, h⟩ := h
      refine wi_iadd (pc' := 45) hm89 rfl rfl g2 ?_
      refine wi_istore_n (pc' := 46) (L' := [(36, o0), (0, x1), (41, o2), (0, (x3 + y1)), (0, x4)]) hm89 rfl rfl rfl ?_
      obtain ⟨g3, h⟩ := h
      refine wi_iinc (pc' := 49) (L' := [(36, o0), (0, x1), (41, o2), (0, (x3 + y1)), (0, (x4 + 1))]) hm89 rfl rfl rfl g3 rfl ?_
      refine wi_goto (t := 20) hm89 rfl rfl ?_
      exact h
theorem hm90 : fx_code 90 = fx_c90 := rfl
theorem t90_0 {o0 x1 : Int} {σ : fx_S} {Q : fx_V → fx_S → Prop} (h : (0 ≤ x1 ∧ x1 < 60) ∧ (((σ 20 0 x1) ≠ 0 → Q (0, 0) σ) ∧ ((σ 20 0 x1) = 0 → fx_CI 89 [(36, o0), (0, x1)] σ Q (fun y1 σ1 => ((y1 ≠ 0 → Q (0, 0) σ1) ∧ (y1 = 0 → Q (0, 1) σ1)))))) : fx_Ca 90 [(36, o0), (0, x1)] σ Q := by
  show fx_Wp 90 0 [(36, o0), (0, x1)] [] σ Q
  refine wi_aload_n (pc' := 1) hm90 rfl rfl rfl (by decide) ?_
  refine wi_getR (pc' := 4) (x := 0) hm90 rfl rfl rfl (by omega) ?_
  refine wi_getR (pc' := 7) (x := 0) hm90 rfl rfl rfl (by omega) ?_
  refine wi_iload_n (pc' := 8) hm90 rfl rfl rfl ?_
  obtain ⟨g1, h⟩ := h
  refine wi_baload (pc' := 9) hm90 rfl rfl rfl (N := 60) rfl g1 ?_
  refine wi_if_ne (pc' := 12) (t := 24) hm90 rfl rfl rfl (fun hc => ?_) (fun hc => ?_)
  · replace h := h.1 hc
    refine wi_iconst (pc' := 25) (v := 0) hm90 rfl rfl rfl ?_
    exact wi_zret hm90 rfl (by decide) h
  · replace h := h.2 hc
    refine wi_aload_n (pc' := 13) hm90 rfl rfl rfl (by decide) ?_
    refine wi_iload_n (pc' := 14) hm90 rfl rfl rfl ?_
    refine wc_I (pc' := 17) (by decide) rfl (by decide) ((fx_wE hm90 rfl).trans (fx_exV (mj := 89) (as := [(0, x1)]) (rest := []) rfl rk89 rfl rfl rfl rfl rfl)) h (fun y1 σ1 h => ?_)
    refine wi_if_ne (pc' := 20) (t := 24) hm90 rfl rfl rfl (fun hc => ?_) (fun hc => ?_)
    · replace h := h.1 hc
      refine wi_iconst (pc' := 25) (v := 0) hm90 rfl rfl rfl ?_
      exact wi_zret hm90 rfl (by decide) h
    · replace h := h.2 hc
      refine wi_iconst (pc' := 21) (v := 1) hm90 rfl rfl rfl ?_
      refine wi_goto (t := 25) hm90 rfl rfl ?_
      exact wi_zret hm90 rfl (by decide) h
theorem hm91 : fx_code 91 = fx_c91 := rfl
theorem t91_0 {o0 : Int} {σ : fx_S} {Q : fx_V → fx_S → Prop} (h : fx_Wp 91 4 [(36, o0), (0, 0), (0, 0)] [] σ Q) : fx_Ca 91 [(36, o0)] σ Q := by
  show fx_Wp 91 0 [(36, o0), (3, 0), (3, 0)] [] σ Q
  refine wi_iconst (pc' := 1) (v := 0) hm91 rfl rfl rfl ?_
  refine wi_istore_n (pc' := 2) (L' := [(36, o0), (0, 0), (3, 0)]) hm91 rfl rfl rfl ?_
  refine wi_iconst (pc' := 3) (v := 0) hm91 rfl rfl rfl ?_
  refine wi_istore_n (pc' := 4) (L' := [(36, o0), (0, 0), (0, 0)]) hm91 rfl rfl rfl ?_
  exact h
theorem t91_4 {o0 x1 x2 : Int} {σ : fx_S} {Q : fx_V → fx_S → Prop} (h : (((σ 11 0 10) ≤ x2 → Q (0, x1) σ) ∧ (x2 < (σ 11 0 10) → fx_CI 90 [(36, o0), (0, x2)] σ Q (fun y1 σ1 => ((y1 = 0 → (fx_rg (x2 + 1)) ∧ fx_Wp 91 4 [(36, o0), (0, x1), (0, (x2 + 1))] [] σ1 Q) ∧ (y1 ≠ 0 → (fx_rg (x1 + 1)) ∧ (fx_rg (x2 + 1)) ∧ fx_Wp 91 4 [(36, o0), (0, (x1 + 1)), (0, (x2 + 1))] [] σ1 Q)))))) : fx_Wp 91 4 [(36, o0), (0, x1), (0, x2)] [] σ Q := by
  refine wi_iload_n (pc' := 5) hm91 rfl rfl rfl ?_
  refine wi_aload_n (pc' := 6) hm91 rfl rfl rfl (by decide) ?_
  refine wi_getR (pc' := 9) (x := 0) hm91 rfl rfl rfl (by omega) ?_
  refine wi_getI (pc' := 12) hm91 rfl rfl (P := 10) rfl ?_
  refine wi_ic_ge (pc' := 15) (t := 32) hm91 rfl rfl rfl (fun hc => ?_) (fun hc => ?_)
  · replace h := h.1 hc
    refine wi_iload_n (pc' := 33) hm91 rfl rfl rfl ?_
    exact wi_iret hm91 rfl h
  · replace h := h.2 hc
    refine wi_aload_n (pc' := 16) hm91 rfl rfl rfl (by decide) ?_
    refine wi_iload_n (pc' := 17) hm91 rfl rfl rfl ?_
    refine wc_I (pc' := 20) (by decide) rfl (by decide) ((fx_wE hm91 rfl).trans (fx_exV (mj := 90) (as := [(0, x2)]) (rest := []) rfl rk90 rfl rfl rfl rfl rfl)) h (fun y1 σ1 h => ?_)
    refine wi_if_eq (pc' := 23) (t := 26) hm91 rfl rfl rfl (fun hc => ?_) (fun hc => ?_)
    · replace h := h.1 hc
      obtain ⟨g1, h⟩ := h
      refine wi_iinc (pc' := 29) (L' := [(36, o0), (0, x1), (0, (x2 + 1))]) hm91 rfl rfl rfl g1 rfl ?_
      refine wi_goto (t := 4) hm91 rfl rfl ?_
      exact h
    · replace h := h.2 hc
      obtain ⟨g1, h⟩ := h
      refine wi_iinc (pc' := 26) (L' := [(36, o0), (0, (x1 + 1)), (0, x2)]) hm91 rfl rfl rfl g1 rfl ?_
      obtain ⟨g2, h⟩ := h
      refine wi_iinc (pc' := 29) (L' := [(36, o0), (0, (x1 + 1)), (0, (x2 + 1))]) hm91 rfl rfl rfl g2 rfl ?_
      refine wi_goto (t := 4) hm91 rfl rfl ?_
      exact h
theorem hm92 : fx_code 92 = fx_c92 := rfl
theorem t92_0 {o0 x1 : Int} {σ : fx_S} {Q : fx_V → fx_S → Prop} (h : fx_Wp 92 4 [(36, o0), (0, x1), (0, 0), (0, 0)] [] σ Q) : fx_Ca 92 [(36, o0), (0, x1)] σ Q := by
  show fx_Wp 92 0 [(36, o0), (0, x1), (3, 0), (3, 0)] [] σ Q
  refine wi_iconst (pc' := 1) (v := 0) hm92 rfl rfl rfl ?_
  refine wi_istore_n (pc' := 2) (L' := [(36, o0), (0, x1), (0, 0), (3, 0)]) hm92 rfl rfl rfl ?_
  refine wi_iconst (pc' := 3) (v := 0) hm92 rfl rfl rfl ?_
  refine wi_istore_n (pc' := 4) (L' := [(36, o0), (0, x1), (0, 0), (0, 0)]) hm92 rfl rfl rfl ?_
  exact h
theorem t92_4 {o0 x1 x2 x3 : Int} {σ : fx_S} {Q : fx_V → fx_S → Prop} (h : (((σ 11 0 10) ≤ x3 → Q (0, (-1)) σ) ∧ (x3 < (σ 11 0 10) → fx_CI 90 [(36, o0), (0, x3)] σ Q (fun y1 σ1 => ((y1 = 0 → (fx_rg (x3 + 1)) ∧ fx_Wp 92 4 [(36, o0), (0, x1), (0, x2), (0, (x3 + 1))] [] σ1 Q) ∧ (y1 ≠ 0 → ((x2 ≠ x1 → (fx_rg (x2 + 1)) ∧ (fx_rg (x3 + 1)) ∧ fx_Wp 92 4 [(36, o0), (0, x1), (0, (x2 + 1)), (0, (x3 + 1))] [] σ1 Q) ∧ (x2 = x1 → Q (0, x3) σ1)))))))) : fx_Wp 92 4 [(36, o0), (0, x1), (0, x2), (0, x3)] [] σ Q := by
  refine wi_iload_n (pc' := 5) hm92 rfl rfl rfl ?_
  refine wi_aload_n (pc' := 6) hm92 rfl rfl rfl (by decide) ?_
  refine wi_getR (pc' := 9) (x := 0) hm92 rfl rfl rfl (by omega) ?_
  refine wi_getI (pc' := 12) hm92 rfl rfl (P := 10) rfl ?_
  refine wi_ic_ge (pc' := 15) (t := 39) hm92 rfl rfl rfl (fun hc => ?_) (fun hc => ?_)
  · replace h := h.1 hc
    refine wi_iconst (pc' := 40) (v := (-1)) hm92 rfl rfl rfl ?_
    exact wi_iret hm92 rfl h
  · replace h := h.2 hc
    refine wi_aload_n (pc' := 16) hm92 rfl rfl rfl (by decide) ?_
    refine wi_iload_n (pc' := 17) hm92 rfl rfl rfl ?_
    refine wc_I (pc' := 20) (by decide) rfl (by decide) ((fx_wE hm92 rfl).trans (fx_exV (mj := 90) (as := [(0, x3)]) (rest := []) rfl rk90 rfl rfl rfl rfl rfl)) h (fun y1 σ1 h => ?_)
    refine wi_if_eq (pc' := 23) (t := 33) hm92 rfl rfl rfl (fun hc => ?_) (fun hc => ?_)
    · replace h := h.1 hc
      obtain ⟨g1, h⟩ := h
      refine wi_iinc (pc' := 36) (L' := [(36, o0), (0, x1), (0, x2), (0, (x3 + 1))]) hm92 rfl rfl rfl g1 rfl ?_
      refine wi_goto (t := 4) hm92 rfl rfl ?_
      exact h
    · replace h := h.2 hc
      refine wi_iload_n (pc' := 24) hm92 rfl rfl rfl ?_
      refine wi_iload_n (pc' := 25) hm92 rfl rfl rfl ?_
      refine wi_ic_ne (pc' := 28) (t := 30) hm92 rfl rfl rfl (fun hc => ?_) (fun hc => ?_)
      · replace h := h.1 hc
        obtain ⟨g1, h⟩ := h
        refine wi_iinc (pc' := 33) (L' := [(36, o0), (0, x1), (0, (x2 + 1)), (0, x3)]) hm92 rfl rfl rfl g1 rfl ?_
        obtain ⟨g2, h⟩ := h
        refine wi_iinc (pc' := 36) (L' := [(36, o0), (0, x1), (0, (x2 + 1)), (0, (x3 + 1))]) hm92 rfl rfl rfl g2 rfl ?_
        refine wi_goto (t := 4) hm92 rfl rfl ?_
        exact h
      · replace h := h.2 hc
        refine wi_iload_n (pc' := 29) hm92 rfl rfl rfl ?_
        exact wi_iret hm92 rfl h
theorem hm93 : fx_code 93 = fx_c93 := rfl
theorem t93_0 {o0 x1 : Int} {σ : fx_S} {Q : fx_V → fx_S → Prop} (h : fx_Wp 93 4 [(36, o0), (0, x1), (0, 0), (0, 0), (3, 0), (3, 0)] [] σ Q) : fx_Ca 93 [(36, o0), (0, x1)] σ Q := by
  show fx_Wp 93 0 [(36, o0), (0, x1), (3, 0), (3, 0), (3, 0), (3, 0)] [] σ Q
  refine wi_iconst (pc' := 1) (v := 0) hm93 rfl rfl rfl ?_
  refine wi_istore_n (pc' := 2) (L' := [(36, o0), (0, x1), (0, 0), (3, 0), (3, 0), (3, 0)]) hm93 rfl rfl rfl ?_
  refine wi_iconst (pc' := 3) (v := 0) hm93 rfl rfl rfl ?_
  refine wi_istore_n (pc' := 4) (L' := [(36, o0), (0, x1), (0, 0), (0, 0), (3, 0), (3, 0)]) hm93 rfl rfl rfl ?_
  exact h
theorem t93_4 {o0 x1 x2 x3 : Int} {w4 w5 : fx_V} {σ : fx_S} {Q : fx_V → fx_S → Prop} (h : ((8 ≤ x3 → Q (0, x2) σ) ∧ (x3 < 8 → fx_Wp 93 13 [(36, o0), (0, x1), (0, x2), (0, x3), (0, 0), w5] [] σ Q))) : fx_Wp 93 4 [(36, o0), (0, x1), (0, x2), (0, x3), w4, w5] [] σ Q := by
  refine wi_iload_n (pc' := 5) hm93 rfl rfl rfl ?_
  refine wi_bipush (pc' := 7) (v := 8) hm93 rfl rfl rfl ?_
  refine wi_ic_ge (pc' := 10) (t := 74) hm93 rfl rfl rfl (fun hc => ?_) (fun hc => ?_)
  · replace h := h.1 hc
    refine wi_iload_n (pc' := 75) hm93 rfl rfl rfl ?_
    exact wi_iret hm93 rfl h
  · replace h := h.2 hc
    refine wi_iconst (pc' := 11) (v := 0) hm93 rfl rfl rfl ?_
    refine wi_istore (pc' := 13) (L' := [(36, o0), (0, x1), (0, x2), (0, x3), (0, 0), w5]) hm93 rfl rfl rfl ?_
    exact h
theorem t93_13 {o0 x1 x2 x3 x4 : Int} {w5 : fx_V} {σ : fx_S} {Q : fx_V → fx_S → Prop} (h : (((σ 36 o0 8) ≤ x4 → (fx_rg (x3 + 1)) ∧ fx_Wp 93 4 [(36, o0), (0, x1), (0, x2), (0, (x3 + 1)), (0, x4), w5] [] σ Q) ∧ (x4 < (σ 36 o0 8) → (0 ≤ x3 ∧ x3 < 8) ∧ (0 ≤ x4 ∧ x4 < 121) ∧ (((σ 41 (8 * o0 + 0 + x3) x4) = (-1) → (fx_rg (x4 + 1)) ∧ fx_Wp 93 13 [(36, o0), (0, x1), (0, x2), (0, x3), (0, (x4 + 1)), (0, (σ 41 (8 * o0 + 0 + x3) x4))] [] σ Q) ∧ ((σ 41 (8 * o0 + 0 + x3) x4) ≠ (-1) → (0 ≤ (σ 41 (8 * o0 + 0 + x3) x4) ∧ (σ 41 (8 * o0 + 0 + x3) x4) < 60) ∧ (((σ 16 0 (σ 41 (8 * o0 + 0 + x3) x4)) ≠ x1 → (fx_rg (x4 + 1)) ∧ fx_Wp 93 13 [(36, o0), (0, x1), (0, x2), (0, x3), (0, (x4 + 1)), (0, (σ 41 (8 * o0 + 0 + x3) x4))] [] σ Q) ∧ ((σ 16 0 (σ 41 (8 * o0 + 0 + x3) x4)) = x1 → fx_CI 70 [(36, o0), (0, x4)] σ Q (fun y1 σ1 => (fx_rg (x2 + y1)) ∧ (fx_rg (x4 + 1)) ∧ fx_Wp 93 13 [(36, o0), (0, x1), (0, (x2 + y1)), (0, x3), (0, (x4 + 1)), (0, (σ 41 (8 * o0 + 0 + x3) x4))] [] σ1 Q)))))))) : fx_Wp 93 13 [(36, o0), (0, x1), (0, x2), (0, x3), (0, x4), w5] [] σ Q := by
  refine wi_iload (pc' := 15) hm93 rfl rfl rfl ?_
  refine wi_aload_n (pc' := 16) hm93 rfl rfl rfl (by decide) ?_
  refine wi_getI (pc' := 19) hm93 rfl rfl (P := 8) rfl ?_
  refine wi_ic_ge (pc' := 22) (t := 68) hm93 rfl rfl rfl (fun hc => ?_) (fun hc => ?_)
  · replace h := h.1 hc
    obtain ⟨g1, h⟩ := h
    refine wi_iinc (pc' := 71) (L' := [(36, o0), (0, x1), (0, x2), (0, (x3 + 1)), (0, x4), w5]) hm93 rfl rfl rfl g1 rfl ?_
    refine wi_goto (t := 4) hm93 rfl rfl ?_
    exact h
  · replace h := h.2 hc
    refine wi_aload_n (pc' := 23) hm93 rfl rfl rfl (by decide) ?_
    refine wi_getR (pc' := 26) (x := o0) hm93 rfl rfl rfl (by omega) ?_
    refine wi_iload_n (pc' := 27) hm93 rfl rfl rfl ?_
    obtain ⟨g1, h⟩ := h
    refine wi_aaload (pc' := 28) (x := (8 * o0 + 0 + x3)) hm93 rfl rfl rfl rfl (N := 8) rfl g1 (by omega) ?_
    refine wi_iload (pc' := 30) hm93 rfl rfl rfl ?_
    obtain ⟨g2, h⟩ := h
    refine wi_iaload (pc' := 31) hm93 rfl rfl rfl rfl (N := 121) rfl g2 ?_
    refine wi_istore (pc' := 33) (L' := [(36, o0), (0, x1), (0, x2), (0, x3), (0, x4), (0, (σ 41 (8 * o0 + 0 + x3) x4))]) hm93 rfl rfl rfl ?_
    refine wi_iload (pc' := 35) hm93 rfl rfl rfl ?_
    refine wi_iconst (pc' := 36) (v := (-1)) hm93 rfl rfl rfl ?_
    refine wi_ic_eq (pc' := 39) (t := 62) hm93 rfl rfl rfl (fun hc => ?_) (fun hc => ?_)
    · replace h := h.1 hc
      obtain ⟨g3, h⟩ := h
      refine wi_iinc (pc' := 65) (L' := [(36, o0), (0, x1), (0, x2), (0, x3), (0, (x4 + 1)), (0, (σ 41 (8 * o0 + 0 + x3) x4))]) hm93 rfl rfl rfl g3 rfl ?_
      refine wi_goto (t := 13) hm93 rfl rfl ?_
      exact h
    · replace h := h.2 hc
      refine wi_aload_n (pc' := 40) hm93 rfl rfl rfl (by decide) ?_
      refine wi_getR (pc' := 43) (x := 0) hm93 rfl rfl rfl (by omega) ?_
      refine wi_getR (pc' := 46) (x := 0) hm93 rfl rfl rfl (by omega) ?_
      refine wi_iload (pc' := 48) hm93 rfl rfl rfl ?_
      obtain ⟨g3, h⟩ := h
      refine wi_iaload (pc' := 49) hm93 rfl rfl rfl rfl (N := 60) rfl g3 ?_
      refine wi_iload_n (pc' := 50) hm93 rfl rfl rfl ?_
      refine wi_ic_ne (pc' := 53) (t := 62) hm93 rfl rfl rfl (fun hc => ?_) (fun hc => ?_)
      · replace h := h.1 hc
        obtain ⟨g4, h⟩ := h
        refine wi_iinc (pc' := 65) (L' := [(36, o0), (0, x1), (0, x2), (0, x3), (0, (x4 + 1)), (0, (σ 41 (8 * o0 + 0 + x3) x4))]) hm93 rfl rfl rfl g4 rfl ?_
        refine wi_goto (t := 13) hm93 rfl rfl ?_
        exact h
      · replace h := h.2 hc
        refine wi_iload_n (pc' := 54) hm93 rfl rfl rfl ?_
        refine wi_aload_n (pc' := 55) hm93 rfl rfl rfl (by decide) ?_
        refine wi_iload (pc' := 57) hm93 rfl rfl rfl ?_
        refine wc_I (pc' := 60) (by decide) rfl (by decide) ((fx_wE hm93 rfl).trans (fx_exV (mj := 70) (as := [(0, x4)]) (rest := [(0, x2)]) rfl rk70 rfl rfl rfl rfl rfl)) h (fun y1 σ1 h => ?_)
        obtain ⟨g4, h⟩ := h
        refine wi_iadd (pc' := 61) hm93 rfl rfl g4 ?_
        refine wi_istore_n (pc' := 62) (L' := [(36, o0), (0, x1), (0, (x2 + y1)), (0, x3), (0, x4), (0, (σ 41 (8 * o0 + 0 + x3) x4))]) hm93 rfl rfl rfl ?_
        obtain ⟨g5, h⟩ := h
        refine wi_iinc (pc' := 65) (L' := [(36, o0), (0, x1), (0, (x2 + y1)), (0, x3), (0, (x4 + 1)), (0, (σ 41 (8 * o0 + 0 + x3) x4))]) hm93 rfl rfl rfl g5 rfl ?_
        refine wi_goto (t := 13) hm93 rfl rfl ?_
        exact h
theorem hm94 : fx_code 94 = fx_c94 := rfl
theorem t94_0 {o0 x1 x2 : Int} {σ : fx_S} {Q : fx_V → fx_S → Prop} (h : fx_Wp 94 8 [(36, o0), (0, x1), (0, x2), (0, 0), (0, 0), (0, 0), (3, 0), (3, 0), (3, 0)] [] σ Q) : fx_Ca 94 [(36, o0), (0, x1), (0, x2)] σ Q := by
  show fx_Wp 94 0 [(36, o0), (0, x1), (0, x2), (3, 0), (3, 0), (3, 0), (3, 0), (3, 0), (3, 0)] [] σ Q
  refine wi_iconst (pc' := 1) (v := 0) hm94 rfl rfl rfl ?_
  refine wi_istore_n (pc' := 2) (L' := [(36, o0), (0, x1), (0, x2), (0, 0), (3, 0), (3, 0), (3, 0), (3, 0), (3, 0)]) hm94 rfl rfl rfl ?_
  refine wi_iconst (pc' := 3) (v := 0) hm94 rfl rfl rfl ?_
  refine wi_istore (pc' := 5) (L' := [(36, o0), (0, x1), (0, x2), (0, 0), (0, 0), (3, 0), (3, 0), (3, 0), (3, 0)]) hm94 rfl rfl rfl ?_
  refine wi_iconst (pc' := 6) (v := 0) hm94 rfl rfl rfl ?_
  refine wi_istore (pc' := 8) (L' := [(36, o0), (0, x1), (0, x2), (0, 0), (0, 0), (0, 0), (3, 0), (3, 0), (3, 0)]) hm94 rfl rfl rfl ?_
  exact h
theorem t94_8 {o0 x1 x2 x3 x4 x5 : Int} {w6 w7 w8 : fx_V} {σ : fx_S} {Q : fx_V → fx_S → Prop} (h : ((8 ≤ x5 → ((x3 ≠ 0 → (fx_rg (x4 * 100)) ∧ (x3 ≠ 0) ∧ Q (0, (fx_div (x4 * 100) x3)) σ) ∧ (x3 = 0 → Q (0, 100) σ))) ∧ (x5 < 8 → fx_Wp 94 18 [(36, o0), (0, x1), (0, x2), (0, x3), (0, x4), (0, x5), (0, 0), w7, w8] [] σ Q))) : fx_Wp 94 8 [(36, o0), (0, x1), (0, x2), (0, x3), (0, x4), (0, x5), w6, w7, w8] [] σ Q := by
  refine wi_iload (pc' := 10) hm94 rfl rfl rfl ?_
  refine wi_bipush (pc' := 12) (v := 8) hm94 rfl rfl rfl ?_
  refine wi_ic_ge (pc' := 15) (t := 136) hm94 rfl rfl rfl (fun hc => ?_) (fun hc => ?_)
  · replace h := h.1 hc
    refine wi_iload_n (pc' := 137) hm94 rfl rfl rfl ?_
    refine wi_if_ne (pc' := 140) (t := 145) hm94 rfl rfl rfl (fun hc => ?_) (fun hc => ?_)
    · replace h := h.1 hc
      refine wi_iload (pc' := 147) hm94 rfl rfl rfl ?_
      refine wi_bipush (pc' := 149) (v := 100) hm94 rfl rfl rfl ?_
      obtain ⟨g1, h⟩ := h
      refine wi_imul (pc' := 150) hm94 rfl rfl g1 ?_
      refine wi_iload_n (pc' := 151) hm94 rfl rfl rfl ?_
      obtain ⟨g2, h⟩ := h
      refine wi_idiv (pc' := 152) hm94 rfl rfl g2 ?_
      exact wi_iret hm94 rfl h
    · replace h := h.2 hc
      refine wi_bipush (pc' := 142) (v := 100) hm94 rfl rfl rfl ?_
      refine wi_goto (t := 152) hm94 rfl rfl ?_
      exact wi_iret hm94 rfl h
  · replace h := h.2 hc
    refine wi_iconst (pc' := 16) (v := 0) hm94 rfl rfl rfl ?_
    refine wi_istore (pc' := 18) (L' := [(36, o0), (0, x1), (0, x2), (0, x3), (0, x4), (0, x5), (0, 0), w7, w8]) hm94 rfl rfl rfl ?_
    exact h
theorem t94_18 {o0 x1 x2 x3 x4 x5 x6 : Int} {w7 w8 : fx_V} {σ : fx_S} {Q : fx_V → fx_S → Prop} (h : (((σ 36 o0 8) ≤ x6 → (fx_rg (x5 + 1)) ∧ fx_Wp 94 8 [(36, o0), (0, x1), (0, x2), (0, x3), (0, x4), (0, (x5 + 1)), (0, x6), w7, w8] [] σ Q) ∧ (x6 < (σ 36 o0 8) → (0 ≤ x6 ∧ x6 < 122) ∧ fx_CI 41 [(11, 0), (0, x1), (0, x5), (0, (σ 37 o0 x6))] σ Q (fun y1 σ1 => fx_CI 41 [(11, 0), (0, x2), (0, x5), (0, (σ1 37 o0 x6))] σ1 Q (fun y2 σ2 => ((y1 = (-1) → (fx_rg (x6 + 1)) ∧ fx_Wp 94 18 [(36, o0), (0, x1), (0, x2), (0, x3), (0, x4), (0, x5), (0, (x6 + 1)), (0, y1), (0, y2)] [] σ2 Q) ∧ (y1 ≠ (-1) → ((y2 = (-1) → (fx_rg (x6 + 1)) ∧ fx_Wp 94 18 [(36, o0), (0, x1), (0, x2), (0, x3), (0, x4), (0, x5), (0, (x6 + 1)), (0, y1), (0, y2)] [] σ2 Q) ∧ (y2 ≠ (-1) → fx_CI 70 [(36, o0), (0, x6)] σ2 Q (fun y3 σ3 => (fx_rg (x3 + y3)) ∧ (0 ≤ y1 ∧ y1 < 60) ∧ (0 ≤ y2 ∧ y2 < 60) ∧ (((σ3 19 0 y1) ≠ (σ3 19 0 y2) → (fx_rg (x4 + 0)) ∧ (fx_rg (x6 + 1)) ∧ fx_Wp 94 18 [(36, o0), (0, x1), (0, x2), (0, (x3 + y3)), (0, (x4 + 0)), (0, x5), (0, (x6 + 1)), (0, y1), (0, y2)] [] σ3 Q) ∧ ((σ3 19 0 y1) = (σ3 19 0 y2) → fx_CI 70 [(36, o0), (0, x6)] σ3 Q (fun y4 σ4 => (fx_rg (x4 + y4)) ∧ (fx_rg (x6 + 1)) ∧ fx_Wp 94 18 [(36, o0), (0, x1), (0, x2), (0, (x3 + y3)), (0, (x4 + y4)), (0, x5), (0, (x6 + 1)), (0, y1), (0, y2)] [] σ4 Q))))))))))))) : fx_Wp 94 18 [(36, o0), (0, x1), (0, x2), (0, x3), (0, x4), (0, x5), (0, x6), w7, w8] [] σ Q := by
  refine wi_iload (pc' := 20) hm94 rfl rfl rfl ?_
  refine wi_aload_n (pc' := 21) hm94 rfl rfl rfl (by decide) ?_
  refine wi_getI (pc' := 24) hm94 rfl rfl (P := 8) rfl ?_
  refine wi_ic_ge (pc' := 27) (t := 130) hm94 rfl rfl rfl (fun hc => ?_) (fun hc => ?_)
  · replace h := h.1 hc
    obtain ⟨g1, h⟩ := h
    refine wi_iinc (pc' := 133) (L' := [(36, o0), (0, x1), (0, x2), (0, x3), (0, x4), (0, (x5 + 1)), (0, x6), w7, w8]) hm94 rfl rfl rfl g1 rfl ?_
    refine wi_goto (t := 8) hm94 rfl rfl ?_
    exact h
  · replace h := h.2 hc
    refine wi_aload_n (pc' := 28) hm94 rfl rfl rfl (by decide) ?_
    refine wi_getR (pc' := 31) (x := 0) hm94 rfl rfl rfl (by omega) ?_
    refine wi_iload_n (pc' := 32) hm94 rfl rfl rfl ?_
    refine wi_iload (pc' := 34) hm94 rfl rfl rfl ?_
    refine wi_aload_n (pc' := 35) hm94 rfl rfl rfl (by decide) ?_
    refine wi_getR (pc' := 38) (x := o0) hm94 rfl rfl rfl (by omega) ?_
    refine wi_iload (pc' := 40) hm94 rfl rfl rfl ?_
    obtain ⟨g1, h⟩ := h
    refine wi_iaload (pc' := 41) hm94 rfl rfl rfl rfl (N := 122) rfl g1 ?_
    refine wc_I (pc' := 44) (by decide) rfl (by decide) ((fx_wE hm94 rfl).trans (fx_exV (mj := 41) (as := [(0, x1), (0, x5), (0, (σ 37 o0 x6))]) (rest := []) rfl rk41 rfl rfl rfl rfl rfl)) h (fun y1 σ1 h => ?_)
    refine wi_istore (pc' := 46) (L' := [(36, o0), (0, x1), (0, x2), (0, x3), (0, x4), (0, x5), (0, x6), (0, y1), w8]) hm94 rfl rfl rfl ?_
    refine wi_aload_n (pc' := 47) hm94 rfl rfl rfl (by decide) ?_
    refine wi_getR (pc' := 50) (x := 0) hm94 rfl rfl rfl (by omega) ?_
    refine wi_iload_n (pc' := 51) hm94 rfl rfl rfl ?_
    refine wi_iload (pc' := 53) hm94 rfl rfl rfl ?_
    refine wi_aload_n (pc' := 54) hm94 rfl rfl rfl (by decide) ?_
    refine wi_getR (pc' := 57) (x := o0) hm94 rfl rfl rfl (by omega) ?_
    refine wi_iload (pc' := 59) hm94 rfl rfl rfl ?_
    refine wi_iaload (pc' := 60) hm94 rfl rfl rfl rfl (N := 122) rfl g1 ?_
    refine wc_I (pc' := 63) (by decide) rfl (by decide) ((fx_wE hm94 rfl).trans (fx_exV (mj := 41) (as := [(0, x2), (0, x5), (0, (σ1 37 o0 x6))]) (rest := []) rfl rk41 rfl rfl rfl rfl rfl)) h (fun y2 σ2 h => ?_)
    refine wi_istore (pc' := 65) (L' := [(36, o0), (0, x1), (0, x2), (0, x3), (0, x4), (0, x5), (0, x6), (0, y1), (0, y2)]) hm94 rfl rfl rfl ?_
    refine wi_iload (pc' := 67) hm94 rfl rfl rfl ?_
    refine wi_iconst (pc' := 68) (v := (-1)) hm94 rfl rfl rfl ?_
    refine wi_ic_eq (pc' := 71) (t := 124) hm94 rfl rfl rfl (fun hc => ?_) (fun hc => ?_)
    · replace h := h.1 hc
      obtain ⟨g2, h⟩ := h
      refine wi_iinc (pc' := 127) (L' := [(36, o0), (0, x1), (0, x2), (0, x3), (0, x4), (0, x5), (0, (x6 + 1)), (0, y1), (0, y2)]) hm94 rfl rfl rfl g2 rfl ?_
      refine wi_goto (t := 18) hm94 rfl rfl ?_
      exact h
    · replace h := h.2 hc
      refine wi_iload (pc' := 73) hm94 rfl rfl rfl ?_
      refine wi_iconst (pc' := 74) (v := (-1)) hm94 rfl rfl rfl ?_
      refine wi_ic_eq (pc' := 77) (t := 124) hm94 rfl rfl rfl (fun hc => ?_) (fun hc => ?_)
      · replace h := h.1 hc
        obtain ⟨g2, h⟩ := h
        refine wi_iinc (pc' := 127) (L' := [(36, o0), (0, x1), (0, x2), (0, x3), (0, x4), (0, x5), (0, (x6 + 1)), (0, y1), (0, y2)]) hm94 rfl rfl rfl g2 rfl ?_
        refine wi_goto (t := 18) hm94 rfl rfl ?_
        exact h
      · replace h := h.2 hc
        refine wi_iload_n (pc' := 78) hm94 rfl rfl rfl ?_
        refine wi_aload_n (pc' := 79) hm94 rfl rfl rfl (by decide) ?_
        refine wi_iload (pc' := 81) hm94 rfl rfl rfl ?_
        refine wc_I (pc' := 84) (by decide) rfl (by decide) ((fx_wE hm94 rfl).trans (fx_exV (mj := 70) (as := [(0, x6)]) (rest := [(0, x3)]) rfl rk70 rfl rfl rfl rfl rfl)) h (fun y3 σ3 h => ?_)
        obtain ⟨g2, h⟩ := h
        refine wi_iadd (pc' := 85) hm94 rfl rfl g2 ?_
        refine wi_istore_n (pc' := 86) (L' := [(36, o0), (0, x1), (0, x2), (0, (x3 + y3)), (0, x4), (0, x5), (0, x6), (0, y1), (0, y2)]) hm94 rfl rfl rfl ?_
        refine wi_iload (pc' := 88) hm94 rfl rfl rfl ?_
        refine wi_aload_n (pc' := 89) hm94 rfl rfl rfl (by decide) ?_
        refine wi_getR (pc' := 92) (x := 0) hm94 rfl rfl rfl (by omega) ?_
        refine wi_getR (pc' := 95) (x := 0) hm94 rfl rfl rfl (by omega) ?_
        refine wi_iload (pc' := 97) hm94 rfl rfl rfl ?_
        obtain ⟨g3, h⟩ := h
        refine wi_iaload (pc' := 98) hm94 rfl rfl rfl rfl (N := 60) rfl g3 ?_
        refine wi_aload_n (pc' := 99) hm94 rfl rfl rfl (by decide) ?_
        refine wi_getR (pc' := 102) (x := 0) hm94 rfl rfl rfl (by omega) ?_
        refine wi_getR (pc' := 105) (x := 0) hm94 rfl rfl rfl (by omega) ?_
        refine wi_iload (pc' := 107) hm94 rfl rfl rfl ?_
        obtain ⟨g4, h⟩ := h
        refine wi_iaload (pc' := 108) hm94 rfl rfl rfl rfl (N := 60) rfl g4 ?_
        refine wi_ic_ne (pc' := 111) (t := 120) hm94 rfl rfl rfl (fun hc => ?_) (fun hc => ?_)
        · replace h := h.1 hc
          refine wi_iconst (pc' := 121) (v := 0) hm94 rfl rfl rfl ?_
          obtain ⟨g5, h⟩ := h
          refine wi_iadd (pc' := 122) hm94 rfl rfl g5 ?_
          refine wi_istore (pc' := 124) (L' := [(36, o0), (0, x1), (0, x2), (0, (x3 + y3)), (0, (x4 + 0)), (0, x5), (0, x6), (0, y1), (0, y2)]) hm94 rfl rfl rfl ?_
          obtain ⟨g6, h⟩ := h
          refine wi_iinc (pc' := 127) (L' := [(36, o0), (0, x1), (0, x2), (0, (x3 + y3)), (0, (x4 + 0)), (0, x5), (0, (x6 + 1)), (0, y1), (0, y2)]) hm94 rfl rfl rfl g6 rfl ?_
          refine wi_goto (t := 18) hm94 rfl rfl ?_
          exact h
        · replace h := h.2 hc
          refine wi_aload_n (pc' := 112) hm94 rfl rfl rfl (by decide) ?_
          refine wi_iload (pc' := 114) hm94 rfl rfl rfl ?_
          refine wc_I (pc' := 117) (by decide) rfl (by decide) ((fx_wE hm94 rfl).trans (fx_exV (mj := 70) (as := [(0, x6)]) (rest := [(0, x4)]) rfl rk70 rfl rfl rfl rfl rfl)) h (fun y4 σ4 h => ?_)
          refine wi_goto (t := 121) hm94 rfl rfl ?_
          obtain ⟨g5, h⟩ := h
          refine wi_iadd (pc' := 122) hm94 rfl rfl g5 ?_
          refine wi_istore (pc' := 124) (L' := [(36, o0), (0, x1), (0, x2), (0, (x3 + y3)), (0, (x4 + y4)), (0, x5), (0, x6), (0, y1), (0, y2)]) hm94 rfl rfl rfl ?_
          obtain ⟨g6, h⟩ := h
          refine wi_iinc (pc' := 127) (L' := [(36, o0), (0, x1), (0, x2), (0, (x3 + y3)), (0, (x4 + y4)), (0, x5), (0, (x6 + 1)), (0, y1), (0, y2)]) hm94 rfl rfl rfl g6 rfl ?_
          refine wi_goto (t := 18) hm94 rfl rfl ?_
          exact h
theorem hm95 : fx_code 95 = fx_c95 := rfl
theorem t95_0 {o0 o1 : Int} {σ : fx_S} {Q : fx_V → fx_S → Prop} (h : fx_Wp 95 4 [(36, o0), (36, o1), (0, 0), (0, 0), (3, 0)] [] σ Q) : fx_Ca 95 [(36, o0), (36, o1)] σ Q := by
  show fx_Wp 95 0 [(36, o0), (36, o1), (3, 0), (3, 0), (3, 0)] [] σ Q
  refine wi_iconst (pc' := 1) (v := 0) hm95 rfl rfl rfl ?_
  refine wi_istore_n (pc' := 2) (L' := [(36, o0), (36, o1), (0, 0), (3, 0), (3, 0)]) hm95 rfl rfl rfl ?_
  refine wi_iconst (pc' := 3) (v := 0) hm95 rfl rfl rfl ?_
  refine wi_istore_n (pc' := 4) (L' := [(36, o0), (36, o1), (0, 0), (0, 0), (3, 0)]) hm95 rfl rfl rfl ?_
  exact h
theorem t95_4 {o0 o1 x2 x3 : Int} {w4 : fx_V} {σ : fx_S} {Q : fx_V → fx_S → Prop} (h : ((8 ≤ x3 → Q (0, x2) σ) ∧ (x3 < 8 → fx_Wp 95 13 [(36, o0), (36, o1), (0, x2), (0, x3), (0, 0)] [] σ Q))) : fx_Wp 95 4 [(36, o0), (36, o1), (0, x2), (0, x3), w4] [] σ Q := by
  refine wi_iload_n (pc' := 5) hm95 rfl rfl rfl ?_
  refine wi_bipush (pc' := 7) (v := 8) hm95 rfl rfl rfl ?_
  refine wi_ic_ge (pc' := 10) (t := 64) hm95 rfl rfl rfl (fun hc => ?_) (fun hc => ?_)
  · replace h := h.1 hc
    refine wi_iload_n (pc' := 65) hm95 rfl rfl rfl ?_
    exact wi_iret hm95 rfl h
  · replace h := h.2 hc
    refine wi_iconst (pc' := 11) (v := 0) hm95 rfl rfl rfl ?_
    refine wi_istore (pc' := 13) (L' := [(36, o0), (36, o1), (0, x2), (0, x3), (0, 0)]) hm95 rfl rfl rfl ?_
    exact h
theorem t95_13 {o0 o1 x2 x3 x4 : Int} {σ : fx_S} {Q : fx_V → fx_S → Prop} (h : (((σ 36 o0 8) ≤ x4 → (fx_rg (x3 + 1)) ∧ fx_Wp 95 4 [(36, o0), (36, o1), (0, x2), (0, (x3 + 1)), (0, x4)] [] σ Q) ∧ (x4 < (σ 36 o0 8) → (0 ≤ x3 ∧ x3 < 8) ∧ (0 ≤ x4 ∧ x4 < 121) ∧ (((σ 43 (8 * o0 + 0 + x3) x4) = (σ 43 (8 * o1 + 0 + x3) x4) → (fx_rg (x4 + 1)) ∧ fx_Wp 95 13 [(36, o0), (36, o1), (0, x2), (0, x3), (0, (x4 + 1))] [] σ Q) ∧ ((σ 43 (8 * o0 + 0 + x3) x4) ≠ (σ 43 (8 * o1 + 0 + x3) x4) → fx_CI 70 [(36, o0), (0, x4)] σ Q (fun y1 σ1 => (fx_rg (x2 + y1)) ∧ (fx_rg (x4 + 1)) ∧ fx_Wp 95 13 [(36, o0), (36, o1), (0, (x2 + y1)), (0, x3), (0, (x4 + 1))] [] σ1 Q)))))) : fx_Wp 95 13 [(36, o0), (36, o1), (0, x2), (0, x3), (0, x4)] [] σ Q := by
  refine wi_iload (pc' := 15) hm95 rfl rfl rfl ?_
  refine wi_aload_n (pc' := 16) hm95 rfl rfl rfl (by decide) ?_
  refine wi_getI (pc' := 19) hm95 rfl rfl (P := 8) rfl ?_
  refine wi_ic_ge (pc' := 22) (t := 58) hm95 rfl rfl rfl (fun hc => ?_) (fun hc => ?_)
  · replace h := h.1 hc
    obtain ⟨g1, h⟩ := h
    refine wi_iinc (pc' := 61) (L' := [(36, o0), (36, o1), (0, x2), (0, (x3 + 1)), (0, x4)]) hm95 rfl rfl rfl g1 rfl ?_
    refine wi_goto (t := 4) hm95 rfl rfl ?_
    exact h
  · replace h := h.2 hc
    refine wi_aload_n (pc' := 23) hm95 rfl rfl rfl (by decide) ?_
    refine wi_getR (pc' := 26) (x := o0) hm95 rfl rfl rfl (by omega) ?_
    refine wi_iload_n (pc' := 27) hm95 rfl rfl rfl ?_
    obtain ⟨g1, h⟩ := h
    refine wi_aaload (pc' := 28) (x := (8 * o0 + 0 + x3)) hm95 rfl rfl rfl rfl (N := 8) rfl g1 (by omega) ?_
    refine wi_iload (pc' := 30) hm95 rfl rfl rfl ?_
    obtain ⟨g2, h⟩ := h
    refine wi_iaload (pc' := 31) hm95 rfl rfl rfl rfl (N := 121) rfl g2 ?_
    refine wi_aload_n (pc' := 32) hm95 rfl rfl rfl (by decide) ?_
    refine wi_getR (pc' := 35) (x := o1) hm95 rfl rfl rfl (by omega) ?_
    refine wi_iload_n (pc' := 36) hm95 rfl rfl rfl ?_
    refine wi_aaload (pc' := 37) (x := (8 * o1 + 0 + x3)) hm95 rfl rfl rfl rfl (N := 8) rfl g1 (by omega) ?_
    refine wi_iload (pc' := 39) hm95 rfl rfl rfl ?_
    refine wi_iaload (pc' := 40) hm95 rfl rfl rfl rfl (N := 121) rfl g2 ?_
    refine wi_ic_eq (pc' := 43) (t := 52) hm95 rfl rfl rfl (fun hc => ?_) (fun hc => ?_)
    · replace h := h.1 hc
      obtain ⟨g3, h⟩ := h
      refine wi_iinc (pc' := 55) (L' := [(36, o0), (36, o1), (0, x2), (0, x3), (0, (x4 + 1))]) hm95 rfl rfl rfl g3 rfl ?_
      refine wi_goto (t := 13) hm95 rfl rfl ?_
      exact h
    · replace h := h.2 hc
      refine wi_iload_n (pc' := 44) hm95 rfl rfl rfl ?_
      refine wi_aload_n (pc' := 45) hm95 rfl rfl rfl (by decide) ?_
      refine wi_iload (pc' := 47) hm95 rfl rfl rfl ?_
      refine wc_I (pc' := 50) (by decide) rfl (by decide) ((fx_wE hm95 rfl).trans (fx_exV (mj := 70) (as := [(0, x4)]) (rest := [(0, x2)]) rfl rk70 rfl rfl rfl rfl rfl)) h (fun y1 σ1 h => ?_)
      obtain ⟨g3, h⟩ := h
      refine wi_iadd (pc' := 51) hm95 rfl rfl g3 ?_
      refine wi_istore_n (pc' := 52) (L' := [(36, o0), (36, o1), (0, (x2 + y1)), (0, x3), (0, x4)]) hm95 rfl rfl rfl ?_
      obtain ⟨g4, h⟩ := h
      refine wi_iinc (pc' := 55) (L' := [(36, o0), (36, o1), (0, (x2 + y1)), (0, x3), (0, (x4 + 1))]) hm95 rfl rfl rfl g4 rfl ?_
      refine wi_goto (t := 13) hm95 rfl rfl ?_
      exact h
