set_option maxRecDepth 100000 in
theorem hm293 : fx_code 293 = fx_c293 := rfl
set_option maxRecDepth 100000 in
theorem t293_20 {w4 w5 w6 : fx_V} {σ : fx_S} {Q : fx_V → fx_S → Prop} (h : fx_Wp 293 23 [(9, 0), (10, 0), (46, 0), (61, 0), (0, 0), w5, w6] [] σ Q) : fx_Wp 293 20 [(9, 0), (10, 0), (46, 0), (61, 0), w4, w5, w6] [] σ Q := by
  refine wi_iconst (pc' := 21) (v := 0) hm293 rfl rfl rfl ?_
  refine wi_istore (pc' := 23) (L' := [(9, 0), (10, 0), (46, 0), (61, 0), (0, 0), w5, w6]) hm293 rfl rfl rfl ?_
  exact h
set_option maxRecDepth 100000 in
theorem t293_23 {x4 : Int} {w5 w6 : fx_V} {σ : fx_S} {Q : fx_V → fx_S → Prop} (h : (fx_rg ((σ 9 0 (-1)) - 6)) ∧ ((((σ 9 0 (-1)) - 6) < x4 → fx_Wp 293 2740 [(9, 0), (10, 0), (46, 0), (61, 0), (0, x4), w5, w6] [] σ Q) ∧ (x4 ≤ ((σ 9 0 (-1)) - 6) → (0 ≤ x4 ∧ x4 < σ 9 0 (-1)) ∧ (((fx_and (σ 9 0 x4) 63) = 0 → fx_Wp 293 220 [(9, 0), (10, 0), (46, 0), (61, 0), (0, x4), w5, w6] [] σ Q) ∧ ((fx_and (σ 9 0 x4) 63) ≠ 0 → (((fx_and (σ 9 0 x4) 63) = 1 → fx_Wp 293 293 [(9, 0), (10, 0), (46, 0), (61, 0), (0, x4), w5, w6] [] σ Q) ∧ ((fx_and (σ 9 0 x4) 63) ≠ 1 → (((fx_and (σ 9 0 x4) 63) = 2 → fx_Wp 293 318 [(9, 0), (10, 0), (46, 0), (61, 0), (0, x4), w5, w6] [] σ Q) ∧ ((fx_and (σ 9 0 x4) 63) ≠ 2 → (((fx_and (σ 9 0 x4) 63) = 3 → fx_Wp 293 362 [(9, 0), (10, 0), (46, 0), (61, 0), (0, x4), w5, w6] [] σ Q) ∧ ((fx_and (σ 9 0 x4) 63) ≠ 3 → (((fx_and (σ 9 0 x4) 63) = 4 → fx_Wp 293 375 [(9, 0), (10, 0), (46, 0), (61, 0), (0, x4), w5, w6] [] σ Q) ∧ ((fx_and (σ 9 0 x4) 63) ≠ 4 → (((fx_and (σ 9 0 x4) 63) = 5 → fx_Wp 293 388 [(9, 0), (10, 0), (46, 0), (61, 0), (0, x4), w5, w6] [] σ Q) ∧ ((fx_and (σ 9 0 x4) 63) ≠ 5 → (((fx_and (σ 9 0 x4) 63) = 6 → fx_Wp 293 444 [(9, 0), (10, 0), (46, 0), (61, 0), (0, x4), w5, w6] [] σ Q) ∧ ((fx_and (σ 9 0 x4) 63) ≠ 6 → (((fx_and (σ 9 0 x4) 63) = 7 → fx_Wp 293 548 [(9, 0), (10, 0), (46, 0), (61, 0), (0, x4), w5, w6] [] σ Q) ∧ ((fx_and (σ 9 0 x4) 63) ≠ 7 → (((fx_and (σ 9 0 x4) 63) = 8 → fx_Wp 293 604 [(9, 0), (10, 0), (46, 0), (61, 0), (0, x4), w5, w6] [] σ Q) ∧ ((fx_and (σ 9 0 x4) 63) ≠ 8 → (((fx_and (σ 9 0 x4) 63) = 9 → fx_Wp 293 688 [(9, 0), (10, 0), (46, 0), (61, 0), (0, x4), w5, w6] [] σ Q) ∧ ((fx_and (σ 9 0 x4) 63) ≠ 9 → (((fx_and (σ 9 0 x4) 63) = 10 → fx_Wp 293 756 [(9, 0), (10, 0), (46, 0), (61, 0), (0, x4), w5, w6] [] σ Q) ∧ ((fx_and (σ 9 0 x4) 63) ≠ 10 → (((fx_and (σ 9 0 x4) 63) = 11 → fx_Wp 293 824 [(9, 0), (10, 0), (46, 0), (61, 0), (0, x4), w5, w6] [] σ Q) ∧ ((fx_and (σ 9 0 x4) 63) ≠ 11 → (((fx_and (σ 9 0 x4) 63) = 12 → fx_Wp 293 880 [(9, 0), (10, 0), (46, 0), (61, 0), (0, x4), w5, w6] [] σ Q) ∧ ((fx_and (σ 9 0 x4) 63) ≠ 12 → (((fx_and (σ 9 0 x4) 63) = 13 → fx_Wp 293 924 [(9, 0), (10, 0), (46, 0), (61, 0), (0, x4), w5, w6] [] σ Q) ∧ ((fx_and (σ 9 0 x4) 63) ≠ 13 → (((fx_and (σ 9 0 x4) 63) = 14 → fx_Wp 293 992 [(9, 0), (10, 0), (46, 0), (61, 0), (0, x4), w5, w6] [] σ Q) ∧ ((fx_and (σ 9 0 x4) 63) ≠ 14 → (((fx_and (σ 9 0 x4) 63) = 15 → fx_Wp 293 1072 [(9, 0), (10, 0), (46, 0), (61, 0), (0, x4), w5, w6] [] σ Q) ∧ ((fx_and (σ 9 0 x4) 63) ≠ 15 → (((fx_and (σ 9 0 x4) 63) = 16 → fx_Wp 293 1152 [(9, 0), (10, 0), (46, 0), (61, 0), (0, x4), w5, w6] [] σ Q) ∧ ((fx_and (σ 9 0 x4) 63) ≠ 16 → (((fx_and (σ 9 0 x4) 63) = 17 → fx_Wp 293 1232 [(9, 0), (10, 0), (46, 0), (61, 0), (0, x4), w5, w6] [] σ Q) ∧ ((fx_and (σ 9 0 x4) 63) ≠ 17 → (((fx_and (σ 9 0 x4) 63) = 18 → fx_Wp 293 1312 [(9, 0), (10, 0), (46, 0), (61, 0), (0, x4), w5, w6] [] σ Q) ∧ ((fx_and (σ 9 0 x4) 63) ≠ 18 → (((fx_and (σ 9 0 x4) 63) = 19 → fx_Wp 293 1392 [(9, 0), (10, 0), (46, 0), (61, 0), (0, x4), w5, w6] [] σ Q) ∧ ((fx_and (σ 9 0 x4) 63) ≠ 19 → (((fx_and (σ 9 0 x4) 63) = 20 → fx_Wp 293 1488 [(9, 0), (10, 0), (46, 0), (61, 0), (0, x4), w5, w6] [] σ Q) ∧ ((fx_and (σ 9 0 x4) 63) ≠ 20 → (((fx_and (σ 9 0 x4) 63) = 21 → fx_Wp 293 1556 [(9, 0), (10, 0), (46, 0), (61, 0), (0, x4), w5, w6] [] σ Q) ∧ ((fx_and (σ 9 0 x4) 63) ≠ 21 → (((fx_and (σ 9 0 x4) 63) = 22 → fx_Wp 293 1636 [(9, 0), (10, 0), (46, 0), (61, 0), (0, x4), w5, w6] [] σ Q) ∧ ((fx_and (σ 9 0 x4) 63) ≠ 22 → (((fx_and (σ 9 0 x4) 63) = 23 → fx_Wp 293 1704 [(9, 0), (10, 0), (46, 0), (61, 0), (0, x4), w5, w6] [] σ Q) ∧ ((fx_and (σ 9 0 x4) 63) ≠ 23 → (((fx_and (σ 9 0 x4) 63) = 24 → fx_Wp 293 1772 [(9, 0), (10, 0), (46, 0), (61, 0), (0, x4), w5, w6] [] σ Q) ∧ ((fx_and (σ 9 0 x4) 63) ≠ 24 → (((fx_and (σ 9 0 x4) 63) = 25 → fx_Wp 293 1840 [(9, 0), (10, 0), (46, 0), (61, 0), (0, x4), w5, w6] [] σ Q) ∧ ((fx_and (σ 9 0 x4) 63) ≠ 25 → (((fx_and (σ 9 0 x4) 63) = 26 → fx_Wp 293 1908 [(9, 0), (10, 0), (46, 0), (61, 0), (0, x4), w5, w6] [] σ Q) ∧ ((fx_and (σ 9 0 x4) 63) ≠ 26 → (((fx_and (σ 9 0 x4) 63) = 27 → fx_Wp 293 1976 [(9, 0), (10, 0), (46, 0), (61, 0), (0, x4), w5, w6] [] σ Q) ∧ ((fx_and (σ 9 0 x4) 63) ≠ 27 → (((fx_and (σ 9 0 x4) 63) = 28 → fx_Wp 293 2044 [(9, 0), (10, 0), (46, 0), (61, 0), (0, x4), w5, w6] [] σ Q) ∧ ((fx_and (σ 9 0 x4) 63) ≠ 28 → (((fx_and (σ 9 0 x4) 63) = 29 → fx_Wp 293 2112 [(9, 0), (10, 0), (46, 0), (61, 0), (0, x4), w5, w6] [] σ Q) ∧ ((fx_and (σ 9 0 x4) 63) ≠ 29 → (((fx_and (σ 9 0 x4) 63) = 30 → fx_Wp 293 2180 [(9, 0), (10, 0), (46, 0), (61, 0), (0, x4), w5, w6] [] σ Q) ∧ ((fx_and (σ 9 0 x4) 63) ≠ 30 → (((fx_and (σ 9 0 x4) 63) = 31 → fx_Wp 293 2248 [(9, 0), (10, 0), (46, 0), (61, 0), (0, x4), w5, w6] [] σ Q) ∧ ((fx_and (σ 9 0 x4) 63) ≠ 31 → (((fx_and (σ 9 0 x4) 63) = 32 → fx_Wp 293 2316 [(9, 0), (10, 0), (46, 0), (61, 0), (0, x4), w5, w6] [] σ Q) ∧ ((fx_and (σ 9 0 x4) 63) ≠ 32 → (((fx_and (σ 9 0 x4) 63) = 33 → fx_Wp 293 2391 [(9, 0), (10, 0), (46, 0), (61, 0), (0, x4), w5, w6] [] σ Q) ∧ ((fx_and (σ 9 0 x4) 63) ≠ 33 → (((fx_and (σ 9 0 x4) 63) = 34 → fx_Wp 293 2475 [(9, 0), (10, 0), (46, 0), (61, 0), (0, x4), w5, w6] [] σ Q) ∧ ((fx_and (σ 9 0 x4) 63) ≠ 34 → (((fx_and (σ 9 0 x4) 63) = 35 → fx_Wp 293 2555 [(9, 0), (10, 0), (46, 0), (61, 0), (0, x4), w5, w6] [] σ Q) ∧ ((fx_and (σ 9 0 x4) 63) ≠ 35 → (((fx_and (σ 9 0 x4) 63) = 36 → fx_Wp 293 2635 [(9, 0), (10, 0), (46, 0), (61, 0), (0, x4), w5, w6] [] σ Q) ∧ ((fx_and (σ 9 0 x4) 63) ≠ 36 → (((fx_and (σ 9 0 x4) 63) = 37 → fx_Wp 293 2660 [(9, 0), (10, 0), (46, 0), (61, 0), (0, x4), w5, w6] [] σ Q) ∧ ((fx_and (σ 9 0 x4) 63) ≠ 37 → (((fx_and (σ 9 0 x4) 63) = 38 → fx_Wp 293 2685 [(9, 0), (10, 0), (46, 0), (61, 0), (0, x4), w5, w6] [] σ Q) ∧ ((fx_and (σ 9 0 x4) 63) ≠ 38 → (((fx_and (σ 9 0 x4) 63) = 39 → fx_Wp 293 2696 [(9, 0), (10, 0), (46, 0), (61, 0), (0, x4), w5, w6] [] σ Q) ∧ ((fx_and (σ 9 0 x4) 63) ≠ 39 → (((fx_and (σ 9 0 x4) 63) = 40 → fx_Wp 293 2709 [(9, 0), (10, 0), (46, 0), (61, 0), (0, x4), w5, w6] [] σ Q) ∧ ((fx_and (σ 9 0 x4) 63) ≠ 40 → fx_Wp 293 2734 [(9, 0), (10, 0), (46, 0), (61, 0), (0, x4), w5, w6] [] σ Q))))))))))))))))))))))))))))))))))))))))))))))))))))))))))))))))))))))))))))))))))))) : fx_Wp 293 23 [(9, 0), (10, 0), (46, 0), (61, 0), (0, x4), w5, w6] [] σ Q := by
  refine wi_iload (pc' := 25) hm293 rfl rfl rfl ?_
  refine wi_aload_n (pc' := 26) hm293 rfl rfl rfl (by decide) ?_
  refine wi_slen (pc' := 27) hm293 rfl rfl ?_
  refine wi_bipush (pc' := 29) (v := 6) hm293 rfl rfl rfl ?_
  obtain ⟨g1, h⟩ := h
  refine wi_isub (pc' := 30) hm293 rfl rfl g1 ?_
  refine wi_ic_gt (pc' := 33) (t := 2740) hm293 rfl rfl rfl (fun hc => ?_) (fun hc => ?_)
  · replace h := h.1 hc
    exact h
  · replace h := h.2 hc
    refine wi_aload_n (pc' := 34) hm293 rfl rfl rfl (by decide) ?_
    refine wi_iload (pc' := 36) hm293 rfl rfl rfl ?_
    obtain ⟨g2, h⟩ := h
    refine wi_sload (pc' := 37) hm293 rfl rfl g2 ?_
    refine wi_bipush (pc' := 39) (v := 63) hm293 rfl rfl rfl ?_
    refine wi_iand (pc' := 40) hm293 rfl rfl ?_
    refine wi_tsw hm293 rfl ?_
    refine fx_swc (fun hc => ?_) (fun hc => ?_)
    · replace h := h.1 hc
      exact h
    replace h := h.2 hc
    refine fx_swc (fun hc => ?_) (fun hc => ?_)
    · replace h := h.1 hc
      exact h
    replace h := h.2 hc
    refine fx_swc (fun hc => ?_) (fun hc => ?_)
    · replace h := h.1 hc
      exact h
    replace h := h.2 hc
    refine fx_swc (fun hc => ?_) (fun hc => ?_)
    · replace h := h.1 hc
      exact h
    replace h := h.2 hc
    refine fx_swc (fun hc => ?_) (fun hc => ?_)
    · replace h := h.1 hc
      exact h
    replace h := h.2 hc
    refine fx_swc (fun hc => ?_) (fun hc => ?_)
    · replace h := h.1 hc
      exact h
    replace h := h.2 hc
    refine fx_swc (fun hc => ?_) (fun hc => ?_)
    · replace h := h.1 hc
      exact h
    replace h := h.2 hc
    refine fx_swc (fun hc => ?_) (fun hc => ?_)
    · replace h := h.1 hc
      exact h
    replace h := h.2 hc
    refine fx_swc (fun hc => ?_) (fun hc => ?_)
    · replace h := h.1 hc
      exact h
    replace h := h.2 hc
    refine fx_swc (fun hc => ?_) (fun hc => ?_)
    · replace h := h.1 hc
      exact h
    replace h := h.2 hc
    refine fx_swc (fun hc => ?_) (fun hc => ?_)
    · replace h := h.1 hc
      exact h
    replace h := h.2 hc
    refine fx_swc (fun hc => ?_) (fun hc => ?_)
    · replace h := h.1 hc
      exact h
    replace h := h.2 hc
    refine fx_swc (fun hc => ?_) (fun hc => ?_)
    · replace h := h.1 hc
      exact h
    replace h := h.2 hc
    refine fx_swc (fun hc => ?_) (fun hc => ?_)
    · replace h := h.1 hc
      exact h
    replace h := h.2 hc
    refine fx_swc (fun hc => ?_) (fun hc => ?_)
    · replace h := h.1 hc
      exact h
    replace h := h.2 hc
    refine fx_swc (fun hc => ?_) (fun hc => ?_)
    · replace h := h.1 hc
      exact h
    replace h := h.2 hc
    refine fx_swc (fun hc => ?_) (fun hc => ?_)
    · replace h := h.1 hc
      exact h
    replace h := h.2 hc
    refine fx_swc (fun hc => ?_) (fun hc => ?_)
    · replace h := h.1 hc
      exact h
    replace h := h.2 hc
    refine fx_swc (fun hc => ?_) (fun hc => ?_)
    · replace h := h.1 hc
      exact h
    replace h := h.2 hc
    refine fx_swc (fun hc => ?_) (fun hc => ?_)
    · replace h := h.1 hc
      exact h
    replace h := h.2 hc
    refine fx_swc (fun hc => ?_) (fun hc => ?_)
    · replace h := h.1 hc
      exact h
    replace h := h.2 hc
    refine fx_swc (fun hc => ?_) (fun hc => ?_)
    · replace h := h.1 hc
      exact h
    replace h := h.2 hc
    refine fx_swc (fun hc => ?_) (fun hc => ?_)
    · replace h := h.1 hc
      exact h
    replace h := h.2 hc
    refine fx_swc (fun hc => ?_) (fun hc => ?_)
    · replace h := h.1 hc
      exact h
    replace h := h.2 hc
    refine fx_swc (fun hc => ?_) (fun hc => ?_)
    · replace h := h.1 hc
      exact h
    replace h := h.2 hc
    refine fx_swc (fun hc => ?_) (fun hc => ?_)
    · replace h := h.1 hc
      exact h
    replace h := h.2 hc
    refine fx_swc (fun hc => ?_) (fun hc => ?_)
    · replace h := h.1 hc
      exact h
    replace h := h.2 hc
    refine fx_swc (fun hc => ?_) (fun hc => ?_)
    · replace h := h.1 hc
      exact h
    replace h := h.2 hc
    refine fx_swc (fun hc => ?_) (fun hc => ?_)
    · replace h := h.1 hc
      exact h
    replace h := h.2 hc
    refine fx_swc (fun hc => ?_) (fun hc => ?_)
    · replace h := h.1 hc
      exact h
    replace h := h.2 hc
    refine fx_swc (fun hc => ?_) (fun hc => ?_)
    · replace h := h.1 hc
      exact h
    replace h := h.2 hc
    refine fx_swc (fun hc => ?_) (fun hc => ?_)
    · replace h := h.1 hc
      exact h
    replace h := h.2 hc
    refine fx_swc (fun hc => ?_) (fun hc => ?_)
    · replace h := h.1 hc
      exact h
    replace h := h.2 hc
    refine fx_swc (fun hc => ?_) (fun hc => ?_)
    · replace h := h.1 hc
      exact h
    replace h := h.2 hc
    refine fx_swc (fun hc => ?_) (fun hc => ?_)
    · replace h := h.1 hc
      exact h
    replace h := h.2 hc
    refine fx_swc (fun hc => ?_) (fun hc => ?_)
    · replace h := h.1 hc
      exact h
    replace h := h.2 hc
    refine fx_swc (fun hc => ?_) (fun hc => ?_)
    · replace h := h.1 hc
      exact h
    replace h := h.2 hc
    refine fx_swc (fun hc => ?_) (fun hc => ?_)
    · replace h := h.1 hc
      exact h
    replace h := h.2 hc
    refine fx_swc (fun hc => ?_) (fun hc => ?_)
    · replace h := h.1 hc
      exact h
    replace h := h.2 hc
    refine fx_swc (fun hc => ?_) (fun hc => ?_)
    · replace h := h.1 hc
      exact h
    replace h := h.2 hc
    refine fx_swc (fun hc => ?_) (fun hc => ?_)
    · replace h := h.1 hc
      exact h
    replace h := h.2 hc
    refine fx_swn ?_
    exact h
set_option maxRecDepth 100000 in
theorem t293_220 {x4 : Int} {w5 w6 : fx_V} {σ : fx_S} {Q : fx_V → fx_S → Prop} (h : (fx_rg (x4 + 1)) ∧ (0 ≤ (x4 + 1) ∧ (x4 + 1) < σ 9 0 (-1)) ∧ (fx_rg (x4 + 2)) ∧ (0 ≤ (x4 + 2) ∧ (x4 + 2) < σ 9 0 (-1)) ∧ (fx_rg (x4 + 3)) ∧ (0 ≤ (x4 + 3) ∧ (x4 + 3) < σ 9 0 (-1)) ∧ (fx_rg (x4 + 4)) ∧ (0 ≤ (x4 + 4) ∧ (x4 + 4) < σ 9 0 (-1)) ∧ (fx_rg (x4 + 5)) ∧ (0 ≤ (x4 + 5) ∧ (x4 + 5) < σ 9 0 (-1)) ∧ fx_CI 96 [(10, 0), (0, (σ 9 0 (x4 + 1))), (0, (σ 9 0 (x4 + 2))), (0, (σ 9 0 (x4 + 3))), (0, (σ 9 0 (x4 + 4))), (0, (σ 9 0 (x4 + 5)))] σ Q (fun y1 σ1 => (0 ≤ (x4 + 1) ∧ (x4 + 1) < σ1 9 0 (-1)) ∧ (0 ≤ (x4 + 2) ∧ (x4 + 2) < σ1 9 0 (-1)) ∧ (0 ≤ (x4 + 3) ∧ (x4 + 3) < σ1 9 0 (-1)) ∧ (0 ≤ (x4 + 4) ∧ (x4 + 4) < σ1 9 0 (-1)) ∧ (0 ≤ (x4 + 5) ∧ (x4 + 5) < σ1 9 0 (-1)) ∧ fx_CI 179 [(46, 0), (0, (σ1 9 0 (x4 + 1))), (0, (σ1 9 0 (x4 + 2))), (0, (σ1 9 0 (x4 + 3))), (0, (σ1 9 0 (x4 + 4))), (0, (σ1 9 0 (x4 + 5)))] σ1 Q (fun y2 σ2 => ((y1 = y2 → fx_Wp 293 2734 [(9, 0), (10, 0), (46, 0), (61, 0), (0, x4), w5, w6] [] σ2 Q) ∧ (y1 ≠ y2 → Q (0, 0) σ2))))) : fx_Wp 293 220 [(9, 0), (10, 0), (46, 0), (61, 0), (0, x4), w5, w6] [] σ Q := by
  refine wi_aload_n (pc' := 221) hm293 rfl rfl rfl (by decide) ?_
  refine wi_aload_n (pc' := 222) hm293 rfl rfl rfl (by decide) ?_
  refine wi_iload (pc' := 224) hm293 rfl rfl rfl ?_
  refine wi_iconst (pc' := 225) (v := 1) hm293 rfl rfl rfl ?_
  obtain ⟨g1, h⟩ := h
  refine wi_iadd (pc' := 226) hm293 rfl rfl g1 ?_
  obtain ⟨g2, h⟩ := h
  refine wi_sload (pc' := 227) hm293 rfl rfl g2 ?_
  refine wi_aload_n (pc' := 228) hm293 rfl rfl rfl (by decide) ?_
  refine wi_iload (pc' := 230) hm293 rfl rfl rfl ?_
  refine wi_iconst (pc' := 231) (v := 2) hm293 rfl rfl rfl ?_
  obtain ⟨g3, h⟩ := h
  refine wi_iadd (pc' := 232) hm293 rfl rfl g3 ?_
  obtain ⟨g4, h⟩ := h
  refine wi_sload (pc' := 233) hm293 rfl rfl g4 ?_
  refine wi_aload_n (pc' := 234) hm293 rfl rfl rfl (by decide) ?_
  refine wi_iload (pc' := 236) hm293 rfl rfl rfl ?_
  refine wi_iconst (pc' := 237) (v := 3) hm293 rfl rfl rfl ?_
  obtain ⟨g5, h⟩ := h
  refine wi_iadd (pc' := 238) hm293 rfl rfl g5 ?_
  obtain ⟨g6, h⟩ := h
  refine wi_sload (pc' := 239) hm293 rfl rfl g6 ?_
  refine wi_aload_n (pc' := 240) hm293 rfl rfl rfl (by decide) ?_
  refine wi_iload (pc' := 242) hm293 rfl rfl rfl ?_
  refine wi_iconst (pc' := 243) (v := 4) hm293 rfl rfl rfl ?_
  obtain ⟨g7, h⟩ := h
  refine wi_iadd (pc' := 244) hm293 rfl rfl g7 ?_
  obtain ⟨g8, h⟩ := h
  refine wi_sload (pc' := 245) hm293 rfl rfl g8 ?_
  refine wi_aload_n (pc' := 246) hm293 rfl rfl rfl (by decide) ?_
  refine wi_iload (pc' := 248) hm293 rfl rfl rfl ?_
  refine wi_iconst (pc' := 249) (v := 5) hm293 rfl rfl rfl ?_
  obtain ⟨g9, h⟩ := h
  refine wi_iadd (pc' := 250) hm293 rfl rfl g9 ?_
  obtain ⟨g10, h⟩ := h
  refine wi_sload (pc' := 251) hm293 rfl rfl g10 ?_
  refine wc_In (pc' := 254) (by decide) rfl (by decide) ((fx_wE hm293 rfl).trans (fx_exV (mj := 96) (as := [(0, (σ 9 0 (x4 + 1))), (0, (σ 9 0 (x4 + 2))), (0, (σ 9 0 (x4 + 3))), (0, (σ 9 0 (x4 + 4))), (0, (σ 9 0 (x4 + 5)))]) (rest := []) rfl rk96 rfl rfl rfl rfl rfl)) h (fun y1 σ1 h => ?_)
  refine wi_aload_n (pc' := 255) hm293 rfl rfl rfl (by decide) ?_
  refine wi_aload_n (pc' := 256) hm293 rfl rfl rfl (by decide) ?_
  refine wi_iload (pc' := 258) hm293 rfl rfl rfl ?_
  refine wi_iconst (pc' := 259) (v := 1) hm293 rfl rfl rfl ?_
  refine wi_iadd (pc' := 260) hm293 rfl rfl g1 ?_
  obtain ⟨g11, h⟩ := h
  refine wi_sload (pc' := 261) hm293 rfl rfl g11 ?_
  refine wi_aload_n (pc' := 262) hm293 rfl rfl rfl (by decide) ?_
  refine wi_iload (pc' := 264) hm293 rfl rfl rfl ?_
  refine wi_iconst (pc' := 265) (v := 2) hm293 rfl rfl rfl ?_
  refine wi_iadd (pc' := 266) hm293 rfl rfl g3 ?_
  obtain ⟨g12, h⟩ := h
  refine wi_sload (pc' := 267) hm293 rfl rfl g12 ?_
  refine wi_aload_n (pc' := 268) hm293 rfl rfl rfl (by decide) ?_
  refine wi_iload (pc' := 270) hm293 rfl rfl rfl ?_
  refine wi_iconst (pc' := 271) (v := 3) hm293 rfl rfl rfl ?_
  refine wi_iadd (pc' := 272) hm293 rfl rfl g5 ?_
  obtain ⟨g13, h⟩ := h
  refine wi_sload (pc' := 273) hm293 rfl rfl g13 ?_
  refine wi_aload_n (pc' := 274) hm293 rfl rfl rfl (by decide) ?_
  refine wi_iload (pc' := 276) hm293 rfl rfl rfl ?_
  refine wi_iconst (pc' := 277) (v := 4) hm293 rfl rfl rfl ?_
  refine wi_iadd (pc' := 278) hm293 rfl rfl g7 ?_
  obtain ⟨g14, h⟩ := h
  refine wi_sload (pc' := 279) hm293 rfl rfl g14 ?_
  refine wi_aload_n (pc' := 280) hm293 rfl rfl rfl (by decide) ?_
  refine wi_iload (pc' := 282) hm293 rfl rfl rfl ?_
  refine wi_iconst (pc' := 283) (v := 5) hm293 rfl rfl rfl ?_
  refine wi_iadd (pc' := 284) hm293 rfl rfl g9 ?_
  obtain ⟨g15, h⟩ := h
  refine wi_sload (pc' := 285) hm293 rfl rfl g15 ?_
  refine wc_In (pc' := 288) (by decide) rfl (by decide) ((fx_wE hm293 rfl).trans (fx_exV (mj := 179) (as := [(0, (σ1 9 0 (x4 + 1))), (0, (σ1 9 0 (x4 + 2))), (0, (σ1 9 0 (x4 + 3))), (0, (σ1 9 0 (x4 + 4))), (0, (σ1 9 0 (x4 + 5)))]) (rest := [(0, y1)]) rfl rk179 rfl rfl rfl rfl rfl)) h (fun y2 σ2 h => ?_)
  refine wi_ic_eq (pc' := 291) (t := 2734) hm293 rfl rfl rfl (fun hc => ?_) (fun hc => ?_)
  · replace h := h.1 hc
    exact h
  · replace h := h.2 hc
    refine wi_iconst (pc' := 292) (v := 0) hm293 rfl rfl rfl ?_
    exact wi_zret hm293 rfl (by decide) h
set_option maxRecDepth 100000 in
theorem t293_293 {x4 : Int} {w5 w6 : fx_V} {σ : fx_S} {Q : fx_V → fx_S → Prop} (h : (fx_rg (x4 + 1)) ∧ (0 ≤ (x4 + 1) ∧ (x4 + 1) < σ 9 0 (-1)) ∧ fx_CI 97 [(10, 0), (0, (σ 9 0 (x4 + 1)))] σ Q (fun y1 σ1 => (0 ≤ (x4 + 1) ∧ (x4 + 1) < σ1 9 0 (-1)) ∧ fx_CI 180 [(46, 0), (0, (σ1 9 0 (x4 + 1)))] σ1 Q (fun y2 σ2 => ((y1 = y2 → fx_Wp 293 2734 [(9, 0), (10, 0), (46, 0), (61, 0), (0, x4), w5, w6] [] σ2 Q) ∧ (y1 ≠ y2 → Q (0, 0) σ2))))) : fx_Wp 293 293 [(9, 0), (10, 0), (46, 0), (61, 0), (0, x4), w5, w6] [] σ Q := by
  refine wi_aload_n (pc' := 294) hm293 rfl rfl rfl (by decide) ?_
  refine wi_aload_n (pc' := 295) hm293 rfl rfl rfl (by decide) ?_
  refine wi_iload (pc' := 297) hm293 rfl rfl rfl ?_
  refine wi_iconst (pc' := 298) (v := 1) hm293 rfl rfl rfl ?_
  obtain ⟨g1, h⟩ := h
  refine wi_iadd (pc' := 299) hm293 rfl rfl g1 ?_
  obtain ⟨g2, h⟩ := h
  refine wi_sload (pc' := 300) hm293 rfl rfl g2 ?_
  refine wc_In (pc' := 303) (by decide) rfl (by decide) ((fx_wE hm293 rfl).trans (fx_exV (mj := 97) (as := [(0, (σ 9 0 (x4 + 1)))]) (rest := []) rfl rk97 rfl rfl rfl rfl rfl)) h (fun y1 σ1 h => ?_)
  refine wi_aload_n (pc' := 304) hm293 rfl rfl rfl (by decide) ?_
  refine wi_aload_n (pc' := 305) hm293 rfl rfl rfl (by decide) ?_
  refine wi_iload (pc' := 307) hm293 rfl rfl rfl ?_
  refine wi_iconst (pc' := 308) (v := 1) hm293 rfl rfl rfl ?_
  refine wi_iadd (pc' := 309) hm293 rfl rfl g1 ?_
  obtain ⟨g3, h⟩ := h
  refine wi_sload (pc' := 310) hm293 rfl rfl g3 ?_
  refine wc_In (pc' := 313) (by decide) rfl (by decide) ((fx_wE hm293 rfl).trans (fx_exV (mj := 180) (as := [(0, (σ1 9 0 (x4 + 1)))]) (rest := [(0, y1)]) rfl rk180 rfl rfl rfl rfl rfl)) h (fun y2 σ2 h => ?_)
  refine wi_ic_eq (pc' := 316) (t := 2734) hm293 rfl rfl rfl (fun hc => ?_) (fun hc => ?_)
  · replace h := h.1 hc
    exact h
  · replace h := h.2 hc
    refine wi_iconst (pc' := 317) (v := 0) hm293 rfl rfl rfl ?_
    exact wi_zret hm293 rfl (by decide) h
set_option maxRecDepth 100000 in
theorem t293_318 {x4 : Int} {w5 w6 : fx_V} {σ : fx_S} {Q : fx_V → fx_S → Prop} (h : fx_CI 261 [(10, 0), (61, 0)] σ Q (fun y1 σ1 => fx_CI 203 [(46, 0)] σ1 Q (fun y2 σ2 => fx_CI 148 [(46, 0)] σ2 Q (fun y3 σ3 => ((y3 = y1 → ((y1 ≠ 0 → fx_Wp 293 2734 [(9, 0), (10, 0), (46, 0), (61, 0), (0, x4), (0, y1), (0, y2)] [] σ3 Q) ∧ (y1 = 0 → (((fx_cmp (σ3 61 0 0) y2) = 0 → fx_Wp 293 2734 [(9, 0), (10, 0), (46, 0), (61, 0), (0, x4), (0, y1), (0, y2)] [] σ3 Q) ∧ ((fx_cmp (σ3 61 0 0) y2) ≠ 0 → Q (0, 0) σ3))))) ∧ (y3 ≠ y1 → Q (0, 0) σ3)))))) : fx_Wp 293 318 [(9, 0), (10, 0), (46, 0), (61, 0), (0, x4), w5, w6] [] σ Q := by
  refine wi_aload_n (pc' := 319) hm293 rfl rfl rfl (by decide) ?_
  refine wi_aload_n (pc' := 320) hm293 rfl rfl rfl (by decide) ?_
  refine wc_In (pc' := 323) (by decide) rfl (by decide) ((fx_wE hm293 rfl).trans (fx_exS (mj := 261) (as := [(10, 0), (61, 0)]) (rest := []) rfl rk261 rfl rfl rfl rfl)) h (fun y1 σ1 h => ?_)
  refine wi_istore (pc' := 325) (L' := [(9, 0), (10, 0), (46, 0), (61, 0), (0, x4), (0, y1), w6]) hm293 rfl rfl rfl ?_
  refine wi_aload_n (pc' := 326) hm293 rfl rfl rfl (by decide) ?_
  refine wc_In (pc' := 329) (by decide) rfl (by decide) ((fx_wE hm293 rfl).trans (fx_exV (mj := 203) (as := []) (rest := []) rfl rk203 rfl rfl rfl rfl rfl)) h (fun y2 σ2 h => ?_)
  refine wi_istore (pc' := 331) (L' := [(9, 0), (10, 0), (46, 0), (61, 0), (0, x4), (0, y1), (0, y2)]) hm293 rfl rfl rfl ?_
  refine wi_aload_n (pc' := 332) hm293 rfl rfl rfl (by decide) ?_
  refine wc_In (pc' := 335) (by decide) rfl (by decide) ((fx_wE hm293 rfl).trans (fx_exV (mj := 148) (as := []) (rest := []) rfl rk148 rfl rfl rfl rfl rfl)) h (fun y3 σ3 h => ?_)
  refine wi_iload (pc' := 337) hm293 rfl rfl rfl ?_
  refine wi_ic_eq (pc' := 340) (t := 342) hm293 rfl rfl rfl (fun hc => ?_) (fun hc => ?_)
  · replace h := h.1 hc
    refine wi_iload (pc' := 344) hm293 rfl rfl rfl ?_
    refine wi_if_ne (pc' := 347) (t := 359) hm293 rfl rfl rfl (fun hc => ?_) (fun hc => ?_)
    · replace h := h.1 hc
      refine wi_goto (t := 2734) hm293 rfl rfl ?_
      exact h
    · replace h := h.2 hc
      refine wi_aload_n (pc' := 348) hm293 rfl rfl rfl (by decide) ?_
      refine wi_iconst (pc' := 349) (v := 0) hm293 rfl rfl rfl ?_
      refine wi_laload (pc' := 350) hm293 rfl rfl rfl (N := 1) rfl (by decide) ?_
      refine wi_iload (pc' := 352) hm293 rfl rfl rfl ?_
      refine wi_i2l (pc' := 353) hm293 rfl rfl ?_
      refine wi_lcmp (pc' := 354) hm293 rfl rfl ?_
      refine wi_if_eq (pc' := 357) (t := 359) hm293 rfl rfl rfl (fun hc => ?_) (fun hc => ?_)
      · replace h := h.1 hc
        refine wi_goto (t := 2734) hm293 rfl rfl ?_
        exact h
      · replace h := h.2 hc
        refine wi_iconst (pc' := 358) (v := 0) hm293 rfl rfl rfl ?_
        exact wi_zret hm293 rfl (by decide) h
  · replace h := h.2 hc
    refine wi_iconst (pc' := 341) (v := 0) hm293 rfl rfl rfl ?_
    exact wi_zret hm293 rfl (by decide) h
set_option maxRecDepth 100000 in
theorem t293_362 {x4 : Int} {w5 w6 : fx_V} {σ : fx_S} {Q : fx_V → fx_S → Prop} (h : fx_CI 99 [(10, 0)] σ Q (fun y1 σ1 => fx_CI 204 [(46, 0)] σ1 Q (fun y2 σ2 => ((y1 = y2 → fx_Wp 293 2734 [(9, 0), (10, 0), (46, 0), (61, 0), (0, x4), w5, w6] [] σ2 Q) ∧ (y1 ≠ y2 → Q (0, 0) σ2))))) : fx_Wp 293 362 [(9, 0), (10, 0), (46, 0), (61, 0), (0, x4), w5, w6] [] σ Q := by
  refine wi_aload_n (pc' := 363) hm293 rfl rfl rfl (by decide) ?_
  refine wc_In (pc' := 366) (by decide) rfl (by decide) ((fx_wE hm293 rfl).trans (fx_exV (mj := 99) (as := []) (rest := []) rfl rk99 rfl rfl rfl rfl rfl)) h (fun y1 σ1 h => ?_)
  refine wi_aload_n (pc' := 367) hm293 rfl rfl rfl (by decide) ?_
  refine wc_In (pc' := 370) (by decide) rfl (by decide) ((fx_wE hm293 rfl).trans (fx_exV (mj := 204) (as := []) (rest := [(0, y1)]) rfl rk204 rfl rfl rfl rfl rfl)) h (fun y2 σ2 h => ?_)
  refine wi_ic_eq (pc' := 373) (t := 2734) hm293 rfl rfl rfl (fun hc => ?_) (fun hc => ?_)
  · replace h := h.1 hc
    exact h
  · replace h := h.2 hc
    refine wi_iconst (pc' := 374) (v := 0) hm293 rfl rfl rfl ?_
    exact wi_zret hm293 rfl (by decide) h
set_option maxRecDepth 100000 in
theorem t293_375 {x4 : Int} {w5 w6 : fx_V} {σ : fx_S} {Q : fx_V → fx_S → Prop} (h : fx_CI 100 [(10, 0)] σ Q (fun y1 σ1 => fx_CI 205 [(46, 0)] σ1 Q (fun y2 σ2 => ((y1 = y2 → fx_Wp 293 2734 [(9, 0), (10, 0), (46, 0), (61, 0), (0, x4), w5, w6] [] σ2 Q) ∧ (y1 ≠ y2 → Q (0, 0) σ2))))) : fx_Wp 293 375 [(9, 0), (10, 0), (46, 0), (61, 0), (0, x4), w5, w6] [] σ Q := by
  refine wi_aload_n (pc' := 376) hm293 rfl rfl rfl (by decide) ?_
  refine wc_In (pc' := 379) (by decide) rfl (by decide) ((fx_wE hm293 rfl).trans (fx_exV (mj := 100) (as := []) (rest := []) rfl rk100 rfl rfl rfl rfl rfl)) h (fun y1 σ1 h => ?_)
  refine wi_aload_n (pc' := 380) hm293 rfl rfl rfl (by decide) ?_
  refine wc_In (pc' := 383) (by decide) rfl (by decide) ((fx_wE hm293 rfl).trans (fx_exV (mj := 205) (as := []) (rest := [(0, y1)]) rfl rk205 rfl rfl rfl rfl rfl)) h (fun y2 σ2 h => ?_)
  refine wi_ic_eq (pc' := 386) (t := 2734) hm293 rfl rfl rfl (fun hc => ?_) (fun hc => ?_)
  · replace h := h.1 hc
    exact h
  · replace h := h.2 hc
    refine wi_iconst (pc' := 387) (v := 0) hm293 rfl rfl rfl ?_
    exact wi_zret hm293 rfl (by decide) h
set_option maxRecDepth 100000 in
theorem t293_388 {x4 : Int} {w5 w6 : fx_V} {σ : fx_S} {Q : fx_V → fx_S → Prop} (h : (fx_rg (x4 + 1)) ∧ (0 ≤ (x4 + 1) ∧ (x4 + 1) < σ 9 0 (-1)) ∧ fx_CI 262 [(10, 0), (0, (σ 9 0 (x4 + 1))), (61, 0)] σ Q (fun y1 σ1 => (0 ≤ (x4 + 1) ∧ (x4 + 1) < σ1 9 0 (-1)) ∧ fx_CI 206 [(46, 0), (0, (σ1 9 0 (x4 + 1)))] σ1 Q (fun y2 σ2 => fx_CI 148 [(46, 0)] σ2 Q (fun y3 σ3 => ((y3 = y1 → ((y1 ≠ 0 → fx_Wp 293 2734 [(9, 0), (10, 0), (46, 0), (61, 0), (0, x4), (0, y1), (0, y2)] [] σ3 Q) ∧ (y1 = 0 → (((fx_cmp (σ3 61 0 0) y2) = 0 → fx_Wp 293 2734 [(9, 0), (10, 0), (46, 0), (61, 0), (0, x4), (0, y1), (0, y2)] [] σ3 Q) ∧ ((fx_cmp (σ3 61 0 0) y2) ≠ 0 → Q (0, 0) σ3))))) ∧ (y3 ≠ y1 → Q (0, 0) σ3)))))) : fx_Wp 293 388 [(9, 0), (10, 0), (46, 0), (61, 0), (0, x4), w5, w6] [] σ Q := by
  refine wi_aload_n (pc' := 389) hm293 rfl rfl rfl (by decide) ?_
  refine wi_aload_n (pc' := 390) hm293 rfl rfl rfl (by decide) ?_
  refine wi_iload (pc' := 392) hm293 rfl rfl rfl ?_
  refine wi_iconst (pc' := 393) (v := 1) hm293 rfl rfl rfl ?_
  obtain ⟨g1, h⟩ := h
  refine wi_iadd (pc' := 394) hm293 rfl rfl g1 ?_
  obtain ⟨g2, h⟩ := h
  refine wi_sload (pc' := 395) hm293 rfl rfl g2 ?_
  refine wi_aload_n (pc' := 396) hm293 rfl rfl rfl (by decide) ?_
  refine wc_In (pc' := 399) (by decide) rfl (by decide) ((fx_wE hm293 rfl).trans (fx_exS (mj := 262) (as := [(10, 0), (0, (σ 9 0 (x4 + 1))), (61, 0)]) (rest := []) rfl rk262 rfl rfl rfl rfl)) h (fun y1 σ1 h => ?_)
  refine wi_istore (pc' := 401) (L' := [(9, 0), (10, 0), (46, 0), (61, 0), (0, x4), (0, y1), w6]) hm293 rfl rfl rfl ?_
  refine wi_aload_n (pc' := 402) hm293 rfl rfl rfl (by decide) ?_
  refine wi_aload_n (pc' := 403) hm293 rfl rfl rfl (by decide) ?_
  refine wi_iload (pc' := 405) hm293 rfl rfl rfl ?_
  refine wi_iconst (pc' := 406) (v := 1) hm293 rfl rfl rfl ?_
  refine wi_iadd (pc' := 407) hm293 rfl rfl g1 ?_
  obtain ⟨g3, h⟩ := h
  refine wi_sload (pc' := 408) hm293 rfl rfl g3 ?_
  refine wc_In (pc' := 411) (by decide) rfl (by decide) ((fx_wE hm293 rfl).trans (fx_exV (mj := 206) (as := [(0, (σ1 9 0 (x4 + 1)))]) (rest := []) rfl rk206 rfl rfl rfl rfl rfl)) h (fun y2 σ2 h => ?_)
  refine wi_istore (pc' := 413) (L' := [(9, 0), (10, 0), (46, 0), (61, 0), (0, x4), (0, y1), (0, y2)]) hm293 rfl rfl rfl ?_
  refine wi_aload_n (pc' := 414) hm293 rfl rfl rfl (by decide) ?_
  refine wc_In (pc' := 417) (by decide) rfl (by decide) ((fx_wE hm293 rfl).trans (fx_exV (mj := 148) (as := []) (rest := []) rfl rk148 rfl rfl rfl rfl rfl)) h (fun y3 σ3 h => ?_)
  refine wi_iload (pc' := 419) hm293 rfl rfl rfl ?_
  refine wi_ic_eq (pc' := 422) (t := 424) hm293 rfl rfl rfl (fun hc => ?_) (fun hc => ?_)
  · replace h := h.1 hc
    refine wi_iload (pc' := 426) hm293 rfl rfl rfl ?_
    refine wi_if_ne (pc' := 429) (t := 441) hm293 rfl rfl rfl (fun hc => ?_) (fun hc => ?_)
    · replace h := h.1 hc
      refine wi_goto (t := 2734) hm293 rfl rfl ?_
      exact h
    · replace h := h.2 hc
      refine wi_aload_n (pc' := 430) hm293 rfl rfl rfl (by decide) ?_
      refine wi_iconst (pc' := 431) (v := 0) hm293 rfl rfl rfl ?_
      refine wi_laload (pc' := 432) hm293 rfl rfl rfl (N := 1) rfl (by decide) ?_
      refine wi_iload (pc' := 434) hm293 rfl rfl rfl ?_
      refine wi_i2l (pc' := 435) hm293 rfl rfl ?_
      refine wi_lcmp (pc' := 436) hm293 rfl rfl ?_
      refine wi_if_eq (pc' := 439) (t := 441) hm293 rfl rfl rfl (fun hc => ?_) (fun hc => ?_)
      · replace h := h.1 hc
        refine wi_goto (t := 2734) hm293 rfl rfl ?_
        exact h
      · replace h := h.2 hc
        refine wi_iconst (pc' := 440) (v := 0) hm293 rfl rfl rfl ?_
        exact wi_zret hm293 rfl (by decide) h
  · replace h := h.2 hc
    refine wi_iconst (pc' := 423) (v := 0) hm293 rfl rfl rfl ?_
    exact wi_zret hm293 rfl (by decide) h
set_option maxRecDepth 100000 in
theorem t293_444 {x4 : Int} {w5 w6 : fx_V} {σ : fx_S} {Q : fx_V → fx_S → Prop} (h : (fx_rg (x4 + 1)) ∧ (0 ≤ (x4 + 1) ∧ (x4 + 1) < σ 9 0 (-1)) ∧ (fx_rg (x4 + 2)) ∧ (0 ≤ (x4 + 2) ∧ (x4 + 2) < σ 9 0 (-1)) ∧ (fx_rg (x4 + 3)) ∧ (0 ≤ (x4 + 3) ∧ (x4 + 3) < σ 9 0 (-1)) ∧ (fx_rg (x4 + 4)) ∧ (0 ≤ (x4 + 4) ∧ (x4 + 4) < σ 9 0 (-1)) ∧ (fx_rg (x4 + 5)) ∧ (0 ≤ (x4 + 5) ∧ (x4 + 5) < σ 9 0 (-1)) ∧ fx_CI 263 [(10, 0), (0, (σ 9 0 (x4 + 1))), (0, (σ 9 0 (x4 + 2))), (0, (σ 9 0 (x4 + 3))), (0, (σ 9 0 (x4 + 4))), (0, (σ 9 0 (x4 + 5))), (61, 0)] σ Q (fun y1 σ1 => (0 ≤ (x4 + 1) ∧ (x4 + 1) < σ1 9 0 (-1)) ∧ (0 ≤ (x4 + 2) ∧ (x4 + 2) < σ1 9 0 (-1)) ∧ (0 ≤ (x4 + 3) ∧ (x4 + 3) < σ1 9 0 (-1)) ∧ (0 ≤ (x4 + 4) ∧ (x4 + 4) < σ1 9 0 (-1)) ∧ (0 ≤ (x4 + 5) ∧ (x4 + 5) < σ1 9 0 (-1)) ∧ fx_CI 207 [(46, 0), (0, (σ1 9 0 (x4 + 1))), (0, (σ1 9 0 (x4 + 2))), (0, (σ1 9 0 (x4 + 3))), (0, (σ1 9 0 (x4 + 4))), (0, (σ1 9 0 (x4 + 5)))] σ1 Q (fun y2 σ2 => fx_CI 148 [(46, 0)] σ2 Q (fun y3 σ3 => ((y3 = y1 → ((y1 ≠ 0 → fx_Wp 293 2734 [(9, 0), (10, 0), (46, 0), (61, 0), (0, x4), (0, y1), (0, y2)] [] σ3 Q) ∧ (y1 = 0 → (((fx_cmp (σ3 61 0 0) y2) = 0 → fx_Wp 293 2734 [(9, 0), (10, 0), (46, 0), (61, 0), (0, x4), (0, y1), (0, y2)] [] σ3 Q) ∧ ((fx_cmp (σ3 61 0 0) y2) ≠ 0 → Q (0, 0) σ3))))) ∧ (y3 ≠ y1 → Q (0, 0) σ3)))))) : fx_Wp 293 444 [(9, 0), (10, 0), (46, 0), (61, 0), (0, x4), w5, w6] [] σ Q := by
  refine wi_aload_n (pc' := 445) hm293 rfl rfl rfl (by decide) ?_
  refine wi_aload_n (pc' := 446) hm293 rfl rfl rfl (by decide) ?_
  refine wi_iload (pc' := 448) hm293 rfl rfl rfl ?_
  refine wi_iconst (pc' := 449) (v := 1) hm293 rfl rfl rfl ?_
  obtain ⟨g1, h⟩ := h
  refine wi_iadd (pc' := 450) hm293 rfl rfl g1 ?_
  obtain ⟨g2, h⟩ := h
  refine wi_sload (pc' := 451) hm293 rfl rfl g2 ?_
  refine wi_aload_n (pc' := 452) hm293 rfl rfl rfl (by decide) ?_
  refine wi_iload (pc' := 454) hm293 rfl rfl rfl ?_
  refine wi_iconst (pc' := 455) (v := 2) hm293 rfl rfl rfl ?_
  obtain ⟨g3, h⟩ := h
  refine wi_iadd (pc' := 456) hm293 rfl rfl g3 ?_
  obtain ⟨g4, h⟩ := h
  refine wi_sload (pc' := 457) hm293 rfl rfl g4 ?_
  refine wi_aload_n (pc' := 458) hm293 rfl rfl rfl (by decide) ?_
  refine wi_iload (pc' := 460) hm293 rfl rfl rfl ?_
  refine wi_iconst (pc' := 461) (v := 3) hm293 rfl rfl rfl ?_
  obtain ⟨g5, h⟩ := h
  refine wi_iadd (pc' := 462) hm293 rfl rfl g5 ?_
  obtain ⟨g6, h⟩ := h
  refine wi_sload (pc' := 463) hm293 rfl rfl g6 ?_
  refine wi_aload_n (pc' := 464) hm293 rfl rfl rfl (by decide) ?_
  refine wi_iload (pc' := 466) hm293 rfl rfl rfl ?_
  refine wi_iconst (pc' := 467) (v := 4) hm293 rfl rfl rfl ?_
  obtain ⟨g7, h⟩ := h
  refine wi_iadd (pc' := 468) hm293 rfl rfl g7 ?_
  obtain ⟨g8, h⟩ := h
  refine wi_sload (pc' := 469) hm293 rfl rfl g8 ?_
  refine wi_aload_n (pc' := 470) hm293 rfl rfl rfl (by decide) ?_
  refine wi_iload (pc' := 472) hm293 rfl rfl rfl ?_
  refine wi_iconst (pc' := 473) (v := 5) hm293 rfl rfl rfl ?_
  obtain ⟨g9, h⟩ := h
  refine wi_iadd (pc' := 474) hm293 rfl rfl g9 ?_
  obtain ⟨g10, h⟩ := h
  refine wi_sload (pc' := 475) hm293 rfl rfl g10 ?_
  refine wi_aload_n (pc' := 476) hm293 rfl rfl rfl (by decide) ?_
  refine wc_In (pc' := 479) (by decide) rfl (by decide) ((fx_wE hm293 rfl).trans (fx_exS (mj := 263) (as := [(10, 0), (0, (σ 9 0 (x4 + 1))), (0, (σ 9 0 (x4 + 2))), (0, (σ 9 0 (x4 + 3))), (0, (σ 9 0 (x4 + 4))), (0, (σ 9 0 (x4 + 5))), (61, 0)]) (rest := []) rfl rk263 rfl rfl rfl rfl)) h (fun y1 σ1 h => ?_)
  refine wi_istore (pc' := 481) (L' := [(9, 0), (10, 0), (46, 0), (61, 0), (0, x4), (0, y1), w6]) hm293 rfl rfl rfl ?_
  refine wi_aload_n (pc' := 482) hm293 rfl rfl rfl (by decide) ?_
  refine wi_aload_n (pc' := 483) hm293 rfl rfl rfl (by decide) ?_
  refine wi_iload (pc' := 485) hm293 rfl rfl rfl ?_
  refine wi_iconst (pc' := 486) (v := 1) hm293 rfl rfl rfl ?_
  refine wi_iadd (pc' := 487) hm293 rfl rfl g1 ?_
  obtain ⟨g11, h⟩ := h
  refine wi_sload (pc' := 488) hm293 rfl rfl g11 ?_
  refine wi_aload_n (pc' := 489) hm293 rfl rfl rfl (by decide) ?_
  refine wi_iload (pc' := 491) hm293 rfl rfl rfl ?_
  refine wi_iconst (pc' := 492) (v := 2) hm293 rfl rfl rfl ?_
  refine wi_iadd (pc' := 493) hm293 rfl rfl g3 ?_
  obtain ⟨g12, h⟩ := h
  refine wi_sload (pc' := 494) hm293 rfl rfl g12 ?_
  refine wi_aload_n (pc' := 495) hm293 rfl rfl rfl (by decide) ?_
  refine wi_iload (pc' := 497) hm293 rfl rfl rfl ?_
  refine wi_iconst (pc' := 498) (v := 3) hm293 rfl rfl rfl ?_
  refine wi_iadd (pc' := 499) hm293 rfl rfl g5 ?_
  obtain ⟨g13, h⟩ := h
  refine wi_sload (pc' := 500) hm293 rfl rfl g13 ?_
  refine wi_aload_n (pc' := 501) hm293 rfl rfl rfl (by decide) ?_
  refine wi_iload (pc' := 503) hm293 rfl rfl rfl ?_
  refine wi_iconst (pc' := 504) (v := 4) hm293 rfl rfl rfl ?_
  refine wi_iadd (pc' := 505) hm293 rfl rfl g7 ?_
  obtain ⟨g14, h⟩ := h
  refine wi_sload (pc' := 506) hm293 rfl rfl g14 ?_
  refine wi_aload_n (pc' := 507) hm293 rfl rfl rfl (by decide) ?_
  refine wi_iload (pc' := 509) hm293 rfl rfl rfl ?_
  refine wi_iconst (pc' := 510) (v := 5) hm293 rfl rfl rfl ?_
  refine wi_iadd (pc' := 511) hm293 rfl rfl g9 ?_
  obtain ⟨g15, h⟩ := h
  refine wi_sload (pc' := 512) hm293 rfl rfl g15 ?_
  refine wc_In (pc' := 515) (by decide) rfl (by decide) ((fx_wE hm293 rfl).trans (fx_exV (mj := 207) (as := [(0, (σ1 9 0 (x4 + 1))), (0, (σ1 9 0 (x4 + 2))), (0, (σ1 9 0 (x4 + 3))), (0, (σ1 9 0 (x4 + 4))), (0, (σ1 9 0 (x4 + 5)))]) (rest := []) rfl rk207 rfl rfl rfl rfl rfl)) h (fun y2 σ2 h => ?_)
  refine wi_istore (pc' := 517) (L' := [(9, 0), (10, 0), (46, 0), (61, 0), (0, x4), (0, y1), (0, y2)]) hm293 rfl rfl rfl ?_
  refine wi_aload_n (pc' := 518) hm293 rfl rfl rfl (by decide) ?_
  refine wc_In (pc' := 521) (by decide) rfl (by decide) ((fx_wE hm293 rfl).trans (fx_exV (mj := 148) (as := []) (rest := []) rfl rk148 rfl rfl rfl rfl rfl)) h (fun y3 σ3 h => ?_)
  refine wi_iload (pc' := 523) hm293 rfl rfl rfl ?_
  refine wi_ic_eq (pc' := 526) (t := 528) hm293 rfl rfl rfl (fun hc => ?_) (fun hc => ?_)
  · replace h := h.1 hc
    refine wi_iload (pc' := 530) hm293 rfl rfl rfl ?_
    refine wi_if_ne (pc' := 533) (t := 545) hm293 rfl rfl rfl (fun hc => ?_) (fun hc => ?_)
    · replace h := h.1 hc
      refine wi_goto (t := 2734) hm293 rfl rfl ?_
      exact h
    · replace h := h.2 hc
      refine wi_aload_n (pc' := 534) hm293 rfl rfl rfl (by decide) ?_
      refine wi_iconst (pc' := 535) (v := 0) hm293 rfl rfl rfl ?_
      refine wi_laload (pc' := 536) hm293 rfl rfl rfl (N := 1) rfl (by decide) ?_
      refine wi_iload (pc' := 538) hm293 rfl rfl rfl ?_
      refine wi_i2l (pc' := 539) hm293 rfl rfl ?_
      refine wi_lcmp (pc' := 540) hm293 rfl rfl ?_
      refine wi_if_eq (pc' := 543) (t := 545) hm293 rfl rfl rfl (fun hc => ?_) (fun hc => ?_)
      · replace h := h.1 hc
        refine wi_goto (t := 2734) hm293 rfl rfl ?_
        exact h
      · replace h := h.2 hc
        refine wi_iconst (pc' := 544) (v := 0) hm293 rfl rfl rfl ?_
        exact wi_zret hm293 rfl (by decide) h
  · replace h := h.2 hc
    refine wi_iconst (pc' := 527) (v := 0) hm293 rfl rfl rfl ?_
    exact wi_zret hm293 rfl (by decide) h
set_option maxRecDepth 100000 in
theorem t293_548 {x4 : Int} {w5 w6 : fx_V} {σ : fx_S} {Q : fx_V → fx_S → Prop} (h : (fx_rg (x4 + 1)) ∧ (0 ≤ (x4 + 1) ∧ (x4 + 1) < σ 9 0 (-1)) ∧ fx_CI 264 [(10, 0), (0, (σ 9 0 (x4 + 1))), (61, 0)] σ Q (fun y1 σ1 => (0 ≤ (x4 + 1) ∧ (x4 + 1) < σ1 9 0 (-1)) ∧ fx_CI 208 [(46, 0), (0, (σ1 9 0 (x4 + 1)))] σ1 Q (fun y2 σ2 => fx_CI 148 [(46, 0)] σ2 Q (fun y3 σ3 => ((y3 = y1 → ((y1 ≠ 0 → fx_Wp 293 2734 [(9, 0), (10, 0), (46, 0), (61, 0), (0, x4), (0, y1), (0, y2)] [] σ3 Q) ∧ (y1 = 0 → (((fx_cmp (σ3 61 0 0) y2) = 0 → fx_Wp 293 2734 [(9, 0), (10, 0), (46, 0), (61, 0), (0, x4), (0, y1), (0, y2)] [] σ3 Q) ∧ ((fx_cmp (σ3 61 0 0) y2) ≠ 0 → Q (0, 0) σ3))))) ∧ (y3 ≠ y1 → Q (0, 0) σ3)))))) : fx_Wp 293 548 [(9, 0), (10, 0), (46, 0), (61, 0), (0, x4), w5, w6] [] σ Q := by
  refine wi_aload_n (pc' := 549) hm293 rfl rfl rfl (by decide) ?_
  refine wi_aload_n (pc' := 550) hm293 rfl rfl rfl (by decide) ?_
  refine wi_iload (pc' := 552) hm293 rfl rfl rfl ?_
  refine wi_iconst (pc' := 553) (v := 1) hm293 rfl rfl rfl ?_
  obtain ⟨g1, h⟩ := h
  refine wi_iadd (pc' := 554) hm293 rfl rfl g1 ?_
  obtain ⟨g2, h⟩ := h
  refine wi_sload (pc' := 555) hm293 rfl rfl g2 ?_
  refine wi_aload_n (pc' := 556) hm293 rfl rfl rfl (by decide) ?_
  refine wc_In (pc' := 559) (by decide) rfl (by decide) ((fx_wE hm293 rfl).trans (fx_exS (mj := 264) (as := [(10, 0), (0, (σ 9 0 (x4 + 1))), (61, 0)]) (rest := []) rfl rk264 rfl rfl rfl rfl)) h (fun y1 σ1 h => ?_)
  refine wi_istore (pc' := 561) (L' := [(9, 0), (10, 0), (46, 0), (61, 0), (0, x4), (0, y1), w6]) hm293 rfl rfl rfl ?_
  refine wi_aload_n (pc' := 562) hm293 rfl rfl rfl (by decide) ?_
  refine wi_aload_n (pc' := 563) hm293 rfl rfl rfl (by decide) ?_
  refine wi_iload (pc' := 565) hm293 rfl rfl rfl ?_
  refine wi_iconst (pc' := 566) (v := 1) hm293 rfl rfl rfl ?_
  refine wi_iadd (pc' := 567) hm293 rfl rfl g1 ?_
  obtain ⟨g3, h⟩ := h
  refine wi_sload (pc' := 568) hm293 rfl rfl g3 ?_
  refine wc_In (pc' := 571) (by decide) rfl (by decide) ((fx_wE hm293 rfl).trans (fx_exV (mj := 208) (as := [(0, (σ1 9 0 (x4 + 1)))]) (rest := []) rfl rk208 rfl rfl rfl rfl rfl)) h (fun y2 σ2 h => ?_)
  refine wi_istore (pc' := 573) (L' := [(9, 0), (10, 0), (46, 0), (61, 0), (0, x4), (0, y1), (0, y2)]) hm293 rfl rfl rfl ?_
  refine wi_aload_n (pc' := 574) hm293 rfl rfl rfl (by decide) ?_
  refine wc_In (pc' := 577) (by decide) rfl (by decide) ((fx_wE hm293 rfl).trans (fx_exV (mj := 148) (as := []) (rest := []) rfl rk148 rfl rfl rfl rfl rfl)) h (fun y3 σ3 h => ?_)
  refine wi_iload (pc' := 579) hm293 rfl rfl rfl ?_
  refine wi_ic_eq (pc' := 582) (t := 584) hm293 rfl rfl rfl (fun hc => ?_) (fun hc => ?_)
  · replace h := h.1 hc
    refine wi_iload (pc' := 586) hm293 rfl rfl rfl ?_
    refine wi_if_ne (pc' := 589) (t := 601) hm293 rfl rfl rfl (fun hc => ?_) (fun hc => ?_)
    · replace h := h.1 hc
      refine wi_goto (t := 2734) hm293 rfl rfl ?_
      exact h
    · replace h := h.2 hc
      refine wi_aload_n (pc' := 590) hm293 rfl rfl rfl (by decide) ?_
      refine wi_iconst (pc' := 591) (v := 0) hm293 rfl rfl rfl ?_
      refine wi_laload (pc' := 592) hm293 rfl rfl rfl (N := 1) rfl (by decide) ?_
      refine wi_iload (pc' := 594) hm293 rfl rfl rfl ?_
      refine wi_i2l (pc' := 595) hm293 rfl rfl ?_
      refine wi_lcmp (pc' := 596) hm293 rfl rfl ?_
      refine wi_if_eq (pc' := 599) (t := 601) hm293 rfl rfl rfl (fun hc => ?_) (fun hc => ?_)
      · replace h := h.1 hc
        refine wi_goto (t := 2734) hm293 rfl rfl ?_
        exact h
      · replace h := h.2 hc
        refine wi_iconst (pc' := 600) (v := 0) hm293 rfl rfl rfl ?_
        exact wi_zret hm293 rfl (by decide) h
  · replace h := h.2 hc
    refine wi_iconst (pc' := 583) (v := 0) hm293 rfl rfl rfl ?_
    exact wi_zret hm293 rfl (by decide) h
set_option maxRecDepth 100000 in
theorem t293_604 {x4 : Int} {w5 w6 : fx_V} {σ : fx_S} {Q : fx_V → fx_S → Prop} (h : (fx_rg (x4 + 1)) ∧ (0 ≤ (x4 + 1) ∧ (x4 + 1) < σ 9 0 (-1)) ∧ (fx_rg (x4 + 2)) ∧ (0 ≤ (x4 + 2) ∧ (x4 + 2) < σ 9 0 (-1)) ∧ (((σ 9 0 (x4 + 2)) = 0 → fx_CI 265 [(10, 0), (0, (σ 9 0 (x4 + 1))), (0, 0), (61, 0)] σ Q (fun y1 σ1 => (0 ≤ (x4 + 1) ∧ (x4 + 1) < σ1 9 0 (-1)) ∧ (0 ≤ (x4 + 2) ∧ (x4 + 2) < σ1 9 0 (-1)) ∧ (((σ1 9 0 (x4 + 2)) = 0 → fx_CI 210 [(46, 0), (0, (σ1 9 0 (x4 + 1))), (0, 0)] σ1 Q (fun y2 σ2 => fx_CI 148 [(46, 0)] σ2 Q (fun y3 σ3 => ((y3 = y1 → ((y1 ≠ 0 → fx_Wp 293 2734 [(9, 0), (10, 0), (46, 0), (61, 0), (0, x4), (0, y1), (0, y2)] [] σ3 Q) ∧ (y1 = 0 → (((fx_cmp (σ3 61 0 0) y2) = 0 → fx_Wp 293 2734 [(9, 0), (10, 0), (46, 0), (61, 0), (0, x4), (0, y1), (0, y2)] [] σ3 Q) ∧ ((fx_cmp (σ3 61 0 0) y2) ≠ 0 → Q (0, 0) σ3))))) ∧ (y3 ≠ y1 → Q (0, 0) σ3))))) ∧ ((σ1 9 0 (x4 + 2)) ≠ 0 → fx_CI 210 [(46, 0), (0, (σ1 9 0 (x4 + 1))), (0, 1)] σ1 Q (fun y4 σ4 => fx_CI 148 [(46, 0)] σ4 Q (fun y5 σ5 => ((y5 = y1 → ((y1 ≠ 0 → fx_Wp 293 2734 [(9, 0), (10, 0), (46, 0), (61, 0), (0, x4), (0, y1), (0, y4)] [] σ5 Q) ∧ (y1 = 0 → (((fx_cmp (σ5 61 0 0) y4) = 0 → fx_Wp 293 2734 [(9, 0), (10, 0), (46, 0), (61, 0), (0, x4), (0, y1), (0, y4)] [] σ5 Q) ∧ ((fx_cmp (σ5 61 0 0) y4) ≠ 0 → Q (0, 0) σ5))))) ∧ (y5 ≠ y1 → Q (0, 0) σ5)))))))) ∧ ((σ 9 0 (x4 + 2)) ≠ 0 → fx_CI 265 [(10, 0), (0, (σ 9 0 (x4 + 1))), (0, 1), (61, 0)] σ Q (fun y6 σ6 => (0 ≤ (x4 + 1) ∧ (x4 + 1) < σ6 9 0 (-1)) ∧ (0 ≤ (x4 + 2) ∧ (x4 + 2) < σ6 9 0 (-1)) ∧ (((σ6 9 0 (x4 + 2)) = 0 → fx_CI 210 [(46, 0), (0, (σ6 9 0 (x4 + 1))), (0, 0)] σ6 Q (fun y7 σ7 => fx_CI 148 [(46, 0)] σ7 Q (fun y8 σ8 => ((y8 = y6 → ((y6 ≠ 0 → fx_Wp 293 2734 [(9, 0), (10, 0), (46, 0), (61, 0), (0, x4), (0, y6), (0, y7)] [] σ8 Q) ∧ (y6 = 0 → (((fx_cmp (σ8 61 0 0) y7) = 0 → fx_Wp 293 2734 [(9, 0), (10, 0), (46, 0), (61, 0), (0, x4), (0, y6), (0, y7)] [] σ8 Q) ∧ ((fx_cmp (σ8 61 0 0) y7) ≠ 0 → Q (0, 0) σ8))))) ∧ (y8 ≠ y6 → Q (0, 0) σ8))))) ∧ ((σ6 9 0 (x4 + 2)) ≠ 0 → fx_CI 210 [(46, 0), (0, (σ6 9 0 (x4 + 1))), (0, 1)] σ6 Q (fun y9 σ9 => fx_CI 148 [(46, 0)] σ9 Q (fun y10 σ10 => ((y10 = y6 → ((y6 ≠ 0 → fx_Wp 293 2734 [(9, 0), (10, 0), (46, 0), (61, 0), (0, x4), (0, y6), (0, y9)] [] σ10 Q) ∧ (y6 = 0 → (((fx_cmp (σ10 61 0 0) y9) = 0 → fx_Wp 293 2734 [(9, 0), (10, 0), (46, 0), (61, 0), (0, x4), (0, y6), (0, y9)] [] σ10 Q) ∧ ((fx_cmp (σ10 61 0 0) y9) ≠ 0 → Q (0, 0) σ10))))) ∧ (y10 ≠ y6 → Q (0, 0) σ10)))))))))) : fx_Wp 293 604 [(9, 0), (10, 0), (46, 0), (61, 0), (0, x4), w5, w6] [] σ Q := by
  refine wi_aload_n (pc' := 605) hm293 rfl rfl rfl (by decide) ?_
  refine wi_aload_n (pc' := 606) hm293 rfl rfl rfl (by decide) ?_
  refine wi_iload (pc' := 608) hm293 rfl rfl rfl ?_
  refine wi_iconst (pc' := 609) (v := 1) hm293 rfl rfl rfl ?_
  obtain ⟨g1, h⟩ := h
  refine wi_iadd (pc' := 610) hm293 rfl rfl g1 ?_
  obtain ⟨g2, h⟩ := h
  refine wi_sload (pc' := 611) hm293 rfl rfl g2 ?_
  refine wi_aload_n (pc' := 612) hm293 rfl rfl rfl (by decide) ?_
  refine wi_iload (pc' := 614) hm293 rfl rfl rfl ?_
  refine wi_iconst (pc' := 615) (v := 2) hm293 rfl rfl rfl ?_
  obtain ⟨g3, h⟩ := h
  refine wi_iadd (pc' := 616) hm293 rfl rfl g3 ?_
  obtain ⟨g4, h⟩ := h
  refine wi_sload (pc' := 617) hm293 rfl rfl g4 ?_
  refine wi_if_eq (pc' := 620) (t := 624) hm293 rfl rfl rfl (fun hc => ?_) (fun hc => ?_)
  · replace h := h.1 hc
    refine wi_iconst (pc' := 625) (v := 0) hm293 rfl rfl rfl ?_
    refine wi_aload_n (pc' := 626) hm293 rfl rfl rfl (by decide) ?_
    refine wc_In (pc' := 629) (by decide) rfl (by decide) ((fx_wE hm293 rfl).trans (fx_exS (mj := 265) (as := [(10, 0), (0, (σ 9 0 (x4 + 1))), (0, 0), (61, 0)]) (rest := []) rfl rk265 rfl rfl rfl rfl)) h (fun y1 σ1 h => ?_)
    refine wi_istore (pc' := 631) (L' := [(9, 0), (10, 0), (46, 0), (61, 0), (0, x4), (0, y1), w6]) hm293 rfl rfl rfl ?_
    refine wi_aload_n (pc' := 632) hm293 rfl rfl rfl (by decide) ?_
    refine wi_aload_n (pc' := 633) hm293 rfl rfl rfl (by decide) ?_
    refine wi_iload (pc' := 635) hm293 rfl rfl rfl ?_
    refine wi_iconst (pc' := 636) (v := 1) hm293 rfl rfl rfl ?_
    refine wi_iadd (pc' := 637) hm293 rfl rfl g1 ?_
    obtain ⟨g5, h⟩ := h
    refine wi_sload (pc' := 638) hm293 rfl rfl g5 ?_
    refine wi_aload_n (pc' := 639) hm293 rfl rfl rfl (by decide) ?_
    refine wi_iload (pc' := 641) hm293 rfl rfl rfl ?_
    refine wi_iconst (pc' := 642) (v := 2) hm293 rfl rfl rfl ?_
    refine wi_iadd (pc' := 643) hm293 rfl rfl g3 ?_
    obtain ⟨g6, h⟩ := h
    refine wi_sload (pc' := 644) hm293 rfl rfl g6 ?_
    refine wi_if_eq (pc' := 647) (t := 651) hm293 rfl rfl rfl (fun hc => ?_) (fun hc => ?_)
    · replace h := h.1 hc
      refine wi_iconst (pc' := 652) (v := 0) hm293 rfl rfl rfl ?_
      refine wc_In (pc' := 655) (by decide) rfl (by decide) ((fx_wE hm293 rfl).trans (fx_exV (mj := 210) (as := [(0, (σ1 9 0 (x4 + 1))), (0, 0)]) (rest := []) rfl rk210 rfl rfl rfl rfl rfl)) h (fun y2 σ2 h => ?_)
      refine wi_istore (pc' := 657) (L' := [(9, 0), (10, 0), (46, 0), (61, 0), (0, x4), (0, y1), (0, y2)]) hm293 rfl rfl rfl ?_
      refine wi_aload_n (pc' := 658) hm293 rfl rfl rfl (by decide) ?_
      refine wc_In (pc' := 661) (by decide) rfl (by decide) ((fx_wE hm293 rfl).trans (fx_exV (mj := 148) (as := []) (rest := []) rfl rk148 rfl rfl rfl rfl rfl)) h (fun y3 σ3 h => ?_)
      refine wi_iload (pc' := 663) hm293 rfl rfl rfl ?_
      refine wi_ic_eq (pc' := 666) (t := 668) hm293 rfl rfl rfl (fun hc => ?_) (fun hc => ?_)
      · replace h := h.1 hc
        refine wi_iload (pc' := 670) hm293 rfl rfl rfl ?_
        refine wi_if_ne (pc' := 673) (t := 685) hm293 rfl rfl rfl (fun hc => ?_) (fun hc => ?_)
        · replace h := h.1 hc
          refine wi_goto (t := 2734) hm293 rfl rfl ?_
          exact h
        · replace h := h.2 hc
          refine wi_aload_n (pc' := 674) hm293 rfl rfl rfl (by decide) ?_
          refine wi_iconst (pc' := 675) (v := 0) hm293 rfl rfl rfl ?_
          refine wi_laload (pc' := 676) hm293 rfl rfl rfl (N := 1) rfl (by decide) ?_
          refine wi_iload (pc' := 678) hm293 rfl rfl rfl ?_
          refine wi_i2l (pc' := 679) hm293 rfl rfl ?_
          refine wi_lcmp (pc' := 680) hm293 rfl rfl ?_
          refine wi_if_eq (pc' := 683) (t := 685) hm293 rfl rfl rfl (fun hc => ?_) (fun hc => ?_)
          · replace h := h.1 hc
            refine wi_goto (t := 2734) hm293 rfl rfl ?_
            exact h
          · replace h := h.2 hc
            refine wi_iconst (pc' := 684) (v := 0) hm293 rfl rfl rfl ?_
            exact wi_zret hm293 rfl (by decide) h
      · replace h := h.2 hc
        refine wi_iconst (pc' := 667) (v := 0) hm293 rfl rfl rfl ?_
        exact wi_zret hm293 rfl (by decide) h
    · replace h := h.2 hc
      refine wi_iconst (pc' := 648) (v := 1) hm293 rfl rfl rfl ?_
      refine wi_goto (t := 652) hm293 rfl rfl ?_
      refine wc_In (pc' := 655) (by decide) rfl (by decide) ((fx_wE hm293 rfl).trans (fx_exV (mj := 210) (as := [(0, (σ1 9 0 (x4 + 1))), (0, 1)]) (rest := []) rfl rk210 rfl rfl rfl rfl rfl)) h (fun y4 σ4 h => ?_)
      refine wi_istore (pc' := 657) (L' := [(9, 0), (10, 0), (46, 0), (61, 0), (0, x4), (0, y1), (0, y4)]) hm293 rfl rfl rfl ?_
      refine wi_aload_n (pc' := 658) hm293 rfl rfl rfl (by decide) ?_
      refine wc_In (pc' := 661) (by decide) rfl (by decide) ((fx_wE hm293 rfl).trans (fx_exV (mj := 148) (as := []) (rest := []) rfl rk148 rfl rfl rfl rfl rfl)) h (fun y5 σ5 h => ?_)
      refine wi_iload (pc' := 663) hm293 rfl rfl rfl ?_
      refine wi_ic_eq (pc' := 666) (t := 668) hm293 rfl rfl rfl (fun hc => ?_) (fun hc => ?_)
      · replace h := h.1 hc
        refine wi_iload (pc' := 670) hm293 rfl rfl rfl ?_
        refine wi_if_ne (pc' := 673) (t := 685) hm293 rfl rfl rfl (fun hc => ?_) (fun hc => ?_)
        · replace h := h.1 hc
          refine wi_goto (t := 2734) hm293 rfl rfl ?_
          exact h
        · replace h := h.2 hc
          refine wi_aload_n (pc' := 674) hm293 rfl rfl rfl (by decide) ?_
          refine wi_iconst (pc' := 675) (v := 0) hm293 rfl rfl rfl ?_
          refine wi_laload (pc' := 676) hm293 rfl rfl rfl (N := 1) rfl (by decide) ?_
          refine wi_iload (pc' := 678) hm293 rfl rfl rfl ?_
          refine wi_i2l (pc' := 679) hm293 rfl rfl ?_
          refine wi_lcmp (pc' := 680) hm293 rfl rfl ?_
          refine wi_if_eq (pc' := 683) (t := 685) hm293 rfl rfl rfl (fun hc => ?_) (fun hc => ?_)
          · replace h := h.1 hc
            refine wi_goto (t := 2734) hm293 rfl rfl ?_
            exact h
          · replace h := h.2 hc
            refine wi_iconst (pc' := 684) (v := 0) hm293 rfl rfl rfl ?_
            exact wi_zret hm293 rfl (by decide) h
      · replace h := h.2 hc
        refine wi_iconst (pc' := 667) (v := 0) hm293 rfl rfl rfl ?_
        exact wi_zret hm293 rfl (by decide) h
  · replace h := h.2 hc
    refine wi_iconst (pc' := 621) (v := 1) hm293 rfl rfl rfl ?_
    refine wi_goto (t := 625) hm293 rfl rfl ?_
    refine wi_aload_n (pc' := 626) hm293 rfl rfl rfl (by decide) ?_
    refine wc_In (pc' := 629) (by decide) rfl (by decide) ((fx_wE hm293 rfl).trans (fx_exS (mj := 265) (as := [(10, 0), (0, (σ 9 0 (x4 + 1))), (0, 1), (61, 0)]) (rest := []) rfl rk265 rfl rfl rfl rfl)) h (fun y6 σ6 h => ?_)
    refine wi_istore (pc' := 631) (L' := [(9, 0), (10, 0), (46, 0), (61, 0), (0, x4), (0, y6), w6]) hm293 rfl rfl rfl ?_
    refine wi_aload_n (pc' := 632) hm293 rfl rfl rfl (by decide) ?_
    refine wi_aload_n (pc' := 633) hm293 rfl rfl rfl (by decide) ?_
    refine wi_iload (pc' := 635) hm293 rfl rfl rfl ?_
    refine wi_iconst (pc' := 636) (v := 1) hm293 rfl rfl rfl ?_
    refine wi_iadd (pc' := 637) hm293 rfl rfl g1 ?_
    obtain ⟨g5, h⟩ := h
    refine wi_sload (pc' := 638) hm293 rfl rfl g5 ?_
    refine wi_aload_n (pc' := 639) hm293 rfl rfl rfl (by decide) ?_
    refine wi_iload (pc' := 641) hm293 rfl rfl rfl ?_
    refine wi_iconst (pc' := 642) (v := 2) hm293 rfl rfl rfl ?_
    refine wi_iadd (pc' := 643) hm293 rfl rfl g3 ?_
    obtain ⟨g6, h⟩ := h
    refine wi_sload (pc' := 644) hm293 rfl rfl g6 ?_
    refine wi_if_eq (pc' := 647) (t := 651) hm293 rfl rfl rfl (fun hc => ?_) (fun hc => ?_)
    · replace h := h.1 hc
      refine wi_iconst (pc' := 652) (v := 0) hm293 rfl rfl rfl ?_
      refine wc_In (pc' := 655) (by decide) rfl (by decide) ((fx_wE hm293 rfl).trans (fx_exV (mj := 210) (as := [(0, (σ6 9 0 (x4 + 1))), (0, 0)]) (rest := []) rfl rk210 rfl rfl rfl rfl rfl)) h (fun y7 σ7 h => ?_)
      refine wi_istore (pc' := 657) (L' := [(9, 0), (10, 0), (46, 0), (61, 0), (0, x4), (0, y6), (0, y7)]) hm293 rfl rfl rfl ?_
      refine wi_aload_n (pc' := 658) hm293 rfl rfl rfl (by decide) ?_
      refine wc_In (pc' := 661) (by decide) rfl (by decide) ((fx_wE hm293 rfl).trans (fx_exV (mj := 148) (as := []) (rest := []) rfl rk148 rfl rfl rfl rfl rfl)) h (fun y8 σ8 h => ?_)
      refine wi_iload (pc' := 663) hm293 rfl rfl rfl ?_
      refine wi_ic_eq (pc' := 666) (t := 668) hm293 rfl rfl rfl (fun hc => ?_) (fun hc => ?_)
      · replace h := h.1 hc
        refine wi_iload (pc' := 670) hm293 rfl rfl rfl ?_
        refine wi_if_ne (pc' := 673) (t := 685) hm293 rfl rfl rfl (fun hc => ?_) (fun hc => ?_)
        · replace h := h.1 hc
          refine wi_goto (t := 2734) hm293 rfl rfl ?_
          exact h
        · replace h := h.2 hc
          refine wi_aload_n (pc' := 674) hm293 rfl rfl rfl (by decide) ?_
          refine wi_iconst (pc' := 675) (v := 0) hm293 rfl rfl rfl ?_
          refine wi_laload (pc' := 676) hm293 rfl rfl rfl (N := 1) rfl (by decide) ?_
          refine wi_iload (pc' := 678) hm293 rfl rfl rfl ?_
          refine wi_i2l (pc' := 679) hm293 rfl rfl ?_
          refine wi_lcmp (pc' := 680) hm293 rfl rfl ?_
          refine wi_if_eq (pc' := 683) (t := 685) hm293 rfl rfl rfl (fun hc => ?_) (fun hc => ?_)
          · replace h := h.1 hc
            refine wi_goto (t := 2734) hm293 rfl rfl ?_
            exact h
          · replace h := h.2 hc
            refine wi_iconst (pc' := 684) (v := 0) hm293 rfl rfl rfl ?_
            exact wi_zret hm293 rfl (by decide) h
      · replace h := h.2 hc
        refine wi_iconst (pc' := 667) (v := 0) hm293 rfl rfl rfl ?_
        exact wi_zret hm293 rfl (by decide) h
    · replace h := h.2 hc
      refine wi_iconst (pc' := 648) (v := 1) hm293 rfl rfl rfl ?_
      refine wi_goto (t := 652) hm293 rfl rfl ?_
      refine wc_In (pc' := 655) (by decide) rfl (by decide) ((fx_wE hm293 rfl).trans (fx_exV (mj := 210) (as := [(0, (σ6 9 0 (x4 + 1))), (0, 1)]) (rest := []) rfl rk210 rfl rfl rfl rfl rfl)) h (fun y9 σ9 h => ?_)
      refine wi_istore (pc' := 657) (L' := [(9, 0), (10, 0), (46, 0), (61, 0), (0, x4), (0, y6), (0, y9)]) hm293 rfl rfl rfl ?_
      refine wi_aload_n (pc' := 658) hm293 rfl rfl rfl (by decide) ?_
      refine wc_In (pc' := 661) (by decide) rfl (by decide) ((fx_wE hm293 rfl).trans (fx_exV (mj := 148) (as := []) (rest := []) rfl rk148 rfl rfl rfl rfl rfl)) h (fun y10 σ10 h => ?_)
      refine wi_iload (pc' := 663) hm293 rfl rfl rfl ?_
      refine wi_ic_eq (pc' := 666) (t := 668) hm293 rfl rfl rfl (fun hc => ?_) (fun hc => ?_)
      · replace h := h.1 hc
        refine wi_iload (pc' := 670) hm293 rfl rfl rfl ?_
        refine wi_if_ne (pc' := 673) (t := 685) hm293 rfl rfl rfl (fun hc => ?_) (fun hc => ?_)
        · replace h := h.1 hc
          refine wi_goto (t := 2734) hm293 rfl rfl ?_
          exact h
        · replace h := h.2 hc
          refine wi_aload_n (pc' := 674) hm293 rfl rfl rfl (by decide) ?_
          refine wi_iconst (pc' := 675) (v := 0) hm293 rfl rfl rfl ?_
          refine wi_laload (pc' := 676) hm293 rfl rfl rfl (N := 1) rfl (by decide) ?_
          refine wi_iload (pc' := 678) hm293 rfl rfl rfl ?_
          refine wi_i2l (pc' := 679) hm293 rfl rfl ?_
          refine wi_lcmp (pc' := 680) hm293 rfl rfl ?_
          refine wi_if_eq (pc' := 683) (t := 685) hm293 rfl rfl rfl (fun hc => ?_) (fun hc => ?_)
          · replace h := h.1 hc
            refine wi_goto (t := 2734) hm293 rfl rfl ?_
            exact h
          · replace h := h.2 hc
            refine wi_iconst (pc' := 684) (v := 0) hm293 rfl rfl rfl ?_
            exact wi_zret hm293 rfl (by decide) h
      · replace h := h.2 hc
        refine wi_iconst (pc' := 667) (v := 0) hm293 rfl rfl rfl ?_
        exact wi_zret hm293 rfl (by decide) h
set_option maxRecDepth 100000 in
theorem t293_688 {x4 : Int} {w5 w6 : fx_V} {σ : fx_S} {Q : fx_V → fx_S → Prop} (h : (fx_rg (x4 + 1)) ∧ (0 ≤ (x4 + 1) ∧ (x4 + 1) < σ 9 0 (-1)) ∧ (fx_rg (x4 + 2)) ∧ (0 ≤ (x4 + 2) ∧ (x4 + 2) < σ 9 0 (-1)) ∧ fx_CI 266 [(10, 0), (0, (σ 9 0 (x4 + 1))), (0, (σ 9 0 (x4 + 2))), (61, 0)] σ Q (fun y1 σ1 => (0 ≤ (x4 + 1) ∧ (x4 + 1) < σ1 9 0 (-1)) ∧ (0 ≤ (x4 + 2) ∧ (x4 + 2) < σ1 9 0 (-1)) ∧ fx_CI 211 [(46, 0), (0, (σ1 9 0 (x4 + 1))), (0, (σ1 9 0 (x4 + 2)))] σ1 Q (fun y2 σ2 => fx_CI 148 [(46, 0)] σ2 Q (fun y3 σ3 => ((y3 = y1 → ((y1 ≠ 0 → fx_Wp 293 2734 [(9, 0), (10, 0), (46, 0), (61, 0), (0, x4), (0, y1), (0, y2)] [] σ3 Q) ∧ (y1 = 0 → (((fx_cmp (σ3 61 0 0) y2) = 0 → fx_Wp 293 2734 [(9, 0), (10, 0), (46, 0), (61, 0), (0, x4), (0, y1), (0, y2)] [] σ3 Q) ∧ ((fx_cmp (σ3 61 0 0) y2) ≠ 0 → Q (0, 0) σ3))))) ∧ (y3 ≠ y1 → Q (0, 0) σ3)))))) : fx_Wp 293 688 [(9, 0), (10, 0), (46, 0), (61, 0), (0, x4), w5, w6] [] σ Q := by
  refine wi_aload_n (pc' := 689) hm293 rfl rfl rfl (by decide) ?_
  refine wi_aload_n (pc' := 690) hm293 rfl rfl rfl (by decide) ?_
  refine wi_iload (pc' := 692) hm293 rfl rfl rfl ?_
  refine wi_iconst (pc' := 693) (v := 1) hm293 rfl rfl rfl ?_
  obtain ⟨g1, h⟩ := h
  refine wi_iadd (pc' := 694) hm293 rfl rfl g1 ?_
  obtain ⟨g2, h⟩ := h
  refine wi_sload (pc' := 695) hm293 rfl rfl g2 ?_
  refine wi_aload_n (pc' := 696) hm293 rfl rfl rfl (by decide) ?_
  refine wi_iload (pc' := 698) hm293 rfl rfl rfl ?_
  refine wi_iconst (pc' := 699) (v := 2) hm293 rfl rfl rfl ?_
  obtain ⟨g3, h⟩ := h
  refine wi_iadd (pc' := 700) hm293 rfl rfl g3 ?_
  obtain ⟨g4, h⟩ := h
  refine wi_sload (pc' := 701) hm293 rfl rfl g4 ?_
  refine wi_aload_n (pc' := 702) hm293 rfl rfl rfl (by decide) ?_
  refine wc_In (pc' := 705) (by decide) rfl (by decide) ((fx_wE hm293 rfl).trans (fx_exS (mj := 266) (as := [(10, 0), (0, (σ 9 0 (x4 + 1))), (0, (σ 9 0 (x4 + 2))), (61, 0)]) (rest := []) rfl rk266 rfl rfl rfl rfl)) h (fun y1 σ1 h => ?_)
  refine wi_istore (pc' := 707) (L' := [(9, 0), (10, 0), (46, 0), (61, 0), (0, x4), (0, y1), w6]) hm293 rfl rfl rfl ?_
  refine wi_aload_n (pc' := 708) hm293 rfl rfl rfl (by decide) ?_
  refine wi_aload_n (pc' := 709) hm293 rfl rfl rfl (by decide) ?_
  refine wi_iload (pc' := 711) hm293 rfl rfl rfl ?_
  refine wi_iconst (pc' := 712) (v := 1) hm293 rfl rfl rfl ?_
  refine wi_iadd (pc' := 713) hm293 rfl rfl g1 ?_
  obtain ⟨g5, h⟩ := h
  refine wi_sload (pc' := 714) hm293 rfl rfl g5 ?_
  refine wi_aload_n (pc' := 715) hm293 rfl rfl rfl (by decide) ?_
  refine wi_iload (pc' := 717) hm293 rfl rfl rfl ?_
  refine wi_iconst (pc' := 718) (v := 2) hm293 rfl rfl rfl ?_
  refine wi_iadd (pc' := 719) hm293 rfl rfl g3 ?_
  obtain ⟨g6, h⟩ := h
  refine wi_sload (pc' := 720) hm293 rfl rfl g6 ?_
  refine wc_In (pc' := 723) (by decide) rfl (by decide) ((fx_wE hm293 rfl).trans (fx_exV (mj := 211) (as := [(0, (σ1 9 0 (x4 + 1))), (0, (σ1 9 0 (x4 + 2)))]) (rest := []) rfl rk211 rfl rfl rfl rfl rfl)) h (fun y2 σ2 h => ?_)
  refine wi_istore (pc' := 725) (L' := [(9, 0), (10, 0), (46, 0), (61, 0), (0, x4), (0, y1), (0, y2)]) hm293 rfl rfl rfl ?_
  refine wi_aload_n (pc' := 726) hm293 rfl rfl rfl (by decide) ?_
  refine wc_In (pc' := 729) (by decide) rfl (by decide) ((fx_wE hm293 rfl).trans (fx_exV (mj := 148) (as := []) (rest := []) rfl rk148 rfl rfl rfl rfl rfl)) h (fun y3 σ3 h => ?_)
  refine wi_iload (pc' := 731) hm293 rfl rfl rfl ?_
  refine wi_ic_eq (pc' := 734) (t := 736) hm293 rfl rfl rfl (fun hc => ?_) (fun hc => ?_)
  · replace h := h.1 hc
    refine wi_iload (pc' := 738) hm293 rfl rfl rfl ?_
    refine wi_if_ne (pc' := 741) (t := 753) hm293 rfl rfl rfl (fun hc => ?_) (fun hc => ?_)
    · replace h := h.1 hc
      refine wi_goto (t := 2734) hm293 rfl rfl ?_
      exact h
    · replace h := h.2 hc
      refine wi_aload_n (pc' := 742) hm293 rfl rfl rfl (by decide) ?_
      refine wi_iconst (pc' := 743) (v := 0) hm293 rfl rfl rfl ?_
      refine wi_laload (pc' := 744) hm293 rfl rfl rfl (N := 1) rfl (by decide) ?_
      refine wi_iload (pc' := 746) hm293 rfl rfl rfl ?_
      refine wi_i2l (pc' := 747) hm293 rfl rfl ?_
      refine wi_lcmp (pc' := 748) hm293 rfl rfl ?_
      refine wi_if_eq (pc' := 751) (t := 753) hm293 rfl rfl rfl (fun hc => ?_) (fun hc => ?_)
      · replace h := h.1 hc
        refine wi_goto (t := 2734) hm293 rfl rfl ?_
        exact h
      · replace h := h.2 hc
        refine wi_iconst (pc' := 752) (v := 0) hm293 rfl rfl rfl ?_
        exact wi_zret hm293 rfl (by decide) h
  · replace h := h.2 hc
    refine wi_iconst (pc' := 735) (v := 0) hm293 rfl rfl rfl ?_
    exact wi_zret hm293 rfl (by decide) h
set_option maxRecDepth 100000 in
theorem t293_756 {x4 : Int} {w5 w6 : fx_V} {σ : fx_S} {Q : fx_V → fx_S → Prop} (h : (fx_rg (x4 + 1)) ∧ (0 ≤ (x4 + 1) ∧ (x4 + 1) < σ 9 0 (-1)) ∧ (fx_rg (x4 + 2)) ∧ (0 ≤ (x4 + 2) ∧ (x4 + 2) < σ 9 0 (-1)) ∧ fx_CI 267 [(10, 0), (0, (σ 9 0 (x4 + 1))), (0, (σ 9 0 (x4 + 2))), (61, 0)] σ Q (fun y1 σ1 => (0 ≤ (x4 + 1) ∧ (x4 + 1) < σ1 9 0 (-1)) ∧ (0 ≤ (x4 + 2) ∧ (x4 + 2) < σ1 9 0 (-1)) ∧ fx_CI 212 [(46, 0), (0, (σ1 9 0 (x4 + 1))), (0, (σ1 9 0 (x4 + 2)))] σ1 Q (fun y2 σ2 => fx_CI 148 [(46, 0)] σ2 Q (fun y3 σ3 => ((y3 = y1 → ((y1 ≠ 0 → fx_Wp 293 2734 [(9, 0), (10, 0), (46, 0), (61, 0), (0, x4), (0, y1), (0, y2)] [] σ3 Q) ∧ (y1 = 0 → (((fx_cmp (σ3 61 0 0) y2) = 0 → fx_Wp 293 2734 [(9, 0), (10, 0), (46, 0), (61, 0), (0, x4), (0, y1), (0, y2)] [] σ3 Q) ∧ ((fx_cmp (σ3 61 0 0) y2) ≠ 0 → Q (0, 0) σ3))))) ∧ (y3 ≠ y1 → Q (0, 0) σ3)))))) : fx_Wp 293 756 [(9, 0), (10, 0), (46, 0), (61, 0), (0, x4), w5, w6] [] σ Q := by
  refine wi_aload_n (pc' := 757) hm293 rfl rfl rfl (by decide) ?_
  refine wi_aload_n (pc' := 758) hm293 rfl rfl rfl (by decide) ?_
  refine wi_iload (pc' := 760) hm293 rfl rfl rfl ?_
  refine wi_iconst (pc' := 761) (v := 1) hm293 rfl rfl rfl ?_
  obtain ⟨g1, h⟩ := h
  refine wi_iadd (pc' := 762) hm293 rfl rfl g1 ?_
  obtain ⟨g2, h⟩ := h
  refine wi_sload (pc' := 763) hm293 rfl rfl g2 ?_
  refine wi_aload_n (pc' := 764) hm293 rfl rfl rfl (by decide) ?_
  refine wi_iload (pc' := 766) hm293 rfl rfl rfl ?_
  refine wi_iconst (pc' := 767) (v := 2) hm293 rfl rfl rfl ?_
  obtain ⟨g3, h⟩ := h
  refine wi_iadd (pc' := 768) hm293 rfl rfl g3 ?_
  obtain ⟨g4, h⟩ := h
  refine wi_sload (pc' := 769) hm293 rfl rfl g4 ?_
  refine wi_aload_n (pc' := 770) hm293 rfl rfl rfl (by decide) ?_
  refine wc_In (pc' := 773) (by decide) rfl (by decide) ((fx_wE hm293 rfl).trans (fx_exS (mj := 267) (as := [(10, 0), (0, (σ 9 0 (x4 + 1))), (0, (σ 9 0 (x4 + 2))), (61, 0)]) (rest := []) rfl rk267 rfl rfl rfl rfl)) h (fun y1 σ1 h => ?_)
  refine wi_istore (pc' := 775) (L' := [(9, 0), (10, 0), (46, 0), (61, 0), (0, x4), (0, y1), w6]) hm293 rfl rfl rfl ?_
  refine wi_aload_n (pc' := 776) hm293 rfl rfl rfl (by decide) ?_
  refine wi_aload_n (pc' := 777) hm293 rfl rfl rfl (by decide) ?_
  refine wi_iload (pc' := 779) hm293 rfl rfl rfl ?_
  refine wi_iconst (pc' := 780) (v := 1) hm293 rfl rfl rfl ?_
  refine wi_iadd (pc' := 781) hm293 rfl rfl g1 ?_
  obtain ⟨g5, h⟩ := h
  refine wi_sload (pc' := 782) hm293 rfl rfl g5 ?_
  refine wi_aload_n (pc' := 783) hm293 rfl rfl rfl (by decide) ?_
  refine wi_iload (pc' := 785) hm293 rfl rfl rfl ?_
  refine wi_iconst (pc' := 786) (v := 2) hm293 rfl rfl rfl ?_
  refine wi_iadd (pc' := 787) hm293 rfl rfl g3 ?_
  obtain ⟨g6, h⟩ := h
  refine wi_sload (pc' := 788) hm293 rfl rfl g6 ?_
  refine wc_In (pc' := 791) (by decide) rfl (by decide) ((fx_wE hm293 rfl).trans (fx_exV (mj := 212) (as := [(0, (σ1 9 0 (x4 + 1))), (0, (σ1 9 0 (x4 + 2)))]) (rest := []) rfl rk212 rfl rfl rfl rfl rfl)) h (fun y2 σ2 h => ?_)
  refine wi_istore (pc' := 793) (L' := [(9, 0), (10, 0), (46, 0), (61, 0), (0, x4), (0, y1), (0, y2)]) hm293 rfl rfl rfl ?_
  refine wi_aload_n (pc' := 794) hm293 rfl rfl rfl (by decide) ?_
  refine wc_In (pc' := 797) (by decide) rfl (by decide) ((fx_wE hm293 rfl).trans (fx_exV (mj := 148) (as := []) (rest := []) rfl rk148 rfl rfl rfl rfl rfl)) h (fun y3 σ3 h => ?_)
  refine wi_iload (pc' := 799) hm293 rfl rfl rfl ?_
  refine wi_ic_eq (pc' := 802) (t := 804) hm293 rfl rfl rfl (fun hc => ?_) (fun hc => ?_)
  · replace h := h.1 hc
    refine wi_iload (pc' := 806) hm293 rfl rfl rfl ?_
    refine wi_if_ne (pc' := 809) (t := 821) hm293 rfl rfl rfl (fun hc => ?_) (fun hc => ?_)
    · replace h := h.1 hc
      refine wi_goto (t := 2734) hm293 rfl rfl ?_
      exact h
    · replace h := h.2 hc
      refine wi_aload_n (pc' := 810) hm293 rfl rfl rfl (by decide) ?_
      refine wi_iconst (pc' := 811) (v := 0) hm293 rfl rfl rfl ?_
      refine wi_laload (pc' := 812) hm293 rfl rfl rfl (N := 1) rfl (by decide) ?_
      refine wi_iload (pc' := 814) hm293 rfl rfl rfl ?_
      refine wi_i2l (pc' := 815) hm293 rfl rfl ?_
      refine wi_lcmp (pc' := 816) hm293 rfl rfl ?_
      refine wi_if_eq (pc' := 819) (t := 821) hm293 rfl rfl rfl (fun hc => ?_) (fun hc => ?_)
      · replace h := h.1 hc
        refine wi_goto (t := 2734) hm293 rfl rfl ?_
        exact h
      · replace h := h.2 hc
        refine wi_iconst (pc' := 820) (v := 0) hm293 rfl rfl rfl ?_
        exact wi_zret hm293 rfl (by decide) h
  · replace h := h.2 hc
    refine wi_iconst (pc' := 803) (v := 0) hm293 rfl rfl rfl ?_
    exact wi_zret hm293 rfl (by decide) h
set_option maxRecDepth 100000 in
theorem t293_824 {x4 : Int} {w5 w6 : fx_V} {σ : fx_S} {Q : fx_V → fx_S → Prop} (h : (fx_rg (x4 + 1)) ∧ (0 ≤ (x4 + 1) ∧ (x4 + 1) < σ 9 0 (-1)) ∧ fx_CI 268 [(10, 0), (0, (σ 9 0 (x4 + 1))), (61, 0)] σ Q (fun y1 σ1 => (0 ≤ (x4 + 1) ∧ (x4 + 1) < σ1 9 0 (-1)) ∧ fx_CI 213 [(46, 0), (0, (σ1 9 0 (x4 + 1)))] σ1 Q (fun y2 σ2 => fx_CI 148 [(46, 0)] σ2 Q (fun y3 σ3 => ((y3 = y1 → ((y1 ≠ 0 → fx_Wp 293 2734 [(9, 0), (10, 0), (46, 0), (61, 0), (0, x4), (0, y1), (0, y2)] [] σ3 Q) ∧ (y1 = 0 → (((fx_cmp (σ3 61 0 0) y2) = 0 → fx_Wp 293 2734 [(9, 0), (10, 0), (46, 0), (61, 0), (0, x4), (0, y1), (0, y2)] [] σ3 Q) ∧ ((fx_cmp (σ3 61 0 0) y2) ≠ 0 → Q (0, 0) σ3))))) ∧ (y3 ≠ y1 → Q (0, 0) σ3)))))) : fx_Wp 293 824 [(9, 0), (10, 0), (46, 0), (61, 0), (0, x4), w5, w6] [] σ Q := by
  refine wi_aload_n (pc' := 825) hm293 rfl rfl rfl (by decide) ?_
  refine wi_aload_n (pc' := 826) hm293 rfl rfl rfl (by decide) ?_
  refine wi_iload (pc' := 828) hm293 rfl rfl rfl ?_
  refine wi_iconst (pc' := 829) (v := 1) hm293 rfl rfl rfl ?_
  obtain ⟨g1, h⟩ := h
  refine wi_iadd (pc' := 830) hm293 rfl rfl g1 ?_
  obtain ⟨g2, h⟩ := h
  refine wi_sload (pc' := 831) hm293 rfl rfl g2 ?_
  refine wi_aload_n (pc' := 832) hm293 rfl rfl rfl (by decide) ?_
  refine wc_In (pc' := 835) (by decide) rfl (by decide) ((fx_wE hm293 rfl).trans (fx_exS (mj := 268) (as := [(10, 0), (0, (σ 9 0 (x4 + 1))), (61, 0)]) (rest := []) rfl rk268 rfl rfl rfl rfl)) h (fun y1 σ1 h => ?_)
  refine wi_istore (pc' := 837) (L' := [(9, 0), (10, 0), (46, 0), (61, 0), (0, x4), (0, y1), w6]) hm293 rfl rfl rfl ?_
  refine wi_aload_n (pc' := 838) hm293 rfl rfl rfl (by decide) ?_
  refine wi_aload_n (pc' := 839) hm293 rfl rfl rfl (by decide) ?_
  refine wi_iload (pc' := 841) hm293 rfl rfl rfl ?_
  refine wi_iconst (pc' := 842) (v := 1) hm293 rfl rfl rfl ?_
  refine wi_iadd (pc' := 843) hm293 rfl rfl g1 ?_
  obtain ⟨g3, h⟩ := h
  refine wi_sload (pc' := 844) hm293 rfl rfl g3 ?_
  refine wc_In (pc' := 847) (by decide) rfl (by decide) ((fx_wE hm293 rfl).trans (fx_exV (mj := 213) (as := [(0, (σ1 9 0 (x4 + 1)))]) (rest := []) rfl rk213 rfl rfl rfl rfl rfl)) h (fun y2 σ2 h => ?_)
  refine wi_istore (pc' := 849) (L' := [(9, 0), (10, 0), (46, 0), (61, 0), (0, x4), (0, y1), (0, y2)]) hm293 rfl rfl rfl ?_
  refine wi_aload_n (pc' := 850) hm293 rfl rfl rfl (by decide) ?_
  refine wc_In (pc' := 853) (by decide) rfl (by decide) ((fx_wE hm293 rfl).trans (fx_exV (mj := 148) (as := []) (rest := []) rfl rk148 rfl rfl rfl rfl rfl)) h (fun y3 σ3 h => ?_)
  refine wi_iload (pc' := 855) hm293 rfl rfl rfl ?_
  refine wi_ic_eq (pc' := 858) (t := 860) hm293 rfl rfl rfl (fun hc => ?_) (fun hc => ?_)
  · replace h := h.1 hc
    refine wi_iload (pc' := 862) hm293 rfl rfl rfl ?_
    refine wi_if_ne (pc' := 865) (t := 877) hm293 rfl rfl rfl (fun hc => ?_) (fun hc => ?_)
    · replace h := h.1 hc
      refine wi_goto (t := 2734) hm293 rfl rfl ?_
      exact h
    · replace h := h.2 hc
      refine wi_aload_n (pc' := 866) hm293 rfl rfl rfl (by decide) ?_
      refine wi_iconst (pc' := 867) (v := 0) hm293 rfl rfl rfl ?_
      refine wi_laload (pc' := 868) hm293 rfl rfl rfl (N := 1) rfl (by decide) ?_
      refine wi_iload (pc' := 870) hm293 rfl rfl rfl ?_
      refine wi_i2l (pc' := 871) hm293 rfl rfl ?_
      refine wi_lcmp (pc' := 872) hm293 rfl rfl ?_
      refine wi_if_eq (pc' := 875) (t := 877) hm293 rfl rfl rfl (fun hc => ?_) (fun hc => ?_)
      · replace h := h.1 hc
        refine wi_goto (t := 2734) hm293 rfl rfl ?_
        exact h
      · replace h := h.2 hc
        refine wi_iconst (pc' := 876) (v := 0) hm293 rfl rfl rfl ?_
        exact wi_zret hm293 rfl (by decide) h
  · replace h := h.2 hc
    refine wi_iconst (pc' := 859) (v := 0) hm293 rfl rfl rfl ?_
    exact wi_zret hm293 rfl (by decide) h
set_option maxRecDepth 100000 in
theorem t293_880 {x4 : Int} {w5 w6 : fx_V} {σ : fx_S} {Q : fx_V → fx_S → Prop} (h : fx_CI 269 [(10, 0), (61, 0)] σ Q (fun y1 σ1 => fx_CI 214 [(46, 0)] σ1 Q (fun y2 σ2 => fx_CI 148 [(46, 0)] σ2 Q (fun y3 σ3 => ((y3 = y1 → ((y1 ≠ 0 → fx_Wp 293 2734 [(9, 0), (10, 0), (46, 0), (61, 0), (0, x4), (0, y1), (0, y2)] [] σ3 Q) ∧ (y1 = 0 → (((fx_cmp (σ3 61 0 0) y2) = 0 → fx_Wp 293 2734 [(9, 0), (10, 0), (46, 0), (61, 0), (0, x4), (0, y1), (0, y2)] [] σ3 Q) ∧ ((fx_cmp (σ3 61 0 0) y2) ≠ 0 → Q (0, 0) σ3))))) ∧ (y3 ≠ y1 → Q (0, 0) σ3)))))) : fx_Wp 293 880 [(9, 0), (10, 0), (46, 0), (61, 0), (0, x4), w5, w6] [] σ Q := by
  refine wi_aload_n (pc' := 881) hm293 rfl rfl rfl (by decide) ?_
  refine wi_aload_n (pc' := 882) hm293 rfl rfl rfl (by decide) ?_
  refine wc_In (pc' := 885) (by decide) rfl (by decide) ((fx_wE hm293 rfl).trans (fx_exS (mj := 269) (as := [(10, 0), (61, 0)]) (rest := []) rfl rk269 rfl rfl rfl rfl)) h (fun y1 σ1 h => ?_)
  refine wi_istore (pc' := 887) (L' := [(9, 0), (10, 0), (46, 0), (61, 0), (0, x4), (0, y1), w6]) hm293 rfl rfl rfl ?_
  refine wi_aload_n (pc' := 888) hm293 rfl rfl rfl (by decide) ?_
  refine wc_In (pc' := 891) (by decide) rfl (by decide) ((fx_wE hm293 rfl).trans (fx_exV (mj := 214) (as := []) (rest := []) rfl rk214 rfl rfl rfl rfl rfl)) h (fun y2 σ2 h => ?_)
  refine wi_istore (pc' := 893) (L' := [(9, 0), (10, 0), (46, 0), (61, 0), (0, x4), (0, y1), (0, y2)]) hm293 rfl rfl rfl ?_
  refine wi_aload_n (pc' := 894) hm293 rfl rfl rfl (by decide) ?_
  refine wc_In (pc' := 897) (by decide) rfl (by decide) ((fx_wE hm293 rfl).trans (fx_exV (mj := 148) (as := []) (rest := []) rfl rk148 rfl rfl rfl rfl rfl)) h (fun y3 σ3 h => ?_)
  refine wi_iload (pc' := 899) hm293 rfl rfl rfl ?_
  refine wi_ic_eq (pc' := 902) (t := 904) hm293 rfl rfl rfl (fun hc => ?_) (fun hc => ?_)
  · replace h := h.1 hc
    refine wi_iload (pc' := 906) hm293 rfl rfl rfl ?_
    refine wi_if_ne (pc' := 909) (t := 921) hm293 rfl rfl rfl (fun hc => ?_) (fun hc => ?_)
    · replace h := h.1 hc
      refine wi_goto (t := 2734) hm293 rfl rfl ?_
      exact h
    · replace h := h.2 hc
      refine wi_aload_n (pc' := 910) hm293 rfl rfl rfl (by decide) ?_
      refine wi_iconst (pc' := 911) (v := 0) hm293 rfl rfl rfl ?_
      refine wi_laload (pc' := 912) hm293 rfl rfl rfl (N := 1) rfl (by decide) ?_
      refine wi_iload (pc' := 914) hm293 rfl rfl rfl ?_
      refine wi_i2l (pc' := 915) hm293 rfl rfl ?_
      refine wi_lcmp (pc' := 916) hm293 rfl rfl ?_
      refine wi_if_eq (pc' := 919) (t := 921) hm293 rfl rfl rfl (fun hc => ?_) (fun hc => ?_)
      · replace h := h.1 hc
        refine wi_goto (t := 2734) hm293 rfl rfl ?_
        exact h
      · replace h := h.2 hc
        refine wi_iconst (pc' := 920) (v := 0) hm293 rfl rfl rfl ?_
        exact wi_zret hm293 rfl (by decide) h
  · replace h := h.2 hc
    refine wi_iconst (pc' := 903) (v := 0) hm293 rfl rfl rfl ?_
    exact wi_zret hm293 rfl (by decide) h
set_option maxRecDepth 100000 in
theorem t293_924 {x4 : Int} {w5 w6 : fx_V} {σ : fx_S} {Q : fx_V → fx_S → Prop} (h : (fx_rg (x4 + 1)) ∧ (0 ≤ (x4 + 1) ∧ (x4 + 1) < σ 9 0 (-1)) ∧ (fx_rg (x4 + 2)) ∧ (0 ≤ (x4 + 2) ∧ (x4 + 2) < σ 9 0 (-1)) ∧ fx_CI 270 [(10, 0), (0, (σ 9 0 (x4 + 1))), (0, (σ 9 0 (x4 + 2))), (61, 0)] σ Q (fun y1 σ1 => (0 ≤ (x4 + 1) ∧ (x4 + 1) < σ1 9 0 (-1)) ∧ (0 ≤ (x4 + 2) ∧ (x4 + 2) < σ1 9 0 (-1)) ∧ fx_CI 215 [(46, 0), (0, (σ1 9 0 (x4 + 1))), (0, (σ1 9 0 (x4 + 2)))] σ1 Q (fun y2 σ2 => fx_CI 148 [(46, 0)] σ2 Q (fun y3 σ3 => ((y3 = y1 → ((y1 ≠ 0 → fx_Wp 293 2734 [(9, 0), (10, 0), (46, 0), (61, 0), (0, x4), (0, y1), (0, y2)] [] σ3 Q) ∧ (y1 = 0 → (((fx_cmp (σ3 61 0 0) y2) = 0 → fx_Wp 293 2734 [(9, 0), (10, 0), (46, 0), (61, 0), (0, x4), (0, y1), (0, y2)] [] σ3 Q) ∧ ((fx_cmp (σ3 61 0 0) y2) ≠ 0 → Q (0, 0) σ3))))) ∧ (y3 ≠ y1 → Q (0, 0) σ3)))))) : fx_Wp 293 924 [(9, 0), (10, 0), (46, 0), (61, 0), (0, x4), w5, w6] [] σ Q := by
  refine wi_aload_n (pc' := 925) hm293 rfl rfl rfl (by decide) ?_
  refine wi_aload_n (pc' := 926) hm293 rfl rfl rfl (by decide) ?_
  refine wi_iload (pc' := 928) hm293 rfl rfl rfl ?_
  refine wi_iconst (pc' := 929) (v := 1) hm293 rfl rfl rfl ?_
  obtain ⟨g1, h⟩ := h
  refine wi_iadd (pc' := 930) hm293 rfl rfl g1 ?_
  obtain ⟨g2, h⟩ := h
  refine wi_sload (pc' := 931) hm293 rfl rfl g2 ?_
  refine wi_aload_n (pc' := 932) hm293 rfl rfl rfl (by decide) ?_
  refine wi_iload (pc' := 934) hm293 rfl rfl rfl ?_
  refine wi_iconst (pc' := 935) (v := 2) hm293 rfl rfl rfl ?_
  obtain ⟨g3, h⟩ := h
  refine wi_iadd (pc' := 936) hm293 rfl rfl g3 ?_
  obtain ⟨g4, h⟩ := h
  refine wi_sload (pc' := 937) hm293 rfl rfl g4 ?_
  refine wi_aload_n (pc' := 938) hm293 rfl rfl rfl (by decide) ?_
  refine wc_In (pc' := 941) (by decide) rfl (by decide) ((fx_wE hm293 rfl).trans (fx_exS (mj := 270) (as := [(10, 0), (0, (σ 9 0 (x4 + 1))), (0, (σ 9 0 (x4 + 2))), (61, 0)]) (rest := []) rfl rk270 rfl rfl rfl rfl)) h (fun y1 σ1 h => ?_)
  refine wi_istore (pc' := 943) (L' := [(9, 0), (10, 0), (46, 0), (61, 0), (0, x4), (0, y1), w6]) hm293 rfl rfl rfl ?_
  refine wi_aload_n (pc' := 944) hm293 rfl rfl rfl (by decide) ?_
  refine wi_aload_n (pc' := 945) hm293 rfl rfl rfl (by decide) ?_
  refine wi_iload (pc' := 947) hm293 rfl rfl rfl ?_
  refine wi_iconst (pc' := 948) (v := 1) hm293 rfl rfl rfl ?_
  refine wi_iadd (pc' := 949) hm293 rfl rfl g1 ?_
  obtain ⟨g5, h⟩ := h
  refine wi_sload (pc' := 950) hm293 rfl rfl g5 ?_
  refine wi_aload_n (pc' := 951) hm293 rfl rfl rfl (by decide) ?_
  refine wi_iload (pc' := 953) hm293 rfl rfl rfl ?_
  refine wi_iconst (pc' := 954) (v := 2) hm293 rfl rfl rfl ?_
  refine wi_iadd (pc' := 955) hm293 rfl rfl g3 ?_
  obtain ⟨g6, h⟩ := h
  refine wi_sload (pc' := 956) hm293 rfl rfl g6 ?_
  refine wc_In (pc' := 959) (by decide) rfl (by decide) ((fx_wE hm293 rfl).trans (fx_exV (mj := 215) (as := [(0, (σ1 9 0 (x4 + 1))), (0, (σ1 9 0 (x4 + 2)))]) (rest := []) rfl rk215 rfl rfl rfl rfl rfl)) h (fun y2 σ2 h => ?_)
  refine wi_istore (pc' := 961) (L' := [(9, 0), (10, 0), (46, 0), (61, 0), (0, x4), (0, y1), (0, y2)]) hm293 rfl rfl rfl ?_
  refine wi_aload_n (pc' := 962) hm293 rfl rfl rfl (by decide) ?_
  refine wc_In (pc' := 965) (by decide) rfl (by decide) ((fx_wE hm293 rfl).trans (fx_exV (mj := 148) (as := []) (rest := []) rfl rk148 rfl rfl rfl rfl rfl)) h (fun y3 σ3 h => ?_)
  refine wi_iload (pc' := 967) hm293 rfl rfl rfl ?_
  refine wi_ic_eq (pc' := 970) (t := 972) hm293 rfl rfl rfl (fun hc => ?_) (fun hc => ?_)
  · replace h := h.1 hc
    refine wi_iload (pc' := 974) hm293 rfl rfl rfl ?_
    refine wi_if_ne (pc' := 977) (t := 989) hm293 rfl rfl rfl (fun hc => ?_) (fun hc => ?_)
    · replace h := h.1 hc
      refine wi_goto (t := 2734) hm293 rfl rfl ?_
      exact h
    · replace h := h.2 hc
      refine wi_aload_n (pc' := 978) hm293 rfl rfl rfl (by decide) ?_
      refine wi_iconst (pc' := 979) (v := 0) hm293 rfl rfl rfl ?_
      refine wi_laload (pc' := 980) hm293 rfl rfl rfl (N := 1) rfl (by decide) ?_
      refine wi_iload (pc' := 982) hm293 rfl rfl rfl ?_
      refine wi_i2l (pc' := 983) hm293 rfl rfl ?_
      refine wi_lcmp (pc' := 984) hm293 rfl rfl ?_
      refine wi_if_eq (pc' := 987) (t := 989) hm293 rfl rfl rfl (fun hc => ?_) (fun hc => ?_)
      · replace h := h.1 hc
        refine wi_goto (t := 2734) hm293 rfl rfl ?_
        exact h
      · replace h := h.2 hc
        refine wi_iconst (pc' := 988) (v := 0) hm293 rfl rfl rfl ?_
        exact wi_zret hm293 rfl (by decide) h
  · replace h := h.2 hc
    refine wi_iconst (pc' := 971) (v := 0) hm293 rfl rfl rfl ?_
    exact wi_zret hm293 rfl (by decide) h
set_option maxRecDepth 100000 in
theorem t293_992 {x4 : Int} {w5 w6 : fx_V} {σ : fx_S} {Q : fx_V → fx_S → Prop} (h : (fx_rg (x4 + 1)) ∧ (0 ≤ (x4 + 1) ∧ (x4 + 1) < σ 9 0 (-1)) ∧ (fx_rg (x4 + 2)) ∧ (0 ≤ (x4 + 2) ∧ (x4 + 2) < σ 9 0 (-1)) ∧ (fx_rg (x4 + 3)) ∧ (0 ≤ (x4 + 3) ∧ (x4 + 3) < σ 9 0 (-1)) ∧ fx_CI 271 [(10, 0), (0, (σ 9 0 (x4 + 1))), (0, (σ 9 0 (x4 + 2))), (0, (σ 9 0 (x4 + 3))), (61, 0)] σ Q (fun y1 σ1 => (0 ≤ (x4 + 1) ∧ (x4 + 1) < σ1 9 0 (-1)) ∧ (0 ≤ (x4 + 2) ∧ (x4 + 2) < σ1 9 0 (-1)) ∧ (0 ≤ (x4 + 3) ∧ (x4 + 3) < σ1 9 0 (-1)) ∧ fx_CI 216 [(46, 0), (0, (σ1 9 0 (x4 + 1))), (0, (σ1 9 0 (x4 + 2))), (0, (σ1 9 0 (x4 + 3)))] σ1 Q (fun y2 σ2 => fx_CI 148 [(46, 0)] σ2 Q (fun y3 σ3 => ((y3 = y1 → ((y1 ≠ 0 → fx_Wp 293 2734 [(9, 0), (10, 0), (46, 0), (61, 0), (0, x4), (0, y1), (0, y2)] [] σ3 Q) ∧ (y1 = 0 → (((fx_cmp (σ3 61 0 0) y2) = 0 → fx_Wp 293 2734 [(9, 0), (10, 0), (46, 0), (61, 0), (0, x4), (0, y1), (0, y2)] [] σ3 Q) ∧ ((fx_cmp (σ3 61 0 0) y2) ≠ 0 → Q (0, 0) σ3))))) ∧ (y3 ≠ y1 → Q (0, 0) σ3)))))) : fx_Wp 293 992 [(9, 0), (10, 0), (46, 0), (61, 0), (0, x4), w5, w6] [] σ Q := by
  refine wi_aload_n (pc' := 993) hm293 rfl rfl rfl (by decide) ?_
  refine wi_aload_n (pc' := 994) hm293 rfl rfl rfl (by decide) ?_
  refine wi_iload (pc' := 996) hm293 rfl rfl rfl ?_
  refine wi_iconst (pc' := 997) (v := 1) hm293 rfl rfl rfl ?_
  obtain ⟨g1, h⟩ := h
  refine wi_iadd (pc' := 998) hm293 rfl rfl g1 ?_
  obtain ⟨g2, h⟩ := h
  refine wi_sload (pc' := 999) hm293 rfl rfl g2 ?_
  refine wi_aload_n (pc' := 1000) hm293 rfl rfl rfl (by decide) ?_
  refine wi_iload (pc' := 1002) hm293 rfl rfl rfl ?_
  refine wi_iconst (pc' := 1003) (v := 2) hm293 rfl rfl rfl ?_
  obtain ⟨g3, h⟩ := h
  refine wi_iadd (pc' := 1004) hm293 rfl rfl g3 ?_
  obtain ⟨g4, h⟩ := h
  refine wi_sload (pc' := 1005) hm293 rfl rfl g4 ?_
  refine wi_aload_n (pc' := 1006) hm293 rfl rfl rfl (by decide) ?_
  refine wi_iload (pc' := 1008) hm293 rfl rfl rfl ?_
  refine wi_iconst (pc' := 1009) (v := 3) hm293 rfl rfl rfl ?_
  obtain ⟨g5, h⟩ := h
  refine wi_iadd (pc' := 1010) hm293 rfl rfl g5 ?_
  obtain ⟨g6, h⟩ := h
  refine wi_sload (pc' := 1011) hm293 rfl rfl g6 ?_
  refine wi_aload_n (pc' := 1012) hm293 rfl rfl rfl (by decide) ?_
  refine wc_In (pc' := 1015) (by decide) rfl (by decide) ((fx_wE hm293 rfl).trans (fx_exS (mj := 271) (as := [(10, 0), (0, (σ 9 0 (x4 + 1))), (0, (σ 9 0 (x4 + 2))), (0, (σ 9 0 (x4 + 3))), (61, 0)]) (rest := []) rfl rk271 rfl rfl rfl rfl)) h (fun y1 σ1 h => ?_)
  refine wi_istore (pc' := 1017) (L' := [(9, 0), (10, 0), (46, 0), (61, 0), (0, x4), (0, y1), w6]) hm293 rfl rfl rfl ?_
  refine wi_aload_n (pc' := 1018) hm293 rfl rfl rfl (by decide) ?_
  refine wi_aload_n (pc' := 1019) hm293 rfl rfl rfl (by decide) ?_
  refine wi_iload (pc' := 1021) hm293 rfl rfl rfl ?_
  refine wi_iconst (pc' := 1022) (v := 1) hm293 rfl rfl rfl ?_
  refine wi_iadd (pc' := 1023) hm293 rfl rfl g1 ?_
  obtain ⟨g7, h⟩ := h
  refine wi_sload (pc' := 1024) hm293 rfl rfl g7 ?_
  refine wi_aload_n (pc' := 1025) hm293 rfl rfl rfl (by decide) ?_
  refine wi_iload (pc' := 1027) hm293 rfl rfl rfl ?_
  refine wi_iconst (pc' := 1028) (v := 2) hm293 rfl rfl rfl ?_
  refine wi_iadd (pc' := 1029) hm293 rfl rfl g3 ?_
  obtain ⟨g8, h⟩ := h
  refine wi_sload (pc' := 1030) hm293 rfl rfl g8 ?_
  refine wi_aload_n (pc' := 1031) hm293 rfl rfl rfl (by decide) ?_
  refine wi_iload (pc' := 1033) hm293 rfl rfl rfl ?_
  refine wi_iconst (pc' := 1034) (v := 3) hm293 rfl rfl rfl ?_
  refine wi_iadd (pc' := 1035) hm293 rfl rfl g5 ?_
  obtain ⟨g9, h⟩ := h
  refine wi_sload (pc' := 1036) hm293 rfl rfl g9 ?_
  refine wc_In (pc' := 1039) (by decide) rfl (by decide) ((fx_wE hm293 rfl).trans (fx_exV (mj := 216) (as := [(0, (σ1 9 0 (x4 + 1))), (0, (σ1 9 0 (x4 + 2))), (0, (σ1 9 0 (x4 + 3)))]) (rest := []) rfl rk216 rfl rfl rfl rfl rfl)) h (fun y2 σ2 h => ?_)
  refine wi_istore (pc' := 1041) (L' := [(9, 0), (10, 0), (46, 0), (61, 0), (0, x4), (0, y1), (0, y2)]) hm293 rfl rfl rfl ?_
  refine wi_aload_n (pc' := 1042) hm293 rfl rfl rfl (by decide) ?_
  refine wc_In (pc' := 1045) (by decide) rfl (by decide) ((fx_wE hm293 rfl).trans (fx_exV (mj := 148) (as := []) (rest := []) rfl rk148 rfl rfl rfl rfl rfl)) h (fun y3 σ3 h => ?_)
  refine wi_iload (pc' := 1047) hm293 rfl rfl rfl ?_
  refine wi_ic_eq (pc' := 1050) (t := 1052) hm293 rfl rfl rfl (fun hc => ?_) (fun hc => ?_)
  · replace h := h.1 hc
    refine wi_iload (pc' := 1054) hm293 rfl rfl rfl ?_
    refine wi_if_ne (pc' := 1057) (t := 1069) hm293 rfl rfl rfl (fun hc => ?_) (fun hc => ?_)
    · replace h := h.1 hc
      refine wi_goto (t := 2734) hm293 rfl rfl ?_
      exact h
    · replace h := h.2 hc
      refine wi_aload_n (pc' := 1058) hm293 rfl rfl rfl (by decide) ?_
      refine wi_iconst (pc' := 1059) (v := 0) hm293 rfl rfl rfl ?_
      refine wi_laload (pc' := 1060) hm293 rfl rfl rfl (N := 1) rfl (by decide) ?_
      refine wi_iload (pc' := 1062) hm293 rfl rfl rfl ?_
      refine wi_i2l (pc' := 1063) hm293 rfl rfl ?_
      refine wi_lcmp (pc' := 1064) hm293 rfl rfl ?_
      refine wi_if_eq (pc' := 1067) (t := 1069) hm293 rfl rfl rfl (fun hc => ?_) (fun hc => ?_)
      · replace h := h.1 hc
        refine wi_goto (t := 2734) hm293 rfl rfl ?_
        exact h
      · replace h := h.2 hc
        refine wi_iconst (pc' := 1068) (v := 0) hm293 rfl rfl rfl ?_
        exact wi_zret hm293 rfl (by decide) h
  · replace h := h.2 hc
    refine wi_iconst (pc' := 1051) (v := 0) hm293 rfl rfl rfl ?_
    exact wi_zret hm293 rfl (by decide) h
set_option maxRecDepth 100000 in
theorem t293_1072 {x4 : Int} {w5 w6 : fx_V} {σ : fx_S} {Q : fx_V → fx_S → Prop} (h : (fx_rg (x4 + 1)) ∧ (0 ≤ (x4 + 1) ∧ (x4 + 1) < σ 9 0 (-1)) ∧ (fx_rg (x4 + 2)) ∧ (0 ≤ (x4 + 2) ∧ (x4 + 2) < σ 9 0 (-1)) ∧ (fx_rg (x4 + 3)) ∧ (0 ≤ (x4 + 3) ∧ (x4 + 3) < σ 9 0 (-1)) ∧ fx_CI 272 [(10, 0), (0, (σ 9 0 (x4 + 1))), (0, (σ 9 0 (x4 + 2))), (0, (σ 9 0 (x4 + 3))), (61, 0)] σ Q (fun y1 σ1 => (0 ≤ (x4 + 1) ∧ (x4 + 1) < σ1 9 0 (-1)) ∧ (0 ≤ (x4 + 2) ∧ (x4 + 2) < σ1 9 0 (-1)) ∧ (0 ≤ (x4 + 3) ∧ (x4 + 3) < σ1 9 0 (-1)) ∧ fx_CI 217 [(46, 0), (0, (σ1 9 0 (x4 + 1))), (0, (σ1 9 0 (x4 + 2))), (0, (σ1 9 0 (x4 + 3)))] σ1 Q (fun y2 σ2 => fx_CI 148 [(46, 0)] σ2 Q (fun y3 σ3 => ((y3 = y1 → ((y1 ≠ 0 → fx_Wp 293 2734 [(9, 0), (10, 0), (46, 0), (61, 0), (0, x4), (0, y1), (0, y2)] [] σ3 Q) ∧ (y1 = 0 → (((fx_cmp (σ3 61 0 0) y2) = 0 → fx_Wp 293 2734 [(9, 0), (10, 0), (46, 0), (61, 0), (0, x4), (0, y1), (0, y2)] [] σ3 Q) ∧ ((fx_cmp (σ3 61 0 0) y2) ≠ 0 → Q (0, 0) σ3))))) ∧ (y3 ≠ y1 → Q (0, 0) σ3)))))) : fx_Wp 293 1072 [(9, 0), (10, 0), (46, 0), (61, 0), (0, x4), w5, w6] [] σ Q := by
  refine wi_aload_n (pc' := 1073) hm293 rfl rfl rfl (by decide) ?_
  refine wi_aload_n (pc' := 1074) hm293 rfl rfl rfl (by decide) ?_
  refine wi_iload (pc' := 1076) hm293 rfl rfl rfl ?_
  refine wi_iconst (pc' := 1077) (v := 1) hm293 rfl rfl rfl ?_
  obtain ⟨g1, h⟩ := h
  refine wi_iadd (pc' := 1078) hm293 rfl rfl g1 ?_
  obtain ⟨g2, h⟩ := h
  refine wi_sload (pc' := 1079) hm293 rfl rfl g2 ?_
  refine wi_aload_n (pc' := 1080) hm293 rfl rfl rfl (by decide) ?_
  refine wi_iload (pc' := 1082) hm293 rfl rfl rfl ?_
  refine wi_iconst (pc' := 1083) (v := 2) hm293 rfl rfl rfl ?_
  obtain ⟨g3, h⟩ := h
  refine wi_iadd (pc' := 1084) hm293 rfl rfl g3 ?_
  obtain ⟨g4, h⟩ := h
  refine wi_sload (pc' := 1085) hm293 rfl rfl g4 ?_
  refine wi_aload_n (pc' := 1086) hm293 rfl rfl rfl (by decide) ?_
  refine wi_iload (pc' := 1088) hm293 rfl rfl rfl ?_
  refine wi_iconst (pc' := 1089) (v := 3) hm293 rfl rfl rfl ?_
  obtain ⟨g5, h⟩ := h
  refine wi_iadd (pc' := 1090) hm293 rfl rfl g5 ?_
  obtain ⟨g6, h⟩ := h
  refine wi_sload (pc' := 1091) hm293 rfl rfl g6 ?_
  refine wi_aload_n (pc' := 1092) hm293 rfl rfl rfl (by decide) ?_
  refine wc_In (pc' := 1095) (by decide) rfl (by decide) ((fx_wE hm293 rfl).trans (fx_exS (mj := 272) (as := [(10, 0), (0, (σ 9 0 (x4 + 1))), (0, (σ 9 0 (x4 + 2))), (0, (σ 9 0 (x4 + 3))), (61, 0)]) (rest := []) rfl rk272 rfl rfl rfl rfl)) h (fun y1 σ1 h => ?_)
  refine wi_istore (pc' := 1097) (L' := [(9, 0), (10, 0), (46, 0), (61, 0), (0, x4), (0, y1), w6]) hm293 rfl rfl rfl ?_
  refine wi_aload_n (pc' := 1098) hm293 rfl rfl rfl (by decide) ?_
  refine wi_aload_n (pc' := 1099) hm293 rfl rfl rfl (by decide) ?_
  refine wi_iload (pc' := 1101) hm293 rfl rfl rfl ?_
  refine wi_iconst (pc' := 1102) (v := 1) hm293 rfl rfl rfl ?_
  refine wi_iadd (pc' := 1103) hm293 rfl rfl g1 ?_
  obtain ⟨g7, h⟩ := h
  refine wi_sload (pc' := 1104) hm293 rfl rfl g7 ?_
  refine wi_aload_n (pc' := 1105) hm293 rfl rfl rfl (by decide) ?_
  refine wi_iload (pc' := 1107) hm293 rfl rfl rfl ?_
  refine wi_iconst (pc' := 1108) (v := 2) hm293 rfl rfl rfl ?_
  refine wi_iadd (pc' := 1109) hm293 rfl rfl g3 ?_
  obtain ⟨g8, h⟩ := h
  refine wi_sload (pc' := 1110) hm293 rfl rfl g8 ?_
  refine wi_aload_n (pc' := 1111) hm293 rfl rfl rfl (by decide) ?_
  refine wi_iload (pc' := 1113) hm293 rfl rfl rfl ?_
  refine wi_iconst (pc' := 1114) (v := 3) hm293 rfl rfl rfl ?_
  refine wi_iadd (pc' := 1115) hm293 rfl rfl g5 ?_
  obtain ⟨g9, h⟩ := h
  refine wi_sload (pc' := 1116) hm293 rfl rfl g9 ?_
  refine wc_In (pc' := 1119) (by decide) rfl (by decide) ((fx_wE hm293 rfl).trans (fx_exV (mj := 217) (as := [(0, (σ1 9 0 (x4 + 1))), (0, (σ1 9 0 (x4 + 2))), (0, (σ1 9 0 (x4 + 3)))]) (rest := []) rfl rk217 rfl rfl rfl rfl rfl)) h (fun y2 σ2 h => ?_)
  refine wi_istore (pc' := 1121) (L' := [(9, 0), (10, 0), (46, 0), (61, 0), (0, x4), (0, y1), (0, y2)]) hm293 rfl rfl rfl ?_
  refine wi_aload_n (pc' := 1122) hm293 rfl rfl rfl (by decide) ?_
  refine wc_In (pc' := 1125) (by decide) rfl (by decide) ((fx_wE hm293 rfl).trans (fx_exV (mj := 148) (as := []) (rest := []) rfl rk148 rfl rfl rfl rfl rfl)) h (fun y3 σ3 h => ?_)
  refine wi_iload (pc' := 1127) hm293 rfl rfl rfl ?_
  refine wi_ic_eq (pc' := 1130) (t := 1132) hm293 rfl rfl rfl (fun hc => ?_) (fun hc => ?_)
  · replace h := h.1 hc
    refine wi_iload (pc' := 1134) hm293 rfl rfl rfl ?_
    refine wi_if_ne (pc' := 1137) (t := 1149) hm293 rfl rfl rfl (fun hc => ?_) (fun hc => ?_)
    · replace h := h.1 hc
      refine wi_goto (t := 2734) hm293 rfl rfl ?_
      exact h
    · replace h := h.2 hc
      refine wi_aload_n (pc' := 1138) hm293 rfl rfl rfl (by decide) ?_
      refine wi_iconst (pc' := 1139) (v := 0) hm293 rfl rfl rfl ?_
      refine wi_laload (pc' := 1140) hm293 rfl rfl rfl (N := 1) rfl (by decide) ?_
      refine wi_iload (pc' := 1142) hm293 rfl rfl rfl ?_
      refine wi_i2l (pc' := 1143) hm293 rfl rfl ?_
      refine wi_lcmp (pc' := 1144) hm293 rfl rfl ?_
      refine wi_if_eq (pc' := 1147) (t := 1149) hm293 rfl rfl rfl (fun hc => ?_) (fun hc => ?_)
      · replace h := h.1 hc
        refine wi_goto (t := 2734) hm293 rfl rfl ?_
        exact h
      · replace h := h.2 hc
        refine wi_iconst (pc' := 1148) (v := 0) hm293 rfl rfl rfl ?_
        exact wi_zret hm293 rfl (by decide) h
  · replace h := h.2 hc
    refine wi_iconst (pc' := 1131) (v := 0) hm293 rfl rfl rfl ?_
    exact wi_zret hm293 rfl (by decide) h
set_option maxRecDepth 100000 in
theorem t293_1152 {x4 : Int} {w5 w6 : fx_V} {σ : fx_S} {Q : fx_V → fx_S → Prop} (h : (fx_rg (x4 + 1)) ∧ (0 ≤ (x4 + 1) ∧ (x4 + 1) < σ 9 0 (-1)) ∧ (fx_rg (x4 + 2)) ∧ (0 ≤ (x4 + 2) ∧ (x4 + 2) < σ 9 0 (-1)) ∧ (fx_rg (x4 + 3)) ∧ (0 ≤ (x4 + 3) ∧ (x4 + 3) < σ 9 0 (-1)) ∧ fx_CI 273 [(10, 0), (0, (σ 9 0 (x4 + 1))), (0, (σ 9 0 (x4 + 2))), (0, (σ 9 0 (x4 + 3))), (61, 0)] σ Q (fun y1 σ1 => (0 ≤ (x4 + 1) ∧ (x4 + 1) < σ1 9 0 (-1)) ∧ (0 ≤ (x4 + 2) ∧ (x4 + 2) < σ1 9 0 (-1)) ∧ (0 ≤ (x4 + 3) ∧ (x4 + 3) < σ1 9 0 (-1)) ∧ fx_CI 220 [(46, 0), (0, (σ1 9 0 (x4 + 1))), (0, (σ1 9 0 (x4 + 2))), (0, (σ1 9 0 (x4 + 3)))] σ1 Q (fun y2 σ2 => fx_CI 148 [(46, 0)] σ2 Q (fun y3 σ3 => ((y3 = y1 → ((y1 ≠ 0 → fx_Wp 293 2734 [(9, 0), (10, 0), (46, 0), (61, 0), (0, x4), (0, y1), (0, y2)] [] σ3 Q) ∧ (y1 = 0 → (((fx_cmp (σ3 61 0 0) y2) = 0 → fx_Wp 293 2734 [(9, 0), (10, 0), (46, 0), (61, 0), (0, x4), (0, y1), (0, y2)] [] σ3 Q) ∧ ((fx_cmp (σ3 61 0 0) y2) ≠ 0 → Q (0, 0) σ3))))) ∧ (y3 ≠ y1 → Q (0, 0) σ3)))))) : fx_Wp 293 1152 [(9, 0), (10, 0), (46, 0), (61, 0), (0, x4), w5, w6] [] σ Q := by
  refine wi_aload_n (pc' := 1153) hm293 rfl rfl rfl (by decide) ?_
  refine wi_aload_n (pc' := 1154) hm293 rfl rfl rfl (by decide) ?_
  refine wi_iload (pc' := 1156) hm293 rfl rfl rfl ?_
  refine wi_iconst (pc' := 1157) (v := 1) hm293 rfl rfl rfl ?_
  obtain ⟨g1, h⟩ := h
  refine wi_iadd (pc' := 1158) hm293 rfl rfl g1 ?_
  obtain ⟨g2, h⟩ := h
  refine wi_sload (pc' := 1159) hm293 rfl rfl g2 ?_
  refine wi_aload_n (pc' := 1160) hm293 rfl rfl rfl (by decide) ?_
  refine wi_iload (pc' := 1162) hm293 rfl rfl rfl ?_
  refine wi_iconst (pc' := 1163) (v := 2) hm293 rfl rfl rfl ?_
  obtain ⟨g3, h⟩ := h
  refine wi_iadd (pc' := 1164) hm293 rfl rfl g3 ?_
  obtain ⟨g4, h⟩ := h
  refine wi_sload (pc' := 1165) hm293 rfl rfl g4 ?_
  refine wi_aload_n (pc' := 1166) hm293 rfl rfl rfl (by decide) ?_
  refine wi_iload (pc' := 1168) hm293 rfl rfl rfl ?_
  refine wi_iconst (pc' := 1169) (v := 3) hm293 rfl rfl rfl ?_
  obtain ⟨g5, h⟩ := h
  refine wi_iadd (pc' := 1170) hm293 rfl rfl g5 ?_
  obtain ⟨g6, h⟩ := h
  refine wi_sload (pc' := 1171) hm293 rfl rfl g6 ?_
  refine wi_aload_n (pc' := 1172) hm293 rfl rfl rfl (by decide) ?_
  refine wc_In (pc' := 1175) (by decide) rfl (by decide) ((fx_wE hm293 rfl).trans (fx_exS (mj := 273) (as := [(10, 0), (0, (σ 9 0 (x4 + 1))), (0, (σ 9 0 (x4 + 2))), (0, (σ 9 0 (x4 + 3))), (61, 0)]) (rest := []) rfl rk273 rfl rfl rfl rfl)) h (fun y1 σ1 h => ?_)
  refine wi_istore (pc' := 1177) (L' := [(9, 0), (10, 0), (46, 0), (61, 0), (0, x4), (0, y1), w6]) hm293 rfl rfl rfl ?_
  refine wi_aload_n (pc' := 1178) hm293 rfl rfl rfl (by decide) ?_
  refine wi_aload_n (pc' := 1179) hm293 rfl rfl rfl (by decide) ?_
  refine wi_iload (pc' := 1181) hm293 rfl rfl rfl ?_
  refine wi_iconst (pc' := 1182) (v := 1) hm293 rfl rfl rfl ?_
  refine wi_iadd (pc' := 1183) hm293 rfl rfl g1 ?_
  obtain ⟨g7, h⟩ := h
  refine wi_sload (pc' := 1184) hm293 rfl rfl g7 ?_
  refine wi_aload_n (pc' := 1185) hm293 rfl rfl rfl (by decide) ?_
  refine wi_iload (pc' := 1187) hm293 rfl rfl rfl ?_
  refine wi_iconst (pc' := 1188) (v := 2) hm293 rfl rfl rfl ?_
  refine wi_iadd (pc' := 1189) hm293 rfl rfl g3 ?_
  obtain ⟨g8, h⟩ := h
  refine wi_sload (pc' := 1190) hm293 rfl rfl g8 ?_
  refine wi_aload_n (pc' := 1191) hm293 rfl rfl rfl (by decide) ?_
  refine wi_iload (pc' := 1193) hm293 rfl rfl rfl ?_
  refine wi_iconst (pc' := 1194) (v := 3) hm293 rfl rfl rfl ?_
  refine wi_iadd (pc' := 1195) hm293 rfl rfl g5 ?_
  obtain ⟨g9, h⟩ := h
  refine wi_sload (pc' := 1196) hm293 rfl rfl g9 ?_
  refine wc_In (pc' := 1199) (by decide) rfl (by decide) ((fx_wE hm293 rfl).trans (fx_exV (mj := 220) (as := [(0, (σ1 9 0 (x4 + 1))), (0, (σ1 9 0 (x4 + 2))), (0, (σ1 9 0 (x4 + 3)))]) (rest := []) rfl rk220 rfl rfl rfl rfl rfl)) h (fun y2 σ2 h => ?_)
  refine wi_istore (pc' := 1201) (L' := [(9, 0), (10, 0), (46, 0), (61, 0), (0, x4), (0, y1), (0, y2)]) hm293 rfl rfl rfl ?_
  refine wi_aload_n (pc' := 1202) hm293 rfl rfl rfl (by decide) ?_
  refine wc_In (pc' := 1205) (by decide) rfl (by decide) ((fx_wE hm293 rfl).trans (fx_exV (mj := 148) (as := []) (rest := []) rfl rk148 rfl rfl rfl rfl rfl)) h (fun y3 σ3 h => ?_)
  refine wi_iload (pc' := 1207) hm293 rfl rfl rfl ?_
  refine wi_ic_eq (pc' := 1210) (t := 1212) hm293 rfl rfl rfl (fun hc => ?_) (fun hc => ?_)
  · replace h := h.1 hc
    refine wi_iload (pc' := 1214) hm293 rfl rfl rfl ?_
    refine wi_if_ne (pc' := 1217) (t := 1229) hm293 rfl rfl rfl (fun hc => ?_) (fun hc => ?_)
    · replace h := h.1 hc
      refine wi_goto (t := 2734) hm293 rfl rfl ?_
      exact h
    · replace h := h.2 hc
      refine wi_aload_n (pc' := 1218) hm293 rfl rfl rfl (by decide) ?_
      refine wi_iconst (pc' := 1219) (v := 0) hm293 rfl rfl rfl ?_
      refine wi_laload (pc' := 1220) hm293 rfl rfl rfl (N := 1) rfl (by decide) ?_
      refine wi_iload (pc' := 1222) hm293 rfl rfl rfl ?_
      refine wi_i2l (pc' := 1223) hm293 rfl rfl ?_
      refine wi_lcmp (pc' := 1224) hm293 rfl rfl ?_
      refine wi_if_eq (pc' := 1227) (t := 1229) hm293 rfl rfl rfl (fun hc => ?_) (fun hc => ?_)
      · replace h := h.1 hc
        refine wi_goto (t := 2734) hm293 rfl rfl ?_
        exact h
      · replace h := h.2 hc
        refine wi_iconst (pc' := 1228) (v := 0) hm293 rfl rfl rfl ?_
        exact wi_zret hm293 rfl (by decide) h
  · replace h := h.2 hc
    refine wi_iconst (pc' := 1211) (v := 0) hm293 rfl rfl rfl ?_
    exact wi_zret hm293 rfl (by decide) h
set_option maxRecDepth 100000 in
theorem t293_1232 {x4 : Int} {w5 w6 : fx_V} {σ : fx_S} {Q : fx_V → fx_S → Prop} (h : (fx_rg (x4 + 1)) ∧ (0 ≤ (x4 + 1) ∧ (x4 + 1) < σ 9 0 (-1)) ∧ (fx_rg (x4 + 2)) ∧ (0 ≤ (x4 + 2) ∧ (x4 + 2) < σ 9 0 (-1)) ∧ (fx_rg (x4 + 3)) ∧ (0 ≤ (x4 + 3) ∧ (x4 + 3) < σ 9 0 (-1)) ∧ fx_CI 274 [(10, 0), (0, (σ 9 0 (x4 + 1))), (0, (σ 9 0 (x4 + 2))), (0, (σ 9 0 (x4 + 3))), (61, 0)] σ Q (fun y1 σ1 => (0 ≤ (x4 + 1) ∧ (x4 + 1) < σ1 9 0 (-1)) ∧ (0 ≤ (x4 + 2) ∧ (x4 + 2) < σ1 9 0 (-1)) ∧ (0 ≤ (x4 + 3) ∧ (x4 + 3) < σ1 9 0 (-1)) ∧ fx_CI 221 [(46, 0), (0, (σ1 9 0 (x4 + 1))), (0, (σ1 9 0 (x4 + 2))), (0, (σ1 9 0 (x4 + 3)))] σ1 Q (fun y2 σ2 => fx_CI 148 [(46, 0)] σ2 Q (fun y3 σ3 => ((y3 = y1 → ((y1 ≠ 0 → fx_Wp 293 2734 [(9, 0), (10, 0), (46, 0), (61, 0), (0, x4), (0, y1), (0, y2)] [] σ3 Q) ∧ (y1 = 0 → (((fx_cmp (σ3 61 0 0) y2) = 0 → fx_Wp 293 2734 [(9, 0), (10, 0), (46, 0), (61, 0), (0, x4), (0, y1), (0, y2)] [] σ3 Q) ∧ ((fx_cmp (σ3 61 0 0) y2) ≠ 0 → Q (0, 0) σ3))))) ∧ (y3 ≠ y1 → Q (0, 0) σ3)))))) : fx_Wp 293 1232 [(9, 0), (10, 0), (46, 0), (61, 0), (0, x4), w5, w6] [] σ Q := by
  refine wi_aload_n (pc' := 1233) hm293 rfl rfl rfl (by decide) ?_
  refine wi_aload_n (pc' := 1234) hm293 rfl rfl rfl (by decide) ?_
  refine wi_iload (pc' := 1236) hm293 rfl rfl rfl ?_
  refine wi_iconst (pc' := 1237) (v := 1) hm293 rfl rfl rfl ?_
  obtain ⟨g1, h⟩ := h
  refine wi_iadd (pc' := 1238) hm293 rfl rfl g1 ?_
  obtain ⟨g2, h⟩ := h
  refine wi_sload (pc' := 1239) hm293 rfl rfl g2 ?_
  refine wi_aload_n (pc' := 1240) hm293 rfl rfl rfl (by decide) ?_
  refine wi_iload (pc' := 1242) hm293 rfl rfl rfl ?_
  refine wi_iconst (pc' := 1243) (v := 2) hm293 rfl rfl rfl ?_
  obtain ⟨g3, h⟩ := h
  refine wi_iadd (pc' := 1244) hm293 rfl rfl g3 ?_
  obtain ⟨g4, h⟩ := h
  refine wi_sload (pc' := 1245) hm293 rfl rfl g4 ?_
  refine wi_aload_n (pc' := 1246) hm293 rfl rfl rfl (by decide) ?_
  refine wi_iload (pc' := 1248) hm293 rfl rfl rfl ?_
  refine wi_iconst (pc' := 1249) (v := 3) hm293 rfl rfl rfl ?_
  obtain ⟨g5, h⟩ := h
  refine wi_iadd (pc' := 1250) hm293 rfl rfl g5 ?_
  obtain ⟨g6, h⟩ := h
  refine wi_sload (pc' := 1251) hm293 rfl rfl g6 ?_
  refine wi_aload_n (pc' := 1252) hm293 rfl rfl rfl (by decide) ?_
  refine wc_In (pc' := 1255) (by decide) rfl (by decide) ((fx_wE hm293 rfl).trans (fx_exS (mj := 274) (as := [(10, 0), (0, (σ 9 0 (x4 + 1))), (0, (σ 9 0 (x4 + 2))), (0, (σ 9 0 (x4 + 3))), (61, 0)]) (rest := []) rfl rk274 rfl rfl rfl rfl)) h (fun y1 σ1 h => ?_)
  refine wi_istore (pc' := 1257) (L' := [(9, 0), (10, 0), (46, 0), (61, 0), (0, x4), (0, y1), w6]) hm293 rfl rfl rfl ?_
  refine wi_aload_n (pc' := 1258) hm293 rfl rfl rfl (by decide) ?_
  refine wi_aload_n (pc' := 1259) hm293 rfl rfl rfl (by decide) ?_
  refine wi_iload (pc' := 1261) hm293 rfl rfl rfl ?_
  refine wi_iconst (pc' := 1262) (v := 1) hm293 rfl rfl rfl ?_
  refine wi_iadd (pc' := 1263) hm293 rfl rfl g1 ?_
  obtain ⟨g7, h⟩ := h
  refine wi_sload (pc' := 1264) hm293 rfl rfl g7 ?_
  refine wi_aload_n (pc' := 1265) hm293 rfl rfl rfl (by decide) ?_
  refine wi_iload (pc' := 1267) hm293 rfl rfl rfl ?_
  refine wi_iconst (pc' := 1268) (v := 2) hm293 rfl rfl rfl ?_
  refine wi_iadd (pc' := 1269) hm293 rfl rfl g3 ?_
  obtain ⟨g8, h⟩ := h
  refine wi_sload (pc' := 1270) hm293 rfl rfl g8 ?_
  refine wi_aload_n (pc' := 1271) hm293 rfl rfl rfl (by decide) ?_
  refine wi_iload (pc' := 1273) hm293 rfl rfl rfl ?_
  refine wi_iconst (pc' := 1274) (v := 3) hm293 rfl rfl rfl ?_
  refine wi_iadd (pc' := 1275) hm293 rfl rfl g5 ?_
  obtain ⟨g9, h⟩ := h
  refine wi_sload (pc' := 1276) hm293 rfl rfl g9 ?_
  refine wc_In (pc' := 1279) (by decide) rfl (by decide) ((fx_wE hm293 rfl).trans (fx_exV (mj := 221) (as := [(0, (σ1 9 0 (x4 + 1))), (0, (σ1 9 0 (x4 + 2))), (0, (σ1 9 0 (x4 + 3)))]) (rest := []) rfl rk221 rfl rfl rfl rfl rfl)) h (fun y2 σ2 h => ?_)
  refine wi_istore (pc' := 1281) (L' := [(9, 0), (10, 0), (46, 0), (61, 0), (0, x4), (0, y1), (0, y2)]) hm293 rfl rfl rfl ?_
  refine wi_aload_n (pc' := 1282) hm293 rfl rfl rfl (by decide) ?_
  refine wc_In (pc' := 1285) (by decide) rfl (by decide) ((fx_wE hm293 rfl).trans (fx_exV (mj := 148) (as := []) (rest := []) rfl rk148 rfl rfl rfl rfl rfl)) h (fun y3 σ3 h => ?_)
  refine wi_iload (pc' := 1287) hm293 rfl rfl rfl ?_
  refine wi_ic_eq (pc' := 1290) (t := 1292) hm293 rfl rfl rfl (fun hc => ?_) (fun hc => ?_)
  · replace h := h.1 hc
    refine wi_iload (pc' := 1294) hm293 rfl rfl rfl ?_
    refine wi_if_ne (pc' := 1297) (t := 1309) hm293 rfl rfl rfl (fun hc => ?_) (fun hc => ?_)
    · replace h := h.1 hc
      refine wi_goto (t := 2734) hm293 rfl rfl ?_
      exact h
    · replace h := h.2 hc
      refine wi_aload_n (pc' := 1298) hm293 rfl rfl rfl (by decide) ?_
      refine wi_iconst (pc' := 1299) (v := 0) hm293 rfl rfl rfl ?_
      refine wi_laload (pc' := 1300) hm293 rfl rfl rfl (N := 1) rfl (by decide) ?_
      refine wi_iload (pc' := 1302) hm293 rfl rfl rfl ?_
      refine wi_i2l (pc' := 1303) hm293 rfl rfl ?_
      refine wi_lcmp (pc' := 1304) hm293 rfl rfl ?_
      refine wi_if_eq (pc' := 1307) (t := 1309) hm293 rfl rfl rfl (fun hc => ?_) (fun hc => ?_)
      · replace h := h.1 hc
        refine wi_goto (t := 2734) hm293 rfl rfl ?_
        exact h
      · replace h := h.2 hc
        refine wi_iconst (pc' := 1308) (v := 0) hm293 rfl rfl rfl ?_
        exact wi_zret hm293 rfl (by decide) h
  · replace h := h.2 hc
    refine wi_iconst (pc' := 1291) (v := 0) hm293 rfl rfl rfl ?_
    exact wi_zret hm293 rfl (by decide) h
set_option maxRecDepth 100000 in
theorem t293_1312 {x4 : Int} {w5 w6 : fx_V} {σ : fx_S} {Q : fx_V → fx_S → Prop} (h : (fx_rg (x4 + 1)) ∧ (0 ≤ (x4 + 1) ∧ (x4 + 1) < σ 9 0 (-1)) ∧ (fx_rg (x4 + 2)) ∧ (0 ≤ (x4 + 2) ∧ (x4 + 2) < σ 9 0 (-1)) ∧ (fx_rg (x4 + 3)) ∧ (0 ≤ (x4 + 3) ∧ (x4 + 3) < σ 9 0 (-1)) ∧ fx_CI 275 [(10, 0), (0, (σ 9 0 (x4 + 1))), (0, (σ 9 0 (x4 + 2))), (0, (σ 9 0 (x4 + 3))), (61, 0)] σ Q (fun y1 σ1 => (0 ≤ (x4 + 1) ∧ (x4 + 1) < σ1 9 0 (-1)) ∧ (0 ≤ (x4 + 2) ∧ (x4 + 2) < σ1 9 0 (-1)) ∧ (0 ≤ (x4 + 3) ∧ (x4 + 3) < σ1 9 0 (-1)) ∧ fx_CI 224 [(46, 0), (0, (σ1 9 0 (x4 + 1))), (0, (σ1 9 0 (x4 + 2))), (0, (σ1 9 0 (x4 + 3)))] σ1 Q (fun y2 σ2 => fx_CI 148 [(46, 0)] σ2 Q (fun y3 σ3 => ((y3 = y1 → ((y1 ≠ 0 → fx_Wp 293 2734 [(9, 0), (10, 0), (46, 0), (61, 0), (0, x4), (0, y1), (0, y2)] [] σ3 Q) ∧ (y1 = 0 → (((fx_cmp (σ3 61 0 0) y2) = 0 → fx_Wp 293 2734 [(9, 0), (10, 0), (46, 0), (61, 0), (0, x4), (0, y1), (0, y2)] [] σ3 Q) ∧ ((fx_cmp (σ3 61 0 0) y2) ≠ 0 → Q (0, 0) σ3))))) ∧ (y3 ≠ y1 → Q (0, 0) σ3)))))) : fx_Wp 293 1312 [(9, 0), (10, 0), (46, 0), (61, 0), (0, x4), w5, w6] [] σ Q := by
  refine wi_aload_n (pc' := 1313) hm293 rfl rfl rfl (by decide) ?_
  refine wi_aload_n (pc' := 1314) hm293 rfl rfl rfl (by decide) ?_
  refine wi_iload (pc' := 1316) hm293 rfl rfl rfl ?_
  refine wi_iconst (pc' := 1317) (v := 1) hm293 rfl rfl rfl ?_
  obtain ⟨g1, h⟩ := h
  refine wi_iadd (pc' := 1318) hm293 rfl rfl g1 ?_
  obtain ⟨g2, h⟩ := h
  refine wi_sload (pc' := 1319) hm293 rfl rfl g2 ?_
  refine wi_aload_n (pc' := 1320) hm293 rfl rfl rfl (by decide) ?_
  refine wi_iload (pc' := 1322) hm293 rfl rfl rfl ?_
  refine wi_iconst (pc' := 1323) (v := 2) hm293 rfl rfl rfl ?_
  obtain ⟨g3, h⟩ := h
  refine wi_iadd (pc' := 1324) hm293 rfl rfl g3 ?_
  obtain ⟨g4, h⟩ := h
  refine wi_sload (pc' := 1325) hm293 rfl rfl g4 ?_
  refine wi_aload_n (pc' := 1326) hm293 rfl rfl rfl (by decide) ?_
  refine wi_iload (pc' := 1328) hm293 rfl rfl rfl ?_
  refine wi_iconst (pc' := 1329) (v := 3) hm293 rfl rfl rfl ?_
  obtain ⟨g5, h⟩ := h
  refine wi_iadd (pc' := 1330) hm293 rfl rfl g5 ?_
  obtain ⟨g6, h⟩ := h
  refine wi_sload (pc' := 1331) hm293 rfl rfl g6 ?_
  refine wi_aload_n (pc' := 1332) hm293 rfl rfl rfl (by decide) ?_
  refine wc_In (pc' := 1335) (by decide) rfl (by decide) ((fx_wE hm293 rfl).trans (fx_exS (mj := 275) (as := [(10, 0), (0, (σ 9 0 (x4 + 1))), (0, (σ 9 0 (x4 + 2))), (0, (σ 9 0 (x4 + 3))), (61, 0)]) (rest := []) rfl rk275 rfl rfl rfl rfl)) h (fun y1 σ1 h => ?_)
  refine wi_istore (pc' := 1337) (L' := [(9, 0), (10, 0), (46, 0), (61, 0), (0, x4), (0, y1), w6]) hm293 rfl rfl rfl ?_
  refine wi_aload_n (pc' := 1338) hm293 rfl rfl rfl (by decide) ?_
  refine wi_aload_n (pc' := 1339) hm293 rfl rfl rfl (by decide) ?_
  refine wi_iload (pc' := 1341) hm293 rfl rfl rfl ?_
  refine wi_iconst (pc' := 1342) (v := 1) hm293 rfl rfl rfl ?_
  refine wi_iadd (pc' := 1343) hm293 rfl rfl g1 ?_
  obtain ⟨g7, h⟩ := h
  refine wi_sload (pc' := 1344) hm293 rfl rfl g7 ?_
  refine wi_aload_n (pc' := 1345) hm293 rfl rfl rfl (by decide) ?_
  refine wi_iload (pc' := 1347) hm293 rfl rfl rfl ?_
  refine wi_iconst (pc' := 1348) (v := 2) hm293 rfl rfl rfl ?_
  refine wi_iadd (pc' := 1349) hm293 rfl rfl g3 ?_
  obtain ⟨g8, h⟩ := h
  refine wi_sload (pc' := 1350) hm293 rfl rfl g8 ?_
  refine wi_aload_n (pc' := 1351) hm293 rfl rfl rfl (by decide) ?_
  refine wi_iload (pc' := 1353) hm293 rfl rfl rfl ?_
  refine wi_iconst (pc' := 1354) (v := 3) hm293 rfl rfl rfl ?_
  refine wi_iadd (pc' := 1355) hm293 rfl rfl g5 ?_
  obtain ⟨g9, h⟩ := h
  refine wi_sload (pc' := 1356) hm293 rfl rfl g9 ?_
  refine wc_In (pc' := 1359) (by decide) rfl (by decide) ((fx_wE hm293 rfl).trans (fx_exV (mj := 224) (as := [(0, (σ1 9 0 (x4 + 1))), (0, (σ1 9 0 (x4 + 2))), (0, (σ1 9 0 (x4 + 3)))]) (rest := []) rfl rk224 rfl rfl rfl rfl rfl)) h (fun y2 σ2 h => ?_)
  refine wi_istore (pc' := 1361) (L' := [(9, 0), (10, 0), (46, 0), (61, 0), (0, x4), (0, y1), (0, y2)]) hm293 rfl rfl rfl ?_
  refine wi_aload_n (pc' := 1362) hm293 rfl rfl rfl (by decide) ?_
  refine wc_In (pc' := 1365) (by decide) rfl (by decide) ((fx_wE hm293 rfl).trans (fx_exV (mj := 148) (as := []) (rest := []) rfl rk148 rfl rfl rfl rfl rfl)) h (fun y3 σ3 h => ?_)
  refine wi_iload (pc' := 1367) hm293 rfl rfl rfl ?_
  refine wi_ic_eq (pc' := 1370) (t := 1372) hm293 rfl rfl rfl (fun hc => ?_) (fun hc => ?_)
  · replace h := h.1 hc
    refine wi_iload (pc' := 1374) hm293 rfl rfl rfl ?_
    refine wi_if_ne (pc' := 1377) (t := 1389) hm293 rfl rfl rfl (fun hc => ?_) (fun hc => ?_)
    · replace h := h.1 hc
      refine wi_goto (t := 2734) hm293 rfl rfl ?_
      exact h
    · replace h := h.2 hc
      refine wi_aload_n (pc' := 1378) hm293 rfl rfl rfl (by decide) ?_
      refine wi_iconst (pc' := 1379) (v := 0) hm293 rfl rfl rfl ?_
      refine wi_laload (pc' := 1380) hm293 rfl rfl rfl (N := 1) rfl (by decide) ?_
      refine wi_iload (pc' := 1382) hm293 rfl rfl rfl ?_
      refine wi_i2l (pc' := 1383) hm293 rfl rfl ?_
      refine wi_lcmp (pc' := 1384) hm293 rfl rfl ?_
      refine wi_if_eq (pc' := 1387) (t := 1389) hm293 rfl rfl rfl (fun hc => ?_) (fun hc => ?_)
      · replace h := h.1 hc
        refine wi_goto (t := 2734) hm293 rfl rfl ?_
        exact h
      · replace h := h.2 hc
        refine wi_iconst (pc' := 1388) (v := 0) hm293 rfl rfl rfl ?_
        exact wi_zret hm293 rfl (by decide) h
  · replace h := h.2 hc
    refine wi_iconst (pc' := 1371) (v := 0) hm293 rfl rfl rfl ?_
    exact wi_zret hm293 rfl (by decide) h
set_option maxRecDepth 100000 in
theorem t293_1392 {x4 : Int} {w5 w6 : fx_V} {σ : fx_S} {Q : fx_V → fx_S → Prop} (h : (fx_rg (x4 + 1)) ∧ (0 ≤ (x4 + 1) ∧ (x4 + 1) < σ 9 0 (-1)) ∧ (fx_rg (x4 + 2)) ∧ (0 ≤ (x4 + 2) ∧ (x4 + 2) < σ 9 0 (-1)) ∧ (fx_rg (x4 + 3)) ∧ (0 ≤ (x4 + 3) ∧ (x4 + 3) < σ 9 0 (-1)) ∧ (((σ 9 0 (x4 + 3)) = 0 → fx_CI 276 [(10, 0), (0, (σ 9 0 (x4 + 1))), (0, (σ 9 0 (x4 + 2))), (0, 0), (61, 0)] σ Q (fun y1 σ1 => (0 ≤ (x4 + 1) ∧ (x4 + 1) < σ1 9 0 (-1)) ∧ (0 ≤ (x4 + 2) ∧ (x4 + 2) < σ1 9 0 (-1)) ∧ (0 ≤ (x4 + 3) ∧ (x4 + 3) < σ1 9 0 (-1)) ∧ (((σ1 9 0 (x4 + 3)) = 0 → fx_CI 226 [(46, 0), (0, (σ1 9 0 (x4 + 1))), (0, (σ1 9 0 (x4 + 2))), (0, 0)] σ1 Q (fun y2 σ2 => fx_CI 148 [(46, 0)] σ2 Q (fun y3 σ3 => ((y3 = y1 → ((y1 ≠ 0 → fx_Wp 293 2734 [(9, 0), (10, 0), (46, 0), (61, 0), (0, x4), (0, y1), (0, y2)] [] σ3 Q) ∧ (y1 = 0 → (((fx_cmp (σ3 61 0 0) y2) = 0 → fx_Wp 293 2734 [(9, 0), (10, 0), (46, 0), (61, 0), (0, x4), (0, y1), (0, y2)] [] σ3 Q) ∧ ((fx_cmp (σ3 61 0 0) y2) ≠ 0 → Q (0, 0) σ3))))) ∧ (y3 ≠ y1 → Q (0, 0) σ3))))) ∧ ((σ1 9 0 (x4 + 3)) ≠ 0 → fx_CI 226 [(46, 0), (0, (σ1 9 0 (x4 + 1))), (0, (σ1 9 0 (x4 + 2))), (0, 1)] σ1 Q (fun y4 σ4 => fx_CI 148 [(46, 0)] σ4 Q (fun y5 σ5 => ((y5 = y1 → ((y1 ≠ 0 → fx_Wp 293 2734 [(9, 0), (10, 0), (46, 0), (61, 0), (0, x4), (0, y1), (0, y4)] [] σ5 Q) ∧ (y1 = 0 → (((fx_cmp (σ5 61 0 0) y4) = 0 → fx_Wp 293 2734 [(9, 0), (10, 0), (46, 0), (61, 0), (0, x4), (0, y1), (0, y4)] [] σ5 Q) ∧ ((fx_cmp (σ5 61 0 0) y4) ≠ 0 → Q (0, 0) σ5))))) ∧ (y5 ≠ y1 → Q (0, 0) σ5)))))))) ∧ ((σ 9 0 (x4 + 3)) ≠ 0 → fx_CI 276 [(10, 0), (0, (σ 9 0 (x4 + 1))), (0, (σ 9 0 (x4 + 2))), (0, 1), (61, 0)] σ Q (fun y6 σ6 => (0 ≤ (x4 + 1) ∧ (x4 + 1) < σ6 9 0 (-1)) ∧ (0 ≤ (x4 + 2) ∧ (x4 + 2) < σ6 9 0 (-1)) ∧ (0 ≤ (x4 + 3) ∧ (x4 + 3) < σ6 9 0 (-1)) ∧ (((σ6 9 0 (x4 + 3)) = 0 → fx_CI 226 [(46, 0), (0, (σ6 9 0 (x4 + 1))), (0, (σ6 9 0 (x4 + 2))), (0, 0)] σ6 Q (fun y7 σ7 => fx_CI 148 [(46, 0)] σ7 Q (fun y8 σ8 => ((y8 = y6 → ((y6 ≠ 0 → fx_Wp 293 2734 [(9, 0), (10, 0), (46, 0), (61, 0), (0, x4), (0, y6), (0, y7)] [] σ8 Q) ∧ (y6 = 0 → (((fx_cmp (σ8 61 0 0) y7) = 0 → fx_Wp 293 2734 [(9, 0), (10, 0), (46, 0), (61, 0), (0, x4), (0, y6), (0, y7)] [] σ8 Q) ∧ ((fx_cmp (σ8 61 0 0) y7) ≠ 0 → Q (0, 0) σ8))))) ∧ (y8 ≠ y6 → Q (0, 0) σ8))))) ∧ ((σ6 9 0 (x4 + 3)) ≠ 0 → fx_CI 226 [(46, 0), (0, (σ6 9 0 (x4 + 1))), (0, (σ6 9 0 (x4 + 2))), (0, 1)] σ6 Q (fun y9 σ9 => fx_CI 148 [(46, 0)] σ9 Q (fun y10 σ10 => ((y10 = y6 → ((y6 ≠ 0 → fx_Wp 293 2734 [(9, 0), (10, 0), (46, 0), (61, 0), (0, x4), (0, y6), (0, y9)] [] σ10 Q) ∧ (y6 = 0 → (((fx_cmp (σ10 61 0 0) y9) = 0 → fx_Wp 293 2734 [(9, 0), (10, 0), (46, 0), (61, 0), (0, x4), (0, y6), (0, y9)] [] σ10 Q) ∧ ((fx_cmp (σ10 61 0 0) y9) ≠ 0 → Q (0, 0) σ10))))) ∧ (y10 ≠ y6 → Q (0, 0) σ10)))))))))) : fx_Wp 293 1392 [(9, 0), (10, 0), (46, 0), (61, 0), (0, x4), w5, w6] [] σ Q := by
  refine wi_aload_n (pc' := 1393) hm293 rfl rfl rfl (by decide) ?_
  refine wi_aload_n (pc' := 1394) hm293 rfl rfl rfl (by decide) ?_
  refine wi_iload (pc' := 1396) hm293 rfl rfl rfl ?_
  refine wi_iconst (pc' := 1397) (v := 1) hm293 rfl rfl rfl ?_
  obtain ⟨g1, h⟩ := h
  refine wi_iadd (pc' := 1398) hm293 rfl rfl g1 ?_
  obtain ⟨g2, h⟩ := h
  refine wi_sload (pc' := 1399) hm293 rfl rfl g2 ?_
  refine wi_aload_n (pc' := 1400) hm293 rfl rfl rfl (by decide) ?_
  refine wi_iload (pc' := 1402) hm293 rfl rfl rfl ?_
  refine wi_iconst (pc' := 1403) (v := 2) hm293 rfl rfl rfl ?_
  obtain ⟨g3, h⟩ := h
  refine wi_iadd (pc' := 1404) hm293 rfl rfl g3 ?_
  obtain ⟨g4, h⟩ := h
  refine wi_sload (pc' := 1405) hm293 rfl rfl g4 ?_
  refine wi_aload_n (pc' := 1406) hm293 rfl rfl rfl (by decide) ?_
  refine wi_iload (pc' := 1408) hm293 rfl rfl rfl ?_
  refine wi_iconst (pc' := 1409) (v := 3) hm293 rfl rfl rfl ?_
  obtain ⟨g5, h⟩ := h
  refine wi_iadd (pc' := 1410) hm293 rfl rfl g5 ?_
  obtain ⟨g6, h⟩ := h
  refine wi_sload (pc' := 1411) hm293 rfl rfl g6 ?_
  refine wi_if_eq (pc' := 1414) (t := 1418) hm293 rfl rfl rfl (fun hc => ?_) (fun hc => ?_)
  · replace h := h.1 hc
    refine wi_iconst (pc' := 1419) (v := 0) hm293 rfl rfl rfl ?_
    refine wi_aload_n (pc' := 1420) hm293 rfl rfl rfl (by decide) ?_
    refine wc_In (pc' := 1423) (by decide) rfl (by decide) ((fx_wE hm293 rfl).trans (fx_exS (mj := 276) (as := [(10, 0), (0, (σ 9 0 (x4 + 1))), (0, (σ 9 0 (x4 + 2))), (0, 0), (61, 0)]) (rest := []) rfl rk276 rfl rfl rfl rfl)) h (fun y1 σ1 h => ?_)
    refine wi_istore (pc' := 1425) (L' := [(9, 0), (10, 0), (46, 0), (61, 0), (0, x4), (0, y1), w6]) hm293 rfl rfl rfl ?_
    refine wi_aload_n (pc' := 1426) hm293 rfl rfl rfl (by decide) ?_
    refine wi_aload_n (pc' := 1427) hm293 rfl rfl rfl (by decide) ?_
    refine wi_iload (pc' := 1429) hm293 rfl rfl rfl ?_
    refine wi_iconst (pc' := 1430) (v := 1) hm293 rfl rfl rfl ?_
    refine wi_iadd (pc' := 1431) hm293 rfl rfl g1 ?_
    obtain ⟨g7, h⟩ := h
    refine wi_sload (pc' := 1432) hm293 rfl rfl g7 ?_
    refine wi_aload_n (pc' := 1433) hm293 rfl rfl rfl (by decide) ?_
    refine wi_iload (pc' := 1435) hm293 rfl rfl rfl ?_
    refine wi_iconst (pc' := 1436) (v := 2) hm293 rfl rfl rfl ?_
    refine wi_iadd (pc' := 1437) hm293 rfl rfl g3 ?_
    obtain ⟨g8, h⟩ := h
    refine wi_sload (pc' := 1438) hm293 rfl rfl g8 ?_
    refine wi_aload_n (pc' := 1439) hm293 rfl rfl rfl (by decide) ?_
    refine wi_iload (pc' := 1441) hm293 rfl rfl rfl ?_
    refine wi_iconst (pc' := 1442) (v := 3) hm293 rfl rfl rfl ?_
    refine wi_iadd (pc' := 1443) hm293 rfl rfl g5 ?_
    obtain ⟨g9, h⟩ := h
    refine wi_sload (pc' := 1444) hm293 rfl rfl g9 ?_
    refine wi_if_eq (pc' := 1447) (t := 1451) hm293 rfl rfl rfl (fun hc => ?_) (fun hc => ?_)
    · replace h := h.1 hc
      refine wi_iconst (pc' := 1452) (v := 0) hm293 rfl rfl rfl ?_
      refine wc_In (pc' := 1455) (by decide) rfl (by decide) ((fx_wE hm293 rfl).trans (fx_exV (mj := 226) (as := [(0, (σ1 9 0 (x4 + 1))), (0, (σ1 9 0 (x4 + 2))), (0, 0)]) (rest := []) rfl rk226 rfl rfl rfl rfl rfl)) h (fun y2 σ2 h => ?_)
      refine wi_istore (pc' := 1457) (L' := [(9, 0), (10, 0), (46, 0), (61, 0), (0, x4), (0, y1), (0, y2)]) hm293 rfl rfl rfl ?_
      refine wi_aload_n (pc' := 1458) hm293 rfl rfl rfl (by decide) ?_
      refine wc_In (pc' := 1461) (by decide) rfl (by decide) ((fx_wE hm293 rfl).trans (fx_exV (mj := 148) (as := []) (rest := []) rfl rk148 rfl rfl rfl rfl rfl)) h (fun y3 σ3 h => ?_)
      refine wi_iload (pc' := 1463) hm293 rfl rfl rfl ?_
      refine wi_ic_eq (pc' := 1466) (t := 1468) hm293 rfl rfl rfl (fun hc => ?_) (fun hc => ?_)
      · replace h := h.1 hc
        refine wi_iload (pc' := 1470) hm293 rfl rfl rfl ?_
        refine wi_if_ne (pc' := 1473) (t := 1485) hm293 rfl rfl rfl (fun hc => ?_) (fun hc => ?_)
        · replace h := h.1 hc
          refine wi_goto (t := 2734) hm293 rfl rfl ?_
          exact h
        · replace h := h.2 hc
          refine wi_aload_n (pc' := 1474) hm293 rfl rfl rfl (by decide) ?_
          refine wi_iconst (pc' := 1475) (v := 0) hm293 rfl rfl rfl ?_
          refine wi_laload (pc' := 1476) hm293 rfl rfl rfl (N := 1) rfl (by decide) ?_
          refine wi_iload (pc' := 1478) hm293 rfl rfl rfl ?_
          refine wi_i2l (pc' := 1479) hm293 rfl rfl ?_
          refine wi_lcmp (pc' := 1480) hm293 rfl rfl ?_
          refine wi_if_eq (pc' := 1483) (t := 1485) hm293 rfl rfl rfl (fun hc => ?_) (fun hc => ?_)
          · replace h := h.1 hc
            refine wi_goto (t := 2734) hm293 rfl rfl ?_
            exact h
          · replace h := h.2 hc
            refine wi_iconst (pc' := 1484) (v := 0) hm293 rfl rfl rfl ?_
            exact wi_zret hm293 rfl (by decide) h
      · replace h := h.2 hc
        refine wi_iconst (pc' := 1467) (v := 0) hm293 rfl rfl rfl ?_
        exact wi_zret hm293 rfl (by decide) h
    · replace h := h.2 hc
      refine wi_iconst (pc' := 1448) (v := 1) hm293 rfl rfl rfl ?_
      refine wi_goto (t := 1452) hm293 rfl rfl ?_
      refine wc_In (pc' := 1455) (by decide) rfl (by decide) ((fx_wE hm293 rfl).trans (fx_exV (mj := 226) (as := [(0, (σ1 9 0 (x4 + 1))), (0, (σ1 9 0 (x4 + 2))), (0, 1)]) (rest := []) rfl rk226 rfl rfl rfl rfl rfl)) h (fun y4 σ4 h => ?_)
      refine wi_istore (pc' := 1457) (L' := [(9, 0), (10, 0), (46, 0), (61, 0), (0, x4), (0, y1), (0, y4)]) hm293 rfl rfl rfl ?_
      refine wi_aload_n (pc' := 1458) hm293 rfl rfl rfl (by decide) ?_
      refine wc_In (pc' := 1461) (by decide) rfl (by decide) ((fx_wE hm293 rfl).trans (fx_exV (mj := 148) (as := []) (rest := []) rfl rk148 rfl rfl rfl rfl rfl)) h (fun y5 σ5 h => ?_)
      refine wi_iload (pc' := 1463) hm293 rfl rfl rfl ?_
      refine wi_ic_eq (pc' := 1466) (t := 1468) hm293 rfl rfl rfl (fun hc => ?_) (fun hc => ?_)
      · replace h := h.1 hc
        refine wi_iload (pc' := 1470) hm293 rfl rfl rfl ?_
        refine wi_if_ne (pc' := 1473) (t := 1485) hm293 rfl rfl rfl (fun hc => ?_) (fun hc => ?_)
        · replace h := h.1 hc
          refine wi_goto (t := 2734) hm293 rfl rfl ?_
          exact h
        · replace h := h.2 hc
          refine wi_aload_n (pc' := 1474) hm293 rfl rfl rfl (by decide) ?_
          refine wi_iconst (pc' := 1475) (v := 0) hm293 rfl rfl rfl ?_
          refine wi_laload (pc' := 1476) hm293 rfl rfl rfl (N := 1) rfl (by decide) ?_
          refine wi_iload (pc' := 1478) hm293 rfl rfl rfl ?_
          refine wi_i2l (pc' := 1479) hm293 rfl rfl ?_
          refine wi_lcmp (pc' := 1480) hm293 rfl rfl ?_
          refine wi_if_eq (pc' := 1483) (t := 1485) hm293 rfl rfl rfl (fun hc => ?_) (fun hc => ?_)
          · replace h := h.1 hc
            refine wi_goto (t := 2734) hm293 rfl rfl ?_
            exact h
          · replace h := h.2 hc
            refine wi_iconst (pc' := 1484) (v := 0) hm293 rfl rfl rfl ?_
            exact wi_zret hm293 rfl (by decide) h
      · replace h := h.2 hc
        refine wi_iconst (pc' := 1467) (v := 0) hm293 rfl rfl rfl ?_
        exact wi_zret hm293 rfl (by decide) h
  · replace h := h.2 hc
    refine wi_iconst (pc' := 1415) (v := 1) hm293 rfl rfl rfl ?_
    refine wi_goto (t := 1419) hm293 rfl rfl ?_
    refine wi_aload_n (pc' := 1420) hm293 rfl rfl rfl (by decide) ?_
    refine wc_In (pc' := 1423) (by decide) rfl (by decide) ((fx_wE hm293 rfl).trans (fx_exS (mj := 276) (as := [(10, 0), (0, (σ 9 0 (x4 + 1))), (0, (σ 9 0 (x4 + 2))), (0, 1), (61, 0)]) (rest := []) rfl rk276 rfl rfl rfl rfl)) h (fun y6 σ6 h => ?_)
    refine wi_istore (pc' := 1425) (L' := [(9, 0), (10, 0), (46, 0), (61, 0), (0, x4), (0, y6), w6]) hm293 rfl rfl rfl ?_
    refine wi_aload_n (pc' := 1426) hm293 rfl rfl rfl (by decide) ?_
    refine wi_aload_n (pc' := 1427) hm293 rfl rfl rfl (by decide) ?_
    refine wi_iload (pc' := 1429) hm293 rfl rfl rfl ?_
    refine wi_iconst (pc' := 1430) (v := 1) hm293 rfl rfl rfl ?_
    refine wi_iadd (pc' := 1431) hm293 rfl rfl g1 ?_
    obtain ⟨g7, h⟩ := h
    refine wi_sload (pc' := 1432) hm293 rfl rfl g7 ?_
    refine wi_aload_n (pc' := 1433) hm293 rfl rfl rfl (by decide) ?_
    refine wi_iload (pc' := 1435) hm293 rfl rfl rfl ?_
    refine wi_iconst (pc' := 1436) (v := 2) hm293 rfl rfl rfl ?_
    refine wi_iadd (pc' := 1437) hm293 rfl rfl g3 ?_
    obtain ⟨g8, h⟩ := h
    refine wi_sload (pc' := 1438) hm293 rfl rfl g8 ?_
    refine wi_aload_n (pc' := 1439) hm293 rfl rfl rfl (by decide) ?_
    refine wi_iload (pc' := 1441) hm293 rfl rfl rfl ?_
    refine wi_iconst (pc' := 1442) (v := 3) hm293 rfl rfl rfl ?_
    refine wi_iadd (pc' := 1443) hm293 rfl rfl g5 ?_
    obtain ⟨g9, h⟩ := h
    refine wi_sload (pc' := 1444) hm293 rfl rfl g9 ?_
    refine wi_if_eq (pc' := 1447) (t := 1451) hm293 rfl rfl rfl (fun hc => ?_) (fun hc => ?_)
    · replace h := h.1 hc
      refine wi_iconst (pc' := 1452) (v := 0) hm293 rfl rfl rfl ?_
      refine wc_In (pc' := 1455) (by decide) rfl (by decide) ((fx_wE hm293 rfl).trans (fx_exV (mj := 226) (as := [(0, (σ6 9 0 (x4 + 1))), (0, (σ6 9 0 (x4 + 2))), (0, 0)]) (rest := []) rfl rk226 rfl rfl rfl rfl rfl)) h (fun y7 σ7 h => ?_)
      refine wi_istore (pc' := 1457) (L' := [(9, 0), (10, 0), (46, 0), (61, 0), (0, x4), (0, y6), (0, y7)]) hm293 rfl rfl rfl ?_
      refine wi_aload_n (pc' := 1458) hm293 rfl rfl rfl (by decide) ?_
      refine wc_In (pc' := 1461) (by decide) rfl (by decide) ((fx_wE hm293 rfl).trans (fx_exV (mj := 148) (as := []) (rest := []) rfl rk148 rfl rfl rfl rfl rfl)) h (fun y8 σ8 h => ?_)
      refine wi_iload (pc' := 1463) hm293 rfl rfl rfl ?_
      refine wi_ic_eq (pc' := 1466) (t := 1468) hm293 rfl rfl rfl (fun hc => ?_) (fun hc => ?_)
      · replace h := h.1 hc
        refine wi_iload (pc' := 1470) hm293 rfl rfl rfl ?_
        refine wi_if_ne (pc' := 1473) (t := 1485) hm293 rfl rfl rfl (fun hc => ?_) (fun hc => ?_)
        · replace h := h.1 hc
          refine wi_goto (t := 2734) hm293 rfl rfl ?_
          exact h
        · replace h := h.2 hc
          refine wi_aload_n (pc' := 1474) hm293 rfl rfl rfl (by decide) ?_
          refine wi_iconst (pc' := 1475) (v := 0) hm293 rfl rfl rfl ?_
          refine wi_laload (pc' := 1476) hm293 rfl rfl rfl (N := 1) rfl (by decide) ?_
          refine wi_iload (pc' := 1478) hm293 rfl rfl rfl ?_
          refine wi_i2l (pc' := 1479) hm293 rfl rfl ?_
          refine wi_lcmp (pc' := 1480) hm293 rfl rfl ?_
          refine wi_if_eq (pc' := 1483) (t := 1485) hm293 rfl rfl rfl (fun hc => ?_) (fun hc => ?_)
          · replace h := h.1 hc
            refine wi_goto (t := 2734) hm293 rfl rfl ?_
            exact h
          · replace h := h.2 hc
            refine wi_iconst (pc' := 1484) (v := 0) hm293 rfl rfl rfl ?_
            exact wi_zret hm293 rfl (by decide) h
      · replace h := h.2 hc
        refine wi_iconst (pc' := 1467) (v := 0) hm293 rfl rfl rfl ?_
        exact wi_zret hm293 rfl (by decide) h
    · replace h := h.2 hc
      refine wi_iconst (pc' := 1448) (v := 1) hm293 rfl rfl rfl ?_
      refine wi_goto (t := 1452) hm293 rfl rfl ?_
      refine wc_In (pc' := 1455) (by decide) rfl (by decide) ((fx_wE hm293 rfl).trans (fx_exV (mj := 226) (as := [(0, (σ6 9 0 (x4 + 1))), (0, (σ6 9 0 (x4 + 2))), (0, 1)]) (rest := []) rfl rk226 rfl rfl rfl rfl rfl)) h (fun y9 σ9 h => ?_)
      refine wi_istore (pc' := 1457) (L' := [(9, 0), (10, 0), (46, 0), (61, 0), (0, x4), (0, y6), (0, y9)]) hm293 rfl rfl rfl ?_
      refine wi_aload_n (pc' := 1458) hm293 rfl rfl rfl (by decide) ?_
      refine wc_In (pc' := 1461) (by decide) rfl (by decide) ((fx_wE hm293 rfl).trans (fx_exV (mj := 148) (as := []) (rest := []) rfl rk148 rfl rfl rfl rfl rfl)) h (fun y10 σ10 h => ?_)
      refine wi_iload (pc' := 1463) hm293 rfl rfl rfl ?_
      refine wi_ic_eq (pc' := 1466) (t := 1468) hm293 rfl rfl rfl (fun hc => ?_) (fun hc => ?_)
      · replace h := h.1 hc
        refine wi_iload (pc' := 1470) hm293 rfl rfl rfl ?_
        refine wi_if_ne (pc' := 1473) (t := 1485) hm293 rfl rfl rfl (fun hc => ?_) (fun hc => ?_)
        · replace h := h.1 hc
          refine wi_goto (t := 2734) hm293 rfl rfl ?_
          exact h
        · replace h := h.2 hc
          refine wi_aload_n (pc' := 1474) hm293 rfl rfl rfl (by decide) ?_
          refine wi_iconst (pc' := 1475) (v := 0) hm293 rfl rfl rfl ?_
          refine wi_laload (pc' := 1476) hm293 rfl rfl rfl (N := 1) rfl (by decide) ?_
          refine wi_iload (pc' := 1478) hm293 rfl rfl rfl ?_
          refine wi_i2l (pc' := 1479) hm293 rfl rfl ?_
          refine wi_lcmp (pc' := 1480) hm293 rfl rfl ?_
          refine wi_if_eq (pc' := 1483) (t := 1485) hm293 rfl rfl rfl (fun hc => ?_) (fun hc => ?_)
          · replace h := h.1 hc
            refine wi_goto (t := 2734) hm293 rfl rfl ?_
            exact h
          · replace h := h.2 hc
            refine wi_iconst (pc' := 1484) (v := 0) hm293 rfl rfl rfl ?_
            exact wi_zret hm293 rfl (by decide) h
      · replace h := h.2 hc
        refine wi_iconst (pc' := 1467) (v := 0) hm293 rfl rfl rfl ?_
        exact wi_zret hm293 rfl (by decide) h
set_option maxRecDepth 100000 in
theorem t293_1488 {x4 : Int} {w5 w6 : fx_V} {σ : fx_S} {Q : fx_V → fx_S → Prop} (h : (fx_rg (x4 + 1)) ∧ (0 ≤ (x4 + 1) ∧ (x4 + 1) < σ 9 0 (-1)) ∧ (fx_rg (x4 + 2)) ∧ (0 ≤ (x4 + 2) ∧ (x4 + 2) < σ 9 0 (-1)) ∧ fx_CI 277 [(10, 0), (0, (σ 9 0 (x4 + 1))), (0, (σ 9 0 (x4 + 2))), (61, 0)] σ Q (fun y1 σ1 => (0 ≤ (x4 + 1) ∧ (x4 + 1) < σ1 9 0 (-1)) ∧ (0 ≤ (x4 + 2) ∧ (x4 + 2) < σ1 9 0 (-1)) ∧ fx_CI 227 [(46, 0), (0, (σ1 9 0 (x4 + 1))), (0, (σ1 9 0 (x4 + 2)))] σ1 Q (fun y2 σ2 => fx_CI 148 [(46, 0)] σ2 Q (fun y3 σ3 => ((y3 = y1 → ((y1 ≠ 0 → fx_Wp 293 2734 [(9, 0), (10, 0), (46, 0), (61, 0), (0, x4), (0, y1), (0, y2)] [] σ3 Q) ∧ (y1 = 0 → (((fx_cmp (σ3 61 0 0) y2) = 0 → fx_Wp 293 2734 [(9, 0), (10, 0), (46, 0), (61, 0), (0, x4), (0, y1), (0, y2)] [] σ3 Q) ∧ ((fx_cmp (σ3 61 0 0) y2) ≠ 0 → Q (0, 0) σ3))))) ∧ (y3 ≠ y1 → Q (0, 0) σ3)))))) : fx_Wp 293 1488 [(9, 0), (10, 0), (46, 0), (61, 0), (0, x4), w5, w6] [] σ Q := by
  refine wi_aload_n (pc' := 1489) hm293 rfl rfl rfl (by decide) ?_
  refine wi_aload_n (pc' := 1490) hm293 rfl rfl rfl (by decide) ?_
  refine wi_iload (pc' := 1492) hm293 rfl rfl rfl ?_
  refine wi_iconst (pc' := 1493) (v := 1) hm293 rfl rfl rfl ?_
  obtain ⟨g1, h⟩ := h
  refine wi_iadd (pc' := 1494) hm293 rfl rfl g1 ?_
  obtain ⟨g2, h⟩ := h
  refine wi_sload (pc' := 1495) hm293 rfl rfl g2 ?_
  refine wi_aload_n (pc' := 1496) hm293 rfl rfl rfl (by decide) ?_
  refine wi_iload (pc' := 1498) hm293 rfl rfl rfl ?_
  refine wi_iconst (pc' := 1499) (v := 2) hm293 rfl rfl rfl ?_
  obtain ⟨g3, h⟩ := h
  refine wi_iadd (pc' := 1500) hm293 rfl rfl g3 ?_
  obtain ⟨g4, h⟩ := h
  refine wi_sload (pc' := 1501) hm293 rfl rfl g4 ?_
  refine wi_aload_n (pc' := 1502) hm293 rfl rfl rfl (by decide) ?_
  refine wc_In (pc' := 1505) (by decide) rfl (by decide) ((fx_wE hm293 rfl).trans (fx_exS (mj := 277) (as := [(10, 0), (0, (σ 9 0 (x4 + 1))), (0, (σ 9 0 (x4 + 2))), (61, 0)]) (rest := []) rfl rk277 rfl rfl rfl rfl)) h (fun y1 σ1 h => ?_)
  refine wi_istore (pc' := 1507) (L' := [(9, 0), (10, 0), (46, 0), (61, 0), (0, x4), (0, y1), w6]) hm293 rfl rfl rfl ?_
  refine wi_aload_n (pc' := 1508) hm293 rfl rfl rfl (by decide) ?_
  refine wi_aload_n (pc' := 1509) hm293 rfl rfl rfl (by decide) ?_
  refine wi_iload (pc' := 1511) hm293 rfl rfl rfl ?_
  refine wi_iconst (pc' := 1512) (v := 1) hm293 rfl rfl rfl ?_
  refine wi_iadd (pc' := 1513) hm293 rfl rfl g1 ?_
  obtain ⟨g5, h⟩ := h
  refine wi_sload (pc' := 1514) hm293 rfl rfl g5 ?_
  refine wi_aload_n (pc' := 1515) hm293 rfl rfl rfl (by decide) ?_
  refine wi_iload (pc' := 1517) hm293 rfl rfl rfl ?_
  refine wi_iconst (pc' := 1518) (v := 2) hm293 rfl rfl rfl ?_
  refine wi_iadd (pc' := 1519) hm293 rfl rfl g3 ?_
  obtain ⟨g6, h⟩ := h
  refine wi_sload (pc' := 1520) hm293 rfl rfl g6 ?_
  refine wc_In (pc' := 1523) (by decide) rfl (by decide) ((fx_wE hm293 rfl).trans (fx_exV (mj := 227) (as := [(0, (σ1 9 0 (x4 + 1))), (0, (σ1 9 0 (x4 + 2)))]) (rest := []) rfl rk227 rfl rfl rfl rfl rfl)) h (fun y2 σ2 h => ?_)
  refine wi_istore (pc' := 1525) (L' := [(9, 0), (10, 0), (46, 0), (61, 0), (0, x4), (0, y1), (0, y2)]) hm293 rfl rfl rfl ?_
  refine wi_aload_n (pc' := 1526) hm293 rfl rfl rfl (by decide) ?_
  refine wc_In (pc' := 1529) (by decide) rfl (by decide) ((fx_wE hm293 rfl).trans (fx_exV (mj := 148) (as := []) (rest := []) rfl rk148 rfl rfl rfl rfl rfl)) h (fun y3 σ3 h => ?_)
  refine wi_iload (pc' := 1531) hm293 rfl rfl rfl ?_
  refine wi_ic_eq (pc' := 1534) (t := 1536) hm293 rfl rfl rfl (fun hc => ?_) (fun hc => ?_)
  · replace h := h.1 hc
    refine wi_iload (pc' := 1538) hm293 rfl rfl rfl ?_
    refine wi_if_ne (pc' := 1541) (t := 1553) hm293 rfl rfl rfl (fun hc => ?_) (fun hc => ?_)
    · replace h := h.1 hc
      refine wi_goto (t := 2734) hm293 rfl rfl ?_
      exact h
    · replace h := h.2 hc
      refine wi_aload_n (pc' := 1542) hm293 rfl rfl rfl (by decide) ?_
      refine wi_iconst (pc' := 1543) (v := 0) hm293 rfl rfl rfl ?_
      refine wi_laload (pc' := 1544) hm293 rfl rfl rfl (N := 1) rfl (by decide) ?_
      refine wi_iload (pc' := 1546) hm293 rfl rfl rfl ?_
      refine wi_i2l (pc' := 1547) hm293 rfl rfl ?_
      refine wi_lcmp (pc' := 1548) hm293 rfl rfl ?_
      refine wi_if_eq (pc' := 1551) (t := 1553) hm293 rfl rfl rfl (fun hc => ?_) (fun hc => ?_)
      · replace h := h.1 hc
        refine wi_goto (t := 2734) hm293 rfl rfl ?_
        exact h
      · replace h := h.2 hc
        refine wi_iconst (pc' := 1552) (v := 0) hm293 rfl rfl rfl ?_
        exact wi_zret hm293 rfl (by decide) h
  · replace h := h.2 hc
    refine wi_iconst (pc' := 1535) (v := 0) hm293 rfl rfl rfl ?_
    exact wi_zret hm293 rfl (by decide) h
set_option maxRecDepth 100000 in
theorem t293_1556 {x4 : Int} {w5 w6 : fx_V} {σ : fx_S} {Q : fx_V → fx_S → Prop} (h : (fx_rg (x4 + 1)) ∧ (0 ≤ (x4 + 1) ∧ (x4 + 1) < σ 9 0 (-1)) ∧ (fx_rg (x4 + 2)) ∧ (0 ≤ (x4 + 2) ∧ (x4 + 2) < σ 9 0 (-1)) ∧ (fx_rg (x4 + 3)) ∧ (0 ≤ (x4 + 3) ∧ (x4 + 3) < σ 9 0 (-1)) ∧ fx_CI 278 [(10, 0), (0, (σ 9 0 (x4 + 1))), (0, (σ 9 0 (x4 + 2))), (0, (σ 9 0 (x4 + 3))), (61, 0)] σ Q (fun y1 σ1 => (0 ≤ (x4 + 1) ∧ (x4 + 1) < σ1 9 0 (-1)) ∧ (0 ≤ (x4 + 2) ∧ (x4 + 2) < σ1 9 0 (-1)) ∧ (0 ≤ (x4 + 3) ∧ (x4 + 3) < σ1 9 0 (-1)) ∧ fx_CI 228 [(46, 0), (0, (σ1 9 0 (x4 + 1))), (0, (σ1 9 0 (x4 + 2))), (0, (σ1 9 0 (x4 + 3)))] σ1 Q (fun y2 σ2 => fx_CI 148 [(46, 0)] σ2 Q (fun y3 σ3 => ((y3 = y1 → ((y1 ≠ 0 → fx_Wp 293 2734 [(9, 0), (10, 0), (46, 0), (61, 0), (0, x4), (0, y1), (0, y2)] [] σ3 Q) ∧ (y1 = 0 → (((fx_cmp (σ3 61 0 0) y2) = 0 → fx_Wp 293 2734 [(9, 0), (10, 0), (46, 0), (61, 0), (0, x4), (0, y1), (0, y2)] [] σ3 Q) ∧ ((fx_cmp (σ3 61 0 0) y2) ≠ 0 → Q (0, 0) σ3))))) ∧ (y3 ≠ y1 → Q (0, 0) σ3)))))) : fx_Wp 293 1556 [(9, 0), (10, 0), (46, 0), (61, 0), (0, x4), w5, w6] [] σ Q := by
  refine wi_aload_n (pc' := 1557) hm293 rfl rfl rfl (by decide) ?_
  refine wi_aload_n (pc' := 1558) hm293 rfl rfl rfl (by decide) ?_
  refine wi_iload (pc' := 1560) hm293 rfl rfl rfl ?_
  refine wi_iconst (pc' := 1561) (v := 1) hm293 rfl rfl rfl ?_
  obtain ⟨g1, h⟩ := h
  refine wi_iadd (pc' := 1562) hm293 rfl rfl g1 ?_
  obtain ⟨g2, h⟩ := h
  refine wi_sload (pc' := 1563) hm293 rfl rfl g2 ?_
  refine wi_aload_n (pc' := 1564) hm293 rfl rfl rfl (by decide) ?_
  refine wi_iload (pc' := 1566) hm293 rfl rfl rfl ?_
  refine wi_iconst (pc' := 1567) (v := 2) hm293 rfl rfl rfl ?_
  obtain ⟨g3, h⟩ := h
  refine wi_iadd (pc' := 1568) hm293 rfl rfl g3 ?_
  obtain ⟨g4, h⟩ := h
  refine wi_sload (pc' := 1569) hm293 rfl rfl g4 ?_
  refine wi_aload_n (pc' := 1570) hm293 rfl rfl rfl (by decide) ?_
  refine wi_iload (pc' := 1572) hm293 rfl rfl rfl ?_
  refine wi_iconst (pc' := 1573) (v := 3) hm293 rfl rfl rfl ?_
  obtain ⟨g5, h⟩ := h
  refine wi_iadd (pc' := 1574) hm293 rfl rfl g5 ?_
  obtain ⟨g6, h⟩ := h
  refine wi_sload (pc' := 1575) hm293 rfl rfl g6 ?_
  refine wi_aload_n (pc' := 1576) hm293 rfl rfl rfl (by decide) ?_
  refine wc_In (pc' := 1579) (by decide) rfl (by decide) ((fx_wE hm293 rfl).trans (fx_exS (mj := 278) (as := [(10, 0), (0, (σ 9 0 (x4 + 1))), (0, (σ 9 0 (x4 + 2))), (0, (σ 9 0 (x4 + 3))), (61, 0)]) (rest := []) rfl rk278 rfl rfl rfl rfl)) h (fun y1 σ1 h => ?_)
  refine wi_istore (pc' := 1581) (L' := [(9, 0), (10, 0), (46, 0), (61, 0), (0, x4), (0, y1), w6]) hm293 rfl rfl rfl ?_
  refine wi_aload_n (pc' := 1582) hm293 rfl rfl rfl (by decide) ?_
  refine wi_aload_n (pc' := 1583) hm293 rfl rfl rfl (by decide) ?_
  refine wi_iload (pc' := 1585) hm293 rfl rfl rfl ?_
  refine wi_iconst (pc' := 1586) (v := 1) hm293 rfl rfl rfl ?_
  refine wi_iadd (pc' := 1587) hm293 rfl rfl g1 ?_
  obtain ⟨g7, h⟩ := h
  refine wi_sload (pc' := 1588) hm293 rfl rfl g7 ?_
  refine wi_aload_n (pc' := 1589) hm293 rfl rfl rfl (by decide) ?_
  refine wi_iload (pc' := 1591) hm293 rfl rfl rfl ?_
  refine wi_iconst (pc' := 1592) (v := 2) hm293 rfl rfl rfl ?_
  refine wi_iadd (pc' := 1593) hm293 rfl rfl g3 ?_
  obtain ⟨g8, h⟩ := h
  refine wi_sload (pc' := 1594) hm293 rfl rfl g8 ?_
  refine wi_aload_n (pc' := 1595) hm293 rfl rfl rfl (by decide) ?_
  refine wi_iload (pc' := 1597) hm293 rfl rfl rfl ?_
  refine wi_iconst (pc' := 1598) (v := 3) hm293 rfl rfl rfl ?_
  refine wi_iadd (pc' := 1599) hm293 rfl rfl g5 ?_
  obtain ⟨g9, h⟩ := h
  refine wi_sload (pc' := 1600) hm293 rfl rfl g9 ?_
  refine wc_In (pc' := 1603) (by decide) rfl (by decide) ((fx_wE hm293 rfl).trans (fx_exV (mj := 228) (as := [(0, (σ1 9 0 (x4 + 1))), (0, (σ1 9 0 (x4 + 2))), (0, (σ1 9 0 (x4 + 3)))]) (rest := []) rfl rk228 rfl rfl rfl rfl rfl)) h (fun y2 σ2 h => ?_)
  refine wi_istore (pc' := 1605) (L' := [(9, 0), (10, 0), (46, 0), (61, 0), (0, x4), (0, y1), (0, y2)]) hm293 rfl rfl rfl ?_
  refine wi_aload_n (pc' := 1606) hm293 rfl rfl rfl (by decide) ?_
  refine wc_In (pc' := 1609) (by decide) rfl (by decide) ((fx_wE hm293 rfl).trans (fx_exV (mj := 148) (as := []) (rest := []) rfl rk148 rfl rfl rfl rfl rfl)) h (fun y3 σ3 h => ?_)
  refine wi_iload (pc' := 1611) hm293 rfl rfl rfl ?_
  refine wi_ic_eq (pc' := 1614) (t := 1616) hm293 rfl rfl rfl (fun hc => ?_) (fun hc => ?_)
  · replace h := h.1 hc
    refine wi_iload (pc' := 1618) hm293 rfl rfl rfl ?_
    refine wi_if_ne (pc' := 1621) (t := 1633) hm293 rfl rfl rfl (fun hc => ?_) (fun hc => ?_)
    · replace h := h.1 hc
      refine wi_goto (t := 2734) hm293 rfl rfl ?_
      exact h
    · replace h := h.2 hc
      refine wi_aload_n (pc' := 1622) hm293 rfl rfl rfl (by decide) ?_
      refine wi_iconst (pc' := 1623) (v := 0) hm293 rfl rfl rfl ?_
      refine wi_laload (pc' := 1624) hm293 rfl rfl rfl (N := 1) rfl (by decide) ?_
      refine wi_iload (pc' := 1626) hm293 rfl rfl rfl ?_
      refine wi_i2l (pc' := 1627) hm293 rfl rfl ?_
      refine wi_lcmp (pc' := 1628) hm293 rfl rfl ?_
      refine wi_if_eq (pc' := 1631) (t := 1633) hm293 rfl rfl rfl (fun hc => ?_) (fun hc => ?_)
      · replace h := h.1 hc
        refine wi_goto (t := 2734) hm293 rfl rfl ?_
        exact h
      · replace h := h.2 hc
        refine wi_iconst (pc' := 1632) (v := 0) hm293 rfl rfl rfl ?_
        exact wi_zret hm293 rfl (by decide) h
  · replace h := h.2 hc
    refine wi_iconst (pc' := 1615) (v := 0) hm293 rfl rfl rfl ?_
    exact wi_zret hm293 rfl (by decide) h
set_option maxRecDepth 100000 in
theorem t293_1636 {x4 : Int} {w5 w6 : fx_V} {σ : fx_S} {Q : fx_V → fx_S → Prop} (h : (fx_rg (x4 + 1)) ∧ (0 ≤ (x4 + 1) ∧ (x4 + 1) < σ 9 0 (-1)) ∧ (fx_rg (x4 + 2)) ∧ (0 ≤ (x4 + 2) ∧ (x4 + 2) < σ 9 0 (-1)) ∧ fx_CI 279 [(10, 0), (0, (σ 9 0 (x4 + 1))), (0, (σ 9 0 (x4 + 2))), (61, 0)] σ Q (fun y1 σ1 => (0 ≤ (x4 + 1) ∧ (x4 + 1) < σ1 9 0 (-1)) ∧ (0 ≤ (x4 + 2) ∧ (x4 + 2) < σ1 9 0 (-1)) ∧ fx_CI 230 [(46, 0), (0, (σ1 9 0 (x4 + 1))), (0, (σ1 9 0 (x4 + 2)))] σ1 Q (fun y2 σ2 => fx_CI 148 [(46, 0)] σ2 Q (fun y3 σ3 => ((y3 = y1 → ((y1 ≠ 0 → fx_Wp 293 2734 [(9, 0), (10, 0), (46, 0), (61, 0), (0, x4), (0, y1), (0, y2)] [] σ3 Q) ∧ (y1 = 0 → (((fx_cmp (σ3 61 0 0) y2) = 0 → fx_Wp 293 2734 [(9, 0), (10, 0), (46, 0), (61, 0), (0, x4), (0, y1), (0, y2)] [] σ3 Q) ∧ ((fx_cmp (σ3 61 0 0) y2) ≠ 0 → Q (0, 0) σ3))))) ∧ (y3 ≠ y1 → Q (0, 0) σ3)))))) : fx_Wp 293 1636 [(9, 0), (10, 0), (46, 0), (61, 0), (0, x4), w5, w6] [] σ Q := by
  refine wi_aload_n (pc' := 1637) hm293 rfl rfl rfl (by decide) ?_
  refine wi_aload_n (pc' := 1638) hm293 rfl rfl rfl (by decide) ?_
  refine wi_iload (pc' := 1640) hm293 rfl rfl rfl ?_
  refine wi_iconst (pc' := 1641) (v := 1) hm293 rfl rfl rfl ?_
  obtain ⟨g1, h⟩ := h
  refine wi_iadd (pc' := 1642) hm293 rfl rfl g1 ?_
  obtain ⟨g2, h⟩ := h
  refine wi_sload (pc' := 1643) hm293 rfl rfl g2 ?_
  refine wi_aload_n (pc' := 1644) hm293 rfl rfl rfl (by decide) ?_
  refine wi_iload (pc' := 1646) hm293 rfl rfl rfl ?_
  refine wi_iconst (pc' := 1647) (v := 2) hm293 rfl rfl rfl ?_
  obtain ⟨g3, h⟩ := h
  refine wi_iadd (pc' := 1648) hm293 rfl rfl g3 ?_
  obtain ⟨g4, h⟩ := h
  refine wi_sload (pc' := 1649) hm293 rfl rfl g4 ?_
  refine wi_aload_n (pc' := 1650) hm293 rfl rfl rfl (by decide) ?_
  refine wc_In (pc' := 1653) (by decide) rfl (by decide) ((fx_wE hm293 rfl).trans (fx_exS (mj := 279) (as := [(10, 0), (0, (σ 9 0 (x4 + 1))), (0, (σ 9 0 (x4 + 2))), (61, 0)]) (rest := []) rfl rk279 rfl rfl rfl rfl)) h (fun y1 σ1 h => ?_)
  refine wi_istore (pc' := 1655) (L' := [(9, 0), (10, 0), (46, 0), (61, 0), (0, x4), (0, y1), w6]) hm293 rfl rfl rfl ?_
  refine wi_aload_n (pc' := 1656) hm293 rfl rfl rfl (by decide) ?_
  refine wi_aload_n (pc' := 1657) hm293 rfl rfl rfl (by decide) ?_
  refine wi_iload (pc' := 1659) hm293 rfl rfl rfl ?_
  refine wi_iconst (pc' := 1660) (v := 1) hm293 rfl rfl rfl ?_
  refine wi_iadd (pc' := 1661) hm293 rfl rfl g1 ?_
  obtain ⟨g5, h⟩ := h
  refine wi_sload (pc' := 1662) hm293 rfl rfl g5 ?_
  refine wi_aload_n (pc' := 1663) hm293 rfl rfl rfl (by decide) ?_
  refine wi_iload (pc' := 1665) hm293 rfl rfl rfl ?_
  refine wi_iconst (pc' := 1666) (v := 2) hm293 rfl rfl rfl ?_
  refine wi_iadd (pc' := 1667) hm293 rfl rfl g3 ?_
  obtain ⟨g6, h⟩ := h
  refine wi_sload (pc' := 1668) hm293 rfl rfl g6 ?_
  refine wc_In (pc' := 1671) (by decide) rfl (by decide) ((fx_wE hm293 rfl).trans (fx_exV (mj := 230) (as := [(0, (σ1 9 0 (x4 + 1))), (0, (σ1 9 0 (x4 + 2)))]) (rest := []) rfl rk230 rfl rfl rfl rfl rfl)) h (fun y2 σ2 h => ?_)
  refine wi_istore (pc' := 1673) (L' := [(9, 0), (10, 0), (46, 0), (61, 0), (0, x4), (0, y1), (0, y2)]) hm293 rfl rfl rfl ?_
  refine wi_aload_n (pc' := 1674) hm293 rfl rfl rfl (by decide) ?_
  refine wc_In (pc' := 1677) (by decide) rfl (by decide) ((fx_wE hm293 rfl).trans (fx_exV (mj := 148) (as := []) (rest := []) rfl rk148 rfl rfl rfl rfl rfl)) h (fun y3 σ3 h => ?_)
  refine wi_iload (pc' := 1679) hm293 rfl rfl rfl ?_
  refine wi_ic_eq (pc' := 1682) (t := 1684) hm293 rfl rfl rfl (fun hc => ?_) (fun hc => ?_)
  · replace h := h.1 hc
    refine wi_iload (pc' := 1686) hm293 rfl rfl rfl ?_
    refine wi_if_ne (pc' := 1689) (t := 1701) hm293 rfl rfl rfl (fun hc => ?_) (fun hc => ?_)
    · replace h := h.1 hc
      refine wi_goto (t := 2734) hm293 rfl rfl ?_
      exact h
    · replace h := h.2 hc
      refine wi_aload_n (pc' := 1690) hm293 rfl rfl rfl (by decide) ?_
      refine wi_iconst (pc' := 1691) (v := 0) hm293 rfl rfl rfl ?_
      refine wi_laload (pc' := 1692) hm293 rfl rfl rfl (N := 1) rfl (by decide) ?_
      refine wi_iload (pc' := 1694) hm293 rfl rfl rfl ?_
      refine wi_i2l (pc' := 1695) hm293 rfl rfl ?_
      refine wi_lcmp (pc' := 1696) hm293 rfl rfl ?_
      refine wi_if_eq (pc' := 1699) (t := 1701) hm293 rfl rfl rfl (fun hc => ?_) (fun hc => ?_)
      · replace h := h.1 hc
        refine wi_goto (t := 2734) hm293 rfl rfl ?_
        exact h
      · replace h := h.2 hc
        refine wi_iconst (pc' := 1700) (v := 0) hm293 rfl rfl rfl ?_
        exact wi_zret hm293 rfl (by decide) h
  · replace h := h.2 hc
    refine wi_iconst (pc' := 1683) (v := 0) hm293 rfl rfl rfl ?_
    exact wi_zret hm293 rfl (by decide) h
set_option maxRecDepth 100000 in
theorem t293_1704 {x4 : Int} {w5 w6 : fx_V} {σ : fx_S} {Q : fx_V → fx_S → Prop} (h : (fx_rg (x4 + 1)) ∧ (0 ≤ (x4 + 1) ∧ (x4 + 1) < σ 9 0 (-1)) ∧ (fx_rg (x4 + 2)) ∧ (0 ≤ (x4 + 2) ∧ (x4 + 2) < σ 9 0 (-1)) ∧ fx_CI 280 [(10, 0), (0, (σ 9 0 (x4 + 1))), (0, (σ 9 0 (x4 + 2))), (61, 0)] σ Q (fun y1 σ1 => (0 ≤ (x4 + 1) ∧ (x4 + 1) < σ1 9 0 (-1)) ∧ (0 ≤ (x4 + 2) ∧ (x4 + 2) < σ1 9 0 (-1)) ∧ fx_CI 232 [(46, 0), (0, (σ1 9 0 (x4 + 1))), (0, (σ1 9 0 (x4 + 2)))] σ1 Q (fun y2 σ2 => fx_CI 148 [(46, 0)] σ2 Q (fun y3 σ3 => ((y3 = y1 → ((y1 ≠ 0 → fx_Wp 293 2734 [(9, 0), (10, 0), (46, 0), (61, 0), (0, x4), (0, y1), (0, y2)] [] σ3 Q) ∧ (y1 = 0 → (((fx_cmp (σ3 61 0 0) y2) = 0 → fx_Wp 293 2734 [(9, 0), (10, 0), (46, 0), (61, 0), (0, x4), (0, y1), (0, y2)] [] σ3 Q) ∧ ((fx_cmp (σ3 61 0 0) y2) ≠ 0 → Q (0, 0) σ3))))) ∧ (y3 ≠ y1 → Q (0, 0) σ3)))))) : fx_Wp 293 1704 [(9, 0), (10, 0), (46, 0), (61, 0), (0, x4), w5, w6] [] σ Q := by
  refine wi_aload_n (pc' := 1705) hm293 rfl rfl rfl (by decide) ?_
  refine wi_aload_n (pc' := 1706) hm293 rfl rfl rfl (by decide) ?_
  refine wi_iload (pc' := 1708) hm293 rfl rfl rfl ?_
  refine wi_iconst (pc' := 1709) (v := 1) hm293 rfl rfl rfl ?_
  obtain ⟨g1, h⟩ := h
  refine wi_iadd (pc' := 1710) hm293 rfl rfl g1 ?_
  obtain ⟨g2, h⟩ := h
  refine wi_sload (pc' := 1711) hm293 rfl rfl g2 ?_
  refine wi_aload_n (pc' := 1712) hm293 rfl rfl rfl (by decide) ?_
  refine wi_iload (pc' := 1714) hm293 rfl rfl rfl ?_
  refine wi_iconst (pc' := 1715) (v := 2) hm293 rfl rfl rfl ?_
  obtain ⟨g3, h⟩ := h
  refine wi_iadd (pc' := 1716) hm293 rfl rfl g3 ?_
  obtain ⟨g4, h⟩ := h
  refine wi_sload (pc' := 1717) hm293 rfl rfl g4 ?_
  refine wi_aload_n (pc' := 1718) hm293 rfl rfl rfl (by decide) ?_
  refine wc_In (pc' := 1721) (by decide) rfl (by decide) ((fx_wE hm293 rfl).trans (fx_exS (mj := 280) (as := [(10, 0), (0, (σ 9 0 (x4 + 1))), (0, (σ 9 0 (x4 + 2))), (61, 0)]) (rest := []) rfl rk280 rfl rfl rfl rfl)) h (fun y1 σ1 h => ?_)
  refine wi_istore (pc' := 1723) (L' := [(9, 0), (10, 0), (46, 0), (61, 0), (0, x4), (0, y1), w6]) hm293 rfl rfl rfl ?_
  refine wi_aload_n (pc' := 1724) hm293 rfl rfl rfl (by decide) ?_
  refine wi_aload_n (pc' := 1725) hm293 rfl rfl rfl (by decide) ?_
  refine wi_iload (pc' := 1727) hm293 rfl rfl rfl ?_
  refine wi_iconst (pc' := 1728) (v := 1) hm293 rfl rfl rfl ?_
  refine wi_iadd (pc' := 1729) hm293 rfl rfl g1 ?_
  obtain ⟨g5, h⟩ := h
  refine wi_sload (pc' := 1730) hm293 rfl rfl g5 ?_
  refine wi_aload_n (pc' := 1731) hm293 rfl rfl rfl (by decide) ?_
  refine wi_iload (pc' := 1733) hm293 rfl rfl rfl ?_
  refine wi_iconst (pc' := 1734) (v := 2) hm293 rfl rfl rfl ?_
  refine wi_iadd (pc' := 1735) hm293 rfl rfl g3 ?_
  obtain ⟨g6, h⟩ := h
  refine wi_sload (pc' := 1736) hm293 rfl rfl g6 ?_
  refine wc_In (pc' := 1739) (by decide) rfl (by decide) ((fx_wE hm293 rfl).trans (fx_exV (mj := 232) (as := [(0, (σ1 9 0 (x4 + 1))), (0, (σ1 9 0 (x4 + 2)))]) (rest := []) rfl rk232 rfl rfl rfl rfl rfl)) h (fun y2 σ2 h => ?_)
  refine wi_istore (pc' := 1741) (L' := [(9, 0), (10, 0), (46, 0), (61, 0), (0, x4), (0, y1), (0, y2)]) hm293 rfl rfl rfl ?_
  refine wi_aload_n (pc' := 1742) hm293 rfl rfl rfl (by decide) ?_
  refine wc_In (pc' := 1745) (by decide) rfl (by decide) ((fx_wE hm293 rfl).trans (fx_exV (mj := 148) (as := []) (rest := []) rfl rk148 rfl rfl rfl rfl rfl)) h (fun y3 σ3 h => ?_)
  refine wi_iload (pc' := 1747) hm293 rfl rfl rfl ?_
  refine wi_ic_eq (pc' := 1750) (t := 1752) hm293 rfl rfl rfl (fun hc => ?_) (fun hc => ?_)
  · replace h := h.1 hc
    refine wi_iload (pc' := 1754) hm293 rfl rfl rfl ?_
    refine wi_if_ne (pc' := 1757) (t := 1769) hm293 rfl rfl rfl (fun hc => ?_) (fun hc => ?_)
    · replace h := h.1 hc
      refine wi_goto (t := 2734) hm293 rfl rfl ?_
      exact h
    · replace h := h.2 hc
      refine wi_aload_n (pc' := 1758) hm293 rfl rfl rfl (by decide) ?_
      refine wi_iconst (pc' := 1759) (v := 0) hm293 rfl rfl rfl ?_
      refine wi_laload (pc' := 1760) hm293 rfl rfl rfl (N := 1) rfl (by decide) ?_
      refine wi_iload (pc' := 1762) hm293 rfl rfl rfl ?_
      refine wi_i2l (pc' := 1763) hm293 rfl rfl ?_
      refine wi_lcmp (pc' := 1764) hm293 rfl rfl ?_
      refine wi_if_eq (pc' := 1767) (t := 1769) hm293 rfl rfl rfl (fun hc => ?_) (fun hc => ?_)
      · replace h := h.1 hc
        refine wi_goto (t := 2734) hm293 rfl rfl ?_
        exact h
      · replace h := h.2 hc
        refine wi_iconst (pc' := 1768) (v := 0) hm293 rfl rfl rfl ?_
        exact wi_zret hm293 rfl (by decide) h
  · replace h := h.2 hc
    refine wi_iconst (pc' := 1751) (v := 0) hm293 rfl rfl rfl ?_
    exact wi_zret hm293 rfl (by decide) h
set_option maxRecDepth 100000 in
theorem t293_1772 {x4 : Int} {w5 w6 : fx_V} {σ : fx_S} {Q : fx_V → fx_S → Prop} (h : (fx_rg (x4 + 1)) ∧ (0 ≤ (x4 + 1) ∧ (x4 + 1) < σ 9 0 (-1)) ∧ (fx_rg (x4 + 2)) ∧ (0 ≤ (x4 + 2) ∧ (x4 + 2) < σ 9 0 (-1)) ∧ fx_CI 281 [(10, 0), (0, (σ 9 0 (x4 + 1))), (0, (σ 9 0 (x4 + 2))), (61, 0)] σ Q (fun y1 σ1 => (0 ≤ (x4 + 1) ∧ (x4 + 1) < σ1 9 0 (-1)) ∧ (0 ≤ (x4 + 2) ∧ (x4 + 2) < σ1 9 0 (-1)) ∧ fx_CI 234 [(46, 0), (0, (σ1 9 0 (x4 + 1))), (0, (σ1 9 0 (x4 + 2)))] σ1 Q (fun y2 σ2 => fx_CI 148 [(46, 0)] σ2 Q (fun y3 σ3 => ((y3 = y1 → ((y1 ≠ 0 → fx_Wp 293 2734 [(9, 0), (10, 0), (46, 0), (61, 0), (0, x4), (0, y1), (0, y2)] [] σ3 Q) ∧ (y1 = 0 → (((fx_cmp (σ3 61 0 0) y2) = 0 → fx_Wp 293 2734 [(9, 0), (10, 0), (46, 0), (61, 0), (0, x4), (0, y1), (0, y2)] [] σ3 Q) ∧ ((fx_cmp (σ3 61 0 0) y2) ≠ 0 → Q (0, 0) σ3))))) ∧ (y3 ≠ y1 → Q (0, 0) σ3)))))) : fx_Wp 293 1772 [(9, 0), (10, 0), (46, 0), (61, 0), (0, x4), w5, w6] [] σ Q := by
  refine wi_aload_n (pc' := 1773) hm293 rfl rfl rfl (by decide) ?_
  refine wi_aload_n (pc' := 1774) hm293 rfl rfl rfl (by decide) ?_
  refine wi_iload (pc' := 1776) hm293 rfl rfl rfl ?_
  refine wi_iconst (pc' := 1777) (v := 1) hm293 rfl rfl rfl ?_
  obtain ⟨g1, h⟩ := h
  refine wi_iadd (pc' := 1778) hm293 rfl rfl g1 ?_
  obtain ⟨g2, h⟩ := h
  refine wi_sload (pc' := 1779) hm293 rfl rfl g2 ?_
  refine wi_aload_n (pc' := 1780) hm293 rfl rfl rfl (by decide) ?_
  refine wi_iload (pc' := 1782) hm293 rfl rfl rfl ?_
  refine wi_iconst (pc' := 1783) (v := 2) hm293 rfl rfl rfl ?_
  obtain ⟨g3, h⟩ := h
  refine wi_iadd (pc' := 1784) hm293 rfl rfl g3 ?_
  obtain ⟨g4, h⟩ := h
  refine wi_sload (pc' := 1785) hm293 rfl rfl g4 ?_
  refine wi_aload_n (pc' := 1786) hm293 rfl rfl rfl (by decide) ?_
  refine wc_In (pc' := 1789) (by decide) rfl (by decide) ((fx_wE hm293 rfl).trans (fx_exS (mj := 281) (as := [(10, 0), (0, (σ 9 0 (x4 + 1))), (0, (σ 9 0 (x4 + 2))), (61, 0)]) (rest := []) rfl rk281 rfl rfl rfl rfl)) h (fun y1 σ1 h => ?_)
  refine wi_istore (pc' := 1791) (L' := [(9, 0), (10, 0), (46, 0), (61, 0), (0, x4), (0, y1), w6]) hm293 rfl rfl rfl ?_
  refine wi_aload_n (pc' := 1792) hm293 rfl rfl rfl (by decide) ?_
  refine wi_aload_n (pc' := 1793) hm293 rfl rfl rfl (by decide) ?_
  refine wi_iload (pc' := 1795) hm293 rfl rfl rfl ?_
  refine wi_iconst (pc' := 1796) (v := 1) hm293 rfl rfl rfl ?_
  refine wi_iadd (pc' := 1797) hm293 rfl rfl g1 ?_
  obtain ⟨g5, h⟩ := h
  refine wi_sload (pc' := 1798) hm293 rfl rfl g5 ?_
  refine wi_aload_n (pc' := 1799) hm293 rfl rfl rfl (by decide) ?_
  refine wi_iload (pc' := 1801) hm293 rfl rfl rfl ?_
  refine wi_iconst (pc' := 1802) (v := 2) hm293 rfl rfl rfl ?_
  refine wi_iadd (pc' := 1803) hm293 rfl rfl g3 ?_
  obtain ⟨g6, h⟩ := h
  refine wi_sload (pc' := 1804) hm293 rfl rfl g6 ?_
  refine wc_In (pc' := 1807) (by decide) rfl (by decide) ((fx_wE hm293 rfl).trans (fx_exV (mj := 234) (as := [(0, (σ1 9 0 (x4 + 1))), (0, (σ1 9 0 (x4 + 2)))]) (rest := []) rfl rk234 rfl rfl rfl rfl rfl)) h (fun y2 σ2 h => ?_)
  refine wi_istore (pc' := 1809) (L' := [(9, 0), (10, 0), (46, 0), (61, 0), (0, x4), (0, y1), (0, y2)]) hm293 rfl rfl rfl ?_
  refine wi_aload_n (pc' := 1810) hm293 rfl rfl rfl (by decide) ?_
  refine wc_In (pc' := 1813) (by decide) rfl (by decide) ((fx_wE hm293 rfl).trans (fx_exV (mj := 148) (as := []) (rest := []) rfl rk148 rfl rfl rfl rfl rfl)) h (fun y3 σ3 h => ?_)
  refine wi_iload (pc' := 1815) hm293 rfl rfl rfl ?_
  refine wi_ic_eq (pc' := 1818) (t := 1820) hm293 rfl rfl rfl (fun hc => ?_) (fun hc => ?_)
  · replace h := h.1 hc
    refine wi_iload (pc' := 1822) hm293 rfl rfl rfl ?_
    refine wi_if_ne (pc' := 1825) (t := 1837) hm293 rfl rfl rfl (fun hc => ?_) (fun hc => ?_)
    · replace h := h.1 hc
      refine wi_goto (t := 2734) hm293 rfl rfl ?_
      exact h
    · replace h := h.2 hc
      refine wi_aload_n (pc' := 1826) hm293 rfl rfl rfl (by decide) ?_
      refine wi_iconst (pc' := 1827) (v := 0) hm293 rfl rfl rfl ?_
      refine wi_laload (pc' := 1828) hm293 rfl rfl rfl (N := 1) rfl (by decide) ?_
      refine wi_iload (pc' := 1830) hm293 rfl rfl rfl ?_
      refine wi_i2l (pc' := 1831) hm293 rfl rfl ?_
      refine wi_lcmp (pc' := 1832) hm293 rfl rfl ?_
      refine wi_if_eq (pc' := 1835) (t := 1837) hm293 rfl rfl rfl (fun hc => ?_) (fun hc => ?_)
      · replace h := h.1 hc
        refine wi_goto (t := 2734) hm293 rfl rfl ?_
        exact h
      · replace h := h.2 hc
        refine wi_iconst (pc' := 1836) (v := 0) hm293 rfl rfl rfl ?_
        exact wi_zret hm293 rfl (by decide) h
  · replace h := h.2 hc
    refine wi_iconst (pc' := 1819) (v := 0) hm293 rfl rfl rfl ?_
    exact wi_zret hm293 rfl (by decide) h
set_option maxRecDepth 100000 in
theorem t293_1840 {x4 : Int} {w5 w6 : fx_V} {σ : fx_S} {Q : fx_V → fx_S → Prop} (h : (fx_rg (x4 + 1)) ∧ (0 ≤ (x4 + 1) ∧ (x4 + 1) < σ 9 0 (-1)) ∧ (fx_rg (x4 + 2)) ∧ (0 ≤ (x4 + 2) ∧ (x4 + 2) < σ 9 0 (-1)) ∧ fx_CI 282 [(10, 0), (0, (σ 9 0 (x4 + 1))), (0, (σ 9 0 (x4 + 2))), (61, 0)] σ Q (fun y1 σ1 => (0 ≤ (x4 + 1) ∧ (x4 + 1) < σ1 9 0 (-1)) ∧ (0 ≤ (x4 + 2) ∧ (x4 + 2) < σ1 9 0 (-1)) ∧ fx_CI 235 [(46, 0), (0, (σ1 9 0 (x4 + 1))), (0, (σ1 9 0 (x4 + 2)))] σ1 Q (fun y2 σ2 => fx_CI 148 [(46, 0)] σ2 Q (fun y3 σ3 => ((y3 = y1 → ((y1 ≠ 0 → fx_Wp 293 2734 [(9, 0), (10, 0), (46, 0), (61, 0), (0, x4), (0, y1), (0, y2)] [] σ3 Q) ∧ (y1 = 0 → (((fx_cmp (σ3 61 0 0) y2) = 0 → fx_Wp 293 2734 [(9, 0), (10, 0), (46, 0), (61, 0), (0, x4), (0, y1), (0, y2)] [] σ3 Q) ∧ ((fx_cmp (σ3 61 0 0) y2) ≠ 0 → Q (0, 0) σ3))))) ∧ (y3 ≠ y1 → Q (0, 0) σ3)))))) : fx_Wp 293 1840 [(9, 0), (10, 0), (46, 0), (61, 0), (0, x4), w5, w6] [] σ Q := by
  refine wi_aload_n (pc' := 1841) hm293 rfl rfl rfl (by decide) ?_
  refine wi_aload_n (pc' := 1842) hm293 rfl rfl rfl (by decide) ?_
  refine wi_iload (pc' := 1844) hm293 rfl rfl rfl ?_
  refine wi_iconst (pc' := 1845) (v := 1) hm293 rfl rfl rfl ?_
  obtain ⟨g1, h⟩ := h
  refine wi_iadd (pc' := 1846) hm293 rfl rfl g1 ?_
  obtain ⟨g2, h⟩ := h
  refine wi_sload (pc' := 1847) hm293 rfl rfl g2 ?_
  refine wi_aload_n (pc' := 1848) hm293 rfl rfl rfl (by decide) ?_
  refine wi_iload (pc' := 1850) hm293 rfl rfl rfl ?_
  refine wi_iconst (pc' := 1851) (v := 2) hm293 rfl rfl rfl ?_
  obtain ⟨g3, h⟩ := h
  refine wi_iadd (pc' := 1852) hm293 rfl rfl g3 ?_
  obtain ⟨g4, h⟩ := h
  refine wi_sload (pc' := 1853) hm293 rfl rfl g4 ?_
  refine wi_aload_n (pc' := 1854) hm293 rfl rfl rfl (by decide) ?_
  refine wc_In (pc' := 1857) (by decide) rfl (by decide) ((fx_wE hm293 rfl).trans (fx_exS (mj := 282) (as := [(10, 0), (0, (σ 9 0 (x4 + 1))), (0, (σ 9 0 (x4 + 2))), (61, 0)]) (rest := []) rfl rk282 rfl rfl rfl rfl)) h (fun y1 σ1 h => ?_)
  refine wi_istore (pc' := 1859) (L' := [(9, 0), (10, 0), (46, 0), (61, 0), (0, x4), (0, y1), w6]) hm293 rfl rfl rfl ?_
  refine wi_aload_n (pc' := 1860) hm293 rfl rfl rfl (by decide) ?_
  refine wi_aload_n (pc' := 1861) hm293 rfl rfl rfl (by decide) ?_
  refine wi_iload (pc' := 1863) hm293 rfl rfl rfl ?_
  refine wi_iconst (pc' := 1864) (v := 1) hm293 rfl rfl rfl ?_
  refine wi_iadd (pc' := 1865) hm293 rfl rfl g1 ?_
  obtain ⟨g5, h⟩ := h
  refine wi_sload (pc' := 1866) hm293 rfl rfl g5 ?_
  refine wi_aload_n (pc' := 1867) hm293 rfl rfl rfl (by decide) ?_
  refine wi_iload (pc' := 1869) hm293 rfl rfl rfl ?_
  refine wi_iconst (pc' := 1870) (v := 2) hm293 rfl rfl rfl ?_
  refine wi_iadd (pc' := 1871) hm293 rfl rfl g3 ?_
  obtain ⟨g6, h⟩ := h
  refine wi_sload (pc' := 1872) hm293 rfl rfl g6 ?_
  refine wc_In (pc' := 1875) (by decide) rfl (by decide) ((fx_wE hm293 rfl).trans (fx_exV (mj := 235) (as := [(0, (σ1 9 0 (x4 + 1))), (0, (σ1 9 0 (x4 + 2)))]) (rest := []) rfl rk235 rfl rfl rfl rfl rfl)) h (fun y2 σ2 h => ?_)
  refine wi_istore (pc' := 1877) (L' := [(9, 0), (10, 0), (46, 0), (61, 0), (0, x4), (0, y1), (0, y2)]) hm293 rfl rfl rfl ?_
  refine wi_aload_n (pc' := 1878) hm293 rfl rfl rfl (by decide) ?_
  refine wc_In (pc' := 1881) (by decide) rfl (by decide) ((fx_wE hm293 rfl).trans (fx_exV (mj := 148) (as := []) (rest := []) rfl rk148 rfl rfl rfl rfl rfl)) h (fun y3 σ3 h => ?_)
  refine wi_iload (pc' := 1883) hm293 rfl rfl rfl ?_
  refine wi_ic_eq (pc' := 1886) (t := 1888) hm293 rfl rfl rfl (fun hc => ?_) (fun hc => ?_)
  · replace h := h.1 hc
    refine wi_iload (pc' := 1890) hm293 rfl rfl rfl ?_
    refine wi_if_ne (pc' := 1893) (t := 1905) hm293 rfl rfl rfl (fun hc => ?_) (fun hc => ?_)
    · replace h := h.1 hc
      refine wi_goto (t := 2734) hm293 rfl rfl ?_
      exact h
    · replace h := h.2 hc
      refine wi_aload_n (pc' := 1894) hm293 rfl rfl rfl (by decide) ?_
      refine wi_iconst (pc' := 1895) (v := 0) hm293 rfl rfl rfl ?_
      refine wi_laload (pc' := 1896) hm293 rfl rfl rfl (N := 1) rfl (by decide) ?_
      refine wi_iload (pc' := 1898) hm293 rfl rfl rfl ?_
      refine wi_i2l (pc' := 1899) hm293 rfl rfl ?_
      refine wi_lcmp (pc' := 1900) hm293 rfl rfl ?_
      refine wi_if_eq (pc' := 1903) (t := 1905) hm293 rfl rfl rfl (fun hc => ?_) (fun hc => ?_)
      · replace h := h.1 hc
        refine wi_goto (t := 2734) hm293 rfl rfl ?_
        exact h
      · replace h := h.2 hc
        refine wi_iconst (pc' := 1904) (v := 0) hm293 rfl rfl rfl ?_
        exact wi_zret hm293 rfl (by decide) h
  · replace h := h.2 hc
    refine wi_iconst (pc' := 1887) (v := 0) hm293 rfl rfl rfl ?_
    exact wi_zret hm293 rfl (by decide) h
set_option maxRecDepth 100000 in
theorem t293_1908 {x4 : Int} {w5 w6 : fx_V} {σ : fx_S} {Q : fx_V → fx_S → Prop} (h : (fx_rg (x4 + 1)) ∧ (0 ≤ (x4 + 1) ∧ (x4 + 1) < σ 9 0 (-1)) ∧ (fx_rg (x4 + 2)) ∧ (0 ≤ (x4 + 2) ∧ (x4 + 2) < σ 9 0 (-1)) ∧ fx_CI 283 [(10, 0), (0, (σ 9 0 (x4 + 1))), (0, (σ 9 0 (x4 + 2))), (61, 0)] σ Q (fun y1 σ1 => (0 ≤ (x4 + 1) ∧ (x4 + 1) < σ1 9 0 (-1)) ∧ (0 ≤ (x4 + 2) ∧ (x4 + 2) < σ1 9 0 (-1)) ∧ fx_CI 236 [(46, 0), (0, (σ1 9 0 (x4 + 1))), (0, (σ1 9 0 (x4 + 2)))] σ1 Q (fun y2 σ2 => fx_CI 148 [(46, 0)] σ2 Q (fun y3 σ3 => ((y3 = y1 → ((y1 ≠ 0 → fx_Wp 293 2734 [(9, 0), (10, 0), (46, 0), (61, 0), (0, x4), (0, y1), (0, y2)] [] σ3 Q) ∧ (y1 = 0 → (((fx_cmp (σ3 61 0 0) y2) = 0 → fx_Wp 293 2734 [(9, 0), (10, 0), (46, 0), (61, 0), (0, x4), (0, y1), (0, y2)] [] σ3 Q) ∧ ((fx_cmp (σ3 61 0 0) y2) ≠ 0 → Q (0, 0) σ3))))) ∧ (y3 ≠ y1 → Q (0, 0) σ3)))))) : fx_Wp 293 1908 [(9, 0), (10, 0), (46, 0), (61, 0), (0, x4), w5, w6] [] σ Q := by
  refine wi_aload_n (pc' := 1909) hm293 rfl rfl rfl (by decide) ?_
  refine wi_aload_n (pc' := 1910) hm293 rfl rfl rfl (by decide) ?_
  refine wi_iload (pc' := 1912) hm293 rfl rfl rfl ?_
  refine wi_iconst (pc' := 1913) (v := 1) hm293 rfl rfl rfl ?_
  obtain ⟨g1, h⟩ := h
  refine wi_iadd (pc' := 1914) hm293 rfl rfl g1 ?_
  obtain ⟨g2, h⟩ := h
  refine wi_sload (pc' := 1915) hm293 rfl rfl g2 ?_
  refine wi_aload_n (pc' := 1916) hm293 rfl rfl rfl (by decide) ?_
  refine wi_iload (pc' := 1918) hm293 rfl rfl rfl ?_
  refine wi_iconst (pc' := 1919) (v := 2) hm293 rfl rfl rfl ?_
  obtain ⟨g3, h⟩ := h
  refine wi_iadd (pc' := 1920) hm293 rfl rfl g3 ?_
  obtain ⟨g4, h⟩ := h
  refine wi_sload (pc' := 1921) hm293 rfl rfl g4 ?_
  refine wi_aload_n (pc' := 1922) hm293 rfl rfl rfl (by decide) ?_
  refine wc_In (pc' := 1925) (by decide) rfl (by decide) ((fx_wE hm293 rfl).trans (fx_exS (mj := 283) (as := [(10, 0), (0, (σ 9 0 (x4 + 1))), (0, (σ 9 0 (x4 + 2))), (61, 0)]) (rest := []) rfl rk283 rfl rfl rfl rfl)) h (fun y1 σ1 h => ?_)
  refine wi_istore (pc' := 1927) (L' := [(9, 0), (10, 0), (46, 0), (61, 0), (0, x4), (0, y1), w6]) hm293 rfl rfl rfl ?_
  refine wi_aload_n (pc' := 1928) hm293 rfl rfl rfl (by decide) ?_
  refine wi_aload_n (pc' := 1929) hm293 rfl rfl rfl (by decide) ?_
  refine wi_iload (pc' := 1931) hm293 rfl rfl rfl ?_
  refine wi_iconst (pc' := 1932) (v := 1) hm293 rfl rfl rfl ?_
  refine wi_iadd (pc' := 1933) hm293 rfl rfl g1 ?_
  obtain ⟨g5, h⟩ := h
  refine wi_sload (pc' := 1934) hm293 rfl rfl g5 ?_
  refine wi_aload_n (pc' := 1935) hm293 rfl rfl rfl (by decide) ?_
  refine wi_iload (pc' := 1937) hm293 rfl rfl rfl ?_
  refine wi_iconst (pc' := 1938) (v := 2) hm293 rfl rfl rfl ?_
  refine wi_iadd (pc' := 1939) hm293 rfl rfl g3 ?_
  obtain ⟨g6, h⟩ := h
  refine wi_sload (pc' := 1940) hm293 rfl rfl g6 ?_
  refine wc_In (pc' := 1943) (by decide) rfl (by decide) ((fx_wE hm293 rfl).trans (fx_exV (mj := 236) (as := [(0, (σ1 9 0 (x4 + 1))), (0, (σ1 9 0 (x4 + 2)))]) (rest := []) rfl rk236 rfl rfl rfl rfl rfl)) h (fun y2 σ2 h => ?_)
  refine wi_istore (pc' := 1945) (L' := [(9, 0), (10, 0), (46, 0), (61, 0), (0, x4), (0, y1), (0, y2)]) hm293 rfl rfl rfl ?_
  refine wi_aload_n (pc' := 1946) hm293 rfl rfl rfl (by decide) ?_
  refine wc_In (pc' := 1949) (by decide) rfl (by decide) ((fx_wE hm293 rfl).trans (fx_exV (mj := 148) (as := []) (rest := []) rfl rk148 rfl rfl rfl rfl rfl)) h (fun y3 σ3 h => ?_)
  refine wi_iload (pc' := 1951) hm293 rfl rfl rfl ?_
  refine wi_ic_eq (pc' := 1954) (t := 1956) hm293 rfl rfl rfl (fun hc => ?_) (fun hc => ?_)
  · replace h := h.1 hc
    refine wi_iload (pc' := 1958) hm293 rfl rfl rfl ?_
    refine wi_if_ne (pc' := 1961) (t := 1973) hm293 rfl rfl rfl (fun hc => ?_) (fun hc => ?_)
    · replace h := h.1 hc
      refine wi_goto (t := 2734) hm293 rfl rfl ?_
      exact h
    · replace h := h.2 hc
      refine wi_aload_n (pc' := 1962) hm293 rfl rfl rfl (by decide) ?_
      refine wi_iconst (pc' := 1963) (v := 0) hm293 rfl rfl rfl ?_
      refine wi_laload (pc' := 1964) hm293 rfl rfl rfl (N := 1) rfl (by decide) ?_
      refine wi_iload (pc' := 1966) hm293 rfl rfl rfl ?_
      refine wi_i2l (pc' := 1967) hm293 rfl rfl ?_
      refine wi_lcmp (pc' := 1968) hm293 rfl rfl ?_
      refine wi_if_eq (pc' := 1971) (t := 1973) hm293 rfl rfl rfl (fun hc => ?_) (fun hc => ?_)
      · replace h := h.1 hc
        refine wi_goto (t := 2734) hm293 rfl rfl ?_
        exact h
      · replace h := h.2 hc
        refine wi_iconst (pc' := 1972) (v := 0) hm293 rfl rfl rfl ?_
        exact wi_zret hm293 rfl (by decide) h
  · replace h := h.2 hc
    refine wi_iconst (pc' := 1955) (v := 0) hm293 rfl rfl rfl ?_
    exact wi_zret hm293 rfl (by decide) h
set_option maxRecDepth 100000 in
theorem t293_1976 {x4 : Int} {w5 w6 : fx_V} {σ : fx_S} {Q : fx_V → fx_S → Prop} (h : (fx_rg (x4 + 1)) ∧ (0 ≤ (x4 + 1) ∧ (x4 + 1) < σ 9 0 (-1)) ∧ (fx_rg (x4 + 2)) ∧ (0 ≤ (x4 + 2) ∧ (x4 + 2) < σ 9 0 (-1)) ∧ fx_CI 284 [(10, 0), (0, (σ 9 0 (x4 + 1))), (0, (σ 9 0 (x4 + 2))), (61, 0)] σ Q (fun y1 σ1 => (0 ≤ (x4 + 1) ∧ (x4 + 1) < σ1 9 0 (-1)) ∧ (0 ≤ (x4 + 2) ∧ (x4 + 2) < σ1 9 0 (-1)) ∧ fx_CI 242 [(46, 0), (0, (σ1 9 0 (x4 + 1))), (0, (σ1 9 0 (x4 + 2)))] σ1 Q (fun y2 σ2 => fx_CI 148 [(46, 0)] σ2 Q (fun y3 σ3 => ((y3 = y1 → ((y1 ≠ 0 → fx_Wp 293 2734 [(9, 0), (10, 0), (46, 0), (61, 0), (0, x4), (0, y1), (0, y2)] [] σ3 Q) ∧ (y1 = 0 → (((fx_cmp (σ3 61 0 0) y2) = 0 → fx_Wp 293 2734 [(9, 0), (10, 0), (46, 0), (61, 0), (0, x4), (0, y1), (0, y2)] [] σ3 Q) ∧ ((fx_cmp (σ3 61 0 0) y2) ≠ 0 → Q (0, 0) σ3))))) ∧ (y3 ≠ y1 → Q (0, 0) σ3)))))) : fx_Wp 293 1976 [(9, 0), (10, 0), (46, 0), (61, 0), (0, x4), w5, w6] [] σ Q := by
  refine wi_aload_n (pc' := 1977) hm293 rfl rfl rfl (by decide) ?_
  refine wi_aload_n (pc' := 1978) hm293 rfl rfl rfl (by decide) ?_
  refine wi_iload (pc' := 1980) hm293 rfl rfl rfl ?_
  refine wi_iconst (pc' := 1981) (v := 1) hm293 rfl rfl rfl ?_
  obtain ⟨g1, h⟩ := h
  refine wi_iadd (pc' := 1982) hm293 rfl rfl g1 ?_
  obtain ⟨g2, h⟩ := h
  refine wi_sload (pc' := 1983) hm293 rfl rfl g2 ?_
  refine wi_aload_n (pc' := 1984) hm293 rfl rfl rfl (by decide) ?_
  refine wi_iload (pc' := 1986) hm293 rfl rfl rfl ?_
  refine wi_iconst (pc' := 1987) (v := 2) hm293 rfl rfl rfl ?_
  obtain ⟨g3, h⟩ := h
  refine wi_iadd (pc' := 1988) hm293 rfl rfl g3 ?_
  obtain ⟨g4, h⟩ := h
  refine wi_sload (pc' := 1989) hm293 rfl rfl g4 ?_
  refine wi_aload_n (pc' := 1990) hm293 rfl rfl rfl (by decide) ?_
  refine wc_In (pc' := 1993) (by decide) rfl (by decide) ((fx_wE hm293 rfl).trans (fx_exS (mj := 284) (as := [(10, 0), (0, (σ 9 0 (x4 + 1))), (0, (σ 9 0 (x4 + 2))), (61, 0)]) (rest := []) rfl rk284 rfl rfl rfl rfl)) h (fun y1 σ1 h => ?_)
  refine wi_istore (pc' := 1995) (L' := [(9, 0), (10, 0), (46, 0), (61, 0), (0, x4), (0, y1), w6]) hm293 rfl rfl rfl ?_
  refine wi_aload_n (pc' := 1996) hm293 rfl rfl rfl (by decide) ?_
  refine wi_aload_n (pc' := 1997) hm293 rfl rfl rfl (by decide) ?_
  refine wi_iload (pc' := 1999) hm293 rfl rfl rfl ?_
  refine wi_iconst (pc' := 2000) (v := 1) hm293 rfl rfl rfl ?_
  refine wi_iadd (pc' := 2001) hm293 rfl rfl g1 ?_
  obtain ⟨g5, h⟩ := h
  refine wi_sload (pc' := 2002) hm293 rfl rfl g5 ?_
  refine wi_aload_n (pc' := 2003) hm293 rfl rfl rfl (by decide) ?_
  refine wi_iload (pc' := 2005) hm293 rfl rfl rfl ?_
  refine wi_iconst (pc' := 2006) (v := 2) hm293 rfl rfl rfl ?_
  refine wi_iadd (pc' := 2007) hm293 rfl rfl g3 ?_
  obtain ⟨g6, h⟩ := h
  refine wi_sload (pc' := 2008) hm293 rfl rfl g6 ?_
  refine wc_In (pc' := 2011) (by decide) rfl (by decide) ((fx_wE hm293 rfl).trans (fx_exV (mj := 242) (as := [(0, (σ1 9 0 (x4 + 1))), (0, (σ1 9 0 (x4 + 2)))]) (rest := []) rfl rk242 rfl rfl rfl rfl rfl)) h (fun y2 σ2 h => ?_)
  refine wi_istore (pc' := 2013) (L' := [(9, 0), (10, 0), (46, 0), (61, 0), (0, x4), (0, y1), (0, y2)]) hm293 rfl rfl rfl ?_
  refine wi_aload_n (pc' := 2014) hm293 rfl rfl rfl (by decide) ?_
  refine wc_In (pc' := 2017) (by decide) rfl (by decide) ((fx_wE hm293 rfl).trans (fx_exV (mj := 148) (as := []) (rest := []) rfl rk148 rfl rfl rfl rfl rfl)) h (fun y3 σ3 h => ?_)
  refine wi_iload (pc' := 2019) hm293 rfl rfl rfl ?_
  refine wi_ic_eq (pc' := 2022) (t := 2024) hm293 rfl rfl rfl (fun hc => ?_) (fun hc => ?_)
  · replace h := h.1 hc
    refine wi_iload (pc' := 2026) hm293 rfl rfl rfl ?_
    refine wi_if_ne (pc' := 2029) (t := 2041) hm293 rfl rfl rfl (fun hc => ?_) (fun hc => ?_)
    · replace h := h.1 hc
      refine wi_goto (t := 2734) hm293 rfl rfl ?_
      exact h
    · replace h := h.2 hc
      refine wi_aload_n (pc' := 2030) hm293 rfl rfl rfl (by decide) ?_
      refine wi_iconst (pc' := 2031) (v := 0) hm293 rfl rfl rfl ?_
      refine wi_laload (pc' := 2032) hm293 rfl rfl rfl (N := 1) rfl (by decide) ?_
      refine wi_iload (pc' := 2034) hm293 rfl rfl rfl ?_
      refine wi_i2l (pc' := 2035) hm293 rfl rfl ?_
      refine wi_lcmp (pc' := 2036) hm293 rfl rfl ?_
      refine wi_if_eq (pc' := 2039) (t := 2041) hm293 rfl rfl rfl (fun hc => ?_) (fun hc => ?_)
      · replace h := h.1 hc
        refine wi_goto (t := 2734) hm293 rfl rfl ?_
        exact h
      · replace h := h.2 hc
        refine wi_iconst (pc' := 2040) (v := 0) hm293 rfl rfl rfl ?_
        exact wi_zret hm293 rfl (by decide) h
  · replace h := h.2 hc
    refine wi_iconst (pc' := 2023) (v := 0) hm293 rfl rfl rfl ?_
    exact wi_zret hm293 rfl (by decide) h
set_option maxRecDepth 100000 in
theorem t293_2044 {x4 : Int} {w5 w6 : fx_V} {σ : fx_S} {Q : fx_V → fx_S → Prop} (h : (fx_rg (x4 + 1)) ∧ (0 ≤ (x4 + 1) ∧ (x4 + 1) < σ 9 0 (-1)) ∧ (fx_rg (x4 + 2)) ∧ (0 ≤ (x4 + 2) ∧ (x4 + 2) < σ 9 0 (-1)) ∧ fx_CI 285 [(10, 0), (0, (σ 9 0 (x4 + 1))), (0, (σ 9 0 (x4 + 2))), (61, 0)] σ Q (fun y1 σ1 => (0 ≤ (x4 + 1) ∧ (x4 + 1) < σ1 9 0 (-1)) ∧ (0 ≤ (x4 + 2) ∧ (x4 + 2) < σ1 9 0 (-1)) ∧ fx_CI 243 [(46, 0), (0, (σ1 9 0 (x4 + 1))), (0, (σ1 9 0 (x4 + 2)))] σ1 Q (fun y2 σ2 => fx_CI 148 [(46, 0)] σ2 Q (fun y3 σ3 => ((y3 = y1 → ((y1 ≠ 0 → fx_Wp 293 2734 [(9, 0), (10, 0), (46, 0), (61, 0), (0, x4), (0, y1), (0, y2)] [] σ3 Q) ∧ (y1 = 0 → (((fx_cmp (σ3 61 0 0) y2) = 0 → fx_Wp 293 2734 [(9, 0), (10, 0), (46, 0), (61, 0), (0, x4), (0, y1), (0, y2)] [] σ3 Q) ∧ ((fx_cmp (σ3 61 0 0) y2) ≠ 0 → Q (0, 0) σ3))))) ∧ (y3 ≠ y1 → Q (0, 0) σ3)))))) : fx_Wp 293 2044 [(9, 0), (10, 0), (46, 0), (61, 0), (0, x4), w5, w6] [] σ Q := by
  refine wi_aload_n (pc' := 2045) hm293 rfl rfl rfl (by decide) ?_
  refine wi_aload_n (pc' := 2046) hm293 rfl rfl rfl (by decide) ?_
  refine wi_iload (pc' := 2048) hm293 rfl rfl rfl ?_
  refine wi_iconst (pc' := 2049) (v := 1) hm293 rfl rfl rfl ?_
  obtain ⟨g1, h⟩ := h
  refine wi_iadd (pc' := 2050) hm293 rfl rfl g1 ?_
  obtain ⟨g2, h⟩ := h
  refine wi_sload (pc' := 2051) hm293 rfl rfl g2 ?_
  refine wi_aload_n (pc' := 2052) hm293 rfl rfl rfl (by decide) ?_
  refine wi_iload (pc' := 2054) hm293 rfl rfl rfl ?_
  refine wi_iconst (pc' := 2055) (v := 2) hm293 rfl rfl rfl ?_
  obtain ⟨g3, h⟩ := h
  refine wi_iadd (pc' := 2056) hm293 rfl rfl g3 ?_
  obtain ⟨g4, h⟩ := h
  refine wi_sload (pc' := 2057) hm293 rfl rfl g4 ?_
  refine wi_aload_n (pc' := 2058) hm293 rfl rfl rfl (by decide) ?_
  refine wc_In (pc' := 2061) (by decide) rfl (by decide) ((fx_wE hm293 rfl).trans (fx_exS (mj := 285) (as := [(10, 0), (0, (σ 9 0 (x4 + 1))), (0, (σ 9 0 (x4 + 2))), (61, 0)]) (rest := []) rfl rk285 rfl rfl rfl rfl)) h (fun y1 σ1 h => ?_)
  refine wi_istore (pc' := 2063) (L' := [(9, 0), (10, 0), (46, 0), (61, 0), (0, x4), (0, y1), w6]) hm293 rfl rfl rfl ?_
  refine wi_aload_n (pc' := 2064) hm293 rfl rfl rfl (by decide) ?_
  refine wi_aload_n (pc' := 2065) hm293 rfl rfl rfl (by decide) ?_
  refine wi_iload (pc' := 2067) hm293 rfl rfl rfl ?_
  refine wi_iconst (pc' := 2068) (v := 1) hm293 rfl rfl rfl ?_
  refine wi_iadd (pc' := 2069) hm293 rfl rfl g1 ?_
  obtain ⟨g5, h⟩ := h
  refine wi_sload (pc' := 2070) hm293 rfl rfl g5 ?_
  refine wi_aload_n (pc' := 2071) hm293 rfl rfl rfl (by decide) ?_
  refine wi_iload (pc' := 2073) hm293 rfl rfl rfl ?_
  refine wi_iconst (pc' := 2074) (v := 2) hm293 rfl rfl rfl ?_
  refine wi_iadd (pc' := 2075) hm293 rfl rfl g3 ?_
  obtain ⟨g6, h⟩ := h
  refine wi_sload (pc' := 2076) hm293 rfl rfl g6 ?_
  refine wc_In (pc' := 2079) (by decide) rfl (by decide) ((fx_wE hm293 rfl).trans (fx_exV (mj := 243) (as := [(0, (σ1 9 0 (x4 + 1))), (0, (σ1 9 0 (x4 + 2)))]) (rest := []) rfl rk243 rfl rfl rfl rfl rfl)) h (fun y2 σ2 h => ?_)
  refine wi_istore (pc' := 2081) (L' := [(9, 0), (10, 0), (46, 0), (61, 0), (0, x4), (0, y1), (0, y2)]) hm293 rfl rfl rfl ?_
  refine wi_aload_n (pc' := 2082) hm293 rfl rfl rfl (by decide) ?_
  refine wc_In (pc' := 2085) (by decide) rfl (by decide) ((fx_wE hm293 rfl).trans (fx_exV (mj := 148) (as := []) (rest := []) rfl rk148 rfl rfl rfl rfl rfl)) h (fun y3 σ3 h => ?_)
  refine wi_iload (pc' := 2087) hm293 rfl rfl rfl ?_
  refine wi_ic_eq (pc' := 2090) (t := 2092) hm293 rfl rfl rfl (fun hc => ?_) (fun hc => ?_)
  · replace h := h.1 hc
    refine wi_iload (pc' := 2094) hm293 rfl rfl rfl ?_
    refine wi_if_ne (pc' := 2097) (t := 2109) hm293 rfl rfl rfl (fun hc => ?_) (fun hc => ?_)
    · replace h := h.1 hc
      refine wi_goto (t := 2734) hm293 rfl rfl ?_
      exact h
    · replace h := h.2 hc
      refine wi_aload_n (pc' := 2098) hm293 rfl rfl rfl (by decide) ?_
      refine wi_iconst (pc' := 2099) (v := 0) hm293 rfl rfl rfl ?_
      refine wi_laload (pc' := 2100) hm293 rfl rfl rfl (N := 1) rfl (by decide) ?_
      refine wi_iload (pc' := 2102) hm293 rfl rfl rfl ?_
      refine wi_i2l (pc' := 2103) hm293 rfl rfl ?_
      refine wi_lcmp (pc' := 2104) hm293 rfl rfl ?_
      refine wi_if_eq (pc' := 2107) (t := 2109) hm293 rfl rfl rfl (fun hc => ?_) (fun hc => ?_)
      · replace h := h.1 hc
        refine wi_goto (t := 2734) hm293 rfl rfl ?_
        exact h
      · replace h := h.2 hc
        refine wi_iconst (pc' := 2108) (v := 0) hm293 rfl rfl rfl ?_
        exact wi_zret hm293 rfl (by decide) h
  · replace h := h.2 hc
    refine wi_iconst (pc' := 2091) (v := 0) hm293 rfl rfl rfl ?_
    exact wi_zret hm293 rfl (by decide) h
set_option maxRecDepth 100000 in
theorem t293_2112 {x4 : Int} {w5 w6 : fx_V} {σ : fx_S} {Q : fx_V → fx_S → Prop} (h : (fx_rg (x4 + 1)) ∧ (0 ≤ (x4 + 1) ∧ (x4 + 1) < σ 9 0 (-1)) ∧ (fx_rg (x4 + 2)) ∧ (0 ≤ (x4 + 2) ∧ (x4 + 2) < σ 9 0 (-1)) ∧ fx_CI 286 [(10, 0), (0, (σ 9 0 (x4 + 1))), (0, (σ 9 0 (x4 + 2))), (61, 0)] σ Q (fun y1 σ1 => (0 ≤ (x4 + 1) ∧ (x4 + 1) < σ1 9 0 (-1)) ∧ (0 ≤ (x4 + 2) ∧ (x4 + 2) < σ1 9 0 (-1)) ∧ fx_CI 244 [(46, 0), (0, (σ1 9 0 (x4 + 1))), (0, (σ1 9 0 (x4 + 2)))] σ1 Q (fun y2 σ2 => fx_CI 148 [(46, 0)] σ2 Q (fun y3 σ3 => ((y3 = y1 → ((y1 ≠ 0 → fx_Wp 293 2734 [(9, 0), (10, 0), (46, 0), (61, 0), (0, x4), (0, y1), (0, y2)] [] σ3 Q) ∧ (y1 = 0 → (((fx_cmp (σ3 61 0 0) y2) = 0 → fx_Wp 293 2734 [(9, 0), (10, 0), (46, 0), (61, 0), (0, x4), (0, y1), (0, y2)] [] σ3 Q) ∧ ((fx_cmp (σ3 61 0 0) y2) ≠ 0 → Q (0, 0) σ3))))) ∧ (y3 ≠ y1 → Q (0, 0) σ3)))))) : fx_Wp 293 2112 [(9, 0), (10, 0), (46, 0), (61, 0), (0, x4), w5, w6] [] σ Q := by
  refine wi_aload_n (pc' := 2113) hm293 rfl rfl rfl (by decide) ?_
  refine wi_aload_n (pc' := 2114) hm293 rfl rfl rfl (by decide) ?_
  refine wi_iload (pc' := 2116) hm293 rfl rfl rfl ?_
  refine wi_iconst (pc' := 2117) (v := 1) hm293 rfl rfl rfl ?_
  obtain ⟨g1, h⟩ := h
  refine wi_iadd (pc' := 2118) hm293 rfl rfl g1 ?_
  obtain ⟨g2, h⟩ := h
  refine wi_sload (pc' := 2119) hm293 rfl rfl g2 ?_
  refine wi_aload_n (pc' := 2120) hm293 rfl rfl rfl (by decide) ?_
  refine wi_iload (pc' := 2122) hm293 rfl rfl rfl ?_
  refine wi_iconst (pc' := 2123) (v := 2) hm293 rfl rfl rfl ?_
  obtain ⟨g3, h⟩ := h
  refine wi_iadd (pc' := 2124) hm293 rfl rfl g3 ?_
  obtain ⟨g4, h⟩ := h
  refine wi_sload (pc' := 2125) hm293 rfl rfl g4 ?_
  refine wi_aload_n (pc' := 2126) hm293 rfl rfl rfl (by decide) ?_
  refine wc_In (pc' := 2129) (by decide) rfl (by decide) ((fx_wE hm293 rfl).trans (fx_exS (mj := 286) (as := [(10, 0), (0, (σ 9 0 (x4 + 1))), (0, (σ 9 0 (x4 + 2))), (61, 0)]) (rest := []) rfl rk286 rfl rfl rfl rfl)) h (fun y1 σ1 h => ?_)
  refine wi_istore (pc' := 2131) (L' := [(9, 0), (10, 0), (46, 0), (61, 0), (0, x4), (0, y1), w6]) hm293 rfl rfl rfl ?_
  refine wi_aload_n (pc' := 2132) hm293 rfl rfl rfl (by decide) ?_
  refine wi_aload_n (pc' := 2133) hm293 rfl rfl rfl (by decide) ?_
  refine wi_iload (pc' := 2135) hm293 rfl rfl rfl ?_
  refine wi_iconst (pc' := 2136) (v := 1) hm293 rfl rfl rfl ?_
  refine wi_iadd (pc' := 2137) hm293 rfl rfl g1 ?_
  obtain ⟨g5, h⟩ := h
  refine wi_sload (pc' := 2138) hm293 rfl rfl g5 ?_
  refine wi_aload_n (pc' := 2139) hm293 rfl rfl rfl (by decide) ?_
  refine wi_iload (pc' := 2141) hm293 rfl rfl rfl ?_
  refine wi_iconst (pc' := 2142) (v := 2) hm293 rfl rfl rfl ?_
  refine wi_iadd (pc' := 2143) hm293 rfl rfl g3 ?_
  obtain ⟨g6, h⟩ := h
  refine wi_sload (pc' := 2144) hm293 rfl rfl g6 ?_
  refine wc_In (pc' := 2147) (by decide) rfl (by decide) ((fx_wE hm293 rfl).trans (fx_exV (mj := 244) (as := [(0, (σ1 9 0 (x4 + 1))), (0, (σ1 9 0 (x4 + 2)))]) (rest := []) rfl rk244 rfl rfl rfl rfl rfl)) h (fun y2 σ2 h => ?_)
  refine wi_istore (pc' := 2149) (L' := [(9, 0), (10, 0), (46, 0), (61, 0), (0, x4), (0, y1), (0, y2)]) hm293 rfl rfl rfl ?_
  refine wi_aload_n (pc' := 2150) hm293 rfl rfl rfl (by decide) ?_
  refine wc_In (pc' := 2153) (by decide) rfl (by decide) ((fx_wE hm293 rfl).trans (fx_exV (mj := 148) (as := []) (rest := []) rfl rk148 rfl rfl rfl rfl rfl)) h (fun y3 σ3 h => ?_)
  refine wi_iload (pc' := 2155) hm293 rfl rfl rfl ?_
  refine wi_ic_eq (pc' := 2158) (t := 2160) hm293 rfl rfl rfl (fun hc => ?_) (fun hc => ?_)
  · replace h := h.1 hc
    refine wi_iload (pc' := 2162) hm293 rfl rfl rfl ?_
    refine wi_if_ne (pc' := 2165) (t := 2177) hm293 rfl rfl rfl (fun hc => ?_) (fun hc => ?_)
    · replace h := h.1 hc
      refine wi_goto (t := 2734) hm293 rfl rfl ?_
      exact h
    · replace h := h.2 hc
      refine wi_aload_n (pc' := 2166) hm293 rfl rfl rfl (by decide) ?_
      refine wi_iconst (pc' := 2167) (v := 0) hm293 rfl rfl rfl ?_
      refine wi_laload (pc' := 2168) hm293 rfl rfl rfl (N := 1) rfl (by decide) ?_
      refine wi_iload (pc' := 2170) hm293 rfl rfl rfl ?_
      refine wi_i2l (pc' := 2171) hm293 rfl rfl ?_
      refine wi_lcmp (pc' := 2172) hm293 rfl rfl ?_
      refine wi_if_eq (pc' := 2175) (t := 2177) hm293 rfl rfl rfl (fun hc => ?_) (fun hc => ?_)
      · replace h := h.1 hc
        refine wi_goto (t := 2734) hm293 rfl rfl ?_
        exact h
      · replace h := h.2 hc
        refine wi_iconst (pc' := 2176) (v := 0) hm293 rfl rfl rfl ?_
        exact wi_zret hm293 rfl (by decide) h
  · replace h := h.2 hc
    refine wi_iconst (pc' := 2159) (v := 0) hm293 rfl rfl rfl ?_
    exact wi_zret hm293 rfl (by decide) h
set_option maxRecDepth 100000 in
theorem t293_2180 {x4 : Int} {w5 w6 : fx_V} {σ : fx_S} {Q : fx_V → fx_S → Prop} (h : (fx_rg (x4 + 1)) ∧ (0 ≤ (x4 + 1) ∧ (x4 + 1) < σ 9 0 (-1)) ∧ (fx_rg (x4 + 2)) ∧ (0 ≤ (x4 + 2) ∧ (x4 + 2) < σ 9 0 (-1)) ∧ fx_CI 287 [(10, 0), (0, (σ 9 0 (x4 + 1))), (0, (σ 9 0 (x4 + 2))), (61, 0)] σ Q (fun y1 σ1 => (0 ≤ (x4 + 1) ∧ (x4 + 1) < σ1 9 0 (-1)) ∧ (0 ≤ (x4 + 2) ∧ (x4 + 2) < σ1 9 0 (-1)) ∧ fx_CI 245 [(46, 0), (0, (σ1 9 0 (x4 + 1))), (0, (σ1 9 0 (x4 + 2)))] σ1 Q (fun y2 σ2 => fx_CI 148 [(46, 0)] σ2 Q (fun y3 σ3 => ((y3 = y1 → ((y1 ≠ 0 → fx_Wp 293 2734 [(9, 0), (10, 0), (46, 0), (61, 0), (0, x4), (0, y1), (0, y2)] [] σ3 Q) ∧ (y1 = 0 → (((fx_cmp (σ3 61 0 0) y2) = 0 → fx_Wp 293 2734 [(9, 0), (10, 0), (46, 0), (61, 0), (0, x4), (0, y1), (0, y2)] [] σ3 Q) ∧ ((fx_cmp (σ3 61 0 0) y2) ≠ 0 → Q (0, 0) σ3))))) ∧ (y3 ≠ y1 → Q (0, 0) σ3)))))) : fx_Wp 293 2180 [(9, 0), (10, 0), (46, 0), (61, 0), (0, x4), w5, w6] [] σ Q := by
  refine wi_aload_n (pc' := 2181) hm293 rfl rfl rfl (by decide) ?_
  refine wi_aload_n (pc' := 2182) hm293 rfl rfl rfl (by decide) ?_
  refine wi_iload (pc' := 2184) hm293 rfl rfl rfl ?_
  refine wi_iconst (pc' := 2185) (v := 1) hm293 rfl rfl rfl ?_
  obtain ⟨g1, h⟩ := h
  refine wi_iadd (pc' := 2186) hm293 rfl rfl g1 ?_
  obtain ⟨g2, h⟩ := h
  refine wi_sload (pc' := 2187) hm293 rfl rfl g2 ?_
  refine wi_aload_n (pc' := 2188) hm293 rfl rfl rfl (by decide) ?_
  refine wi_iload (pc' := 2190) hm293 rfl rfl rfl ?_
  refine wi_iconst (pc' := 2191) (v := 2) hm293 rfl rfl rfl ?_
  obtain ⟨g3, h⟩ := h
  refine wi_iadd (pc' := 2192) hm293 rfl rfl g3 ?_
  obtain ⟨g4, h⟩ := h
  refine wi_sload (pc' := 2193) hm293 rfl rfl g4 ?_
  refine wi_aload_n (pc' := 2194) hm293 rfl rfl rfl (by decide) ?_
  refine wc_In (pc' := 2197) (by decide) rfl (by decide) ((fx_wE hm293 rfl).trans (fx_exS (mj := 287) (as := [(10, 0), (0, (σ 9 0 (x4 + 1))), (0, (σ 9 0 (x4 + 2))), (61, 0)]) (rest := []) rfl rk287 rfl rfl rfl rfl)) h (fun y1 σ1 h => ?_)
  refine wi_istore (pc' := 2199) (L' := [(9, 0), (10, 0), (46, 0), (61, 0), (0, x4), (0, y1), w6]) hm293 rfl rfl rfl ?_
  refine wi_aload_n (pc' := 2200) hm293 rfl rfl rfl (by decide) ?_
  refine wi_aload_n (pc' := 2201) hm293 rfl rfl rfl (by decide) ?_
  refine wi_iload (pc' := 2203) hm293 rfl rfl rfl ?_
  refine wi_iconst (pc' := 2204) (v := 1) hm293 rfl rfl rfl ?_
  refine wi_iadd (pc' := 2205) hm293 rfl rfl g1 ?_
  obtain ⟨g5, h⟩ := h
  refine wi_sload (pc' := 2206) hm293 rfl rfl g5 ?_
  refine wi_aload_n (pc' := 2207) hm293 rfl rfl rfl (by decide) ?_
  refine wi_iload (pc' := 2209) hm293 rfl rfl rfl ?_
  refine wi_iconst (pc' := 2210) (v := 2) hm293 rfl rfl rfl ?_
  refine wi_iadd (pc' := 2211) hm293 rfl rfl g3 ?_
  obtain ⟨g6, h⟩ := h
  refine wi_sload (pc' := 2212) hm293 rfl rfl g6 ?_
  refine wc_In (pc' := 2215) (by decide) rfl (by decide) ((fx_wE hm293 rfl).trans (fx_exV (mj := 245) (as := [(0, (σ1 9 0 (x4 + 1))), (0, (σ1 9 0 (x4 + 2)))]) (rest := []) rfl rk245 rfl rfl rfl rfl rfl)) h (fun y2 σ2 h => ?_)
  refine wi_istore (pc' := 2217) (L' := [(9, 0), (10, 0), (46, 0), (61, 0), (0, x4), (0, y1), (0, y2)]) hm293 rfl rfl rfl ?_
  refine wi_aload_n (pc' := 2218) hm293 rfl rfl rfl (by decide) ?_
  refine wc_In (pc' := 2221) (by decide) rfl (by decide) ((fx_wE hm293 rfl).trans (fx_exV (mj := 148) (as := []) (rest := []) rfl rk148 rfl rfl rfl rfl rfl)) h (fun y3 σ3 h => ?_)
  refine wi_iload (pc' := 2223) hm293 rfl rfl rfl ?_
  refine wi_ic_eq (pc' := 2226) (t := 2228) hm293 rfl rfl rfl (fun hc => ?_) (fun hc => ?_)
  · replace h := h.1 hc
    refine wi_iload (pc' := 2230) hm293 rfl rfl rfl ?_
    refine wi_if_ne (pc' := 2233) (t := 2245) hm293 rfl rfl rfl (fun hc => ?_) (fun hc => ?_)
    · replace h := h.1 hc
      refine wi_goto (t := 2734) hm293 rfl rfl ?_
      exact h
    · replace h := h.2 hc
      refine wi_aload_n (pc' := 2234) hm293 rfl rfl rfl (by decide) ?_
      refine wi_iconst (pc' := 2235) (v := 0) hm293 rfl rfl rfl ?_
      refine wi_laload (pc' := 2236) hm293 rfl rfl rfl (N := 1) rfl (by decide) ?_
      refine wi_iload (pc' := 2238) hm293 rfl rfl rfl ?_
      refine wi_i2l (pc' := 2239) hm293 rfl rfl ?_
      refine wi_lcmp (pc' := 2240) hm293 rfl rfl ?_
      refine wi_if_eq (pc' := 2243) (t := 2245) hm293 rfl rfl rfl (fun hc => ?_) (fun hc => ?_)
      · replace h := h.1 hc
        refine wi_goto (t := 2734) hm293 rfl rfl ?_
        exact h
      · replace h := h.2 hc
        refine wi_iconst (pc' := 2244) (v := 0) hm293 rfl rfl rfl ?_
        exact wi_zret hm293 rfl (by decide) h
  · replace h := h.2 hc
    refine wi_iconst (pc' := 2227) (v := 0) hm293 rfl rfl rfl ?_
    exact wi_zret hm293 rfl (by decide) h
set_option maxRecDepth 100000 in
theorem t293_2248 {x4 : Int} {w5 w6 : fx_V} {σ : fx_S} {Q : fx_V → fx_S → Prop} (h : (fx_rg (x4 + 1)) ∧ (0 ≤ (x4 + 1) ∧ (x4 + 1) < σ 9 0 (-1)) ∧ (fx_rg (x4 + 2)) ∧ (0 ≤ (x4 + 2) ∧ (x4 + 2) < σ 9 0 (-1)) ∧ fx_CI 288 [(10, 0), (0, (σ 9 0 (x4 + 1))), (0, (σ 9 0 (x4 + 2))), (61, 0)] σ Q (fun y1 σ1 => (0 ≤ (x4 + 1) ∧ (x4 + 1) < σ1 9 0 (-1)) ∧ (0 ≤ (x4 + 2) ∧ (x4 + 2) < σ1 9 0 (-1)) ∧ fx_CI 246 [(46, 0), (0, (σ1 9 0 (x4 + 1))), (0, (σ1 9 0 (x4 + 2)))] σ1 Q (fun y2 σ2 => fx_CI 148 [(46, 0)] σ2 Q (fun y3 σ3 => ((y3 = y1 → ((y1 ≠ 0 → fx_Wp 293 2734 [(9, 0), (10, 0), (46, 0), (61, 0), (0, x4), (0, y1), (0, y2)] [] σ3 Q) ∧ (y1 = 0 → (((fx_cmp (σ3 61 0 0) y2) = 0 → fx_Wp 293 2734 [(9, 0), (10, 0), (46, 0), (61, 0), (0, x4), (0, y1), (0, y2)] [] σ3 Q) ∧ ((fx_cmp (σ3 61 0 0) y2) ≠ 0 → Q (0, 0) σ3))))) ∧ (y3 ≠ y1 → Q (0, 0) σ3)))))) : fx_Wp 293 2248 [(9, 0), (10, 0), (46, 0), (61, 0), (0, x4), w5, w6] [] σ Q := by
  refine wi_aload_n (pc' := 2249) hm293 rfl rfl rfl (by decide) ?_
  refine wi_aload_n (pc' := 2250) hm293 rfl rfl rfl (by decide) ?_
  refine wi_iload (pc' := 2252) hm293 rfl rfl rfl ?_
  refine wi_iconst (pc' := 2253) (v := 1) hm293 rfl rfl rfl ?_
  obtain ⟨g1, h⟩ := h
  refine wi_iadd (pc' := 2254) hm293 rfl rfl g1 ?_
  obtain ⟨g2, h⟩ := h
  refine wi_sload (pc' := 2255) hm293 rfl rfl g2 ?_
  refine wi_aload_n (pc' := 2256) hm293 rfl rfl rfl (by decide) ?_
  refine wi_iload (pc' := 2258) hm293 rfl rfl rfl ?_
  refine wi_iconst (pc' := 2259) (v := 2) hm293 rfl rfl rfl ?_
  obtain ⟨g3, h⟩ := h
  refine wi_iadd (pc' := 2260) hm293 rfl rfl g3 ?_
  obtain ⟨g4, h⟩ := h
  refine wi_sload (pc' := 2261) hm293 rfl rfl g4 ?_
  refine wi_aload_n (pc' := 2262) hm293 rfl rfl rfl (by decide) ?_
  refine wc_In (pc' := 2265) (by decide) rfl (by decide) ((fx_wE hm293 rfl).trans (fx_exS (mj := 288) (as := [(10, 0), (0, (σ 9 0 (x4 + 1))), (0, (σ 9 0 (x4 + 2))), (61, 0)]) (rest := []) rfl rk288 rfl rfl rfl rfl)) h (fun y1 σ1 h => ?_)
  refine wi_istore (pc' := 2267) (L' := [(9, 0), (10, 0), (46, 0), (61, 0), (0, x4), (0, y1), w6]) hm293 rfl rfl rfl ?_
  refine wi_aload_n (pc' := 2268) hm293 rfl rfl rfl (by decide) ?_
  refine wi_aload_n (pc' := 2269) hm293 rfl rfl rfl (by decide) ?_
  refine wi_iload (pc' := 2271) hm293 rfl rfl rfl ?_
  refine wi_iconst (pc' := 2272) (v := 1) hm293 rfl rfl rfl ?_
  refine wi_iadd (pc' := 2273) hm293 rfl rfl g1 ?_
  obtain ⟨g5, h⟩ := h
  refine wi_sload (pc' := 2274) hm293 rfl rfl g5 ?_
  refine wi_aload_n (pc' := 2275) hm293 rfl rfl rfl (by decide) ?_
  refine wi_iload (pc' := 2277) hm293 rfl rfl rfl ?_
  refine wi_iconst (pc' := 2278) (v := 2) hm293 rfl rfl rfl ?_
  refine wi_iadd (pc' := 2279) hm293 rfl rfl g3 ?_
  obtain ⟨g6, h⟩ := h
  refine wi_sload (pc' := 2280) hm293 rfl rfl g6 ?_
  refine wc_In (pc' := 2283) (by decide) rfl (by decide) ((fx_wE hm293 rfl).trans (fx_exV (mj := 246) (as := [(0, (σ1 9 0 (x4 + 1))), (0, (σ1 9 0 (x4 + 2)))]) (rest := []) rfl rk246 rfl rfl rfl rfl rfl)) h (fun y2 σ2 h => ?_)
  refine wi_istore (pc' := 2285) (L' := [(9, 0), (10, 0), (46, 0), (61, 0), (0, x4), (0, y1), (0, y2)]) hm293 rfl rfl rfl ?_
  refine wi_aload_n (pc' := 2286) hm293 rfl rfl rfl (by decide) ?_
  refine wc_In (pc' := 2289) (by decide) rfl (by decide) ((fx_wE hm293 rfl).trans (fx_exV (mj := 148) (as := []) (rest := []) rfl rk148 rfl rfl rfl rfl rfl)) h (fun y3 σ3 h => ?_)
  refine wi_iload (pc' := 2291) hm293 rfl rfl rfl ?_
  refine wi_ic_eq (pc' := 2294) (t := 2296) hm293 rfl rfl rfl (fun hc => ?_) (fun hc => ?_)
  · replace h := h.1 hc
    refine wi_iload (pc' := 2298) hm293 rfl rfl rfl ?_
    refine wi_if_ne (pc' := 2301) (t := 2313) hm293 rfl rfl rfl (fun hc => ?_) (fun hc => ?_)
    · replace h := h.1 hc
      refine wi_goto (t := 2734) hm293 rfl rfl ?_
      exact h
    · replace h := h.2 hc
      refine wi_aload_n (pc' := 2302) hm293 rfl rfl rfl (by decide) ?_
      refine wi_iconst (pc' := 2303) (v := 0) hm293 rfl rfl rfl ?_
      refine wi_laload (pc' := 2304) hm293 rfl rfl rfl (N := 1) rfl (by decide) ?_
      refine wi_iload (pc' := 2306) hm293 rfl rfl rfl ?_
      refine wi_i2l (pc' := 2307) hm293 rfl rfl ?_
      refine wi_lcmp (pc' := 2308) hm293 rfl rfl ?_
      refine wi_if_eq (pc' := 2311) (t := 2313) hm293 rfl rfl rfl (fun hc => ?_) (fun hc => ?_)
      · replace h := h.1 hc
        refine wi_goto (t := 2734) hm293 rfl rfl ?_
        exact h
      · replace h := h.2 hc
        refine wi_iconst (pc' := 2312) (v := 0) hm293 rfl rfl rfl ?_
        exact wi_zret hm293 rfl (by decide) h
  · replace h := h.2 hc
    refine wi_iconst (pc' := 2295) (v := 0) hm293 rfl rfl rfl ?_
    exact wi_zret hm293 rfl (by decide) h
set_option maxRecDepth 100000 in
theorem t293_2316 {x4 : Int} {w5 w6 : fx_V} {σ : fx_S} {Q : fx_V → fx_S → Prop} (h : (fx_rg (x4 + 1)) ∧ (0 ≤ (x4 + 1) ∧ (x4 + 1) < σ 9 0 (-1)) ∧ (fx_rg (x4 + 2)) ∧ (0 ≤ (x4 + 2) ∧ (x4 + 2) < σ 9 0 (-1)) ∧ fx_CI 289 [(10, 0), (0, (σ 9 0 (x4 + 1))), (0, (σ 9 0 (x4 + 2))), (61, 0)] σ Q (fun y1 σ1 => (0 ≤ (x4 + 1) ∧ (x4 + 1) < σ1 9 0 (-1)) ∧ (0 ≤ (x4 + 2) ∧ (x4 + 2) < σ1 9 0 (-1)) ∧ fx_CI 247 [(46, 0), (0, (σ1 9 0 (x4 + 1))), (0, (σ1 9 0 (x4 + 2)))] σ1 Q (fun y2 σ2 => fx_CI 148 [(46, 0)] σ2 Q (fun y3 σ3 => ((y3 = y1 → ((y1 ≠ 0 → fx_Wp 293 2734 [(9, 0), (10, 0), (46, 0), (61, 0), (0, x4), (0, y1), (0, y2)] [] σ3 Q) ∧ (y1 = 0 → ((y2 = 0 → (((fx_cmp (σ3 61 0 0) 0) = 0 → fx_Wp 293 2734 [(9, 0), (10, 0), (46, 0), (61, 0), (0, x4), (0, y1), (0, y2)] [] σ3 Q) ∧ ((fx_cmp (σ3 61 0 0) 0) ≠ 0 → Q (0, 0) σ3))) ∧ (y2 ≠ 0 → (((fx_cmp (σ3 61 0 0) 1) = 0 → fx_Wp 293 2734 [(9, 0), (10, 0), (46, 0), (61, 0), (0, x4), (0, y1), (0, y2)] [] σ3 Q) ∧ ((fx_cmp (σ3 61 0 0) 1) ≠ 0 → Q (0, 0) σ3))))))) ∧ (y3 ≠ y1 → Q (0, 0) σ3)))))) : fx_Wp 293 2316 [(9, 0), (10, 0), (46, 0), (61, 0), (0, x4), w5, w6] [] σ Q := by
  refine wi_aload_n (pc' := 2317) hm293 rfl rfl rfl (by decide) ?_
  refine wi_aload_n (pc' := 2318) hm293 rfl rfl rfl (by decide) ?_
  refine wi_iload (pc' := 2320) hm293 rfl rfl rfl ?_
  refine wi_iconst (pc' := 2321) (v := 1) hm293 rfl rfl rfl ?_
  obtain ⟨g1, h⟩ := h
  refine wi_iadd (pc' := 2322) hm293 rfl rfl g1 ?_
  obtain ⟨g2, h⟩ := h
  refine wi_sload (pc' := 2323) hm293 rfl rfl g2 ?_
  refine wi_aload_n (pc' := 2324) hm293 rfl rfl rfl (by decide) ?_
  refine wi_iload (pc' := 2326) hm293 rfl rfl rfl ?_
  refine wi_iconst (pc' := 2327) (v := 2) hm293 rfl rfl rfl ?_
  obtain ⟨g3, h⟩ := h
  refine wi_iadd (pc' := 2328) hm293 rfl rfl g3 ?_
  obtain ⟨g4, h⟩ := h
  refine wi_sload (pc' := 2329) hm293 rfl rfl g4 ?_
  refine wi_aload_n (pc' := 2330) hm293 rfl rfl rfl (by decide) ?_
  refine wc_In (pc' := 2333) (by decide) rfl (by decide) ((fx_wE hm293 rfl).trans (fx_exS (mj := 289) (as := [(10, 0), (0, (σ 9 0 (x4 + 1))), (0, (σ 9 0 (x4 + 2))), (61, 0)]) (rest := []) rfl rk289 rfl rfl rfl rfl)) h (fun y1 σ1 h => ?_)
  refine wi_istore (pc' := 2335) (L' := [(9, 0), (10, 0), (46, 0), (61, 0), (0, x4), (0, y1), w6]) hm293 rfl rfl rfl ?_
  refine wi_aload_n (pc' := 2336) hm293 rfl rfl rfl (by decide) ?_
  refine wi_aload_n (pc' := 2337) hm293 rfl rfl rfl (by decide) ?_
  refine wi_iload (pc' := 2339) hm293 rfl rfl rfl ?_
  refine wi_iconst (pc' := 2340) (v := 1) hm293 rfl rfl rfl ?_
  refine wi_iadd (pc' := 2341) hm293 rfl rfl g1 ?_
  obtain ⟨g5, h⟩ := h
  refine wi_sload (pc' := 2342) hm293 rfl rfl g5 ?_
  refine wi_aload_n (pc' := 2343) hm293 rfl rfl rfl (by decide) ?_
  refine wi_iload (pc' := 2345) hm293 rfl rfl rfl ?_
  refine wi_iconst (pc' := 2346) (v := 2) hm293 rfl rfl rfl ?_
  refine wi_iadd (pc' := 2347) hm293 rfl rfl g3 ?_
  obtain ⟨g6, h⟩ := h
  refine wi_sload (pc' := 2348) hm293 rfl rfl g6 ?_
  refine wc_In (pc' := 2351) (by decide) rfl (by decide) ((fx_wE hm293 rfl).trans (fx_exV (mj := 247) (as := [(0, (σ1 9 0 (x4 + 1))), (0, (σ1 9 0 (x4 + 2)))]) (rest := []) rfl rk247 rfl rfl rfl rfl rfl)) h (fun y2 σ2 h => ?_)
  refine wi_istore (pc' := 2353) (L' := [(9, 0), (10, 0), (46, 0), (61, 0), (0, x4), (0, y1), (0, y2)]) hm293 rfl rfl rfl ?_
  refine wi_aload_n (pc' := 2354) hm293 rfl rfl rfl (by decide) ?_
  refine wc_In (pc' := 2357) (by decide) rfl (by decide) ((fx_wE hm293 rfl).trans (fx_exV (mj := 148) (as := []) (rest := []) rfl rk148 rfl rfl rfl rfl rfl)) h (fun y3 σ3 h => ?_)
  refine wi_iload (pc' := 2359) hm293 rfl rfl rfl ?_
  refine wi_ic_eq (pc' := 2362) (t := 2364) hm293 rfl rfl rfl (fun hc => ?_) (fun hc => ?_)
  · replace h := h.1 hc
    refine wi_iload (pc' := 2366) hm293 rfl rfl rfl ?_
    refine wi_if_ne (pc' := 2369) (t := 2388) hm293 rfl rfl rfl (fun hc => ?_) (fun hc => ?_)
    · replace h := h.1 hc
      refine wi_goto (t := 2734) hm293 rfl rfl ?_
      exact h
    · replace h := h.2 hc
      refine wi_aload_n (pc' := 2370) hm293 rfl rfl rfl (by decide) ?_
      refine wi_iconst (pc' := 2371) (v := 0) hm293 rfl rfl rfl ?_
      refine wi_laload (pc' := 2372) hm293 rfl rfl rfl (N := 1) rfl (by decide) ?_
      refine wi_iload (pc' := 2374) hm293 rfl rfl rfl ?_
      refine wi_if_eq (pc' := 2377) (t := 2381) hm293 rfl rfl rfl (fun hc => ?_) (fun hc => ?_)
      · replace h := h.1 hc
        refine wi_lconst (pc' := 2382) (v := 0) hm293 rfl rfl rfl ?_
        refine wi_lcmp (pc' := 2383) hm293 rfl rfl ?_
        refine wi_if_eq (pc' := 2386) (t := 2388) hm293 rfl rfl rfl (fun hc => ?_) (fun hc => ?_)
        · replace h := h.1 hc
          refine wi_goto (t := 2734) hm293 rfl rfl ?_
          exact h
        · replace h := h.2 hc
          refine wi_iconst (pc' := 2387) (v := 0) hm293 rfl rfl rfl ?_
          exact wi_zret hm293 rfl (by decide) h
      · replace h := h.2 hc
        refine wi_lconst (pc' := 2378) (v := 1) hm293 rfl rfl rfl ?_
        refine wi_goto (t := 2382) hm293 rfl rfl ?_
        refine wi_lcmp (pc' := 2383) hm293 rfl rfl ?_
        refine wi_if_eq (pc' := 2386) (t := 2388) hm293 rfl rfl rfl (fun hc => ?_) (fun hc => ?_)
        · replace h := h.1 hc
          refine wi_goto (t := 2734) hm293 rfl rfl ?_
          exact h
        · replace h := h.2 hc
          refine wi_iconst (pc' := 2387) (v := 0) hm293 rfl rfl rfl ?_
          exact wi_zret hm293 rfl (by decide) h
  · replace h := h.2 hc
    refine wi_iconst (pc' := 2363) (v := 0) hm293 rfl rfl rfl ?_
    exact wi_zret hm293 rfl (by decide) h
set_option maxRecDepth 100000 in
theorem t293_2391 {x4 : Int} {w5 w6 : fx_V} {σ : fx_S} {Q : fx_V → fx_S → Prop} (h : (fx_rg (x4 + 1)) ∧ (0 ≤ (x4 + 1) ∧ (x4 + 1) < σ 9 0 (-1)) ∧ (fx_rg (x4 + 2)) ∧ (0 ≤ (x4 + 2) ∧ (x4 + 2) < σ 9 0 (-1)) ∧ (((σ 9 0 (x4 + 2)) = 0 → fx_CI 290 [(10, 0), (0, (σ 9 0 (x4 + 1))), (0, 0), (61, 0)] σ Q (fun y1 σ1 => (0 ≤ (x4 + 1) ∧ (x4 + 1) < σ1 9 0 (-1)) ∧ (0 ≤ (x4 + 2) ∧ (x4 + 2) < σ1 9 0 (-1)) ∧ (((σ1 9 0 (x4 + 2)) = 0 → fx_CI 248 [(46, 0), (0, (σ1 9 0 (x4 + 1))), (0, 0)] σ1 Q (fun y2 σ2 => fx_CI 148 [(46, 0)] σ2 Q (fun y3 σ3 => ((y3 = y1 → ((y1 ≠ 0 → fx_Wp 293 2734 [(9, 0), (10, 0), (46, 0), (61, 0), (0, x4), (0, y1), (0, y2)] [] σ3 Q) ∧ (y1 = 0 → (((fx_cmp (σ3 61 0 0) y2) = 0 → fx_Wp 293 2734 [(9, 0), (10, 0), (46, 0), (61, 0), (0, x4), (0, y1), (0, y2)] [] σ3 Q) ∧ ((fx_cmp (σ3 61 0 0) y2) ≠ 0 → Q (0, 0) σ3))))) ∧ (y3 ≠ y1 → Q (0, 0) σ3))))) ∧ ((σ1 9 0 (x4 + 2)) ≠ 0 → fx_CI 248 [(46, 0), (0, (σ1 9 0 (x4 + 1))), (0, 1)] σ1 Q (fun y4 σ4 => fx_CI 148 [(46, 0)] σ4 Q (fun y5 σ5 => ((y5 = y1 → ((y1 ≠ 0 → fx_Wp 293 2734 [(9, 0), (10, 0), (46, 0), (61, 0), (0, x4), (0, y1), (0, y4)] [] σ5 Q) ∧ (y1 = 0 → (((fx_cmp (σ5 61 0 0) y4) = 0 → fx_Wp 293 2734 [(9, 0), (10, 0), (46, 0), (61, 0), (0, x4), (0, y1), (0, y4)] [] σ5 Q) ∧ ((fx_cmp (σ5 61 0 0) y4) ≠ 0 → Q (0, 0) σ5))))) ∧ (y5 ≠ y1 → Q (0, 0) σ5)))))))) ∧ ((σ 9 0 (x4 + 2)) ≠ 0 → fx_CI 290 [(10, 0), (0, (σ 9 0 (x4 + 1))), (0, 1), (61, 0)] σ Q (fun y6 σ6 => (0 ≤ (x4 + 1) ∧ (x4 + 1) < σ6 9 0 (-1)) ∧ (0 ≤ (x4 + 2) ∧ (x4 + 2) < σ6 9 0 (-1)) ∧ (((σ6 9 0 (x4 + 2)) = 0 → fx_CI 248 [(46, 0), (0, (σ6 9 0 (x4 + 1))), (0, 0)] σ6 Q (fun y7 σ7 => fx_CI 148 [(46, 0)] σ7 Q (fun y8 σ8 => ((y8 = y6 → ((y6 ≠ 0 → fx_Wp 293 2734 [(9, 0), (10, 0), (46, 0), (61, 0), (0, x4), (0, y6), (0, y7)] [] σ8 Q) ∧ (y6 = 0 → (((fx_cmp (σ8 61 0 0) y7) = 0 → fx_Wp 293 2734 [(9, 0), (10, 0), (46, 0), (61, 0), (0, x4), (0, y6), (0, y7)] [] σ8 Q) ∧ ((fx_cmp (σ8 61 0 0) y7) ≠ 0 → Q (0, 0) σ8))))) ∧ (y8 ≠ y6 → Q (0, 0) σ8))))) ∧ ((σ6 9 0 (x4 + 2)) ≠ 0 → fx_CI 248 [(46, 0), (0, (σ6 9 0 (x4 + 1))), (0, 1)] σ6 Q (fun y9 σ9 => fx_CI 148 [(46, 0)] σ9 Q (fun y10 σ10 => ((y10 = y6 → ((y6 ≠ 0 → fx_Wp 293 2734 [(9, 0), (10, 0), (46, 0), (61, 0), (0, x4), (0, y6), (0, y9)] [] σ10 Q) ∧ (y6 = 0 → (((fx_cmp (σ10 61 0 0) y9) = 0 → fx_Wp 293 2734 [(9, 0), (10, 0), (46, 0), (61, 0), (0, x4), (0, y6), (0, y9)] [] σ10 Q) ∧ ((fx_cmp (σ10 61 0 0) y9) ≠ 0 → Q (0, 0) σ10))))) ∧ (y10 ≠ y6 → Q (0, 0) σ10)))))))))) : fx_Wp 293 2391 [(9, 0), (10, 0), (46, 0), (61, 0), (0, x4), w5, w6] [] σ Q := by
  refine wi_aload_n (pc' := 2392) hm293 rfl rfl rfl (by decide) ?_
  refine wi_aload_n (pc' := 2393) hm293 rfl rfl rfl (by decide) ?_
  refine wi_iload (pc' := 2395) hm293 rfl rfl rfl ?_
  refine wi_iconst (pc' := 2396) (v := 1) hm293 rfl rfl rfl ?_
  obtain ⟨g1, h⟩ := h
  refine wi_iadd (pc' := 2397) hm293 rfl rfl g1 ?_
  obtain ⟨g2, h⟩ := h
  refine wi_sload (pc' := 2398) hm293 rfl rfl g2 ?_
  refine wi_aload_n (pc' := 2399) hm293 rfl rfl rfl (by decide) ?_
  refine wi_iload (pc' := 2401) hm293 rfl rfl rfl ?_
  refine wi_iconst (pc' := 2402) (v := 2) hm293 rfl rfl rfl ?_
  obtain ⟨g3, h⟩ := h
  refine wi_iadd (pc' := 2403) hm293 rfl rfl g3 ?_
  obtain ⟨g4, h⟩ := h
  refine wi_sload (pc' := 2404) hm293 rfl rfl g4 ?_
  refine wi_if_eq (pc' := 2407) (t := 2411) hm293 rfl rfl rfl (fun hc => ?_) (fun hc => ?_)
  · replace h := h.1 hc
    refine wi_iconst (pc' := 2412) (v := 0) hm293 rfl rfl rfl ?_
    refine wi_aload_n (pc' := 2413) hm293 rfl rfl rfl (by decide) ?_
    refine wc_In (pc' := 2416) (by decide) rfl (by decide) ((fx_wE hm293 rfl).trans (fx_exS (mj := 290) (as := [(10, 0), (0, (σ 9 0 (x4 + 1))), (0, 0), (61, 0)]) (rest := []) rfl rk290 rfl rfl rfl rfl)) h (fun y1 σ1 h => ?_)
    refine wi_istore (pc' := 2418) (L' := [(9, 0), (10, 0), (46, 0), (61, 0), (0, x4), (0, y1), w6]) hm293 rfl rfl rfl ?_
    refine wi_aload_n (pc' := 2419) hm293 rfl rfl rfl (by decide) ?_
    refine wi_aload_n (pc' := 2420) hm293 rfl rfl rfl (by decide) ?_
    refine wi_iload (pc' := 2422) hm293 rfl rfl rfl ?_
    refine wi_iconst (pc' := 2423) (v := 1) hm293 rfl rfl rfl ?_
    refine wi_iadd (pc' := 2424) hm293 rfl rfl g1 ?_
    obtain ⟨g5, h⟩ := h
    refine wi_sload (pc' := 2425) hm293 rfl rfl g5 ?_
    refine wi_aload_n (pc' := 2426) hm293 rfl rfl rfl (by decide) ?_
    refine wi_iload (pc' := 2428) hm293 rfl rfl rfl ?_
    refine wi_iconst (pc' := 2429) (v := 2) hm293 rfl rfl rfl ?_
    refine wi_iadd (pc' := 2430) hm293 rfl rfl g3 ?_
    obtain ⟨g6, h⟩ := h
    refine wi_sload (pc' := 2431) hm293 rfl rfl g6 ?_
    refine wi_if_eq (pc' := 2434) (t := 2438) hm293 rfl rfl rfl (fun hc => ?_) (fun hc => ?_)
    · replace h := h.1 hc
      refine wi_iconst (pc' := 2439) (v := 0) hm293 rfl rfl rfl ?_
      refine wc_In (pc' := 2442) (by decide) rfl (by decide) ((fx_wE hm293 rfl).trans (fx_exV (mj := 248) (as := [(0, (σ1 9 0 (x4 + 1))), (0, 0)]) (rest := []) rfl rk248 rfl rfl rfl rfl rfl)) h (fun y2 σ2 h => ?_)
      refine wi_istore (pc' := 2444) (L' := [(9, 0), (10, 0), (46, 0), (61, 0), (0, x4), (0, y1), (0, y2)]) hm293 rfl rfl rfl ?_
      refine wi_aload_n (pc' := 2445) hm293 rfl rfl rfl (by decide) ?_
      refine wc_In (pc' := 2448) (by decide) rfl (by decide) ((fx_wE hm293 rfl).trans (fx_exV (mj := 148) (as := []) (rest := []) rfl rk148 rfl rfl rfl rfl rfl)) h (fun y3 σ3 h => ?_)
      refine wi_iload (pc' := 2450) hm293 rfl rfl rfl ?_
      refine wi_ic_eq (pc' := 2453) (t := 2455) hm293 rfl rfl rfl (fun hc => ?_) (fun hc => ?_)
      · replace h := h.1 hc
        refine wi_iload (pc' := 2457) hm293 rfl rfl rfl ?_
        refine wi_if_ne (pc' := 2460) (t := 2472) hm293 rfl rfl rfl (fun hc => ?_) (fun hc => ?_)
        · replace h := h.1 hc
          refine wi_goto (t := 2734) hm293 rfl rfl ?_
          exact h
        · replace h := h.2 hc
          refine wi_aload_n (pc' := 2461) hm293 rfl rfl rfl (by decide) ?_
          refine wi_iconst (pc' := 2462) (v := 0) hm293 rfl rfl rfl ?_
          refine wi_laload (pc' := 2463) hm293 rfl rfl rfl (N := 1) rfl (by decide) ?_
          refine wi_iload (pc' := 2465) hm293 rfl rfl rfl ?_
          refine wi_i2l (pc' := 2466) hm293 rfl rfl ?_
          refine wi_lcmp (pc' := 2467) hm293 rfl rfl ?_
          refine wi_if_eq (pc' := 2470) (t := 2472) hm293 rfl rfl rfl (fun hc => ?_) (fun hc => ?_)
          · replace h := h.1 hc
            refine wi_goto (t := 2734) hm293 rfl rfl ?_
            exact h
          · replace h := h.2 hc
            refine wi_iconst (pc' := 2471) (v := 0) hm293 rfl rfl rfl ?_
            exact wi_zret hm293 rfl (by decide) h
      · replace h := h.2 hc
        refine wi_iconst (pc' := 2454) (v := 0) hm293 rfl rfl rfl ?_
        exact wi_zret hm293 rfl (by decide) h
    · replace h := h.2 hc
      refine wi_iconst (pc' := 2435) (v := 1) hm293 rfl rfl rfl ?_
      refine wi_goto (t := 2439) hm293 rfl rfl ?_
      refine wc_In (pc' := 2442) (by decide) rfl (by decide) ((fx_wE hm293 rfl).trans (fx_exV (mj := 248) (as := [(0, (σ1 9 0 (x4 + 1))), (0, 1)]) (rest := []) rfl rk248 rfl rfl rfl rfl rfl)) h (fun y4 σ4 h => ?_)
      refine wi_istore (pc' := 2444) (L' := [(9, 0), (10, 0), (46, 0), (61, 0), (0, x4), (0, y1), (0, y4)]) hm293 rfl rfl rfl ?_
      refine wi_aload_n (pc' := 2445) hm293 rfl rfl rfl (by decide) ?_
      refine wc_In (pc' := 2448) (by decide) rfl (by decide) ((fx_wE hm293 rfl).trans (fx_exV (mj := 148) (as := []) (rest := []) rfl rk148 rfl rfl rfl rfl rfl)) h (fun y5 σ5 h => ?_)
      refine wi_iload (pc' := 2450) hm293 rfl rfl rfl ?_
      refine wi_ic_eq (pc' := 2453) (t := 2455) hm293 rfl rfl rfl (fun hc => ?_) (fun hc => ?_)
      · replace h := h.1 hc
        refine wi_iload (pc' := 2457) hm293 rfl rfl rfl ?_
        refine wi_if_ne (pc' := 2460) (t := 2472) hm293 rfl rfl rfl (fun hc => ?_) (fun hc => ?_)
        · replace h := h.1 hc
          refine wi_goto (t := 2734) hm293 rfl rfl ?_
          exact h
        · replace h := h.2 hc
          refine wi_aload_n (pc' := 2461) hm293 rfl rfl rfl (by decide) ?_
          refine wi_iconst (pc' := 2462) (v := 0) hm293 rfl rfl rfl ?_
          refine wi_laload (pc' := 2463) hm293 rfl rfl rfl (N := 1) rfl (by decide) ?_
          refine wi_iload (pc' := 2465) hm293 rfl rfl rfl ?_
          refine wi_i2l (pc' := 2466) hm293 rfl rfl ?_
          refine wi_lcmp (pc' := 2467) hm293 rfl rfl ?_
          refine wi_if_eq (pc' := 2470) (t := 2472) hm293 rfl rfl rfl (fun hc => ?_) (fun hc => ?_)
          · replace h := h.1 hc
            refine wi_goto (t := 2734) hm293 rfl rfl ?_
            exact h
          · replace h := h.2 hc
            refine wi_iconst (pc' := 2471) (v := 0) hm293 rfl rfl rfl ?_
            exact wi_zret hm293 rfl (by decide) h
      · replace h := h.2 hc
        refine wi_iconst (pc' := 2454) (v := 0) hm293 rfl rfl rfl ?_
        exact wi_zret hm293 rfl (by decide) h
  · replace h := h.2 hc
    refine wi_iconst (pc' := 2408) (v := 1) hm293 rfl rfl rfl ?_
    refine wi_goto (t := 2412) hm293 rfl rfl ?_
    refine wi_aload_n (pc' := 2413) hm293 rfl rfl rfl (by decide) ?_
    refine wc_In (pc' := 2416) (by decide) rfl (by decide) ((fx_wE hm293 rfl).trans (fx_exS (mj := 290) (as := [(10, 0), (0, (σ 9 0 (x4 + 1))), (0, 1), (61, 0)]) (rest := []) rfl rk290 rfl rfl rfl rfl)) h (fun y6 σ6 h => ?_)
    refine wi_istore (pc' := 2418) (L' := [(9, 0), (10, 0), (46, 0), (61, 0), (0, x4), (0, y6), w6]) hm293 rfl rfl rfl ?_
    refine wi_aload_n (pc' := 2419) hm293 rfl rfl rfl (by decide) ?_
    refine wi_aload_n (pc' := 2420) hm293 rfl rfl rfl (by decide) ?_
    refine wi_iload (pc' := 2422) hm293 rfl rfl rfl ?_
    refine wi_iconst (pc' := 2423) (v := 1) hm293 rfl rfl rfl ?_
    refine wi_iadd (pc' := 2424) hm293 rfl rfl g1 ?_
    obtain ⟨g5, h⟩ := h
    refine wi_sload (pc' := 2425) hm293 rfl rfl g5 ?_
    refine wi_aload_n (pc' := 2426) hm293 rfl rfl rfl (by decide) ?_
    refine wi_iload (pc' := 2428) hm293 rfl rfl rfl ?_
    refine wi_iconst (pc' := 2429) (v := 2) hm293 rfl rfl rfl ?_
    refine wi_iadd (pc' := 2430) hm293 rfl rfl g3 ?_
    obtain ⟨g6, h⟩ := h
    refine wi_sload (pc' := 2431) hm293 rfl rfl g6 ?_
    refine wi_if_eq (pc' := 2434) (t := 2438) hm293 rfl rfl rfl (fun hc => ?_) (fun hc => ?_)
    · replace h := h.1 hc
      refine wi_iconst (pc' := 2439) (v := 0) hm293 rfl rfl rfl ?_
      refine wc_In (pc' := 2442) (by decide) rfl (by decide) ((fx_wE hm293 rfl).trans (fx_exV (mj := 248) (as := [(0, (σ6 9 0 (x4 + 1))), (0, 0)]) (rest := []) rfl rk248 rfl rfl rfl rfl rfl)) h (fun y7 σ7 h => ?_)
      refine wi_istore (pc' := 2444) (L' := [(9, 0), (10, 0), (46, 0), (61, 0), (0, x4), (0, y6), (0, y7)]) hm293 rfl rfl rfl ?_
      refine wi_aload_n (pc' := 2445) hm293 rfl rfl rfl (by decide) ?_
      refine wc_In (pc' := 2448) (by decide) rfl (by decide) ((fx_wE hm293 rfl).trans (fx_exV (mj := 148) (as := []) (rest := []) rfl rk148 rfl rfl rfl rfl rfl)) h (fun y8 σ8 h => ?_)
      refine wi_iload (pc' := 2450) hm293 rfl rfl rfl ?_
      refine wi_ic_eq (pc' := 2453) (t := 2455) hm293 rfl rfl rfl (fun hc => ?_) (fun hc => ?_)
      · replace h := h.1 hc
        refine wi_iload (pc' := 2457) hm293 rfl rfl rfl ?_
        refine wi_if_ne (pc' := 2460) (t := 2472) hm293 rfl rfl rfl (fun hc => ?_) (fun hc => ?_)
        · replace h := h.1 hc
          refine wi_goto (t := 2734) hm293 rfl rfl ?_
          exact h
        · replace h := h.2 hc
          refine wi_aload_n (pc' := 2461) hm293 rfl rfl rfl (by decide) ?_
          refine wi_iconst (pc' := 2462) (v := 0) hm293 rfl rfl rfl ?_
          refine wi_laload (pc' := 2463) hm293 rfl rfl rfl (N := 1) rfl (by decide) ?_
          refine wi_iload (pc' := 2465) hm293 rfl rfl rfl ?_
          refine wi_i2l (pc' := 2466) hm293 rfl rfl ?_
          refine wi_lcmp (pc' := 2467) hm293 rfl rfl ?_
          refine wi_if_eq (pc' := 2470) (t := 2472) hm293 rfl rfl rfl (fun hc => ?_) (fun hc => ?_)
          · replace h := h.1 hc
            refine wi_goto (t := 2734) hm293 rfl rfl ?_
            exact h
          · replace h := h.2 hc
            refine wi_iconst (pc' := 2471) (v := 0) hm293 rfl rfl rfl ?_
            exact wi_zret hm293 rfl (by decide) h
      · replace h := h.2 hc
        refine wi_iconst (pc' := 2454) (v := 0) hm293 rfl rfl rfl ?_
        exact wi_zret hm293 rfl (by decide) h
    · replace h := h.2 hc
      refine wi_iconst (pc' := 2435) (v := 1) hm293 rfl rfl rfl ?_
      refine wi_goto (t := 2439) hm293 rfl rfl ?_
      refine wc_In (pc' := 2442) (by decide) rfl (by decide) ((fx_wE hm293 rfl).trans (fx_exV (mj := 248) (as := [(0, (σ6 9 0 (x4 + 1))), (0, 1)]) (rest := []) rfl rk248 rfl rfl rfl rfl rfl)) h (fun y9 σ9 h => ?_)
      refine wi_istore (pc' := 2444) (L' := [(9, 0), (10, 0), (46, 0), (61, 0), (0, x4), (0, y6), (0, y9)]) hm293 rfl rfl rfl ?_
      refine wi_aload_n (pc' := 2445) hm293 rfl rfl rfl (by decide) ?_
      refine wc_In (pc' := 2448) (by decide) rfl (by decide) ((fx_wE hm293 rfl).trans (fx_exV (mj := 148) (as := []) (rest := []) rfl rk148 rfl rfl rfl rfl rfl)) h (fun y10 σ10 h => ?_)
      refine wi_iload (pc' := 2450) hm293 rfl rfl rfl ?_
      refine wi_ic_eq (pc' := 2453) (t := 2455) hm293 rfl rfl rfl (fun hc => ?_) (fun hc => ?_)
      · replace h := h.1 hc
        refine wi_iload (pc' := 2457) hm293 rfl rfl rfl ?_
        refine wi_if_ne (pc' := 2460) (t := 2472) hm293 rfl rfl rfl (fun hc => ?_) (fun hc => ?_)
        · replace h := h.1 hc
          refine wi_goto (t := 2734) hm293 rfl rfl ?_
          exact h
        · replace h := h.2 hc
          refine wi_aload_n (pc' := 2461) hm293 rfl rfl rfl (by decide) ?_
          refine wi_iconst (pc' := 2462) (v := 0) hm293 rfl rfl rfl ?_
          refine wi_laload (pc' := 2463) hm293 rfl rfl rfl (N := 1) rfl (by decide) ?_
          refine wi_iload (pc' := 2465) hm293 rfl rfl rfl ?_
          refine wi_i2l (pc' := 2466) hm293 rfl rfl ?_
          refine wi_lcmp (pc' := 2467) hm293 rfl rfl ?_
          refine wi_if_eq (pc' := 2470) (t := 2472) hm293 rfl rfl rfl (fun hc => ?_) (fun hc => ?_)
          · replace h := h.1 hc
            refine wi_goto (t := 2734) hm293 rfl rfl ?_
            exact h
          · replace h := h.2 hc
            refine wi_iconst (pc' := 2471) (v := 0) hm293 rfl rfl rfl ?_
            exact wi_zret hm293 rfl (by decide) h
      · replace h := h.2 hc
        refine wi_iconst (pc' := 2454) (v := 0) hm293 rfl rfl rfl ?_
        exact wi_zret hm293 rfl (by decide) h
set_option maxRecDepth 100000 in
theorem t293_2475 {x4 : Int} {w5 w6 : fx_V} {σ : fx_S} {Q : fx_V → fx_S → Prop} (h : (fx_rg (x4 + 1)) ∧ (0 ≤ (x4 + 1) ∧ (x4 + 1) < σ 9 0 (-1)) ∧ (fx_rg (x4 + 2)) ∧ (0 ≤ (x4 + 2) ∧ (x4 + 2) < σ 9 0 (-1)) ∧ (fx_rg (x4 + 3)) ∧ (0 ≤ (x4 + 3) ∧ (x4 + 3) < σ 9 0 (-1)) ∧ fx_CI 291 [(10, 0), (0, (σ 9 0 (x4 + 1))), (0, (σ 9 0 (x4 + 2))), (0, (σ 9 0 (x4 + 3))), (61, 0)] σ Q (fun y1 σ1 => (0 ≤ (x4 + 1) ∧ (x4 + 1) < σ1 9 0 (-1)) ∧ (0 ≤ (x4 + 2) ∧ (x4 + 2) < σ1 9 0 (-1)) ∧ (0 ≤ (x4 + 3) ∧ (x4 + 3) < σ1 9 0 (-1)) ∧ fx_CI 249 [(46, 0), (0, (σ1 9 0 (x4 + 1))), (0, (σ1 9 0 (x4 + 2))), (0, (σ1 9 0 (x4 + 3)))] σ1 Q (fun y2 σ2 => fx_CI 148 [(46, 0)] σ2 Q (fun y3 σ3 => ((y3 = y1 → ((y1 ≠ 0 → fx_Wp 293 2734 [(9, 0), (10, 0), (46, 0), (61, 0), (0, x4), (0, y1), (0, y2)] [] σ3 Q) ∧ (y1 = 0 → (((fx_cmp (σ3 61 0 0) y2) = 0 → fx_Wp 293 2734 [(9, 0), (10, 0), (46, 0), (61, 0), (0, x4), (0, y1), (0, y2)] [] σ3 Q) ∧ ((fx_cmp (σ3 61 0 0) y2) ≠ 0 → Q (0, 0) σ3))))) ∧ (y3 ≠ y1 → Q (0, 0) σ3)))))) : fx_Wp 293 2475 [(9, 0), (10, 0), (46, 0), (61, 0), (0, x4), w5, w6] [] σ Q := by
  refine wi_aload_n (pc' := 2476) hm293 rfl rfl rfl (by decide) ?_
  refine wi_aload_n (pc' := 2477) hm293 rfl rfl rfl (by decide) ?_
  refine wi_iload (pc' := 2479) hm293 rfl rfl rfl ?_
  refine wi_iconst (pc' := 2480) (v := 1) hm293 rfl rfl rfl ?_
  obtain ⟨g1, h⟩ := h
  refine wi_iadd (pc' := 2481) hm293 rfl rfl g1 ?_
  obtain ⟨g2, h⟩ := h
  refine wi_sload (pc' := 2482) hm293 rfl rfl g2 ?_
  refine wi_aload_n (pc' := 2483) hm293 rfl rfl rfl (by decide) ?_
  refine wi_iload (pc' := 2485) hm293 rfl rfl rfl ?_
  refine wi_iconst (pc' := 2486) (v := 2) hm293 rfl rfl rfl ?_
  obtain ⟨g3, h⟩ := h
  refine wi_iadd (pc' := 2487) hm293 rfl rfl g3 ?_
  obtain ⟨g4, h⟩ := h
  refine wi_sload (pc' := 2488) hm293 rfl rfl g4 ?_
  refine wi_aload_n (pc' := 2489) hm293 rfl rfl rfl (by decide) ?_
  refine wi_iload (pc' := 2491) hm293 rfl rfl rfl ?_
  refine wi_iconst (pc' := 2492) (v := 3) hm293 rfl rfl rfl ?_
  obtain ⟨g5, h⟩ := h
  refine wi_iadd (pc' := 2493) hm293 rfl rfl g5 ?_
  obtain ⟨g6, h⟩ := h
  refine wi_sload (pc' := 2494) hm293 rfl rfl g6 ?_
  refine wi_aload_n (pc' := 2495) hm293 rfl rfl rfl (by decide) ?_
  refine wc_In (pc' := 2498) (by decide) rfl (by decide) ((fx_wE hm293 rfl).trans (fx_exS (mj := 291) (as := [(10, 0), (0, (σ 9 0 (x4 + 1))), (0, (σ 9 0 (x4 + 2))), (0, (σ 9 0 (x4 + 3))), (61, 0)]) (rest := []) rfl rk291 rfl rfl rfl rfl)) h (fun y1 σ1 h => ?_)
  refine wi_istore (pc' := 2500) (L' := [(9, 0), (10, 0), (46, 0), (61, 0), (0, x4), (0, y1), w6]) hm293 rfl rfl rfl ?_
  refine wi_aload_n (pc' := 2501) hm293 rfl rfl rfl (by decide) ?_
  refine wi_aload_n (pc' := 2502) hm293 rfl rfl rfl (by decide) ?_
  refine wi_iload (pc' := 2504) hm293 rfl rfl rfl ?_
  refine wi_iconst (pc' := 2505) (v := 1) hm293 rfl rfl rfl ?_
  refine wi_iadd (pc' := 2506) hm293 rfl rfl g1 ?_
  obtain ⟨g7, h⟩ := h
  refine wi_sload (pc' := 2507) hm293 rfl rfl g7 ?_
  refine wi_aload_n (pc' := 2508) hm293 rfl rfl rfl (by decide) ?_
  refine wi_iload (pc' := 2510) hm293 rfl rfl rfl ?_
  refine wi_iconst (pc' := 2511) (v := 2) hm293 rfl rfl rfl ?_
  refine wi_iadd (pc' := 2512) hm293 rfl rfl g3 ?_
  obtain ⟨g8, h⟩ := h
  refine wi_sload (pc' := 2513) hm293 rfl rfl g8 ?_
  refine wi_aload_n (pc' := 2514) hm293 rfl rfl rfl (by decide) ?_
  refine wi_iload (pc' := 2516) hm293 rfl rfl rfl ?_
  refine wi_iconst (pc' := 2517) (v := 3) hm293 rfl rfl rfl ?_
  refine wi_iadd (pc' := 2518) hm293 rfl rfl g5 ?_
  obtain ⟨g9, h⟩ := h
  refine wi_sload (pc' := 2519) hm293 rfl rfl g9 ?_
  refine wc_In (pc' := 2522) (by decide) rfl (by decide) ((fx_wE hm293 rfl).trans (fx_exV (mj := 249) (as := [(0, (σ1 9 0 (x4 + 1))), (0, (σ1 9 0 (x4 + 2))), (0, (σ1 9 0 (x4 + 3)))]) (rest := []) rfl rk249 rfl rfl rfl rfl rfl)) h (fun y2 σ2 h => ?_)
  refine wi_istore (pc' := 2524) (L' := [(9, 0), (10, 0), (46, 0), (61, 0), (0, x4), (0, y1), (0, y2)]) hm293 rfl rfl rfl ?_
  refine wi_aload_n (pc' := 2525) hm293 rfl rfl rfl (by decide) ?_
  refine wc_In (pc' := 2528) (by decide) rfl (by decide) ((fx_wE hm293 rfl).trans (fx_exV (mj := 148) (as := []) (rest := []) rfl rk148 rfl rfl rfl rfl rfl)) h (fun y3 σ3 h => ?_)
  refine wi_iload (pc' := 2530) hm293 rfl rfl rfl ?_
  refine wi_ic_eq (pc' := 2533) (t := 2535) hm293 rfl rfl rfl (fun hc => ?_) (fun hc => ?_)
  · replace h := h.1 hc
    refine wi_iload (pc' := 2537) hm293 rfl rfl rfl ?_
    refine wi_if_ne (pc' := 2540) (t := 2552) hm293 rfl rfl rfl (fun hc => ?_) (fun hc => ?_)
    · replace h := h.1 hc
      refine wi_goto (t := 2734) hm293 rfl rfl ?_
      exact h
    · replace h := h.2 hc
      refine wi_aload_n (pc' := 2541) hm293 rfl rfl rfl (by decide) ?_
      refine wi_iconst (pc' := 2542) (v := 0) hm293 rfl rfl rfl ?_
      refine wi_laload (pc' := 2543) hm293 rfl rfl rfl (N := 1) rfl (by decide) ?_
      refine wi_iload (pc' := 2545) hm293 rfl rfl rfl ?_
      refine wi_i2l (pc' := 2546) hm293 rfl rfl ?_
      refine wi_lcmp (pc' := 2547) hm293 rfl rfl ?_
      refine wi_if_eq (pc' := 2550) (t := 2552) hm293 rfl rfl rfl (fun hc => ?_) (fun hc => ?_)
      · replace h := h.1 hc
        refine wi_goto (t := 2734) hm293 rfl rfl ?_
        exact h
      · replace h := h.2 hc
        refine wi_iconst (pc' := 2551) (v := 0) hm293 rfl rfl rfl ?_
        exact wi_zret hm293 rfl (by decide) h
  · replace h := h.2 hc
    refine wi_iconst (pc' := 2534) (v := 0) hm293 rfl rfl rfl ?_
    exact wi_zret hm293 rfl (by decide) h
set_option maxRecDepth 100000 in
theorem t293_2555 {x4 : Int} {w5 w6 : fx_V} {σ : fx_S} {Q : fx_V → fx_S → Prop} (h : (fx_rg (x4 + 1)) ∧ (0 ≤ (x4 + 1) ∧ (x4 + 1) < σ 9 0 (-1)) ∧ (fx_rg (x4 + 2)) ∧ (0 ≤ (x4 + 2) ∧ (x4 + 2) < σ 9 0 (-1)) ∧ (fx_rg (x4 + 3)) ∧ (0 ≤ (x4 + 3) ∧ (x4 + 3) < σ 9 0 (-1)) ∧ fx_CI 292 [(10, 0), (0, (σ 9 0 (x4 + 1))), (0, (σ 9 0 (x4 + 2))), (0, (σ 9 0 (x4 + 3))), (61, 0)] σ Q (fun y1 σ1 => (0 ≤ (x4 + 1) ∧ (x4 + 1) < σ1 9 0 (-1)) ∧ (0 ≤ (x4 + 2) ∧ (x4 + 2) < σ1 9 0 (-1)) ∧ (0 ≤ (x4 + 3) ∧ (x4 + 3) < σ1 9 0 (-1)) ∧ fx_CI 250 [(46, 0), (0, (σ1 9 0 (x4 + 1))), (0, (σ1 9 0 (x4 + 2))), (0, (σ1 9 0 (x4 + 3)))] σ1 Q (fun y2 σ2 => fx_CI 148 [(46, 0)] σ2 Q (fun y3 σ3 => ((y3 = y1 → ((y1 ≠ 0 → fx_Wp 293 2734 [(9, 0), (10, 0), (46, 0), (61, 0), (0, x4), (0, y1), (0, y2)] [] σ3 Q) ∧ (y1 = 0 → (((fx_cmp (σ3 61 0 0) y2) = 0 → fx_Wp 293 2734 [(9, 0), (10, 0), (46, 0), (61, 0), (0, x4), (0, y1), (0, y2)] [] σ3 Q) ∧ ((fx_cmp (σ3 61 0 0) y2) ≠ 0 → Q (0, 0) σ3))))) ∧ (y3 ≠ y1 → Q (0, 0) σ3)))))) : fx_Wp 293 2555 [(9, 0), (10, 0), (46, 0), (61, 0), (0, x4), w5, w6] [] σ Q := by
  refine wi_aload_n (pc' := 2556) hm293 rfl rfl rfl (by decide) ?_
  refine wi_aload_n (pc' := 2557) hm293 rfl rfl rfl (by decide) ?_
  refine wi_iload (pc' := 2559) hm293 rfl rfl rfl ?_
  refine wi_iconst (pc' := 2560) (v := 1) hm293 rfl rfl rfl ?_
  obtain ⟨g1, h⟩ := h
  refine wi_iadd (pc' := 2561) hm293 rfl rfl g1 ?_
  obtain ⟨g2, h⟩ := h
  refine wi_sload (pc' := 2562) hm293 rfl rfl g2 ?_
  refine wi_aload_n (pc' := 2563) hm293 rfl rfl rfl (by decide) ?_
  refine wi_iload (pc' := 2565) hm293 rfl rfl rfl ?_
  refine wi_iconst (pc' := 2566) (v := 2) hm293 rfl rfl rfl ?_
  obtain ⟨g3, h⟩ := h
  refine wi_iadd (pc' := 2567) hm293 rfl rfl g3 ?_
  obtain ⟨g4, h⟩ := h
  refine wi_sload (pc' := 2568) hm293 rfl rfl g4 ?_
  refine wi_aload_n (pc' := 2569) hm293 rfl rfl rfl (by decide) ?_
  refine wi_iload (pc' := 2571) hm293 rfl rfl rfl ?_
  refine wi_iconst (pc' := 2572) (v := 3) hm293 rfl rfl rfl ?_
  obtain ⟨g5, h⟩ := h
  refine wi_iadd (pc' := 2573) hm293 rfl rfl g5 ?_
  obtain ⟨g6, h⟩ := h
  refine wi_sload (pc' := 2574) hm293 rfl rfl g6 ?_
  refine wi_aload_n (pc' := 2575) hm293 rfl rfl rfl (by decide) ?_
  refine wc_In (pc' := 2578) (by decide) rfl (by decide) ((fx_wE hm293 rfl).trans (fx_exS (mj := 292) (as := [(10, 0), (0, (σ 9 0 (x4 + 1))), (0, (σ 9 0 (x4 + 2))), (0, (σ 9 0 (x4 + 3))), (61, 0)]) (rest := []) rfl rk292 rfl rfl rfl rfl)) h (fun y1 σ1 h => ?_)
  refine wi_istore (pc' := 2580) (L' := [(9, 0), (10, 0), (46, 0), (61, 0), (0, x4), (0, y1), w6]) hm293 rfl rfl rfl ?_
  refine wi_aload_n (pc' := 2581) hm293 rfl rfl rfl (by decide) ?_
  refine wi_aload_n (pc' := 2582) hm293 rfl rfl rfl (by decide) ?_
  refine wi_iload (pc' := 2584) hm293 rfl rfl rfl ?_
  refine wi_iconst (pc' := 2585) (v := 1) hm293 rfl rfl rfl ?_
  refine wi_iadd (pc' := 2586) hm293 rfl rfl g1 ?_
  obtain ⟨g7, h⟩ := h
  refine wi_sload (pc' := 2587) hm293 rfl rfl g7 ?_
  refine wi_aload_n (pc' := 2588) hm293 rfl rfl rfl (by decide) ?_
  refine wi_iload (pc' := 2590) hm293 rfl rfl rfl ?_
  refine wi_iconst (pc' := 2591) (v := 2) hm293 rfl rfl rfl ?_
  refine wi_iadd (pc' := 2592) hm293 rfl rfl g3 ?_
  obtain ⟨g8, h⟩ := h
  refine wi_sload (pc' := 2593) hm293 rfl rfl g8 ?_
  refine wi_aload_n (pc' := 2594) hm293 rfl rfl rfl (by decide) ?_
  refine wi_iload (pc' := 2596) hm293 rfl rfl rfl ?_
  refine wi_iconst (pc' := 2597) (v := 3) hm293 rfl rfl rfl ?_
  refine wi_iadd (pc' := 2598) hm293 rfl rfl g5 ?_
  obtain ⟨g9, h⟩ := h
  refine wi_sload (pc' := 2599) hm293 rfl rfl g9 ?_
  refine wc_In (pc' := 2602) (by decide) rfl (by decide) ((fx_wE hm293 rfl).trans (fx_exV (mj := 250) (as := [(0, (σ1 9 0 (x4 + 1))), (0, (σ1 9 0 (x4 + 2))), (0, (σ1 9 0 (x4 + 3)))]) (rest := []) rfl rk250 rfl rfl rfl rfl rfl)) h (fun y2 σ2 h => ?_)
  refine wi_istore (pc' := 2604) (L' := [(9, 0), (10, 0), (46, 0), (61, 0), (0, x4), (0, y1), (0, y2)]) hm293 rfl rfl rfl ?_
  refine wi_aload_n (pc' := 2605) hm293 rfl rfl rfl (by decide) ?_
  refine wc_In (pc' := 2608) (by decide) rfl (by decide) ((fx_wE hm293 rfl).trans (fx_exV (mj := 148) (as := []) (rest := []) rfl rk148 rfl rfl rfl rfl rfl)) h (fun y3 σ3 h => ?_)
  refine wi_iload (pc' := 2610) hm293 rfl rfl rfl ?_
  refine wi_ic_eq (pc' := 2613) (t := 2615) hm293 rfl rfl rfl (fun hc => ?_) (fun hc => ?_)
  · replace h := h.1 hc
    refine wi_iload (pc' := 2617) hm293 rfl rfl rfl ?_
    refine wi_if_ne (pc' := 2620) (t := 2632) hm293 rfl rfl rfl (fun hc => ?_) (fun hc => ?_)
    · replace h := h.1 hc
      refine wi_goto (t := 2734) hm293 rfl rfl ?_
      exact h
    · replace h := h.2 hc
      refine wi_aload_n (pc' := 2621) hm293 rfl rfl rfl (by decide) ?_
      refine wi_iconst (pc' := 2622) (v := 0) hm293 rfl rfl rfl ?_
      refine wi_laload (pc' := 2623) hm293 rfl rfl rfl (N := 1) rfl (by decide) ?_
      refine wi_iload (pc' := 2625) hm293 rfl rfl rfl ?_
      refine wi_i2l (pc' := 2626) hm293 rfl rfl ?_
      refine wi_lcmp (pc' := 2627) hm293 rfl rfl ?_
      refine wi_if_eq (pc' := 2630) (t := 2632) hm293 rfl rfl rfl (fun hc => ?_) (fun hc => ?_)
      · replace h := h.1 hc
        refine wi_goto (t := 2734) hm293 rfl rfl ?_
        exact h
      · replace h := h.2 hc
        refine wi_iconst (pc' := 2631) (v := 0) hm293 rfl rfl rfl ?_
        exact wi_zret hm293 rfl (by decide) h
  · replace h := h.2 hc
    refine wi_iconst (pc' := 2614) (v := 0) hm293 rfl rfl rfl ?_
    exact wi_zret hm293 rfl (by decide) h
set_option maxRecDepth 100000 in
theorem t293_2635 {x4 : Int} {w5 w6 : fx_V} {σ : fx_S} {Q : fx_V → fx_S → Prop} (h : (fx_rg (x4 + 1)) ∧ (0 ≤ (x4 + 1) ∧ (x4 + 1) < σ 9 0 (-1)) ∧ fx_CI 133 [(10, 0), (0, (σ 9 0 (x4 + 1)))] σ Q (fun y1 σ1 => (0 ≤ (x4 + 1) ∧ (x4 + 1) < σ1 9 0 (-1)) ∧ fx_CI 251 [(46, 0), (0, (σ1 9 0 (x4 + 1)))] σ1 Q (fun y2 σ2 => ((y1 = y2 → fx_Wp 293 2734 [(9, 0), (10, 0), (46, 0), (61, 0), (0, x4), w5, w6] [] σ2 Q) ∧ (y1 ≠ y2 → Q (0, 0) σ2))))) : fx_Wp 293 2635 [(9, 0), (10, 0), (46, 0), (61, 0), (0, x4), w5, w6] [] σ Q := by
  refine wi_aload_n (pc' := 2636) hm293 rfl rfl rfl (by decide) ?_
  refine wi_aload_n (pc' := 2637) hm293 rfl rfl rfl (by decide) ?_
  refine wi_iload (pc' := 2639) hm293 rfl rfl rfl ?_
  refine wi_iconst (pc' := 2640) (v := 1) hm293 rfl rfl rfl ?_
  obtain ⟨g1, h⟩ := h
  refine wi_iadd (pc' := 2641) hm293 rfl rfl g1 ?_
  obtain ⟨g2, h⟩ := h
  refine wi_sload (pc' := 2642) hm293 rfl rfl g2 ?_
  refine wc_In (pc' := 2645) (by decide) rfl (by decide) ((fx_wE hm293 rfl).trans (fx_exV (mj := 133) (as := [(0, (σ 9 0 (x4 + 1)))]) (rest := []) rfl rk133 rfl rfl rfl rfl rfl)) h (fun y1 σ1 h => ?_)
  refine wi_aload_n (pc' := 2646) hm293 rfl rfl rfl (by decide) ?_
  refine wi_aload_n (pc' := 2647) hm293 rfl rfl rfl (by decide) ?_
  refine wi_iload (pc' := 2649) hm293 rfl rfl rfl ?_
  refine wi_iconst (pc' := 2650) (v := 1) hm293 rfl rfl rfl ?_
  refine wi_iadd (pc' := 2651) hm293 rfl rfl g1 ?_
  obtain ⟨g3, h⟩ := h
  refine wi_sload (pc' := 2652) hm293 rfl rfl g3 ?_
  refine wc_In (pc' := 2655) (by decide) rfl (by decide) ((fx_wE hm293 rfl).trans (fx_exV (mj := 251) (as := [(0, (σ1 9 0 (x4 + 1)))]) (rest := [(0, y1)]) rfl rk251 rfl rfl rfl rfl rfl)) h (fun y2 σ2 h => ?_)
  refine wi_ic_eq (pc' := 2658) (t := 2734) hm293 rfl rfl rfl (fun hc => ?_) (fun hc => ?_)
  · replace h := h.1 hc
    exact h
  · replace h := h.2 hc
    refine wi_iconst (pc' := 2659) (v := 0) hm293 rfl rfl rfl ?_
    exact wi_zret hm293 rfl (by decide) h
set_option maxRecDepth 100000 in
theorem t293_2660 {x4 : Int} {w5 w6 : fx_V} {σ : fx_S} {Q : fx_V → fx_S → Prop} (h : (fx_rg (x4 + 1)) ∧ (0 ≤ (x4 + 1) ∧ (x4 + 1) < σ 9 0 (-1)) ∧ fx_CI 130 [(10, 0), (0, (σ 9 0 (x4 + 1)))] σ Q (fun y1 σ1 => (0 ≤ (x4 + 1) ∧ (x4 + 1) < σ1 9 0 (-1)) ∧ fx_CI 253 [(46, 0), (0, (σ1 9 0 (x4 + 1)))] σ1 Q (fun y2 σ2 => ((y1 = y2 → fx_Wp 293 2734 [(9, 0), (10, 0), (46, 0), (61, 0), (0, x4), w5, w6] [] σ2 Q) ∧ (y1 ≠ y2 → Q (0, 0) σ2))))) : fx_Wp 293 2660 [(9, 0), (10, 0), (46, 0), (61, 0), (0, x4), w5, w6] [] σ Q := by
  refine wi_aload_n (pc' := 2661) hm293 rfl rfl rfl (by decide) ?_
  refine wi_aload_n (pc' := 2662) hm293 rfl rfl rfl (by decide) ?_
  refine wi_iload (pc' := 2664) hm293 rfl rfl rfl ?_
  refine wi_iconst (pc' := 2665) (v := 1) hm293 rfl rfl rfl ?_
  obtain ⟨g1, h⟩ := h
  refine wi_iadd (pc' := 2666) hm293 rfl rfl g1 ?_
  obtain ⟨g2, h⟩ := h
  refine wi_sload (pc' := 2667) hm293 rfl rfl g2 ?_
  refine wc_In (pc' := 2670) (by decide) rfl (by decide) ((fx_wE hm293 rfl).trans (fx_exV (mj := 130) (as := [(0, (σ 9 0 (x4 + 1)))]) (rest := []) rfl rk130 rfl rfl rfl rfl rfl)) h (fun y1 σ1 h => ?_)
  refine wi_aload_n (pc' := 2671) hm293 rfl rfl rfl (by decide) ?_
  refine wi_aload_n (pc' := 2672) hm293 rfl rfl rfl (by decide) ?_
  refine wi_iload (pc' := 2674) hm293 rfl rfl rfl ?_
  refine wi_iconst (pc' := 2675) (v := 1) hm293 rfl rfl rfl ?_
  refine wi_iadd (pc' := 2676) hm293 rfl rfl g1 ?_
  obtain ⟨g3, h⟩ := h
  refine wi_sload (pc' := 2677) hm293 rfl rfl g3 ?_
  refine wc_In (pc' := 2680) (by decide) rfl (by decide) ((fx_wE hm293 rfl).trans (fx_exV (mj := 253) (as := [(0, (σ1 9 0 (x4 + 1)))]) (rest := [(0, y1)]) rfl rk253 rfl rfl rfl rfl rfl)) h (fun y2 σ2 h => ?_)
  refine wi_ic_eq (pc' := 2683) (t := 2734) hm293 rfl rfl rfl (fun hc => ?_) (fun hc => ?_)
  · replace h := h.1 hc
    exact h
  · replace h := h.2 hc
    refine wi_iconst (pc' := 2684) (v := 0) hm293 rfl rfl rfl ?_
    exact wi_zret hm293 rfl (by decide) h
set_option maxRecDepth 100000 in
theorem t293_2685 {x4 : Int} {w5 w6 : fx_V} {σ : fx_S} {Q : fx_V → fx_S → Prop} (h : fx_CV 134 [(10, 0)] σ Q (fun σ1 => fx_CV 254 [(46, 0)] σ1 Q (fun σ2 => fx_Wp 293 2734 [(9, 0), (10, 0), (46, 0), (61, 0), (0, x4), w5, w6] [] σ2 Q))) : fx_Wp 293 2685 [(9, 0), (10, 0), (46, 0), (61, 0), (0, x4), w5, w6] [] σ Q := by
  refine wi_aload_n (pc' := 2686) hm293 rfl rfl rfl (by decide) ?_
  refine wc_Vn (pc' := 2689) (by decide) rfl (by decide) ((fx_wE hm293 rfl).trans (fx_exV (mj := 134) (as := []) (rest := []) rfl rk134 rfl rfl rfl rfl rfl)) h (fun σ1 h => ?_)
  refine wi_aload_n (pc' := 2690) hm293 rfl rfl rfl (by decide) ?_
  refine wc_Vn (pc' := 2693) (by decide) rfl (by decide) ((fx_wE hm293 rfl).trans (fx_exV (mj := 254) (as := []) (rest := []) rfl rk254 rfl rfl rfl rfl rfl)) h (fun σ2 h => ?_)
  refine wi_goto (t := 2734) hm293 rfl rfl ?_
  exact h
set_option maxRecDepth 100000 in
theorem t293_2696 {x4 : Int} {w5 w6 : fx_V} {σ : fx_S} {Q : fx_V → fx_S → Prop} (h : fx_CI 135 [(10, 0)] σ Q (fun y1 σ1 => fx_CI 255 [(46, 0)] σ1 Q (fun y2 σ2 => ((y1 = y2 → fx_Wp 293 2734 [(9, 0), (10, 0), (46, 0), (61, 0), (0, x4), w5, w6] [] σ2 Q) ∧ (y1 ≠ y2 → Q (0, 0) σ2))))) : fx_Wp 293 2696 [(9, 0), (10, 0), (46, 0), (61, 0), (0, x4), w5, w6] [] σ Q := by
  refine wi_aload_n (pc' := 2697) hm293 rfl rfl rfl (by decide) ?_
  refine wc_In (pc' := 2700) (by decide) rfl (by decide) ((fx_wE hm293 rfl).trans (fx_exV (mj := 135) (as := []) (rest := []) rfl rk135 rfl rfl rfl rfl rfl)) h (fun y1 σ1 h => ?_)
  refine wi_aload_n (pc' := 2701) hm293 rfl rfl rfl (by decide) ?_
  refine wc_In (pc' := 2704) (by decide) rfl (by decide) ((fx_wE hm293 rfl).trans (fx_exV (mj := 255) (as := []) (rest := [(0, y1)]) rfl rk255 rfl rfl rfl rfl rfl)) h (fun y2 σ2 h => ?_)
  refine wi_ic_eq (pc' := 2707) (t := 2734) hm293 rfl rfl rfl (fun hc => ?_) (fun hc => ?_)
  · replace h := h.1 hc
    exact h
  · replace h := h.2 hc
    refine wi_iconst (pc' := 2708) (v := 0) hm293 rfl rfl rfl ?_
    exact wi_zret hm293 rfl (by decide) h
set_option maxRecDepth 100000 in
theorem t293_2709 {x4 : Int} {w5 w6 : fx_V} {σ : fx_S} {Q : fx_V → fx_S → Prop} (h : (fx_rg (x4 + 1)) ∧ (0 ≤ (x4 + 1) ∧ (x4 + 1) < σ 9 0 (-1)) ∧ fx_CI 136 [(10, 0), (0, (σ 9 0 (x4 + 1)))] σ Q (fun y1 σ1 => (0 ≤ (x4 + 1) ∧ (x4 + 1) < σ1 9 0 (-1)) ∧ fx_CI 260 [(46, 0), (0, (σ1 9 0 (x4 + 1)))] σ1 Q (fun y2 σ2 => ((y1 = y2 → fx_Wp 293 2734 [(9, 0), (10, 0), (46, 0), (61, 0), (0, x4), w5, w6] [] σ2 Q) ∧ (y1 ≠ y2 → Q (0, 0) σ2))))) : fx_Wp 293 2709 [(9, 0), (10, 0), (46, 0), (61, 0), (0, x4), w5, w6] [] σ Q := by
  refine wi_aload_n (pc' := 2710) hm293 rfl rfl rfl (by decide) ?_
  refine wi_aload_n (pc' := 2711) hm293 rfl rfl rfl (by decide) ?_
  refine wi_iload (pc' := 2713) hm293 rfl rfl rfl ?_
  refine wi_iconst (pc' := 2714) (v := 1) hm293 rfl rfl rfl ?_
  obtain ⟨g1, h⟩ := h
  refine wi_iadd (pc' := 2715) hm293 rfl rfl g1 ?_
  obtain ⟨g2, h⟩ := h
  refine wi_sload (pc' := 2716) hm293 rfl rfl g2 ?_
  refine wc_In (pc' := 2719) (by decide) rfl (by decide) ((fx_wE hm293 rfl).trans (fx_exV (mj := 136) (as := [(0, (σ 9 0 (x4 + 1)))]) (rest := []) rfl rk136 rfl rfl rfl rfl rfl)) h (fun y1 σ1 h => ?_)
  refine wi_aload_n (pc' := 2720) hm293 rfl rfl rfl (by decide) ?_
  refine wi_aload_n (pc' := 2721) hm293 rfl rfl rfl (by decide) ?_
  refine wi_iload (pc' := 2723) hm293 rfl rfl rfl ?_
  refine wi_iconst (pc' := 2724) (v := 1) hm293 rfl rfl rfl ?_
  refine wi_iadd (pc' := 2725) hm293 rfl rfl g1 ?_
  obtain ⟨g3, h⟩ := h
  refine wi_sload (pc' := 2726) hm293 rfl rfl g3 ?_
  refine wc_In (pc' := 2729) (by decide) rfl (by decide) ((fx_wE hm293 rfl).trans (fx_exV (mj := 260) (as := [(0, (σ1 9 0 (x4 + 1)))]) (rest := [(0, y1)]) rfl rk260 rfl rfl rfl rfl rfl)) h (fun y2 σ2 h => ?_)
  refine wi_ic_eq (pc' := 2732) (t := 2734) hm293 rfl rfl rfl (fun hc => ?_) (fun hc => ?_)
  · replace h := h.1 hc
    exact h
  · replace h := h.2 hc
    refine wi_iconst (pc' := 2733) (v := 0) hm293 rfl rfl rfl ?_
    exact wi_zret hm293 rfl (by decide) h
set_option maxRecDepth 100000 in
theorem t293_2734 {x4 : Int} {w5 w6 : fx_V} {σ : fx_S} {Q : fx_V → fx_S → Prop} (h : (fx_rg (x4 + 6)) ∧ fx_Wp 293 23 [(9, 0), (10, 0), (46, 0), (61, 0), (0, (x4 + 6)), w5, w6] [] σ Q) : fx_Wp 293 2734 [(9, 0), (10, 0), (46, 0), (61, 0), (0, x4), w5, w6] [] σ Q := by
  obtain ⟨g1, h⟩ := h
  refine wi_iinc (pc' := 2737) (L' := [(9, 0), (10, 0), (46, 0), (61, 0), (0, (x4 + 6)), w5, w6]) hm293 rfl rfl rfl g1 rfl ?_
  refine wi_goto (t := 23) hm293 rfl rfl ?_
  exact h
set_option maxRecDepth 100000 in
theorem t293_2740 {x4 : Int} {w5 w6 : fx_V} {σ : fx_S} {Q : fx_V → fx_S → Prop} (h : Q (0, 1) σ) : fx_Wp 293 2740 [(9, 0), (10, 0), (46, 0), (61, 0), (0, x4), w5, w6] [] σ Q := by
  refine wi_iconst (pc' := 2741) (v := 1) hm293 rfl rfl rfl ?_
  exact wi_zret hm293 rfl (by decide) h
