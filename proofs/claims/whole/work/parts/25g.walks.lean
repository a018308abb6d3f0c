theorem hm217 : fx_code 217 = fx_c217 := rfl
theorem t217_0 {o0 x1 x2 x3 : Int} {σ : fx_S} {Q : fx_V → fx_S → Prop} (h : fx_CI 154 [(0, x1)] σ Q (fun y1 σ1 => ((y1 = 0 → ((((fx_up σ1 46 o0 0 1) 46 o0 0) ≤ 0 → fx_Wp 217 41 [(46, o0), (0, x1), (0, x2), (0, x3), (0, 0), (0, (-1)), (0, 0), (3, 0), (3, 0)] [] (fx_up σ1 46 o0 0 1) Q) ∧ (0 < ((fx_up σ1 46 o0 0 1) 46 o0 0) → Q (0, 0) (fx_up σ1 46 o0 0 1)))) ∧ (y1 ≠ 0 → fx_CI 155 [(0, x2)] σ1 Q (fun y2 σ2 => ((y2 = 0 → ((((fx_up σ2 46 o0 0 1) 46 o0 0) ≤ 0 → fx_Wp 217 41 [(46, o0), (0, x1), (0, x2), (0, x3), (0, 0), (0, (-1)), (0, 0), (3, 0), (3, 0)] [] (fx_up σ2 46 o0 0 1) Q) ∧ (0 < ((fx_up σ2 46 o0 0 1) 46 o0 0) → Q (0, 0) (fx_up σ2 46 o0 0 1)))) ∧ (y2 ≠ 0 → ((((fx_up σ2 46 o0 0 0) 46 o0 0) ≤ 0 → fx_Wp 217 41 [(46, o0), (0, x1), (0, x2), (0, x3), (0, 0), (0, (-1)), (0, 0), (3, 0), (3, 0)] [] (fx_up σ2 46 o0 0 0) Q) ∧ (0 < ((fx_up σ2 46 o0 0 0) 46 o0 0) → Q (0, 0) (fx_up σ2 46 o0 0 0)))))))))) : fx_Ca 217 [(46, o0), (0, x1), (0, x2), (0, x3)] σ Q := by
  show fx_Wp 217 0 [(46, o0), (0, x1), (0, x2), (0, x3), (3, 0), (3, 0), (3, 0), (3, 0), (3, 0)] [] σ Q
  refine wi_aload_n (pc' := 1) hm217 rfl rfl rfl (by decide) ?_
  refine wi_iload_n (pc' := 2) hm217 rfl rfl rfl ?_
  refine wc_I (pc' := 5) (by decide) rfl (by decide) ((fx_wE hm217 rfl).trans (fx_exS (mj := 154) (as := [(0, x1)]) (rest := [(46, o0)]) rfl rk154 rfl rfl rfl rfl)) h (fun y1 σ1 h => ?_)
  refine wi_if_eq (pc' := 8) (t := 19) hm217 rfl rfl rfl (fun hc => ?_) (fun hc => ?_)
  · replace h := h.1 hc
    refine wi_iconst (pc' := 20) (v := 1) hm217 rfl rfl rfl ?_
    refine wi_putI (pc' := 23) hm217 rfl rfl (P := 0) rfl ?_
    refine wi_aload_n (pc' := 24) hm217 rfl rfl rfl (by decide) ?_
    refine wi_getI (pc' := 27) hm217 rfl rfl (P := 0) rfl ?_
    refine wi_if_le (pc' := 30) (t := 32) hm217 rfl rfl rfl (fun hc => ?_) (fun hc => ?_)
    · replace h := h.1 hc
      refine wi_iconst (pc' := 33) (v := 0) hm217 rfl rfl rfl ?_
      refine wi_istore (pc' := 35) (L' := [(46, o0), (0, x1), (0, x2), (0, x3), (0, 0), (3, 0), (3, 0), (3, 0), (3, 0)]) hm217 rfl rfl rfl ?_
      refine wi_iconst (pc' := 36) (v := (-1)) hm217 rfl rfl rfl ?_
      refine wi_istore (pc' := 38) (L' := [(46, o0), (0, x1), (0, x2), (0, x3), (0, 0), (0, (-1)), (3, 0), (3, 0), (3, 0)]) hm217 rfl rfl rfl ?_
      refine wi_iconst (pc' := 39) (v := 0) hm217 rfl rfl rfl ?_
      refine wi_istore (pc' := 41) (L' := [(46, o0), (0, x1), (0, x2), (0, x3), (0, 0), (0, (-1)), (0, 0), (3, 0), (3, 0)]) hm217 rfl rfl rfl ?_
      exact h
    · replace h := h.2 hc
      refine wi_iconst (pc' := 31) (v := 0) hm217 rfl rfl rfl ?_
      exact wi_iret hm217 rfl h
  · replace h := h.2 hc
    refine wi_iload_n (pc' := 9) hm217 rfl rfl rfl ?_
    refine wc_I (pc' := 12) (by decide) rfl (by decide) ((fx_wE hm217 rfl).trans (fx_exS (mj := 155) (as := [(0, x2)]) (rest := [(46, o0)]) rfl rk155 rfl rfl rfl rfl)) h (fun y2 σ2 h => ?_)
    refine wi_if_eq (pc' := 15) (t := 19) hm217 rfl rfl rfl (fun hc => ?_) (fun hc => ?_)
    · replace h := h.1 hc
      refine wi_iconst (pc' := 20) (v := 1) hm217 rfl rfl rfl ?_
      refine wi_putI (pc' := 23) hm217 rfl rfl (P := 0) rfl ?_
      refine wi_aload_n (pc' := 24) hm217 rfl rfl rfl (by decide) ?_
      refine wi_getI (pc' := 27) hm217 rfl rfl (P := 0) rfl ?_
      refine wi_if_le (pc' := 30) (t := 32) hm217 rfl rfl rfl (fun hc => ?_) (fun hc => ?_)
      · replace h := h.1 hc
        refine wi_iconst (pc' := 33) (v := 0) hm217 rfl rfl rfl ?_
        refine wi_istore (pc' := 35) (L' := [(46, o0), (0, x1), (0, x2), (0, x3), (0, 0), (3, 0), (3, 0), (3, 0), (3, 0)]) hm217 rfl rfl rfl ?_
        refine wi_iconst (pc' := 36) (v := (-1)) hm217 rfl rfl rfl ?_
        refine wi_istore (pc' := 38) (L' := [(46, o0), (0, x1), (0, x2), (0, x3), (0, 0), (0, (-1)), (3, 0), (3, 0), (3, 0)]) hm217 rfl rfl rfl ?_
        refine wi_iconst (pc' := 39) (v := 0) hm217 rfl rfl rfl ?_
        refine wi_istore (pc' := 41) (L' := [(46, o0), (0, x1), (0, x2), (0, x3), (0, 0), (0, (-1)), (0, 0), (3, 0), (3, 0)]) hm217 rfl rfl rfl ?_
        exact h
      · replace h := h.2 hc
        refine wi_iconst (pc' := 31) (v := 0) hm217 rfl rfl rfl ?_
        exact wi_iret hm217 rfl h
    · replace h := h.2 hc
      refine wi_iconst (pc' := 16) (v := 0) hm217 rfl rfl rfl ?_
      refine wi_goto (t := 20) hm217 rfl rfl ?_
      refine wi_putI (pc' := 23) hm217 rfl rfl (P := 0) rfl ?_
      refine wi_aload_n (pc' := 24) hm217 rfl rfl rfl (by decide) ?_
      refine wi_getI (pc' := 27) hm217 rfl rfl (P := 0) rfl ?_
      refine wi_if_le (pc' := 30) (t := 32) hm217 rfl rfl rfl (fun hc => ?_) (fun hc => ?_)
      · replace h := h.1 hc
        refine wi_iconst (pc' := 33) (v := 0) hm217 rfl rfl rfl ?_
        refine wi_istore (pc' := 35) (L' := [(46, o0), (0, x1), (0, x2), (0, x3), (0, 0), (3, 0), (3, 0), (3, 0), (3, 0)]) hm217 rfl rfl rfl ?_
        refine wi_iconst (pc' := 36) (v := (-1)) hm217 rfl rfl rfl ?_
        refine wi_istore (pc' := 38) (L' := [(46, o0), (0, x1), (0, x2), (0, x3), (0, 0), (0, (-1)), (3, 0), (3, 0), (3, 0)]) hm217 rfl rfl rfl ?_
        refine wi_iconst (pc' := 39) (v := 0) hm217 rfl rfl rfl ?_
        refine wi_istore (pc' := 41) (L' := [(46, o0), (0, x1), (0, x2), (0, x3), (0, 0), (0, (-1)), (0, 0), (3, 0), (3, 0)]) hm217 rfl rfl rfl ?_
        exact h
      · replace h := h.2 hc
        refine wi_iconst (pc' := 31) (v := 0) hm217 rfl rfl rfl ?_
        exact wi_iret hm217 rfl h
theorem t217_41 {o0 x1 x2 x3 x4 x5 x6 : Int} {w7 w8 : fx_V} {σ : fx_S} {Q : fx_V → fx_S → Prop} (h : (((σ 47 0 1) ≤ x6 → ((x3 ≠ (-1) → Q (0, x5) σ) ∧ (x3 = (-1) → Q (0, x4) σ))) ∧ (x6 < (σ 47 0 1) → fx_CI 151 [(46, o0), (0, x6), (0, 0)] σ Q (fun y1 σ1 => ((y1 ≠ x1 → (fx_rg (x6 + 1)) ∧ fx_Wp 217 41 [(46, o0), (0, x1), (0, x2), (0, x3), (0, x4), (0, x5), (0, (x6 + 1)), w7, w8] [] σ1 Q) ∧ (y1 = x1 → fx_CI 156 [(46, o0), (0, x6), (0, x2)] σ1 Q (fun y2 σ2 => ((y2 ≠ 0 → (fx_rg (x4 + 1)) ∧ fx_Wp 217 85 [(46, o0), (0, x1), (0, x2), (0, x3), (0, (x4 + 1)), (0, x5), (0, x6), (0, 0), (0, 0)] [] σ2 Q) ∧ (y2 = 0 → (fx_rg (x6 + 1)) ∧ fx_Wp 217 41 [(46, o0), (0, x1), (0, x2), (0, x3), (0, x4), (0, x5), (0, (x6 + 1)), w7, w8] [] σ2 Q))))))))) : fx_Wp 217 41 [(46, o0), (0, x1), (0, x2), (0, x3), (0, x4), (0, x5), (0, x6), w7, w8] [] σ Q := by
  refine wi_iload (pc' := 43) hm217 rfl rfl rfl ?_
  refine wi_aload_n (pc' := 44) hm217 rfl rfl rfl (by decide) ?_
  refine wi_getR (pc' := 47) (x := 0) hm217 rfl rfl rfl (by omega) ?_
  refine wi_iconst (pc' := 48) (v := 1) hm217 rfl rfl rfl ?_
  refine wi_iaload (pc' := 49) hm217 rfl rfl rfl rfl (N := 1130) rfl (by decide) ?_
  refine wi_ic_ge (pc' := 52) (t := 167) hm217 rfl rfl rfl (fun hc => ?_) (fun hc => ?_)
  · replace h := h.1 hc
    refine wi_iload_n (pc' := 168) hm217 rfl rfl rfl ?_
    refine wi_iconst (pc' := 169) (v := (-1)) hm217 rfl rfl rfl ?_
    refine wi_ic_ne (pc' := 172) (t := 177) hm217 rfl rfl rfl (fun hc => ?_) (fun hc => ?_)
    · replace h := h.1 hc
      refine wi_iload (pc' := 179) hm217 rfl rfl rfl ?_
      exact wi_iret hm217 rfl h
    · replace h := h.2 hc
      refine wi_iload (pc' := 174) hm217 rfl rfl rfl ?_
      refine wi_goto (t := 179) hm217 rfl rfl ?_
      exact wi_iret hm217 rfl h
  · replace h := h.2 hc
    refine wi_aload_n (pc' := 53) hm217 rfl rfl rfl (by decide) ?_
    refine wi_iload (pc' := 55) hm217 rfl rfl rfl ?_
    refine wi_iconst (pc' := 56) (v := 0) hm217 rfl rfl rfl ?_
    refine wc_I (pc' := 59) (by decide) rfl (by decide) ((fx_wE hm217 rfl).trans (fx_exV (mj := 151) (as := [(0, x6), (0, 0)]) (rest := []) rfl rk151 rfl rfl rfl rfl rfl)) h (fun y1 σ1 h => ?_)
    refine wi_iload_n (pc' := 60) hm217 rfl rfl rfl ?_
    refine wi_ic_ne (pc' := 63) (t := 161) hm217 rfl rfl rfl (fun hc => ?_) (fun hc => ?_)
    · replace h := h.1 hc
      obtain ⟨g, h⟩ := h
      refine wi_iinc (pc' := 164) (L' := [(46, o0), (0, x1), (0, x2), (0, x3), (0, x4), (0, x5), (0, (x6 + 1)), w7, w8]) hm217 rfl rfl rfl g rfl ?_
      refine wi_goto (t := 41) hm217 rfl rfl ?_
      exact h
    · replace h := h.2 hc
      refine wi_aload_n (pc' := 64) hm217 rfl rfl rfl (by decide) ?_
      refine wi_iload (pc' := 66) hm217 rfl rfl rfl ?_
      refine wi_iload_n (pc' := 67) hm217 rfl rfl rfl ?_
      refine wc_I (pc' := 70) (by decide) rfl (by decide) ((fx_wE hm217 rfl).trans (fx_exV (mj := 156) (as := [(0, x6), (0, x2)]) (rest := []) rfl rk156 rfl rfl rfl rfl rfl)) h (fun y2 σ2 h => ?_)
      refine wi_if_ne (pc' := 73) (t := 76) hm217 rfl rfl rfl (fun hc => ?_) (fun hc => ?_)
      · replace h := h.1 hc
        obtain ⟨g, h⟩ := h
        refine wi_iinc (pc' := 79) (L' := [(46, o0), (0, x1), (0, x2), (0, x3), (0, (x4 + 1)), (0, x5), (0, x6), w7, w8]) hm217 rfl rfl rfl g rfl ?_
        refine wi_iconst (pc' := 80) (v := 0) hm217 rfl rfl rfl ?_
        refine wi_istore (pc' := 82) (L' := [(46, o0), (0, x1), (0, x2), (0, x3), (0, (x4 + 1)), (0, x5), (0, x6), (0, 0), w8]) hm217 rfl rfl rfl ?_
        refine wi_iconst (pc' := 83) (v := 0) hm217 rfl rfl rfl ?_
        refine wi_istore (pc' := 85) (L' := [(46, o0), (0, x1), (0, x2), (0, x3), (0, (x4 + 1)), (0, x5), (0, x6), (0, 0), (0, 0)]) hm217 rfl rfl rfl ?_
        exact h
      · replace h := h.2 hc
        refine wi_goto (t := 161) hm217 rfl rfl ?_
        obtain ⟨g, h⟩ := h
        refine wi_iinc (pc' := 164) (L' := [(46, o0), (0, x1), (0, x2), (0, x3), (0, x4), (0, x5), (0, (x6 + 1)), w7, w8]) hm217 rfl rfl rfl g rfl ?_
        refine wi_goto (t := 41) hm217 rfl rfl ?_
        exact h
theorem t217_85 {o0 x1 x2 x3 x4 x5 x6 x7 x8 : Int} {σ : fx_S} {Q : fx_V → fx_S → Prop} (h : (((σ 47 0 1) ≤ x8 → ((x7 ≠ x3 → (fx_rg (x6 + 1)) ∧ fx_Wp 217 41 [(46, o0), (0, x1), (0, x2), (0, x3), (0, x4), (0, x5), (0, (x6 + 1)), (0, x7), (0, x8)] [] σ Q) ∧ (x7 = x3 → (fx_rg (x6 + 1)) ∧ fx_Wp 217 41 [(46, o0), (0, x1), (0, x2), (0, x3), (0, x4), (0, x6), (0, (x6 + 1)), (0, x7), (0, x8)] [] σ Q))) ∧ (x8 < (σ 47 0 1) → ((x8 = x6 → (fx_rg (x7 + 0)) ∧ (fx_rg (x8 + 1)) ∧ fx_Wp 217 85 [(46, o0), (0, x1), (0, x2), (0, x3), (0, x4), (0, x5), (0, x6), (0, (x7 + 0)), (0, (x8 + 1))] [] σ Q) ∧ (x8 ≠ x6 → fx_CI 151 [(46, o0), (0, x8), (0, 0)] σ Q (fun y1 σ1 => ((y1 ≠ x1 → (fx_rg (x7 + 0)) ∧ (fx_rg (x8 + 1)) ∧ fx_Wp 217 85 [(46, o0), (0, x1), (0, x2), (0, x3), (0, x4), (0, x5), (0, x6), (0, (x7 + 0)), (0, (x8 + 1))] [] σ1 Q) ∧ (y1 = x1 → fx_CI 156 [(46, o0), (0, x8), (0, x2)] σ1 Q (fun y2 σ2 => ((y2 = 0 → (fx_rg (x7 + 0)) ∧ (fx_rg (x8 + 1)) ∧ fx_Wp 217 85 [(46, o0), (0, x1), (0, x2), (0, x3), (0, x4), (0, x5), (0, x6), (0, (x7 + 0)), (0, (x8 + 1))] [] σ2 Q) ∧ (y2 ≠ 0 → fx_CI 158 [(46, o0), (0, x8), (0, x6)] σ2 Q (fun y3 σ3 => ((y3 = 0 → (fx_rg (x7 + 0)) ∧ (fx_rg (x8 + 1)) ∧ fx_Wp 217 85 [(46, o0), (0, x1), (0, x2), (0, x3), (0, x4), (0, x5), (0, x6), (0, (x7 + 0)), (0, (x8 + 1))] [] σ3 Q) ∧ (y3 ≠ 0 → (fx_rg (x7 + 1)) ∧ (fx_rg (x8 + 1)) ∧ fx_Wp 217 85 [(46, o0), (0, x1), (0, x2), (0, x3), (0, x4), (0, x5), (0, x6), (0, (x7 + 1)), (0, (x8 + 1))] [] σ3 Q)))))))))))))) : fx_Wp 217 85 [(46, o0), (0, x1), (0, x2), (0, x3), (0, x4), (0, x5), (0, x6), (0, x7), (0, x8)] [] σ Q := by
  refine wi_iload (pc' := 87) hm217 rfl rfl rfl ?_
  refine wi_aload_n (pc' := 88) hm217 rfl rfl rfl (by decide) ?_
  refine wi_getR (pc' := 91) (x := 0) hm217 rfl rfl rfl (by omega) ?_
  refine wi_iconst (pc' := 92) (v := 1) hm217 rfl rfl rfl ?_
  refine wi_iaload (pc' := 93) hm217 rfl rfl rfl rfl (N := 1130) rfl (by decide) ?_
  refine wi_ic_ge (pc' := 96) (t := 151) hm217 rfl rfl rfl (fun hc => ?_) (fun hc => ?_)
  · replace h := h.1 hc
    refine wi_iload (pc' := 153) hm217 rfl rfl rfl ?_
    refine wi_iload_n (pc' := 154) hm217 rfl rfl rfl ?_
    refine wi_ic_ne (pc' := 157) (t := 161) hm217 rfl rfl rfl (fun hc => ?_) (fun hc => ?_)
    · replace h := h.1 hc
      obtain ⟨g, h⟩ := h
      refine wi_iinc (pc' := 164) (L' := [(46, o0), (0, x1), (0, x2), (0, x3), (0, x4), (0, x5), (0, (x6 + 1)), (0, x7), (0, x8)]) hm217 rfl rfl rfl g rfl ?_
      refine wi_goto (t := 41) hm217 rfl rfl ?_
      exact h
    · replace h := h.2 hc
      refine wi_iload (pc' := 159) hm217 rfl rfl rfl ?_
      refine wi_istore (pc' := 161) (L' := [(46, o0), (0, x1), (0, x2), (0, x3), (0, x4), (0, x6), (0, x6), (0, x7), (0, x8)]) hm217 rfl rfl rfl ?_
      obtain ⟨g, h⟩ := h
      refine wi_iinc (pc' := 164) (L' := [(46, o0), (0, x1), (0, x2), (0, x3), (0, x4), (0, x6), (0, (x6 + 1)), (0, x7), (0, x8)]) hm217 rfl rfl rfl g rfl ?_
      refine wi_goto (t := 41) hm217 rfl rfl ?_
      exact h
  · replace h := h.2 hc
    refine wi_iload (pc' := 98) hm217 rfl rfl rfl ?_
    refine wi_iload (pc' := 100) hm217 rfl rfl rfl ?_
    refine wi_iload (pc' := 102) hm217 rfl rfl rfl ?_
    refine wi_ic_eq (pc' := 105) (t := 141) hm217 rfl rfl rfl (fun hc => ?_) (fun hc => ?_)
    · replace h := h.1 hc
      refine wi_iconst (pc' := 142) (v := 0) hm217 rfl rfl rfl ?_
      obtain ⟨g, h⟩ := h
      refine wi_iadd (pc' := 143) hm217 rfl rfl g ?_
      refine wi_istore (pc' := 145) (L' := [(46, o0), (0, x1), (0, x2), (0, x3), (0, x4), (0, x5), (0, x6), (0, (x7 + 0)), (0, x8)]) hm217 rfl rfl rfl ?_
      obtain ⟨g, h⟩ := h
      refine wi_iinc (pc' := 148) (L' := [(46, o0), (0, x1), (0, x2), (0, x3), (0, x4), (0, x5), (0, x6), (0, (x7 + 0)), (0, (x8 + 1))]) hm217 rfl rfl rfl g rfl ?_
      refine wi_goto (t := 85) hm217 rfl rfl ?_
      exact h
    · replace h := h.2 hc
      refine wi_aload_n (pc' := 106) hm217 rfl rfl rfl (by decide) ?_
      refine wi_iload (pc' := 108) hm217 rfl rfl rfl ?_
      refine wi_iconst (pc' := 109) (v := 0) hm217 rfl rfl rfl ?_
      refine wc_I (pc' := 112) (by decide) rfl (by decide) ((fx_wE hm217 rfl).trans (fx_exV (mj := 151) (as := [(0, x8), (0, 0)]) (rest := [(0, x7)]) rfl rk151 rfl rfl rfl rfl rfl)) h (fun y1 σ1 h => ?_)
      refine wi_iload_n (pc' := 113) hm217 rfl rfl rfl ?_
      refine wi_ic_ne (pc' := 116) (t := 141) hm217 rfl rfl rfl (fun hc => ?_) (fun hc => ?_)
      · replace h := h.1 hc
        refine wi_iconst (pc' := 142) (v := 0) hm217 rfl rfl rfl ?_
        obtain ⟨g, h⟩ := h
        refine wi_iadd (pc' := 143) hm217 rfl rfl g ?_
        refine wi_istore (pc' := 145) (L' := [(46, o0), (0, x1), (0, x2), (0, x3), (0, x4), (0, x5), (0, x6), (0, (x7 + 0)), (0, x8)]) hm217 rfl rfl rfl ?_
        obtain ⟨g, h⟩ := h
        refine wi_iinc (pc' := 148) (L' := [(46, o0), (0, x1), (0, x2), (0, x3), (0, x4), (0, x5), (0, x6), (0, (x7 + 0)), (0, (x8 + 1))]) hm217 rfl rfl rfl g rfl ?_
        refine wi_goto (t := 85) hm217 rfl rfl ?_
        exact h
      · replace h := h.2 hc
        refine wi_aload_n (pc' := 117) hm217 rfl rfl rfl (by decide) ?_
        refine wi_iload (pc' := 119) hm217 rfl rfl rfl ?_
        refine wi_iload_n (pc' := 120) hm217 rfl rfl rfl ?_
        refine wc_I (pc' := 123) (by decide) rfl (by decide) ((fx_wE hm217 rfl).trans (fx_exV (mj := 156) (as := [(0, x8), (0, x2)]) (rest := [(0, x7)]) rfl rk156 rfl rfl rfl rfl rfl)) h (fun y2 σ2 h => ?_)
        refine wi_if_eq (pc' := 126) (t := 141) hm217 rfl rfl rfl (fun hc => ?_) (fun hc => ?_)
        · replace h := h.1 hc
          refine wi_iconst (pc' := 142) (v := 0) hm217 rfl rfl rfl ?_
          obtain ⟨g, h⟩ := h
          refine wi_iadd (pc' := 143) hm217 rfl rfl g ?_
          refine wi_istore (pc' := 145) (L' := [(46, o0), (0, x1), (0, x2), (0, x3), (0, x4), (0, x5), (0, x6), (0, (x7 + 0)), (0, x8)]) hm217 rfl rfl rfl ?_
          obtain ⟨g, h⟩ := h
          refine wi_iinc (pc' := 148) (L' := [(46, o0), (0, x1), (0, x2), (0, x3), (0, x4), (0, x5), (0, x6), (0, (x7 + 0)), (0, (x8 + 1))]) hm217 rfl rfl rfl g rfl ?_
          refine wi_goto (t := 85) hm217 rfl rfl ?_
          exact h
        · replace h := h.2 hc
          refine wi_aload_n (pc' := 127) hm217 rfl rfl rfl (by decide) ?_
          refine wi_iload (pc' := 129) hm217 rfl rfl rfl ?_
          refine wi_iload (pc' := 131) hm217 rfl rfl rfl ?_
          refine wc_I (pc' := 134) (by decide) rfl (by decide) ((fx_wE hm217 rfl).trans (fx_exV (mj := 158) (as := [(0, x8), (0, x6)]) (rest := [(0, x7)]) rfl rk158 rfl rfl rfl rfl rfl)) h (fun y3 σ3 h => ?_)
          refine wi_if_eq (pc' := 137) (t := 141) hm217 rfl rfl rfl (fun hc => ?_) (fun hc => ?_)
          · replace h := h.1 hc
            refine wi_iconst (pc' := 142) (v := 0) hm217 rfl rfl rfl ?_
            obtain ⟨g, h⟩ := h
            refine wi_iadd (pc' := 143) hm217 rfl rfl g ?_
            refine wi_istore (pc' := 145) (L' := [(46, o0), (0, x1), (0, x2), (0, x3), (0, x4), (0, x5), (0, x6), (0, (x7 + 0)), (0, x8)]) hm217 rfl rfl rfl ?_
            obtain ⟨g, h⟩ := h
            refine wi_iinc (pc' := 148) (L' := [(46, o0), (0, x1), (0, x2), (0, x3), (0, x4), (0, x5), (0, x6), (0, (x7 + 0)), (0, (x8 + 1))]) hm217 rfl rfl rfl g rfl ?_
            refine wi_goto (t := 85) hm217 rfl rfl ?_
            exact h
          · replace h := h.2 hc
            refine wi_iconst (pc' := 138) (v := 1) hm217 rfl rfl rfl ?_
            refine wi_goto (t := 142) hm217 rfl rfl ?_
            obtain ⟨g, h⟩ := h
            refine wi_iadd (pc' := 143) hm217 rfl rfl g ?_
            refine wi_istore (pc' := 145) (L' := [(46, o0), (0, x1), (0, x2), (0, x3), (0, x4), (0, x5), (0, x6), (0, (x7 + 1)), (0, x8)]) hm217 rfl rfl rfl ?_
            obtain ⟨g, h⟩ := h
            refine wi_iinc (pc' := 148) (L' := [(46, o0), (0, x1), (0, x2), (0, x3), (0, x4), (0, x5), (0, x6), (0, (x7 + 1)), (0, (x8 + 1))]) hm217 rfl rfl rfl g rfl ?_
            refine wi_goto (t := 85) hm217 rfl rfl ?_
            exact h
theorem hm218 : fx_code 218 = fx_c218 := rfl
theorem t218_0 {o0 o1 x2 : Int} {σ : fx_S} {Q : fx_V → fx_S → Prop} (h : fx_Wp 218 2 [(46, o0), (59, o1), (0, x2), (0, x2)] [] σ Q) : fx_Ca 218 [(46, o0), (59, o1), (0, x2)] σ Q := by
  show fx_Wp 218 0 [(46, o0), (59, o1), (0, x2), (3, 0)] [] σ Q
  refine wi_iload_n (pc' := 1) hm218 rfl rfl rfl ?_
  refine wi_istore_n (pc' := 2) (L' := [(46, o0), (59, o1), (0, x2), (0, x2)]) hm218 rfl rfl rfl ?_
  exact h
theorem t218_2 {o1 x2 x3 : Int} {w0 : fx_V} {σ : fx_S} {Q : fx_V → fx_S → Prop} (h : ((1000 ≤ x3 → Q (0, x3) σ) ∧ (x3 < 1000 → (0 ≤ x3 ∧ x3 < 1000) ∧ (0 ≤ x2 ∧ x2 < 1000) ∧ (((σ 59 o1 x3) ≠ (σ 59 o1 x2) → Q (0, x3) σ) ∧ ((σ 59 o1 x3) = (σ 59 o1 x2) → (fx_rg (x3 + 1)) ∧ fx_Wp 218 2 [w0, (59, o1), (0, x2), (0, (x3 + 1))] [] σ Q))))) : fx_Wp 218 2 [w0, (59, o1), (0, x2), (0, x3)] [] σ Q := by
  refine wi_iload_n (pc' := 3) hm218 rfl rfl rfl ?_
  refine wi_sipush (pc' := 6) (v := 1000) hm218 rfl rfl rfl ?_
  refine wi_ic_ge (pc' := 9) (t := 24) hm218 rfl rfl rfl (fun hc => ?_) (fun hc => ?_)
  · replace h := h.1 hc
    refine wi_iload_n (pc' := 25) hm218 rfl rfl rfl ?_
    exact wi_iret hm218 rfl h
  · replace h := h.2 hc
    refine wi_aload_n (pc' := 10) hm218 rfl rfl rfl (by decide) ?_
    refine wi_iload_n (pc' := 11) hm218 rfl rfl rfl ?_
    obtain ⟨g, h⟩ := h
    refine wi_iaload (pc' := 12) hm218 rfl rfl rfl rfl (N := 1000) rfl g ?_
    refine wi_aload_n (pc' := 13) hm218 rfl rfl rfl (by decide) ?_
    refine wi_iload_n (pc' := 14) hm218 rfl rfl rfl ?_
    obtain ⟨g, h⟩ := h
    refine wi_iaload (pc' := 15) hm218 rfl rfl rfl rfl (N := 1000) rfl g ?_
    refine wi_ic_ne (pc' := 18) (t := 24) hm218 rfl rfl rfl (fun hc => ?_) (fun hc => ?_)
    · replace h := h.1 hc
      refine wi_iload_n (pc' := 25) hm218 rfl rfl rfl ?_
      exact wi_iret hm218 rfl h
    · replace h := h.2 hc
      obtain ⟨g, h⟩ := h
      refine wi_iinc (pc' := 21) (L' := [w0, (59, o1), (0, x2), (0, (x3 + 1))]) hm218 rfl rfl rfl g rfl ?_
      refine wi_goto (t := 2) hm218 rfl rfl ?_
      exact h
theorem hm219 : fx_code 219 = fx_c219 := rfl
theorem t219_0 {o0 o1 x2 x3 : Int} {σ : fx_S} {Q : fx_V → fx_S → Prop} (h : fx_Wp 219 6 [(46, o0), (59, o1), (0, x2), (0, x3), (0, 0), (0, 0)] [] σ Q) : fx_Ca 219 [(46, o0), (59, o1), (0, x2), (0, x3)] σ Q := by
  show fx_Wp 219 0 [(46, o0), (59, o1), (0, x2), (0, x3), (3, 0), (3, 0)] [] σ Q
  refine wi_iconst (pc' := 1) (v := 0) hm219 rfl rfl rfl ?_
  refine wi_istore (pc' := 3) (L' := [(46, o0), (59, o1), (0, x2), (0, x3), (0, 0), (3, 0)]) hm219 rfl rfl rfl ?_
  refine wi_iconst (pc' := 4) (v := 0) hm219 rfl rfl rfl ?_
  refine wi_istore (pc' := 6) (L' := [(46, o0), (59, o1), (0, x2), (0, x3), (0, 0), (0, 0)]) hm219 rfl rfl rfl ?_
  exact h
theorem t219_6 {o0 o1 x2 x3 x4 x5 : Int} {σ : fx_S} {Q : fx_V → fx_S → Prop} (h : ((1000 ≤ x5 → ((x2 ≠ (-1) → Q (0, (-1)) σ) ∧ (x2 = (-1) → Q (0, x4) σ))) ∧ (x5 < 1000 → (0 ≤ x5 ∧ x5 < 1000) ∧ (((σ 59 o1 x5) ≠ (-1) → ((x3 = 0 → ((x4 ≠ x2 → (fx_rg (x4 + 1)) ∧ fx_CI 218 [(46, o0), (59, o1), (0, x5)] σ Q (fun y1 σ1 => fx_Wp 219 6 [(46, o0), (59, o1), (0, x2), (0, x3), (0, (x4 + 1)), (0, y1)] [] σ1 Q)) ∧ (x4 = x2 → Q (0, x5) σ))) ∧ (x3 ≠ 0 → fx_CI 218 [(46, o0), (59, o1), (0, x5)] σ Q (fun y2 σ2 => fx_Wp 219 6 [(46, o0), (59, o1), (0, x2), (0, x3), (0, x4), (0, y2)] [] σ2 Q)))) ∧ ((σ 59 o1 x5) = (-1) → ((x3 = 1 → ((x4 ≠ x2 → (fx_rg (x4 + 1)) ∧ fx_CI 218 [(46, o0), (59, o1), (0, x5)] σ Q (fun y3 σ3 => fx_Wp 219 6 [(46, o0), (59, o1), (0, x2), (0, x3), (0, (x4 + 1)), (0, y3)] [] σ3 Q)) ∧ (x4 = x2 → Q (0, x5) σ))) ∧ (x3 ≠ 1 → fx_CI 218 [(46, o0), (59, o1), (0, x5)] σ Q (fun y4 σ4 => fx_Wp 219 6 [(46, o0), (59, o1), (0, x2), (0, x3), (0, x4), (0, y4)] [] σ4 Q)))))))) : fx_Wp 219 6 [(46, o0), (59, o1), (0, x2), (0, x3), (0, x4), (0, x5)] [] σ Q := by
  refine wi_iload (pc' := 8) hm219 rfl rfl rfl ?_
  refine wi_sipush (pc' := 11) (v := 1000) hm219 rfl rfl rfl ?_
  refine wi_ic_ge (pc' := 14) (t := 58) hm219 rfl rfl rfl (fun hc => ?_) (fun hc => ?_)
  · replace h := h.1 hc
    refine wi_iload_n (pc' := 59) hm219 rfl rfl rfl ?_
    refine wi_iconst (pc' := 60) (v := (-1)) hm219 rfl rfl rfl ?_
    refine wi_ic_ne (pc' := 63) (t := 68) hm219 rfl rfl rfl (fun hc => ?_) (fun hc => ?_)
    · replace h := h.1 hc
      refine wi_iconst (pc' := 69) (v := (-1)) hm219 rfl rfl rfl ?_
      exact wi_iret hm219 rfl h
    · replace h := h.2 hc
      refine wi_iload (pc' := 65) hm219 rfl rfl rfl ?_
      refine wi_goto (t := 69) hm219 rfl rfl ?_
      exact wi_iret hm219 rfl h
  · replace h := h.2 hc
    refine wi_iload_n (pc' := 15) hm219 rfl rfl rfl ?_
    refine wi_aload_n (pc' := 16) hm219 rfl rfl rfl (by decide) ?_
    refine wi_iload (pc' := 18) hm219 rfl rfl rfl ?_
    obtain ⟨g, h⟩ := h
    refine wi_iaload (pc' := 19) hm219 rfl rfl rfl rfl (N := 1000) rfl g ?_
    refine wi_iconst (pc' := 20) (v := (-1)) hm219 rfl rfl rfl ?_
    refine wi_ic_ne (pc' := 23) (t := 27) hm219 rfl rfl rfl (fun hc => ?_) (fun hc => ?_)
    · replace h := h.1 hc
      refine wi_iconst (pc' := 28) (v := 0) hm219 rfl rfl rfl ?_
      refine wi_ic_eq (pc' := 31) (t := 34) hm219 rfl rfl rfl (fun hc => ?_) (fun hc => ?_)
      · replace h := h.1 hc
        refine wi_iload (pc' := 36) hm219 rfl rfl rfl ?_
        refine wi_iload_n (pc' := 37) hm219 rfl rfl rfl ?_
        refine wi_ic_ne (pc' := 40) (t := 43) hm219 rfl rfl rfl (fun hc => ?_) (fun hc => ?_)
        · replace h := h.1 hc
          obtain ⟨g, h⟩ := h
          refine wi_iinc (pc' := 46) (L' := [(46, o0), (59, o1), (0, x2), (0, x3), (0, (x4 + 1)), (0, x5)]) hm219 rfl rfl rfl g rfl ?_
          refine wi_aload_n (pc' := 47) hm219 rfl rfl rfl (by decide) ?_
          refine wi_aload_n (pc' := 48) hm219 rfl rfl rfl (by decide) ?_
          refine wi_iload (pc' := 50) hm219 rfl rfl rfl ?_
          refine wc_I (pc' := 53) (by decide) rfl (by decide) ((fx_wE hm219 rfl).trans (fx_exV (mj := 218) (as := [(59, o1), (0, x5)]) (rest := []) rfl rk218 rfl rfl rfl rfl rfl)) h (fun y1 σ1 h => ?_)
          refine wi_istore (pc' := 55) (L' := [(46, o0), (59, o1), (0, x2), (0, x3), (0, (x4 + 1)), (0, y1)]) hm219 rfl rfl rfl ?_
          refine wi_goto (t := 6) hm219 rfl rfl ?_
          exact h
        · replace h := h.2 hc
          refine wi_iload (pc' := 42) hm219 rfl rfl rfl ?_
          exact wi_iret hm219 rfl h
      · replace h := h.2 hc
        refine wi_goto (t := 46) hm219 rfl rfl ?_
        refine wi_aload_n (pc' := 47) hm219 rfl rfl rfl (by decide) ?_
        refine wi_aload_n (pc' := 48) hm219 rfl rfl rfl (by decide) ?_
        refine wi_iload (pc' := 50) hm219 rfl rfl rfl ?_
        refine wc_I (pc' := 53) (by decide) rfl (by decide) ((fx_wE hm219 rfl).trans (fx_exV (mj := 218) (as := [(59, o1), (0, x5)]) (rest := []) rfl rk218 rfl rfl rfl rfl rfl)) h (fun y2 σ2 h => ?_)
        refine wi_istore (pc' := 55) (L' := [(46, o0), (59, o1), (0, x2), (0, x3), (0, x4), (0, y2)]) hm219 rfl rfl rfl ?_
        refine wi_goto (t := 6) hm219 rfl rfl ?_
        exact h
    · replace h := h.2 hc
      refine wi_iconst (pc' := 24) (v := 1) hm219 rfl rfl rfl ?_
      refine wi_goto (t := 28) hm219 rfl rfl ?_
      refine wi_ic_eq (pc' := 31) (t := 34) hm219 rfl rfl rfl (fun hc => ?_) (fun hc => ?_)
      · replace h := h.1 hc
        refine wi_iload (pc' := 36) hm219 rfl rfl rfl ?_
        refine wi_iload_n (pc' := 37) hm219 rfl rfl rfl ?_
        refine wi_ic_ne (pc' := 40) (t := 43) hm219 rfl rfl rfl (fun hc => ?_) (fun hc => ?_)
        · replace h := h.1 hc
          obtain ⟨g, h⟩ := h
          refine wi_iinc (pc' := 46) (L' := [(46, o0), (59, o1), (0, x2), (0, x3), (0, (x4 + 1)), (0, x5)]) hm219 rfl rfl rfl g rfl ?_
          refine wi_aload_n (pc' := 47) hm219 rfl rfl rfl (by decide) ?_
          refine wi_aload_n (pc' := 48) hm219 rfl rfl rfl (by decide) ?_
          refine wi_iload (pc' := 50) hm219 rfl rfl rfl ?_
          refine wc_I (pc' := 53) (by decide) rfl (by decide) ((fx_wE hm219 rfl).trans (fx_exV (mj := 218) (as := [(59, o1), (0, x5)]) (rest := []) rfl rk218 rfl rfl rfl rfl rfl)) h (fun y3 σ3 h => ?_)
          refine wi_istore (pc' := 55) (L' := [(46, o0), (59, o1), (0, x2), (0, x3), (0, (x4 + 1)), (0, y3)]) hm219 rfl rfl rfl ?_
          refine wi_goto (t := 6) hm219 rfl rfl ?_
          exact h
        · replace h := h.2 hc
          refine wi_iload (pc' := 42) hm219 rfl rfl rfl ?_
          exact wi_iret hm219 rfl h
      · replace h := h.2 hc
        refine wi_goto (t := 46) hm219 rfl rfl ?_
        refine wi_aload_n (pc' := 47) hm219 rfl rfl rfl (by decide) ?_
        refine wi_aload_n (pc' := 48) hm219 rfl rfl rfl (by decide) ?_
        refine wi_iload (pc' := 50) hm219 rfl rfl rfl ?_
        refine wc_I (pc' := 53) (by decide) rfl (by decide) ((fx_wE hm219 rfl).trans (fx_exV (mj := 218) (as := [(59, o1), (0, x5)]) (rest := []) rfl rk218 rfl rfl rfl rfl rfl)) h (fun y4 σ4 h => ?_)
        refine wi_istore (pc' := 55) (L' := [(46, o0), (59, o1), (0, x2), (0, x3), (0, x4), (0, y4)]) hm219 rfl rfl rfl ?_
        refine wi_goto (t := 6) hm219 rfl rfl ?_
        exact h
theorem hm220 : fx_code 220 = fx_c220 := rfl
theorem t220_0 {o0 x1 x2 x3 : Int} {σ : fx_S} {Q : fx_V → fx_S → Prop} (h : fx_CI 154 [(0, x1)] σ Q (fun y1 σ1 => ((y1 ≠ 0 → fx_CI 149 [(0, x3), (0, 0), (0, 2)] σ1 Q (fun y2 σ2 => ((y2 ≠ 0 → ((((fx_up σ2 46 o0 0 0) 46 o0 0) ≤ 0 → fx_CV 166 [(46, o0), (0, x1), (59, 0)] (fx_up σ2 46 o0 0 0) Q (fun σ3 => fx_CI 219 [(46, o0), (59, 0), (0, x2), (0, 0)] σ3 Q (fun y3 σ4 => ((x2 = (-1) → Q (0, y3) σ4) ∧ (x2 ≠ (-1) → ((y3 ≠ (-1) → ((x3 ≠ 0 → ((x3 ≠ 1 → (0 ≤ y3 ∧ y3 < 1000) ∧ Q (0, (σ4 59 0 y3)) σ4) ∧ (x3 = 1 → fx_CI 218 [(46, o0), (59, 0), (0, y3)] σ4 Q (fun y4 σ5 => Q (0, y4) σ5)))) ∧ (x3 = 0 → Q (0, y3) σ4))) ∧ (y3 = (-1) → Q (0, y3) σ4))))))) ∧ (0 < ((fx_up σ2 46 o0 0 0) 46 o0 0) → Q (0, 0) (fx_up σ2 46 o0 0 0)))) ∧ (y2 = 0 → ((((fx_up σ2 46 o0 0 2) 46 o0 0) ≤ 0 → fx_CV 166 [(46, o0), (0, x1), (59, 0)] (fx_up σ2 46 o0 0 2) Q (fun σ6 => fx_CI 219 [(46, o0), (59, 0), (0, x2), (0, 0)] σ6 Q (fun y5 σ7 => ((x2 = (-1) → Q (0, y5) σ7) ∧ (x2 ≠ (-1) → ((y5 ≠ (-1) → ((x3 ≠ 0 → ((x3 ≠ 1 → (0 ≤ y5 ∧ y5 < 1000) ∧ Q (0, (σ7 59 0 y5)) σ7) ∧ (x3 = 1 → fx_CI 218 [(46, o0), (59, 0), (0, y5)] σ7 Q (fun y6 σ8 => Q (0, y6) σ8)))) ∧ (x3 = 0 → Q (0, y5) σ7))) ∧ (y5 = (-1) → Q (0, y5) σ7))))))) ∧ (0 < ((fx_up σ2 46 o0 0 2) 46 o0 0) → Q (0, 0) (fx_up σ2 46 o0 0 2))))))) ∧ (y1 = 0 → ((((fx_up σ1 46 o0 0 1) 46 o0 0) ≤ 0 → fx_CV 166 [(46, o0), (0, x1), (59, 0)] (fx_up σ1 46 o0 0 1) Q (fun σ9 => fx_CI 219 [(46, o0), (59, 0), (0, x2), (0, 0)] σ9 Q (fun y7 σ10 => ((x2 = (-1) → Q (0, y7) σ10) ∧ (x2 ≠ (-1) → ((y7 ≠ (-1) → ((x3 ≠ 0 → ((x3 ≠ 1 → (0 ≤ y7 ∧ y7 < 1000) ∧ Q (0, (σ10 59 0 y7)) σ10) ∧ (x3 = 1 → fx_CI 218 [(46, o0), (59, 0), (0, y7)] σ10 Q (fun y8 σ11 => Q (0, y8) σ11)))) ∧ (x3 = 0 → Q (0, y7) σ10))) ∧ (y7 = (-1) → Q (0, y7) σ10))))))) ∧ (0 < ((fx_up σ1 46 o0 0 1) 46 o0 0) → Q (0, 0) (fx_up σ1 46 o0 0 1))))))) : fx_Ca 220 [(46, o0), (0, x1), (0, x2), (0, x3)] σ Q := by
  show fx_Wp 220 0 [(46, o0), (0, x1), (0, x2), (0, x3), (3, 0)] [] σ Q
  refine wi_aload_n (pc' := 1) hm220 rfl rfl rfl (by decide) ?_
  refine wi_iload_n (pc' := 2) hm220 rfl rfl rfl ?_
  refine wc_I (pc' := 5) (by decide) rfl (by decide) ((fx_wE hm220 rfl).trans (fx_exS (mj := 154) (as := [(0, x1)]) (rest := [(46, o0)]) rfl rk154 rfl rfl rfl rfl)) h (fun y1 σ1 h => ?_)
  refine wi_if_ne (pc' := 8) (t := 12) hm220 rfl rfl rfl (fun hc => ?_) (fun hc => ?_)
  · replace h := h.1 hc
    refine wi_iload_n (pc' := 13) hm220 rfl rfl rfl ?_
    refine wi_iconst (pc' := 14) (v := 0) hm220 rfl rfl rfl ?_
    refine wi_iconst (pc' := 15) (v := 2) hm220 rfl rfl rfl ?_
    refine wc_I (pc' := 18) (by decide) rfl (by decide) ((fx_wE hm220 rfl).trans (fx_exS (mj := 149) (as := [(0, x3), (0, 0), (0, 2)]) (rest := [(46, o0)]) rfl rk149 rfl rfl rfl rfl)) h (fun y2 σ2 h => ?_)
    refine wi_if_ne (pc' := 21) (t := 25) hm220 rfl rfl rfl (fun hc => ?_) (fun hc => ?_)
    · replace h := h.1 hc
      refine wi_iconst (pc' := 26) (v := 0) hm220 rfl rfl rfl ?_
      refine wi_putI (pc' := 29) hm220 rfl rfl (P := 0) rfl ?_
      refine wi_aload_n (pc' := 30) hm220 rfl rfl rfl (by decide) ?_
      refine wi_getI (pc' := 33) hm220 rfl rfl (P := 0) rfl ?_
      refine wi_if_le (pc' := 36) (t := 38) hm220 rfl rfl rfl (fun hc => ?_) (fun hc => ?_)
      · replace h := h.1 hc
        refine wi_aload_n (pc' := 39) hm220 rfl rfl rfl (by decide) ?_
        refine wi_iload_n (pc' := 40) hm220 rfl rfl rfl ?_
        refine wi_aload_n (pc' := 41) hm220 rfl rfl rfl (by decide) ?_
        refine wi_getR (pc' := 44) (x := 0) hm220 rfl rfl rfl (by omega) ?_
        refine wc_V (pc' := 47) (by decide) rfl (by decide) ((fx_wE hm220 rfl).trans (fx_exV (mj := 166) (as := [(0, x1), (59, 0)]) (rest := []) rfl rk166 rfl rfl rfl rfl rfl)) h (fun σ3 h => ?_)
        refine wi_aload_n (pc' := 48) hm220 rfl rfl rfl (by decide) ?_
        refine wi_aload_n (pc' := 49) hm220 rfl rfl rfl (by decide) ?_
        refine wi_getR (pc' := 52) (x := 0) hm220 rfl rfl rfl (by omega) ?_
        refine wi_iload_n (pc' := 53) hm220 rfl rfl rfl ?_
        refine wi_iconst (pc' := 54) (v := 0) hm220 rfl rfl rfl ?_
        refine wc_I (pc' := 57) (by decide) rfl (by decide) ((fx_wE hm220 rfl).trans (fx_exV (mj := 219) (as := [(59, 0), (0, x2), (0, 0)]) (rest := []) rfl rk219 rfl rfl rfl rfl rfl)) h (fun y3 σ4 h => ?_)
        refine wi_istore (pc' := 59) (L' := [(46, o0), (0, x1), (0, x2), (0, x3), (0, y3)]) hm220 rfl rfl rfl ?_
        refine wi_iload_n (pc' := 60) hm220 rfl rfl rfl ?_
        refine wi_iconst (pc' := 61) (v := (-1)) hm220 rfl rfl rfl ?_
        refine wi_ic_eq (pc' := 64) (t := 70) hm220 rfl rfl rfl (fun hc => ?_) (fun hc => ?_)
        · replace h := h.1 hc
          refine wi_iload (pc' := 72) hm220 rfl rfl rfl ?_
          exact wi_iret hm220 rfl h
        · replace h := h.2 hc
          refine wi_iload (pc' := 66) hm220 rfl rfl rfl ?_
          refine wi_iconst (pc' := 67) (v := (-1)) hm220 rfl rfl rfl ?_
          refine wi_ic_ne (pc' := 70) (t := 73) hm220 rfl rfl rfl (fun hc => ?_) (fun hc => ?_)
          · replace h := h.1 hc
            refine wi_iload_n (pc' := 74) hm220 rfl rfl rfl ?_
            refine wi_if_ne (pc' := 77) (t := 82) hm220 rfl rfl rfl (fun hc => ?_) (fun hc => ?_)
            · replace h := h.1 hc
              refine wi_iload_n (pc' := 83) hm220 rfl rfl rfl ?_
              refine wi_iconst (pc' := 84) (v := 1) hm220 rfl rfl rfl ?_
              refine wi_ic_ne (pc' := 87) (t := 100) hm220 rfl rfl rfl (fun hc => ?_) (fun hc => ?_)
              · replace h := h.1 hc
                refine wi_aload_n (pc' := 101) hm220 rfl rfl rfl (by decide) ?_
                refine wi_getR (pc' := 104) (x := 0) hm220 rfl rfl rfl (by omega) ?_
                refine wi_iload (pc' := 106) hm220 rfl rfl rfl ?_
                obtain ⟨g, h⟩ := h
                refine wi_iaload (pc' := 107) hm220 rfl rfl rfl rfl (N := 1000) rfl g ?_
                exact wi_iret hm220 rfl h
              · replace h := h.2 hc
                refine wi_aload_n (pc' := 88) hm220 rfl rfl rfl (by decide) ?_
                refine wi_aload_n (pc' := 89) hm220 rfl rfl rfl (by decide) ?_
                refine wi_getR (pc' := 92) (x := 0) hm220 rfl rfl rfl (by omega) ?_
                refine wi_iload (pc' := 94) hm220 rfl rfl rfl ?_
                refine wc_I (pc' := 97) (by decide) rfl (by decide) ((fx_wE hm220 rfl).trans (fx_exV (mj := 218) (as := [(59, 0), (0, y3)]) (rest := []) rfl rk218 rfl rfl rfl rfl rfl)) h (fun y4 σ5 h => ?_)
                refine wi_goto (t := 107) hm220 rfl rfl ?_
                exact wi_iret hm220 rfl h
            · replace h := h.2 hc
              refine wi_iload (pc' := 79) hm220 rfl rfl rfl ?_
              refine wi_goto (t := 107) hm220 rfl rfl ?_
              exact wi_iret hm220 rfl h
          · replace h := h.2 hc
            refine wi_iload (pc' := 72) hm220 rfl rfl rfl ?_
            exact wi_iret hm220 rfl h
      · replace h := h.2 hc
        refine wi_iconst (pc' := 37) (v := 0) hm220 rfl rfl rfl ?_
        exact wi_iret hm220 rfl h
    · replace h := h.2 hc
      refine wi_iconst (pc' := 22) (v := 2) hm220 rfl rfl rfl ?_
      refine wi_goto (t := 26) hm220 rfl rfl ?_
      refine wi_putI (pc' := 29) hm220 rfl rfl (P := 0) rfl ?_
      refine wi_aload_n (pc' := 30) hm220 rfl rfl rfl (by decide) ?_
      refine wi_getI (pc' := 33) hm220 rfl rfl (P := 0) rfl ?_
      refine wi_if_le (pc' := 36) (t := 38) hm220 rfl rfl rfl (fun hc => ?_) (fun hc => ?_)
      · replace h := h.1 hc
        refine wi_aload_n (pc' := 39) hm220 rfl rfl rfl (by decide) ?_
        refine wi_iload_n (pc' := 40) hm220 rfl rfl rfl ?_
        refine wi_aload_n (pc' := 41) hm220 rfl rfl rfl (by decide) ?_
        refine wi_getR (pc' := 44) (x := 0) hm220 rfl rfl rfl (by omega) ?_
        refine wc_V (pc' := 47) (by decide) rfl (by decide) ((fx_wE hm220 rfl).trans (fx_exV (mj := 166) (as := [(0, x1), (59, 0)]) (rest := []) rfl rk166 rfl rfl rfl rfl rfl)) h (fun σ6 h => ?_)
        refine wi_aload_n (pc' := 48) hm220 rfl rfl rfl (by decide) ?_
        refine wi_aload_n (pc' := 49) hm220 rfl rfl rfl (by decide) ?_
        refine wi_getR (pc' := 52) (x := 0) hm220 rfl rfl rfl (by omega) ?_
        refine wi_iload_n (pc' := 53) hm220 rfl rfl rfl ?_
        refine wi_iconst (pc' := 54) (v := 0) hm220 rfl rfl rfl ?_
        refine wc_I (pc' := 57) (by decide) rfl (by decide) ((fx_wE hm220 rfl).trans (fx_exV (mj := 219) (as := [(59, 0), (0, x2), (0, 0)]) (rest := []) rfl rk219 rfl rfl rfl rfl rfl)) h (fun y5 σ7 h => ?_)
        refine wi_istore (pc' := 59) (L' := [(46, o0), (0, x1), (0, x2), (0, x3), (0, y5)]) hm220 rfl rfl rfl ?_
        refine wi_iload_n (pc' := 60) hm220 rfl rfl rfl ?_
        refine wi_iconst (pc' := 61) (v := (-1)) hm220 rfl rfl rfl ?_
        refine wi_ic_eq (pc' := 64) (t := 70) hm220 rfl rfl rfl (fun hc => ?_) (fun hc => ?_)
        · replace h := h.1 hc
          refine wi_iload (pc' := 72) hm220 rfl rfl rfl ?_
          exact wi_iret hm220 rfl h
        · replace h := h.2 hc
          refine wi_iload (pc' := 66) hm220 rfl rfl rfl ?_
          refine wi_iconst (pc' := 67) (v := (-1)) hm220 rfl rfl rfl ?_
          refine wi_ic_ne (pc' := 70) (t := 73) hm220 rfl rfl rfl (fun hc => ?_) (fun hc => ?_)
          · replace h := h.1 hc
            refine wi_iload_n (pc' := 74) hm220 rfl rfl rfl ?_
            refine wi_if_ne (pc' := 77) (t := 82) hm220 rfl rfl rfl (fun hc => ?_) (fun hc => ?_)
            · replace h := h.1 hc
              refine wi_iload_n (pc' := 83) hm220 rfl rfl rfl ?_
              refine wi_iconst (pc' := 84) (v := 1) hm220 rfl rfl rfl ?_
              refine wi_ic_ne (pc' := 87) (t := 100) hm220 rfl rfl rfl (fun hc => ?_) (fun hc => ?_)
              · replace h := h.1 hc
                refine wi_aload_n (pc' := 101) hm220 rfl rfl rfl (by decide) ?_
                refine wi_getR (pc' := 104) (x := 0) hm220 rfl rfl rfl (by omega) ?_
                refine wi_iload (pc' := 106) hm220 rfl rfl rfl ?_
                obtain ⟨g, h⟩ := h
                refine wi_iaload (pc' := 107) hm220 rfl rfl rfl rfl (N := 1000) rfl g ?_
                exact wi_iret hm220 rfl h
              · replace h := h.2 hc
                refine wi_aload_n (pc' := 88) hm220 rfl rfl rfl (by decide) ?_
                refine wi_aload_n (pc' := 89) hm220 rfl rfl rfl (by decide) ?_
                refine wi_getR (pc' := 92) (x := 0) hm220 rfl rfl rfl (by omega) ?_
                refine wi_iload (pc' := 94) hm220 rfl rfl rfl ?_
                refine wc_I (pc' := 97) (by decide) rfl (by decide) ((fx_wE hm220 rfl).trans (fx_exV (mj := 218) (as := [(59, 0), (0, y5)]) (rest := []) rfl rk218 rfl rfl rfl rfl rfl)) h (fun y6 σ8 h => ?_)
                refine wi_goto (t := 107) hm220 rfl rfl ?_
                exact wi_iret hm220 rfl h
            · replace h := h.2 hc
              refine wi_iload (pc' := 79) hm220 rfl rfl rfl ?_
              refine wi_goto (t := 107) hm220 rfl rfl ?_
              exact wi_iret hm220 rfl h
          · replace h := h.2 hc
            refine wi_iload (pc' := 72) hm220 rfl rfl rfl ?_
            exact wi_iret hm220 rfl h
      · replace h := h.2 hc
        refine wi_iconst (pc' := 37) (v := 0) hm220 rfl rfl rfl ?_
        exact wi_iret hm220 rfl h
  · replace h := h.2 hc
    refine wi_iconst (pc' := 9) (v := 1) hm220 rfl rfl rfl ?_
    refine wi_goto (t := 26) hm220 rfl rfl ?_
    refine wi_putI (pc' := 29) hm220 rfl rfl (P := 0) rfl ?_
    refine wi_aload_n (pc' := 30) hm220 rfl rfl rfl (by decide) ?_
    refine wi_getI (pc' := 33) hm220 rfl rfl (P := 0) rfl ?_
    refine wi_if_le (pc' := 36) (t := 38) hm220 rfl rfl rfl (fun hc => ?_) (fun hc => ?_)
    · replace h := h.1 hc
      refine wi_aload_n (pc' := 39) hm220 rfl rfl rfl (by decide) ?_
      refine wi_iload_n (pc' := 40) hm220 rfl rfl rfl ?_
      refine wi_aload_n (pc' := 41) hm220 rfl rfl rfl (by decide) ?_
      refine wi_getR (pc' := 44) (x := 0) hm220 rfl rfl rfl (by omega) ?_
      refine wc_V (pc' := 47) (by decide) rfl (by decide) ((fx_wE hm220 rfl).trans (fx_exV (mj := 166) (as := [(0, x1), (59, 0)]) (rest := []) rfl rk166 rfl rfl rfl rfl rfl)) h (fun σ9 h => ?_)
      refine wi_aload_n (pc' := 48) hm220 rfl rfl rfl (by decide) ?_
      refine wi_aload_n (pc' := 49) hm220 rfl rfl rfl (by decide) ?_
      refine wi_getR (pc' := 52) (x := 0) hm220 rfl rfl rfl (by omega) ?_
      refine wi_iload_n (pc' := 53) hm220 rfl rfl rfl ?_
      refine wi_iconst (pc' := 54) (v := 0) hm220 rfl rfl rfl ?_
      refine wc_I (pc' := 57) (by decide) rfl (by decide) ((fx_wE hm220 rfl).trans (fx_exV (mj := 219) (as := [(59, 0), (0, x2), (0, 0)]) (rest := []) rfl rk219 rfl rfl rfl rfl rfl)) h (fun y7 σ10 h => ?_)
      refine wi_istore (pc' := 59) (L' := [(46, o0), (0, x1), (0, x2), (0, x3), (0, y7)]) hm220 rfl rfl rfl ?_
      refine wi_iload_n (pc' := 60) hm220 rfl rfl rfl ?_
      refine wi_iconst (pc' := 61) (v := (-1)) hm220 rfl rfl rfl ?_
      refine wi_ic_eq (pc' := 64) (t := 70) hm220 rfl rfl rfl (fun hc => ?_) (fun hc => ?_)
      · replace h := h.1 hc
        refine wi_iload (pc' := 72) hm220 rfl rfl rfl ?_
        exact wi_iret hm220 rfl h
      · replace h := h.2 hc
        refine wi_iload (pc' := 66) hm220 rfl rfl rfl ?_
        refine wi_iconst (pc' := 67) (v := (-1)) hm220 rfl rfl rfl ?_
        refine wi_ic_ne (pc' := 70) (t := 73) hm220 rfl rfl rfl (fun hc => ?_) (fun hc => ?_)
        · replace h := h.1 hc
          refine wi_iload_n (pc' := 74) hm220 rfl rfl rfl ?_
          refine wi_if_ne (pc' := 77) (t := 82) hm220 rfl rfl rfl (fun hc => ?_) (fun hc => ?_)
          · replace h := h.1 hc
            refine wi_iload_n (pc' := 83) hm220 rfl rfl rfl ?_
            refine wi_iconst (pc' := 84) (v := 1) hm220 rfl rfl rfl ?_
            refine wi_ic_ne (pc' := 87) (t := 100) hm220 rfl rfl rfl (fun hc => ?_) (fun hc => ?_)
            · replace h := h.1 hc
              refine wi_aload_n (pc' := 101) hm220 rfl rfl rfl (by decide) ?_
              refine wi_getR (pc' := 104) (x := 0) hm220 rfl rfl rfl (by omega) ?_
              refine wi_iload (pc' := 106) hm220 rfl rfl rfl ?_
              obtain ⟨g, h⟩ := h
              refine wi_iaload (pc' := 107) hm220 rfl rfl rfl rfl (N := 1000) rfl g ?_
              exact wi_iret hm220 rfl h
            · replace h := h.2 hc
              refine wi_aload_n (pc' := 88) hm220 rfl rfl rfl (by decide) ?_
              refine wi_aload_n (pc' := 89) hm220 rfl rfl rfl (by decide) ?_
              refine wi_getR (pc' := 92) (x := 0) hm220 rfl rfl rfl (by omega) ?_
              refine wi_iload (pc' := 94) hm220 rfl rfl rfl ?_
              refine wc_I (pc' := 97) (by decide) rfl (by decide) ((fx_wE hm220 rfl).trans (fx_exV (mj := 218) (as := [(59, 0), (0, y7)]) (rest := []) rfl rk218 rfl rfl rfl rfl rfl)) h (fun y8 σ11 h => ?_)
              refine wi_goto (t := 107) hm220 rfl rfl ?_
              exact wi_iret hm220 rfl h
          · replace h := h.2 hc
            refine wi_iload (pc' := 79) hm220 rfl rfl rfl ?_
            refine wi_goto (t := 107) hm220 rfl rfl ?_
            exact wi_iret hm220 rfl h
        · replace h := h.2 hc
          refine wi_iload (pc' := 72) hm220 rfl rfl rfl ?_
          exact wi_iret hm220 rfl h
    · replace h := h.2 hc
      refine wi_iconst (pc' := 37) (v := 0) hm220 rfl rfl rfl ?_
      exact wi_iret hm220 rfl h
theorem hm221 : fx_code 221 = fx_c221 := rfl
theorem t221_0 {o0 x1 x2 x3 : Int} {σ : fx_S} {Q : fx_V → fx_S → Prop} (h : fx_CI 154 [(0, x1)] σ Q (fun y1 σ1 => ((y1 ≠ 0 → fx_CI 149 [(0, x3), (0, 0), (0, 1)] σ1 Q (fun y2 σ2 => ((y2 ≠ 0 → ((((fx_up σ2 46 o0 0 0) 46 o0 0) ≤ 0 → fx_CV 166 [(46, o0), (0, x1), (59, 0)] (fx_up σ2 46 o0 0 0) Q (fun σ3 => fx_CI 219 [(46, o0), (59, 0), (0, x2), (0, 1)] σ3 Q (fun y3 σ4 => ((x2 = (-1) → Q (0, y3) σ4) ∧ (x2 ≠ (-1) → ((y3 = (-1) → Q (0, y3) σ4) ∧ (y3 ≠ (-1) → ((x3 ≠ 0 → fx_CI 218 [(46, o0), (59, 0), (0, y3)] σ4 Q (fun y4 σ5 => Q (0, y4) σ5)) ∧ (x3 = 0 → Q (0, y3) σ4))))))))) ∧ (0 < ((fx_up σ2 46 o0 0 0) 46 o0 0) → Q (0, 0) (fx_up σ2 46 o0 0 0)))) ∧ (y2 = 0 → ((((fx_up σ2 46 o0 0 2) 46 o0 0) ≤ 0 → fx_CV 166 [(46, o0), (0, x1), (59, 0)] (fx_up σ2 46 o0 0 2) Q (fun σ6 => fx_CI 219 [(46, o0), (59, 0), (0, x2), (0, 1)] σ6 Q (fun y5 σ7 => ((x2 = (-1) → Q (0, y5) σ7) ∧ (x2 ≠ (-1) → ((y5 = (-1) → Q (0, y5) σ7) ∧ (y5 ≠ (-1) → ((x3 ≠ 0 → fx_CI 218 [(46, o0), (59, 0), (0, y5)] σ7 Q (fun y6 σ8 => Q (0, y6) σ8)) ∧ (x3 = 0 → Q (0, y5) σ7))))))))) ∧ (0 < ((fx_up σ2 46 o0 0 2) 46 o0 0) → Q (0, 0) (fx_up σ2 46 o0 0 2))))))) ∧ (y1 = 0 → ((((fx_up σ1 46 o0 0 1) 46 o0 0) ≤ 0 → fx_CV 166 [(46, o0), (0, x1), (59, 0)] (fx_up σ1 46 o0 0 1) Q (fun σ9 => fx_CI 219 [(46, o0), (59, 0), (0, x2), (0, 1)] σ9 Q (fun y7 σ10 => ((x2 = (-1) → Q (0, y7) σ10) ∧ (x2 ≠ (-1) → ((y7 = (-1) → Q (0, y7) σ10) ∧ (y7 ≠ (-1) → ((x3 ≠ 0 → fx_CI 218 [(46, o0), (59, 0), (0, y7)] σ10 Q (fun y8 σ11 => Q (0, y8) σ11)) ∧ (x3 = 0 → Q (0, y7) σ10))))))))) ∧ (0 < ((fx_up σ1 46 o0 0 1) 46 o0 0) → Q (0, 0) (fx_up σ1 46 o0 0 1))))))) : fx_Ca 221 [(46, o0), (0, x1), (0, x2), (0, x3)] σ Q := by
  show fx_Wp 221 0 [(46, o0), (0, x1), (0, x2), (0, x3), (3, 0)] [] σ Q
  refine wi_aload_n (pc' := 1) hm221 rfl rfl rfl (by decide) ?_
  refine wi_iload_n (pc' := 2) hm221 rfl rfl rfl ?_
  refine wc_I (pc' := 5) (by decide) rfl (by decide) ((fx_wE hm221 rfl).trans (fx_exS (mj := 154) (as := [(0, x1)]) (rest := [(46, o0)]) rfl rk154 rfl rfl rfl rfl)) h (fun y1 σ1 h => ?_)
  refine wi_if_ne (pc' := 8) (t := 12) hm221 rfl rfl rfl (fun hc => ?_) (fun hc => ?_)
  · replace h := h.1 hc
    refine wi_iload_n (pc' := 13) hm221 rfl rfl rfl ?_
    refine wi_iconst (pc' := 14) (v := 0) hm221 rfl rfl rfl ?_
    refine wi_iconst (pc' := 15) (v := 1) hm221 rfl rfl rfl ?_
    refine wc_I (pc' := 18) (by decide) rfl (by decide) ((fx_wE hm221 rfl).trans (fx_exS (mj := 149) (as := [(0, x3), (0, 0), (0, 1)]) (rest := [(46, o0)]) rfl rk149 rfl rfl rfl rfl)) h (fun y2 σ2 h => ?_)
    refine wi_if_ne (pc' := 21) (t := 25) hm221 rfl rfl rfl (fun hc => ?_) (fun hc => ?_)
    · replace h := h.1 hc
      refine wi_iconst (pc' := 26) (v := 0) hm221 rfl rfl rfl ?_
      refine wi_putI (pc' := 29) hm221 rfl rfl (P := 0) rfl ?_
      refine wi_aload_n (pc' := 30) hm221 rfl rfl rfl (by decide) ?_
      refine wi_getI (pc' := 33) hm221 rfl rfl (P := 0) rfl ?_
      refine wi_if_le (pc' := 36) (t := 38) hm221 rfl rfl rfl (fun hc => ?_) (fun hc => ?_)
      · replace h := h.1 hc
        refine wi_aload_n (pc' := 39) hm221 rfl rfl rfl (by decide) ?_
        refine wi_iload_n (pc' := 40) hm221 rfl rfl rfl ?_
        refine wi_aload_n (pc' := 41) hm221 rfl rfl rfl (by decide) ?_
        refine wi_getR (pc' := 44) (x := 0) hm221 rfl rfl rfl (by omega) ?_
        refine wc_V (pc' := 47) (by decide) rfl (by decide) ((fx_wE hm221 rfl).trans (fx_exV (mj := 166) (as := [(0, x1), (59, 0)]) (rest := []) rfl rk166 rfl rfl rfl rfl rfl)) h (fun σ3 h => ?_)
        refine wi_aload_n (pc' := 48) hm221 rfl rfl rfl (by decide) ?_
        refine wi_aload_n (pc' := 49) hm221 rfl rfl rfl (by decide) ?_
        refine wi_getR (pc' := 52) (x := 0) hm221 rfl rfl rfl (by omega) ?_
        refine wi_iload_n (pc' := 53) hm221 rfl rfl rfl ?_
        refine wi_iconst (pc' := 54) (v := 1) hm221 rfl rfl rfl ?_
        refine wc_I (pc' := 57) (by decide) rfl (by decide) ((fx_wE hm221 rfl).trans (fx_exV (mj := 219) (as := [(59, 0), (0, x2), (0, 1)]) (rest := []) rfl rk219 rfl rfl rfl rfl rfl)) h (fun y3 σ4 h => ?_)
        refine wi_istore (pc' := 59) (L' := [(46, o0), (0, x1), (0, x2), (0, x3), (0, y3)]) hm221 rfl rfl rfl ?_
        refine wi_iload_n (pc' := 60) hm221 rfl rfl rfl ?_
        refine wi_iconst (pc' := 61) (v := (-1)) hm221 rfl rfl rfl ?_
        refine wi_ic_eq (pc' := 64) (t := 74) hm221 rfl rfl rfl (fun hc => ?_) (fun hc => ?_)
        · replace h := h.1 hc
          refine wi_iload (pc' := 76) hm221 rfl rfl rfl ?_
          exact wi_iret hm221 rfl h
        · replace h := h.2 hc
          refine wi_iload (pc' := 66) hm221 rfl rfl rfl ?_
          refine wi_iconst (pc' := 67) (v := (-1)) hm221 rfl rfl rfl ?_
          refine wi_ic_eq (pc' := 70) (t := 74) hm221 rfl rfl rfl (fun hc => ?_) (fun hc => ?_)
          · replace h := h.1 hc
            refine wi_iload (pc' := 76) hm221 rfl rfl rfl ?_
            exact wi_iret hm221 rfl h
          · replace h := h.2 hc
            refine wi_iload_n (pc' := 71) hm221 rfl rfl rfl ?_
            refine wi_if_ne (pc' := 74) (t := 77) hm221 rfl rfl rfl (fun hc => ?_) (fun hc => ?_)
            · replace h := h.1 hc
              refine wi_aload_n (pc' := 78) hm221 rfl rfl rfl (by decide) ?_
              refine wi_aload_n (pc' := 79) hm221 rfl rfl rfl (by decide) ?_
              refine wi_getR (pc' := 82) (x := 0) hm221 rfl rfl rfl (by omega) ?_
              refine wi_iload (pc' := 84) hm221 rfl rfl rfl ?_
              refine wc_I (pc' := 87) (by decide) rfl (by decide) ((fx_wE hm221 rfl).trans (fx_exV (mj := 218) (as := [(59, 0), (0, y3)]) (rest := []) rfl rk218 rfl rfl rfl rfl rfl)) h (fun y4 σ5 h => ?_)
              exact wi_iret hm221 rfl h
            · replace h := h.2 hc
              refine wi_iload (pc' := 76) hm221 rfl rfl rfl ?_
              exact wi_iret hm221 rfl h
      · replace h := h.2 hc
        refine wi_iconst (pc' := 37) (v := 0) hm221 rfl rfl rfl ?_
        exact wi_iret hm221 rfl h
    · replace h := h.2 hc
      refine wi_iconst (pc' := 22) (v := 2) hm221 rfl rfl rfl ?_
      refine wi_goto (t := 26) hm221 rfl rfl ?_
      refine wi_putI (pc' := 29) hm221 rfl rfl (P := 0) rfl ?_
      refine wi_aload_n (pc' := 30) hm221 rfl rfl rfl (by decide) ?_
      refine wi_getI (pc' := 33) hm221 rfl rfl (P := 0) rfl ?_
      refine wi_if_le (pc' := 36) (t := 38) hm221 rfl rfl rfl (fun hc => ?_) (fun hc => ?_)
      · replace h := h.1 hc
        refine wi_aload_n (pc' := 39) hm221 rfl rfl rfl (by decide) ?_
        refine wi_iload_n (pc' := 40) hm221 rfl rfl rfl ?_
        refine wi_aload_n (pc' := 41) hm221 rfl rfl rfl (by decide) ?_
        refine wi_getR (pc' := 44) (x := 0) hm221 rfl rfl rfl (by omega) ?_
        refine wc_V (pc' := 47) (by decide) rfl (by decide) ((fx_wE hm221 rfl).trans (fx_exV (mj := 166) (as := [(0, x1), (59, 0)]) (rest := []) rfl rk166 rfl rfl rfl rfl rfl)) h (fun σ6 h => ?_)
        refine wi_aload_n (pc' := 48) hm221 rfl rfl rfl (by decide) ?_
        refine wi_aload_n (pc' := 49) hm221 rfl rfl rfl (by decide) ?_
        refine wi_getR (pc' := 52) (x := 0) hm221 rfl rfl rfl (by omega) ?_
        refine wi_iload_n (pc' := 53) hm221 rfl rfl rfl ?_
        refine wi_iconst (pc' := 54) (v := 1) hm221 rfl rfl rfl ?_
        refine wc_I (pc' := 57) (by decide) rfl (by decide) ((fx_wE hm221 rfl).trans (fx_exV (mj := 219) (as := [(59, 0), (0, x2), (0, 1)]) (rest := []) rfl rk219 rfl rfl rfl rfl rfl)) h (fun y5 σ7 h => ?_)
        refine wi_istore (pc' := 59) (L' := [(46, o0), (0, x1), (0, x2), (0, x3), (0, y5)]) hm221 rfl rfl rfl ?_
        refine wi_iload_n (pc' := 60) hm221 rfl rfl rfl ?_
        refine wi_iconst (pc' := 61) (v := (-1)) hm221 rfl rfl rfl ?_
        refine wi_ic_eq (pc' := 64) (t := 74) hm221 rfl rfl rfl (fun hc => ?_) (fun hc => ?_)
        · replace h := h.1 hc
          refine wi_iload (pc' := 76) hm221 rfl rfl rfl ?_
          exact wi_iret hm221 rfl h
        · replace h := h.2 hc
          refine wi_iload (pc' := 66) hm221 rfl rfl rfl ?_
          refine wi_iconst (pc' := 67) (v := (-1)) hm221 rfl rfl rfl ?_
          refine wi_ic_eq (pc' := 70) (t := 74) hm221 rfl rfl rfl (fun hc => ?_) (fun hc => ?_)
          · replace h := h.1 hc
            refine wi_iload (pc' := 76) hm221 rfl rfl rfl ?_
            exact wi_iret hm221 rfl h
          · replace h := h.2 hc
            refine wi_iload_n (pc' := 71) hm221 rfl rfl rfl ?_
            refine wi_if_ne (pc' := 74) (t := 77) hm221 rfl rfl rfl (fun hc => ?_) (fun hc => ?_)
            · replace h := h.1 hc
              refine wi_aload_n (pc' := 78) hm221 rfl rfl rfl (by decide) ?_
              refine wi_aload_n (pc' := 79) hm221 rfl rfl rfl (by decide) ?_
              refine wi_getR (pc' := 82) (x := 0) hm221 rfl rfl rfl (by omega) ?_
              refine wi_iload (pc' := 84) hm221 rfl rfl rfl ?_
              refine wc_I (pc' := 87) (by decide) rfl (by decide) ((fx_wE hm221 rfl).trans (fx_exV (mj := 218) (as := [(59, 0), (0, y5)]) (rest := []) rfl rk218 rfl rfl rfl rfl rfl)) h (fun y6 σ8 h => ?_)
              exact wi_iret hm221 rfl h
            · replace h := h.2 hc
              refine wi_iload (pc' := 76) hm221 rfl rfl rfl ?_
              exact wi_iret hm221 rfl h
      · replace h := h.2 hc
        refine wi_iconst (pc' := 37) (v := 0) hm221 rfl rfl rfl ?_
        exact wi_iret hm221 rfl h
  · replace h := h.2 hc
    refine wi_iconst (pc' := 9) (v := 1) hm221 rfl rfl rfl ?_
    refine wi_goto (t := 26) hm221 rfl rfl ?_
    refine wi_putI (pc' := 29) hm221 rfl rfl (P := 0) rfl ?_
    refine wi_aload_n (pc' := 30) hm221 rfl rfl rfl (by decide) ?_
    refine wi_getI (pc' := 33) hm221 rfl rfl (P := 0) rfl ?_
    refine wi_if_le (pc' := 36) (t := 38) hm221 rfl rfl rfl (fun hc => ?_) (fun hc => ?_)
    · replace h := h.1 hc
      refine wi_aload_n (pc' := 39) hm221 rfl rfl rfl (by decide) ?_
      refine wi_iload_n (pc' := 40) hm221 rfl rfl rfl ?_
      refine wi_aload_n (pc' := 41) hm221 rfl rfl rfl (by decide) ?_
      refine wi_getR (pc' := 44) (x := 0) hm221 rfl rfl rfl (by omega) ?_
      refine wc_V (pc' := 47) (by decide) rfl (by decide) ((fx_wE hm221 rfl).trans (fx_exV (mj := 166) (as := [(0, x1), (59, 0)]) (rest := []) rfl rk166 rfl rfl rfl rfl rfl)) h (fun σ9 h => ?_)
      refine wi_aload_n (pc' := 48) hm221 rfl rfl rfl (by decide) ?_
      refine wi_aload_n (pc' := 49) hm221 rfl rfl rfl (by decide) ?_
      refine wi_getR (pc' := 52) (x := 0) hm221 rfl rfl rfl (by omega) ?_
      refine wi_iload_n (pc' := 53) hm221 rfl rfl rfl ?_
      refine wi_iconst (pc' := 54) (v := 1) hm221 rfl rfl rfl ?_
      refine wc_I (pc' := 57) (by decide) rfl (by decide) ((fx_wE hm221 rfl).trans (fx_exV (mj := 219) (as := [(59, 0), (0, x2), (0, 1)]) (rest := []) rfl rk219 rfl rfl rfl rfl rfl)) h (fun y7 σ10 h => ?_)
      refine wi_istore (pc' := 59) (L' := [(46, o0), (0, x1), (0, x2), (0, x3), (0, y7)]) hm221 rfl rfl rfl ?_
      refine wi_iload_n (pc' := 60) hm221 rfl rfl rfl ?_
      refine wi_iconst (pc' := 61) (v := (-1)) hm221 rfl rfl rfl ?_
      refine wi_ic_eq (pc' := 64) (t := 74) hm221 rfl rfl rfl (fun hc => ?_) (fun hc => ?_)
      · replace h := h.1 hc
        refine wi_iload (pc' := 76) hm221 rfl rfl rfl ?_
        exact wi_iret hm221 rfl h
      · replace h := h.2 hc
        refine wi_iload (pc' := 66) hm221 rfl rfl rfl ?_
        refine wi_iconst (pc' := 67) (v := (-1)) hm221 rfl rfl rfl ?_
        refine wi_ic_eq (pc' := 70) (t := 74) hm221 rfl rfl rfl (fun hc => ?_) (fun hc => ?_)
        · replace h := h.1 hc
          refine wi_iload (pc' := 76) hm221 rfl rfl rfl ?_
          exact wi_iret hm221 rfl h
        · replace h := h.2 hc
          refine wi_iload_n (pc' := 71) hm221 rfl rfl rfl ?_
          refine wi_if_ne (pc' := 74) (t := 77) hm221 rfl rfl rfl (fun hc => ?_) (fun hc => ?_)
          · replace h := h.1 hc
            refine wi_aload_n (pc' := 78) hm221 rfl rfl rfl (by decide) ?_
            refine wi_aload_n (pc' := 79) hm221 rfl rfl rfl (by decide) ?_
            refine wi_getR (pc' := 82) (x := 0) hm221 rfl rfl rfl (by omega) ?_
            refine wi_iload (pc' := 84) hm221 rfl rfl rfl ?_
            refine wc_I (pc' := 87) (by decide) rfl (by decide) ((fx_wE hm221 rfl).trans (fx_exV (mj := 218) (as := [(59, 0), (0, y7)]) (rest := []) rfl rk218 rfl rfl rfl rfl rfl)) h (fun y8 σ11 h => ?_)
            exact wi_iret hm221 rfl h
          · replace h := h.2 hc
            refine wi_iload (pc' := 76) hm221 rfl rfl rfl ?_
            exact wi_iret hm221 rfl h
    · replace h := h.2 hc
      refine wi_iconst (pc' := 37) (v := 0) hm221 rfl rfl rfl ?_
      exact wi_iret hm221 rfl h
theorem hm222 : fx_code 222 = fx_c222 := rfl
theorem t222_0 {o0 x1 : Int} {σ : fx_S} {Q : fx_V → fx_S → Prop} (h : fx_CI 164 [(46, o0), (0, x1)] σ Q (fun y1 σ1 => fx_CI 160 [(46, o0), (0, x1), (0, 0)] σ1 Q (fun y2 σ2 => (fx_rg (y2 - 1)) ∧ fx_Wp 222 15 [(46, o0), (0, x1), (0, y1), (0, (y2 - 1)), (3, 0), (3, 0), (3, 0)] [] σ2 Q))) : fx_Ca 222 [(46, o0), (0, x1)] σ Q := by
  show fx_Wp 222 0 [(46, o0), (0, x1), (3, 0), (3, 0), (3, 0), (3, 0), (3, 0)] [] σ Q
  refine wi_aload_n (pc' := 1) hm222 rfl rfl rfl (by decide) ?_
  refine wi_iload_n (pc' := 2) hm222 rfl rfl rfl ?_
  refine wc_I (pc' := 5) (by decide) rfl (by decide) ((fx_wE hm222 rfl).trans (fx_exV (mj := 164) (as := [(0, x1)]) (rest := []) rfl rk164 rfl rfl rfl rfl rfl)) h (fun y1 σ1 h => ?_)
  refine wi_istore_n (pc' := 6) (L' := [(46, o0), (0, x1), (0, y1), (3, 0), (3, 0), (3, 0), (3, 0)]) hm222 rfl rfl rfl ?_
  refine wi_aload_n (pc' := 7) hm222 rfl rfl rfl (by decide) ?_
  refine wi_iload_n (pc' := 8) hm222 rfl rfl rfl ?_
  refine wi_iconst (pc' := 9) (v := 0) hm222 rfl rfl rfl ?_
  refine wc_I (pc' := 12) (by decide) rfl (by decide) ((fx_wE hm222 rfl).trans (fx_exV (mj := 160) (as := [(0, x1), (0, 0)]) (rest := []) rfl rk160 rfl rfl rfl rfl rfl)) h (fun y2 σ2 h => ?_)
  refine wi_iconst (pc' := 13) (v := 1) hm222 rfl rfl rfl ?_
  obtain ⟨g, h⟩ := h
  refine wi_isub (pc' := 14) hm222 rfl rfl g ?_
  refine wi_istore_n (pc' := 15) (L' := [(46, o0), (0, x1), (0, y1), (0, (y2 - 1)), (3, 0), (3, 0), (3, 0)]) hm222 rfl rfl rfl ?_
  exact h
theorem t222_15 {o0 x1 x3 : Int} {w2 w4 w5 w6 : fx_V} {σ : fx_S} {Q : fx_V → fx_S → Prop} (h : fx_CI 161 [(46, o0), (0, x1), (0, x3), (0, 0)] σ Q (fun y1 σ1 => ((y1 ≤ 1 → fx_CI 161 [(46, o0), (0, x1), (0, x3), (0, 1)] σ1 Q (fun y2 σ2 => Q (0, y2) σ2)) ∧ (1 < y1 → fx_CI 161 [(46, o0), (0, x1), (0, x3), (0, 0)] σ1 Q (fun y3 σ3 => fx_CI 161 [(46, o0), (0, x1), (0, x3), (0, 2)] σ3 Q (fun y4 σ4 => fx_CI 161 [(46, o0), (0, x1), (0, x3), (0, 3)] σ4 Q (fun y5 σ5 => ((y3 = 6 → fx_Wp 222 15 [(46, o0), (0, x1), w2, (0, y5), (0, y3), (0, y4), (0, y5)] [] σ5 Q) ∧ (y3 ≠ 6 → ((y3 ≠ 7 → ((y3 ≠ 8 → fx_Wp 222 109 [(46, o0), (0, x1), w2, (0, x3), (0, y3), (0, y4), (0, y5)] [] σ5 Q) ∧ (y3 = 8 → (0 ≤ y5 ∧ y5 < 23) ∧ (((σ5 57 0 y5) = (-1) → fx_Wp 222 109 [(46, o0), (0, x1), w2, (0, x3), (0, y3), (0, y4), (0, y5)] [] σ5 Q) ∧ ((σ5 57 0 y5) ≠ (-1) → Q (0, (-1)) (fx_up σ5 46 o0 28 2)))))) ∧ (y3 = 7 → (0 ≤ y5 ∧ y5 < 23) ∧ (((σ5 57 0 y5) ≠ (-1) → ((y3 ≠ 8 → fx_Wp 222 109 [(46, o0), (0, x1), w2, (0, x3), (0, y3), (0, y4), (0, y5)] [] σ5 Q) ∧ (y3 = 8 → (0 ≤ y5 ∧ y5 < 23) ∧ (((σ5 57 0 y5) = (-1) → fx_Wp 222 109 [(46, o0), (0, x1), w2, (0, x3), (0, y3), (0, y4), (0, y5)] [] σ5 Q) ∧ ((σ5 57 0 y5) ≠ (-1) → Q (0, (-1)) (fx_up σ5 46 o0 28 2)))))) ∧ ((σ5 57 0 y5) = (-1) → fx_Wp 222 15 [(46, o0), (0, x1), w2, (0, y5), (0, y3), (0, y4), (0, y5)] [] σ5 Q))))))))))))) : fx_Wp 222 15 [(46, o0), (0, x1), w2, (0, x3), w4, w5, w6] [] σ Q := by
  refine wi_aload_n (pc' := 16) hm222 rfl rfl rfl (by decide) ?_
  refine wi_iload_n (pc' := 17) hm222 rfl rfl rfl ?_
  refine wi_iload_n (pc' := 18) hm222 rfl rfl rfl ?_
  refine wi_iconst (pc' := 19) (v := 0) hm222 rfl rfl rfl ?_
  refine wc_I (pc' := 22) (by decide) rfl (by decide) ((fx_wE hm222 rfl).trans (fx_exV (mj := 161) (as := [(0, x1), (0, x3), (0, 0)]) (rest := []) rfl rk161 rfl rfl rfl rfl rfl)) h (fun y1 σ1 h => ?_)
  refine wi_iconst (pc' := 23) (v := 1) hm222 rfl rfl rfl ?_
  refine wi_ic_le (pc' := 26) (t := 160) hm222 rfl rfl rfl (fun hc => ?_) (fun hc => ?_)
  · replace h := h.1 hc
    refine wi_aload_n (pc' := 161) hm222 rfl rfl rfl (by decide) ?_
    refine wi_iload_n (pc' := 162) hm222 rfl rfl rfl ?_
    refine wi_iload_n (pc' := 163) hm222 rfl rfl rfl ?_
    refine wi_iconst (pc' := 164) (v := 1) hm222 rfl rfl rfl ?_
    refine wc_I (pc' := 167) (by decide) rfl (by decide) ((fx_wE hm222 rfl).trans (fx_exV (mj := 161) (as := [(0, x1), (0, x3), (0, 1)]) (rest := []) rfl rk161 rfl rfl rfl rfl rfl)) h (fun y2 σ2 h => ?_)
    exact wi_iret hm222 rfl h
  · replace h := h.2 hc
    refine wi_aload_n (pc' := 27) hm222 rfl rfl rfl (by decide) ?_
    refine wi_iload_n (pc' := 28) hm222 rfl rfl rfl ?_
    refine wi_iload_n (pc' := 29) hm222 rfl rfl rfl ?_
    refine wi_iconst (pc' := 30) (v := 0) hm222 rfl rfl rfl ?_
    refine wc_I (pc' := 33) (by decide) rfl (by decide) ((fx_wE hm222 rfl).trans (fx_exV (mj := 161) (as := [(0, x1), (0, x3), (0, 0)]) (rest := []) rfl rk161 rfl rfl rfl rfl rfl)) h (fun y3 σ3 h => ?_)
    refine wi_istore (pc' := 35) (L' := [(46, o0), (0, x1), w2, (0, x3), (0, y3), w5, w6]) hm222 rfl rfl rfl ?_
    refine wi_aload_n (pc' := 36) hm222 rfl rfl rfl (by decide) ?_
    refine wi_iload_n (pc' := 37) hm222 rfl rfl rfl ?_
    refine wi_iload_n (pc' := 38) hm222 rfl rfl rfl ?_
    refine wi_iconst (pc' := 39) (v := 2) hm222 rfl rfl rfl ?_
    refine wc_I (pc' := 42) (by decide) rfl (by decide) ((fx_wE hm222 rfl).trans (fx_exV (mj := 161) (as := [(0, x1), (0, x3), (0, 2)]) (rest := []) rfl rk161 rfl rfl rfl rfl rfl)) h (fun y4 σ4 h => ?_)
    refine wi_istore (pc' := 44) (L' := [(46, o0), (0, x1), w2, (0, x3), (0, y3), (0, y4), w6]) hm222 rfl rfl rfl ?_
    refine wi_aload_n (pc' := 45) hm222 rfl rfl rfl (by decide) ?_
    refine wi_iload_n (pc' := 46) hm222 rfl rfl rfl ?_
    refine wi_iload_n (pc' := 47) hm222 rfl rfl rfl ?_
    refine wi_iconst (pc' := 48) (v := 3) hm222 rfl rfl rfl ?_
    refine wc_I (pc' := 51) (by decide) rfl (by decide) ((fx_wE hm222 rfl).trans (fx_exV (mj := 161) (as := [(0, x1), (0, x3), (0, 3)]) (rest := []) rfl rk161 rfl rfl rfl rfl rfl)) h (fun y5 σ5 h => ?_)
    refine wi_istore (pc' := 53) (L' := [(46, o0), (0, x1), w2, (0, x3), (0, y3), (0, y4), (0, y5)]) hm222 rfl rfl rfl ?_
    refine wi_iload (pc' := 55) hm222 rfl rfl rfl ?_
    refine wi_bipush (pc' := 57) (v := 6) hm222 rfl rfl rfl ?_
    refine wi_ic_eq (pc' := 60) (t := 78) hm222 rfl rfl rfl (fun hc => ?_) (fun hc => ?_)
    · replace h := h.1 hc
      refine wi_iload (pc' := 80) hm222 rfl rfl rfl ?_
      refine wi_istore_n (pc' := 81) (L' := [(46, o0), (0, x1), w2, (0, y5), (0, y3), (0, y4), (0, y5)]) hm222 rfl rfl rfl ?_
      refine wi_goto (t := 157) hm222 rfl rfl ?_
      refine wi_goto (t := 15) hm222 rfl rfl ?_
      exact h
    · replace h := h.2 hc
      refine wi_iload (pc' := 62) hm222 rfl rfl rfl ?_
      refine wi_bipush (pc' := 64) (v := 7) hm222 rfl rfl rfl ?_
      refine wi_ic_ne (pc' := 67) (t := 84) hm222 rfl rfl rfl (fun hc => ?_) (fun hc => ?_)
      · replace h := h.1 hc
        refine wi_iload (pc' := 86) hm222 rfl rfl rfl ?_
        refine wi_bipush (pc' := 88) (v := 8) hm222 rfl rfl rfl ?_
        refine wi_ic_ne (pc' := 91) (t := 109) hm222 rfl rfl rfl (fun hc => ?_) (fun hc => ?_)
        · replace h := h.1 hc
          exact h
        · replace h := h.2 hc
          refine wi_aload_n (pc' := 92) hm222 rfl rfl rfl (by decide) ?_
          refine wi_getR (pc' := 95) (x := 0) hm222 rfl rfl rfl (by omega) ?_
          refine wi_iload (pc' := 97) hm222 rfl rfl rfl ?_
          obtain ⟨g, h⟩ := h
          refine wi_iaload (pc' := 98) hm222 rfl rfl rfl rfl (N := 23) rfl g ?_
          refine wi_iconst (pc' := 99) (v := (-1)) hm222 rfl rfl rfl ?_
          refine wi_ic_eq (pc' := 102) (t := 109) hm222 rfl rfl rfl (fun hc => ?_) (fun hc => ?_)
          · replace h := h.1 hc
            exact h
          · replace h := h.2 hc
            refine wi_aload_n (pc' := 103) hm222 rfl rfl rfl (by decide) ?_
            refine wi_iconst (pc' := 104) (v := 2) hm222 rfl rfl rfl ?_
            refine wi_putI (pc' := 107) hm222 rfl rfl (P := 28) rfl ?_
            refine wi_iconst (pc' := 108) (v := (-1)) hm222 rfl rfl rfl ?_
            exact wi_iret hm222 rfl h
      · replace h := h.2 hc
        refine wi_aload_n (pc' := 68) hm222 rfl rfl rfl (by decide) ?_
        refine wi_getR (pc' := 71) (x := 0) hm222 rfl rfl rfl (by omega) ?_
        refine wi_iload (pc' := 73) hm222 rfl rfl rfl ?_
        obtain ⟨g, h⟩ := h
        refine wi_iaload (pc' := 74) hm222 rfl rfl rfl rfl (N := 23) rfl g ?_
        refine wi_iconst (pc' := 75) (v := (-1)) hm222 rfl rfl rfl ?_
        refine wi_ic_ne (pc' := 78) (t := 84) hm222 rfl rfl rfl (fun hc => ?_) (fun hc => ?_)
        · replace h := h.1 hc
          refine wi_iload (pc' := 86) hm222 rfl rfl rfl ?_
          refine wi_bipush (pc' := 88) (v := 8) hm222 rfl rfl rfl ?_
          refine wi_ic_ne (pc' := 91) (t := 109) hm222 rfl rfl rfl (fun hc => ?_) (fun hc => ?_)
          · replace h := h.1 hc
            exact h
          · replace h := h.2 hc
            refine wi_aload_n (pc' := 92) hm222 rfl rfl rfl (by decide) ?_
            refine wi_getR (pc' := 95) (x := 0) hm222 rfl rfl rfl (by omega) ?_
            refine wi_iload (pc' := 97) hm222 rfl rfl rfl ?_
            obtain ⟨g, h⟩ := h
            refine wi_iaload (pc' := 98) hm222 rfl rfl rfl rfl (N := 23) rfl g ?_
            refine wi_iconst (pc' := 99) (v := (-1)) hm222 rfl rfl rfl ?_
            refine wi_ic_eq (pc' := 102) (t := 109) hm222 rfl rfl rfl (fun hc => ?_) (fun hc => ?_)
            · replace h := h.1 hc
              exact h
            · replace h := h.2 hc
              refine wi_aload_n (pc' := 103) hm222 rfl rfl rfl (by decide) ?_
              refine wi_iconst (pc' := 104) (v := 2) hm222 rfl rfl rfl ?_
              refine wi_putI (pc' := 107) hm222 rfl rfl (P := 28) rfl ?_
              refine wi_iconst (pc' := 108) (v := (-1)) hm222 rfl rfl rfl ?_
              exact wi_iret hm222 rfl h
        · replace h := h.2 hc
          refine wi_iload (pc' := 80) hm222 rfl rfl rfl ?_
          refine wi_istore_n (pc' := 81) (L' := [(46, o0), (0, x1), w2, (0, y5), (0, y3), (0, y4), (0, y5)]) hm222 rfl rfl rfl ?_
          refine wi_goto (t := 157) hm222 rfl rfl ?_
          refine wi_goto (t := 15) hm222 rfl rfl ?_
          exact h
theorem t222_109 {o0 x1 x4 x5 x6 : Int} {w2 w3 : fx_V} {σ : fx_S} {Q : fx_V → fx_S → Prop} (h : ((7 ≤ x4 → fx_Wp 222 15 [(46, o0), (0, x1), w2, (0, x5), (0, x4), (0, x5), (0, x6)] [] σ Q) ∧ (x4 < 7 → (0 ≤ x5 ∧ x5 < 23) ∧ (((σ 57 0 x5) ≠ (-1) → (0 ≤ x6 ∧ x6 < 23) ∧ (((σ 57 0 x6) ≠ (-1) → Q (0, (-1)) (fx_up σ 46 o0 28 1)) ∧ ((σ 57 0 x6) = (-1) → fx_Wp 222 15 [(46, o0), (0, x1), w2, (0, x6), (0, x4), (0, x5), (0, x6)] [] σ Q))) ∧ ((σ 57 0 x5) = (-1) → fx_Wp 222 15 [(46, o0), (0, x1), w2, (0, x5), (0, x4), (0, x5), (0, x6)] [] σ Q))))) : fx_Wp 222 109 [(46, o0), (0, x1), w2, w3, (0, x4), (0, x5), (0, x6)] [] σ Q := by
  refine wi_iload (pc' := 111) hm222 rfl rfl rfl ?_
  refine wi_bipush (pc' := 113) (v := 7) hm222 rfl rfl rfl ?_
  refine wi_ic_ge (pc' := 116) (t := 127) hm222 rfl rfl rfl (fun hc => ?_) (fun hc => ?_)
  · replace h := h.1 hc
    refine wi_iload (pc' := 129) hm222 rfl rfl rfl ?_
    refine wi_istore_n (pc' := 130) (L' := [(46, o0), (0, x1), w2, (0, x5), (0, x4), (0, x5), (0, x6)]) hm222 rfl rfl rfl ?_
    refine wi_goto (t := 157) hm222 rfl rfl ?_
    refine wi_goto (t := 15) hm222 rfl rfl ?_
    exact h
  · replace h := h.2 hc
    refine wi_aload_n (pc' := 117) hm222 rfl rfl rfl (by decide) ?_
    refine wi_getR (pc' := 120) (x := 0) hm222 rfl rfl rfl (by omega) ?_
    refine wi_iload (pc' := 122) hm222 rfl rfl rfl ?_
    obtain ⟨g, h⟩ := h
    refine wi_iaload (pc' := 123) hm222 rfl rfl rfl rfl (N := 23) rfl g ?_
    refine wi_iconst (pc' := 124) (v := (-1)) hm222 rfl rfl rfl ?_
    refine wi_ic_ne (pc' := 127) (t := 133) hm222 rfl rfl rfl (fun hc => ?_) (fun hc => ?_)
    · replace h := h.1 hc
      refine wi_aload_n (pc' := 134) hm222 rfl rfl rfl (by decide) ?_
      refine wi_getR (pc' := 137) (x := 0) hm222 rfl rfl rfl (by omega) ?_
      refine wi_iload (pc' := 139) hm222 rfl rfl rfl ?_
      obtain ⟨g, h⟩ := h
      refine wi_iaload (pc' := 140) hm222 rfl rfl rfl rfl (N := 23) rfl g ?_
      refine wi_iconst (pc' := 141) (v := (-1)) hm222 rfl rfl rfl ?_
      refine wi_ic_ne (pc' := 144) (t := 150) hm222 rfl rfl rfl (fun hc => ?_) (fun hc => ?_)
      · replace h := h.1 hc
        refine wi_aload_n (pc' := 151) hm222 rfl rfl rfl (by decide) ?_
        refine wi_iconst (pc' := 152) (v := 1) hm222 rfl rfl rfl ?_
        refine wi_putI (pc' := 155) hm222 rfl rfl (P := 28) rfl ?_
        refine wi_iconst (pc' := 156) (v := (-1)) hm222 rfl rfl rfl ?_
        exact wi_iret hm222 rfl h
      · replace h := h.2 hc
        refine wi_iload (pc' := 146) hm222 rfl rfl rfl ?_
        refine wi_istore_n (pc' := 147) (L' := [(46, o0), (0, x1), w2, (0, x6), (0, x4), (0, x5), (0, x6)]) hm222 rfl rfl rfl ?_
        refine wi_goto (t := 157) hm222 rfl rfl ?_
        refine wi_goto (t := 15) hm222 rfl rfl ?_
        exact h
    · replace h := h.2 hc
      refine wi_iload (pc' := 129) hm222 rfl rfl rfl ?_
      refine wi_istore_n (pc' := 130) (L' := [(46, o0), (0, x1), w2, (0, x5), (0, x4), (0, x5), (0, x6)]) hm222 rfl rfl rfl ?_
      refine wi_goto (t := 157) hm222 rfl rfl ?_
      refine wi_goto (t := 15) hm222 rfl rfl ?_
      exact h
theorem hm223 : fx_code 223 = fx_c223 := rfl
theorem t223_0 {o0 x1 : Int} {σ : fx_S} {Q : fx_V → fx_S → Prop} (h : fx_Wp 223 12 [(46, o0), (0, x1), (0, x1)] [] (fx_up (fx_up σ 46 o0 27 0) 46 o0 28 0) Q) : fx_Ca 223 [(46, o0), (0, x1)] σ Q := by
  show fx_Wp 223 0 [(46, o0), (0, x1), (3, 0)] [] σ Q
  refine wi_aload_n (pc' := 1) hm223 rfl rfl rfl (by decide) ?_
  refine wi_iconst (pc' := 2) (v := 0) hm223 rfl rfl rfl ?_
  refine wi_putI (pc' := 5) hm223 rfl rfl (P := 27) rfl ?_
  refine wi_aload_n (pc' := 6) hm223 rfl rfl rfl (by decide) ?_
  refine wi_iconst (pc' := 7) (v := 0) hm223 rfl rfl rfl ?_
  refine wi_putI (pc' := 10) hm223 rfl rfl (P := 28) rfl ?_
  refine wi_iload_n (pc' := 11) hm223 rfl rfl rfl ?_
  refine wi_istore_n (pc' := 12) (L' := [(46, o0), (0, x1), (0, x1)]) hm223 rfl rfl rfl ?_
  exact h
theorem t223_12 {o0 x2 : Int} {w1 : fx_V} {σ : fx_S} {Q : fx_V → fx_S → Prop} (h : ((x2 = (-1) → Q (4, 0) σ) ∧ (x2 ≠ (-1) → (0 ≤ (σ 46 o0 27) ∧ (σ 46 o0 27) < 8) ∧ (fx_rg (((fx_up σ 60 0 (σ 46 o0 27) x2) 46 o0 27) + 1)) ∧ fx_CI 162 [(46, o0), (0, x2)] (fx_up (fx_up σ 60 0 (σ 46 o0 27) x2) 46 o0 27 (((fx_up σ 60 0 (σ 46 o0 27) x2) 46 o0 27) + 1)) Q (fun y1 σ1 => ((y1 = 0 → fx_Wp 223 12 [(46, o0), w1, (0, (-1))] [] σ1 Q) ∧ (y1 ≠ 0 → fx_CI 222 [(46, o0), (0, x2)] σ1 Q (fun y2 σ2 => fx_Wp 223 12 [(46, o0), w1, (0, y2)] [] σ2 Q))))))) : fx_Wp 223 12 [(46, o0), w1, (0, x2)] [] σ Q := by
  refine wi_iload_n (pc' := 13) hm223 rfl rfl rfl ?_
  refine wi_iconst (pc' := 14) (v := (-1)) hm223 rfl rfl rfl ?_
  refine wi_ic_eq (pc' := 17) (t := 58) hm223 rfl rfl rfl (fun hc => ?_) (fun hc => ?_)
  · replace h := h.1 hc
    exact wi_vret hm223 rfl h
  · replace h := h.2 hc
    refine wi_aload_n (pc' := 18) hm223 rfl rfl rfl (by decide) ?_
    refine wi_getR (pc' := 21) (x := 0) hm223 rfl rfl rfl (by omega) ?_
    refine wi_aload_n (pc' := 22) hm223 rfl rfl rfl (by decide) ?_
    refine wi_getI (pc' := 25) hm223 rfl rfl (P := 27) rfl ?_
    refine wi_iload_n (pc' := 26) hm223 rfl rfl rfl ?_
    obtain ⟨g, h⟩ := h
    refine wi_iastore (pc' := 27) hm223 rfl rfl rfl (N := 8) rfl g ?_
    refine wi_aload_n (pc' := 28) hm223 rfl rfl rfl (by decide) ?_
    refine wi_dup (pc' := 29) hm223 rfl rfl rfl ?_
    refine wi_getI (pc' := 32) hm223 rfl rfl (P := 27) rfl ?_
    refine wi_iconst (pc' := 33) (v := 1) hm223 rfl rfl rfl ?_
    obtain ⟨g, h⟩ := h
    refine wi_iadd (pc' := 34) hm223 rfl rfl g ?_
    refine wi_putI (pc' := 37) hm223 rfl rfl (P := 27) rfl ?_
    refine wi_aload_n (pc' := 38) hm223 rfl rfl rfl (by decide) ?_
    refine wi_iload_n (pc' := 39) hm223 rfl rfl rfl ?_
    refine wc_I (pc' := 42) (by decide) rfl (by decide) ((fx_wE hm223 rfl).trans (fx_exV (mj := 162) (as := [(0, x2)]) (rest := []) rfl rk162 rfl rfl rfl rfl rfl)) h (fun y1 σ1 h => ?_)
    refine wi_if_eq (pc' := 45) (t := 53) hm223 rfl rfl rfl (fun hc => ?_) (fun hc => ?_)
    · replace h := h.1 hc
      refine wi_iconst (pc' := 54) (v := (-1)) hm223 rfl rfl rfl ?_
      refine wi_istore_n (pc' := 55) (L' := [(46, o0), w1, (0, (-1))]) hm223 rfl rfl rfl ?_
      refine wi_goto (t := 12) hm223 rfl rfl ?_
      exact h
    · replace h := h.2 hc
      refine wi_aload_n (pc' := 46) hm223 rfl rfl rfl (by decide) ?_
      refine wi_iload_n (pc' := 47) hm223 rfl rfl rfl ?_
      refine wc_I (pc' := 50) (by decide) rfl (by decide) ((fx_wE hm223 rfl).trans (fx_exV (mj := 222) (as := [(0, x2)]) (rest := []) rfl rk222 rfl rfl rfl rfl rfl)) h (fun y2 σ2 h => ?_)
      refine wi_goto (t := 54) hm223 rfl rfl ?_
      refine wi_istore_n (pc' := 55) (L' := [(46, o0), w1, (0, y2)]) hm223 rfl rfl rfl ?_
      refine wi_goto (t := 12) hm223 rfl rfl ?_
      exact h
theorem hm224 : fx_code 224 = fx_c224 := rfl
theorem t224_0 {o0 x1 x2 x3 : Int} {σ : fx_S} {Q : fx_V → fx_S → Prop} (h : fx_CI 154 [(0, x1)] σ Q (fun y1 σ1 => ((y1 = 0 → ((((fx_up σ1 46 o0 0 1) 46 o0 0) ≤ 0 → fx_CV 165 [(46, o0), (0, x2)] (fx_up σ1 46 o0 0 1) Q (fun σ2 => (0 ≤ x1 ∧ x1 < 8) ∧ (((σ2 55 0 x1) = (-1) → fx_CV 223 [(46, o0), (0, x1)] σ2 Q (fun σ3 => ((x3 ≠ (-1) → ((x3 ≠ (-2) → (fx_rg ((σ3 46 o0 27) - 1)) ∧ fx_CI 149 [(0, x3), (0, 0), (0, ((σ3 46 o0 27) - 1))] σ3 Q (fun y2 σ4 => ((y2 = 0 → Q (0, (-1)) σ4) ∧ (y2 ≠ 0 → (0 ≤ x3 ∧ x3 < 8) ∧ Q (0, (σ4 60 0 x3)) σ4)))) ∧ (x3 = (-2) → Q (0, (σ3 46 o0 28)) σ3))) ∧ (x3 = (-1) → Q (0, (σ3 46 o0 27)) σ3)))) ∧ ((σ2 55 0 x1) ≠ (-1) → Q (0, (-1)) σ2)))) ∧ (0 < ((fx_up σ1 46 o0 0 1) 46 o0 0) → Q (0, 0) (fx_up σ1 46 o0 0 1)))) ∧ (y1 ≠ 0 → fx_CI 155 [(0, x2)] σ1 Q (fun y3 σ5 => ((y3 = 0 → ((((fx_up σ5 46 o0 0 1) 46 o0 0) ≤ 0 → fx_CV 165 [(46, o0), (0, x2)] (fx_up σ5 46 o0 0 1) Q (fun σ6 => (0 ≤ x1 ∧ x1 < 8) ∧ (((σ6 55 0 x1) = (-1) → fx_CV 223 [(46, o0), (0, x1)] σ6 Q (fun σ7 => ((x3 ≠ (-1) → ((x3 ≠ (-2) → (fx_rg ((σ7 46 o0 27) - 1)) ∧ fx_CI 149 [(0, x3), (0, 0), (0, ((σ7 46 o0 27) - 1))] σ7 Q (fun y4 σ8 => ((y4 = 0 → Q (0, (-1)) σ8) ∧ (y4 ≠ 0 → (0 ≤ x3 ∧ x3 < 8) ∧ Q (0, (σ8 60 0 x3)) σ8)))) ∧ (x3 = (-2) → Q (0, (σ7 46 o0 28)) σ7))) ∧ (x3 = (-1) → Q (0, (σ7 46 o0 27)) σ7)))) ∧ ((σ6 55 0 x1) ≠ (-1) → Q (0, (-1)) σ6)))) ∧ (0 < ((fx_up σ5 46 o0 0 1) 46 o0 0) → Q (0, 0) (fx_up σ5 46 o0 0 1)))) ∧ (y3 ≠ 0 → ((((fx_up σ5 46 o0 0 0) 46 o0 0) ≤ 0 → fx_CV 165 [(46, o0), (0, x2)] (fx_up σ5 46 o0 0 0) Q (fun σ9 => (0 ≤ x1 ∧ x1 < 8) ∧ (((σ9 55 0 x1) = (-1) → fx_CV 223 [(46, o0), (0, x1)] σ9 Q (fun σ10 => ((x3 ≠ (-1) → ((x3 ≠ (-2) → (fx_rg ((σ10 46 o0 27) - 1)) ∧ fx_CI 149 [(0, x3), (0, 0), (0, ((σ10 46 o0 27) - 1))] σ10 Q (fun y5 σ11 => ((y5 = 0 → Q (0, (-1)) σ11) ∧ (y5 ≠ 0 → (0 ≤ x3 ∧ x3 < 8) ∧ Q (0, (σ11 60 0 x3)) σ11)))) ∧ (x3 = (-2) → Q (0, (σ10 46 o0 28)) σ10))) ∧ (x3 = (-1) → Q (0, (σ10 46 o0 27)) σ10)))) ∧ ((σ9 55 0 x1) ≠ (-1) → Q (0, (-1)) σ9)))) ∧ (0 < ((fx_up σ5 46 o0 0 0) 46 o0 0) → Q (0, 0) (fx_up σ5 46 o0 0 0)))))))))) : fx_Ca 224 [(46, o0), (0, x1), (0, x2), (0, x3)] σ Q := by
  show fx_Wp 224 0 [(46, o0), (0, x1), (0, x2), (0, x3)] [] σ Q
  refine wi_aload_n (pc' := 1) hm224 rfl rfl rfl (by decide) ?_
  refine wi_iload_n (pc' := 2) hm224 rfl rfl rfl ?_
  refine wc_I (pc' := 5) (by decide) rfl (by decide) ((fx_wE hm224 rfl).trans (fx_exS (mj := 154) (as := [(0, x1)]) (rest := [(46, o0)]) rfl rk154 rfl rfl rfl rfl)) h (fun y1 σ1 h => ?_)
  refine wi_if_eq (pc' := 8) (t := 19) hm224 rfl rfl rfl (fun hc => ?_) (fun hc => ?_)
  · replace h := h.1 hc
    refine wi_iconst (pc' := 20) (v := 1) hm224 rfl rfl rfl ?_
    refine wi_putI (pc' := 23) hm224 rfl rfl (P := 0) rfl ?_
    refine wi_aload_n (pc' := 24) hm224 rfl rfl rfl (by decide) ?_
    refine wi_getI (pc' := 27) hm224 rfl rfl (P := 0) rfl ?_
    refine wi_if_le (pc' := 30) (t := 32) hm224 rfl rfl rfl (fun hc => ?_) (fun hc => ?_)
    · replace h := h.1 hc
      refine wi_aload_n (pc' := 33) hm224 rfl rfl rfl (by decide) ?_
      refine wi_iload_n (pc' := 34) hm224 rfl rfl rfl ?_
      refine wc_V (pc' := 37) (by decide) rfl (by decide) ((fx_wE hm224 rfl).trans (fx_exV (mj := 165) (as := [(0, x2)]) (rest := []) rfl rk165 rfl rfl rfl rfl rfl)) h (fun σ2 h => ?_)
      refine wi_aload_n (pc' := 38) hm224 rfl rfl rfl (by decide) ?_
      refine wi_getR (pc' := 41) (x := 0) hm224 rfl rfl rfl (by omega) ?_
      refine wi_iload_n (pc' := 42) hm224 rfl rfl rfl ?_
      obtain ⟨g, h⟩ := h
      refine wi_iaload (pc' := 43) hm224 rfl rfl rfl rfl (N := 8) rfl g ?_
      refine wi_iconst (pc' := 44) (v := (-1)) hm224 rfl rfl rfl ?_
      refine wi_ic_eq (pc' := 47) (t := 49) hm224 rfl rfl rfl (fun hc => ?_) (fun hc => ?_)
      · replace h := h.1 hc
        refine wi_aload_n (pc' := 50) hm224 rfl rfl rfl (by decide) ?_
        refine wi_iload_n (pc' := 51) hm224 rfl rfl rfl ?_
        refine wc_V (pc' := 54) (by decide) rfl (by decide) ((fx_wE hm224 rfl).trans (fx_exV (mj := 223) (as := [(0, x1)]) (rest := []) rfl rk223 rfl rfl rfl rfl rfl)) h (fun σ3 h => ?_)
        refine wi_iload_n (pc' := 55) hm224 rfl rfl rfl ?_
        refine wi_iconst (pc' := 56) (v := (-1)) hm224 rfl rfl rfl ?_
        refine wi_ic_ne (pc' := 59) (t := 64) hm224 rfl rfl rfl (fun hc => ?_) (fun hc => ?_)
        · replace h := h.1 hc
          refine wi_iload_n (pc' := 65) hm224 rfl rfl rfl ?_
          refine wi_bipush (pc' := 67) (v := (-2)) hm224 rfl rfl rfl ?_
          refine wi_ic_ne (pc' := 70) (t := 75) hm224 rfl rfl rfl (fun hc => ?_) (fun hc => ?_)
          · replace h := h.1 hc
            refine wi_iload_n (pc' := 76) hm224 rfl rfl rfl ?_
            refine wi_iconst (pc' := 77) (v := 0) hm224 rfl rfl rfl ?_
            refine wi_aload_n (pc' := 78) hm224 rfl rfl rfl (by decide) ?_
            refine wi_getI (pc' := 81) hm224 rfl rfl (P := 27) rfl ?_
            refine wi_iconst (pc' := 82) (v := 1) hm224 rfl rfl rfl ?_
            obtain ⟨g, h⟩ := h
            refine wi_isub (pc' := 83) hm224 rfl rfl g ?_
            refine wc_I (pc' := 86) (by decide) rfl (by decide) ((fx_wE hm224 rfl).trans (fx_exS (mj := 149) (as := [(0, x3), (0, 0), (0, ((σ3 46 o0 27) - 1))]) (rest := []) rfl rk149 rfl rfl rfl rfl)) h (fun y2 σ4 h => ?_)
            refine wi_if_eq (pc' := 89) (t := 98) hm224 rfl rfl rfl (fun hc => ?_) (fun hc => ?_)
            · replace h := h.1 hc
              refine wi_iconst (pc' := 99) (v := (-1)) hm224 rfl rfl rfl ?_
              exact wi_iret hm224 rfl h
            · replace h := h.2 hc
              refine wi_aload_n (pc' := 90) hm224 rfl rfl rfl (by decide) ?_
              refine wi_getR (pc' := 93) (x := 0) hm224 rfl rfl rfl (by omega) ?_
              refine wi_iload_n (pc' := 94) hm224 rfl rfl rfl ?_
              obtain ⟨g, h⟩ := h
              refine wi_iaload (pc' := 95) hm224 rfl rfl rfl rfl (N := 8) rfl g ?_
              refine wi_goto (t := 99) hm224 rfl rfl ?_
              exact wi_iret hm224 rfl h
          · replace h := h.2 hc
            refine wi_aload_n (pc' := 71) hm224 rfl rfl rfl (by decide) ?_
            refine wi_getI (pc' := 74) hm224 rfl rfl (P := 28) rfl ?_
            exact wi_iret hm224 rfl h
        · replace h := h.2 hc
          refine wi_aload_n (pc' := 60) hm224 rfl rfl rfl (by decide) ?_
          refine wi_getI (pc' := 63) hm224 rfl rfl (P := 27) rfl ?_
          exact wi_iret hm224 rfl h
      · replace h := h.2 hc
        refine wi_iconst (pc' := 48) (v := (-1)) hm224 rfl rfl rfl ?_
        exact wi_iret hm224 rfl h
    · replace h := h.2 hc
      refine wi_iconst (pc' := 31) (v := 0) hm224 rfl rfl rfl ?_
      exact wi_iret hm224 rfl h
  · replace h := h.2 hc
    refine wi_iload_n (pc' := 9) hm224 rfl rfl rfl ?_
    refine wc_I (pc' := 12) (by decide) rfl (by decide) ((fx_wE hm224 rfl).trans (fx_exS (mj := 155) (as := [(0, x2)]) (rest := [(46, o0)]) rfl rk155 rfl rfl rfl rfl)) h (fun y3 σ5 h => ?_)
    refine wi_if_eq (pc' := 15) (t := 19) hm224 rfl rfl rfl (fun hc => ?_) (fun hc => ?_)
    · replace h := h.1 hc
      refine wi_iconst (pc' := 20) (v := 1) hm224 rfl rfl rfl ?_
      refine wi_putI (pc' := 23) hm224 rfl rfl (P := 0) rfl ?_
      refine wi_aload_n (pc' := 24) hm224 rfl rfl rfl (by decide) ?_
      refine wi_getI (pc' := 27) hm224 rfl rfl (P := 0) rfl ?_
      refine wi_if_le (pc' := 30) (t := 32) hm224 rfl rfl rfl (fun hc => ?_) (fun hc => ?_)
      · replace h := h.1 hc
        refine wi_aload_n (pc' := 33) hm224 rfl rfl rfl (by decide) ?_
        refine wi_iload_n (pc' := 34) hm224 rfl rfl rfl ?_
        refine wc_V (pc' := 37) (by decide) rfl (by decide) ((fx_wE hm224 rfl).trans (fx_exV (mj := 165) (as := [(0, x2)]) (rest := []) rfl rk165 rfl rfl rfl rfl rfl)) h (fun σ6 h => ?_)
        refine wi_aload_n (pc' := 38) hm224 rfl rfl rfl (by decide) ?_
        refine wi_getR (pc' := 41) (x := 0) hm224 rfl rfl rfl (by omega) ?_
        refine wi_iload_n (pc' := 42) hm224 rfl rfl rfl ?_
        obtain ⟨g, h⟩ := h
        refine wi_iaload (pc' := 43) hm224 rfl rfl rfl rfl (N := 8) rfl g ?_
        refine wi_iconst (pc' := 44) (v := (-1)) hm224 rfl rfl rfl ?_
        refine wi_ic_eq (pc' := 47) (t := 49) hm224 rfl rfl rfl (fun hc => ?_) (fun hc => ?_)
        · replace h := h.1 hc
          refine wi_aload_n (pc' := 50) hm224 rfl rfl rfl (by decide) ?_
          refine wi_iload_n (pc' := 51) hm224 rfl rfl rfl ?_
          refine wc_V (pc' := 54) (by decide) rfl (by decide) ((fx_wE hm224 rfl).trans (fx_exV (mj := 223) (as := [(0, x1)]) (rest := []) rfl rk223 rfl rfl rfl rfl rfl)) h (fun σ7 h => ?_)
          refine wi_iload_n (pc' := 55) hm224 rfl rfl rfl ?_
          refine wi_iconst (pc' := 56) (v := (-1)) hm224 rfl rfl rfl ?_
          refine wi_ic_ne (pc' := 59) (t := 64) hm224 rfl rfl rfl (fun hc => ?_) (fun hc => ?_)
          · replace h := h.1 hc
            refine wi_iload_n (pc' := 65) hm224 rfl rfl rfl ?_
            refine wi_bipush (pc' := 67) (v := (-2)) hm224 rfl rfl rfl ?_
            refine wi_ic_ne (pc' := 70) (t := 75) hm224 rfl rfl rfl (fun hc => ?_) (fun hc => ?_)
            · replace h := h.1 hc
              refine wi_iload_n (pc' := 76) hm224 rfl rfl rfl ?_
              refine wi_iconst (pc' := 77) (v := 0) hm224 rfl rfl rfl ?_
              refine wi_aload_n (pc' := 78) hm224 rfl rfl rfl (by decide) ?_
              refine wi_getI (pc' := 81) hm224 rfl rfl (P := 27) rfl ?_
              refine wi_iconst (pc' := 82) (v := 1) hm224 rfl rfl rfl ?_
              obtain ⟨g, h⟩ := h
              refine wi_isub (pc' := 83) hm224 rfl rfl g ?_
              refine wc_I (pc' := 86) (by decide) rfl (by decide) ((fx_wE hm224 rfl).trans (fx_exS (mj := 149) (as := [(0, x3), (0, 0), (0, ((σ7 46 o0 27) - 1))]) (rest := []) rfl rk149 rfl rfl rfl rfl)) h (fun y4 σ8 h => ?_)
              refine wi_if_eq (pc' := 89) (t := 98) hm224 rfl rfl rfl (fun hc => ?_) (fun hc => ?_)
              · replace h := h.1 hc
                refine wi_iconst (pc' := 99) (v := (-1)) hm224 rfl rfl rfl ?_
                exact wi_iret hm224 rfl h
              · replace h := h.2 hc
                refine wi_aload_n (pc' := 90) hm224 rfl rfl rfl (by decide) ?_
                refine wi_getR (pc' := 93) (x := 0) hm224 rfl rfl rfl (by omega) ?_
                refine wi_iload_n (pc' := 94) hm224 rfl rfl rfl ?_
                obtain ⟨g, h⟩ := h
                refine wi_iaload (pc' := 95) hm224 rfl rfl rfl rfl (N := 8) rfl g ?_
                refine wi_goto (t := 99) hm224 rfl rfl ?_
                exact wi_iret hm224 rfl h
            · replace h := h.2 hc
              refine wi_aload_n (pc' := 71) hm224 rfl rfl rfl (by decide) ?_
              refine wi_getI (pc' := 74) hm224 rfl rfl (P := 28) rfl ?_
              exact wi_iret hm224 rfl h
          · replace h := h.2 hc
            refine wi_aload_n (pc' := 60) hm224 rfl rfl rfl (by decide) ?_
            refine wi_getI (pc' := 63) hm224 rfl rfl (P := 27) rfl ?_
            exact wi_iret hm224 rfl h
        · replace h := h.2 hc
          refine wi_iconst (pc' := 48) (v := (-1)) hm224 rfl rfl rfl ?_
          exact wi_iret hm224 rfl h
      · replace h := h.2 hc
        refine wi_iconst (pc' := 31) (v := 0) hm224 rfl rfl rfl ?_
        exact wi_iret hm224 rfl h
    · replace h := h.2 hc
      refine wi_iconst (pc' := 16) (v := 0) hm224 rfl rfl rfl ?_
      refine wi_goto (t := 20) hm224 rfl rfl ?_
      refine wi_putI (pc' := 23) hm224 rfl rfl (P := 0) rfl ?_
      refine wi_aload_n (pc' := 24) hm224 rfl rfl rfl (by decide) ?_
      refine wi_getI (pc' := 27) hm224 rfl rfl (P := 0) rfl ?_
      refine wi_if_le (pc' := 30) (t := 32) hm224 rfl rfl rfl (fun hc => ?_) (fun hc => ?_)
      · replace h := h.1 hc
        refine wi_aload_n (pc' := 33) hm224 rfl rfl rfl (by decide) ?_
        refine wi_iload_n (pc' := 34) hm224 rfl rfl rfl ?_
        refine wc_V (pc' := 37) (by decide) rfl (by decide) ((fx_wE hm224 rfl).trans (fx_exV (mj := 165) (as := [(0, x2)]) (rest := []) rfl rk165 rfl rfl rfl rfl rfl)) h (fun σ9 h => ?_)
        refine wi_aload_n (pc' := 38) hm224 rfl rfl rfl (by decide) ?_
        refine wi_getR (pc' := 41) (x := 0) hm224 rfl rfl rfl (by omega) ?_
        refine wi_iload_n (pc' := 42) hm224 rfl rfl rfl ?_
        obtain ⟨g, h⟩ := h
        refine wi_iaload (pc' := 43) hm224 rfl rfl rfl rfl (N := 8) rfl g ?_
        refine wi_iconst (pc' := 44) (v := (-1)) hm224 rfl rfl rfl ?_
        refine wi_ic_eq (pc' := 47) (t := 49) hm224 rfl rfl rfl (fun hc => ?_) (fun hc => ?_)
        · replace h := h.1 hc
          refine wi_aload_n (pc' := 50) hm224 rfl rfl rfl (by decide) ?_
          refine wi_iload_n (pc' := 51) hm224 rfl rfl rfl ?_
          refine wc_V (pc' := 54) (by decide) rfl (by decide) ((fx_wE hm224 rfl).trans (fx_exV (mj := 223) (as := [(0, x1)]) (rest := []) rfl rk223 rfl rfl rfl rfl rfl)) h (fun σ10 h => ?_)
          refine wi_iload_n (pc' := 55) hm224 rfl rfl rfl ?_
          refine wi_iconst (pc' := 56) (v := (-1)) hm224 rfl rfl rfl ?_
          refine wi_ic_ne (pc' := 59) (t := 64) hm224 rfl rfl rfl (fun hc => ?_) (fun hc => ?_)
          · replace h := h.1 hc
            refine wi_iload_n (pc' := 65) hm224 rfl rfl rfl ?_
            refine wi_bipush (pc' := 67) (v := (-2)) hm224 rfl rfl rfl ?_
            refine wi_ic_ne (pc' := 70) (t := 75) hm224 rfl rfl rfl (fun hc => ?_) (fun hc => ?_)
            · replace h := h.1 hc
              refine wi_iload_n (pc' := 76) hm224 rfl rfl rfl ?_
              refine wi_iconst (pc' := 77) (v := 0) hm224 rfl rfl rfl ?_
              refine wi_aload_n (pc' := 78) hm224 rfl rfl rfl (by decide) ?_
              refine wi_getI (pc' := 81) hm224 rfl rfl (P := 27) rfl ?_
              refine wi_iconst (pc' := 82) (v := 1) hm224 rfl rfl rfl ?_
              obtain ⟨g, h⟩ := h
              refine wi_isub (pc' := 83) hm224 rfl rfl g ?_
              refine wc_I (pc' := 86) (by decide) rfl (by decide) ((fx_wE hm224 rfl).trans (fx_exS (mj := 149) (as := [(0, x3), (0, 0), (0, ((σ10 46 o0 27) - 1))]) (rest := []) rfl rk149 rfl rfl rfl rfl)) h (fun y5 σ11 h => ?_)
              refine wi_if_eq (pc' := 89) (t := 98) hm224 rfl rfl rfl (fun hc => ?_) (fun hc => ?_)
              · replace h := h.1 hc
                refine wi_iconst (pc' := 99) (v := (-1)) hm224 rfl rfl rfl ?_
                exact wi_iret hm224 rfl h
              · replace h := h.2 hc
                refine wi_aload_n (pc' := 90) hm224 rfl rfl rfl (by decide) ?_
                refine wi_getR (pc' := 93) (x := 0) hm224 rfl rfl rfl (by omega) ?_
                refine wi_iload_n (pc' := 94) hm224 rfl rfl rfl ?_
                obtain ⟨g, h⟩ := h
                refine wi_iaload (pc' := 95) hm224 rfl rfl rfl rfl (N := 8) rfl g ?_
                refine wi_goto (t := 99) hm224 rfl rfl ?_
                exact wi_iret hm224 rfl h
            · replace h := h.2 hc
              refine wi_aload_n (pc' := 71) hm224 rfl rfl rfl (by decide) ?_
              refine wi_getI (pc' := 74) hm224 rfl rfl (P := 28) rfl ?_
              exact wi_iret hm224 rfl h
          · replace h := h.2 hc
            refine wi_aload_n (pc' := 60) hm224 rfl rfl rfl (by decide) ?_
            refine wi_getI (pc' := 63) hm224 rfl rfl (P := 27) rfl ?_
            exact wi_iret hm224 rfl h
        · replace h := h.2 hc
          refine wi_iconst (pc' := 48) (v := (-1)) hm224 rfl rfl rfl ?_
          exact wi_iret hm224 rfl h
      · replace h := h.2 hc
        refine wi_iconst (pc' := 31) (v := 0) hm224 rfl rfl rfl ?_
        exact wi_iret hm224 rfl h
theorem hm225 : fx_code 225 = fx_c225 := rfl
theorem t225_0 {o0 x1 : Int} {σ : fx_S} {Q : fx_V → fx_S → Prop} (h : fx_Wp 225 2 [(46, o0), (0, x1), (0, x1)] [] σ Q) : fx_Ca 225 [(46, o0), (0, x1)] σ Q := by
  show fx_Wp 225 0 [(46, o0), (0, x1), (3, 0)] [] σ Q
  refine wi_iload_n (pc' := 1) hm225 rfl rfl rfl ?_
  refine wi_istore_n (pc' := 2) (L' := [(46, o0), (0, x1), (0, x1)]) hm225 rfl rfl rfl ?_
  exact h
theorem t225_2 {o0 x1 x2 : Int} {σ : fx_S} {Q : fx_V → fx_S → Prop} (h : ((x2 ≤ 0 → Q (0, x2) σ) ∧ (0 < x2 → (fx_rg (x2 - 1)) ∧ (0 ≤ (x2 - 1) ∧ (x2 - 1) < 1000) ∧ (0 ≤ x1 ∧ x1 < 1000) ∧ (((σ 59 0 (x2 - 1)) ≠ (σ 59 0 x1) → Q (0, x2) σ) ∧ ((σ 59 0 (x2 - 1)) = (σ 59 0 x1) → (fx_rg (x2 + (-1))) ∧ fx_Wp 225 2 [(46, o0), (0, x1), (0, (x2 + (-1)))] [] σ Q))))) : fx_Wp 225 2 [(46, o0), (0, x1), (0, x2)] [] σ Q := by
  refine wi_iload_n (pc' := 3) hm225 rfl rfl rfl ?_
  refine wi_if_le (pc' := 6) (t := 29) hm225 rfl rfl rfl (fun hc => ?_) (fun hc => ?_)
  · replace h := h.1 hc
    refine wi_iload_n (pc' := 30) hm225 rfl rfl rfl ?_
    exact wi_iret hm225 rfl h
  · replace h := h.2 hc
    refine wi_aload_n (pc' := 7) hm225 rfl rfl rfl (by decide) ?_
    refine wi_getR (pc' := 10) (x := 0) hm225 rfl rfl rfl (by omega) ?_
    refine wi_iload_n (pc' := 11) hm225 rfl rfl rfl ?_
    refine wi_iconst (pc' := 12) (v := 1) hm225 rfl rfl rfl ?_
    obtain ⟨g, h⟩ := h
    refine wi_isub (pc' := 13) hm225 rfl rfl g ?_
    obtain ⟨g, h⟩ := h
    refine wi_iaload (pc' := 14) hm225 rfl rfl rfl rfl (N := 1000) rfl g ?_
    refine wi_aload_n (pc' := 15) hm225 rfl rfl rfl (by decide) ?_
    refine wi_getR (pc' := 18) (x := 0) hm225 rfl rfl rfl (by omega) ?_
    refine wi_iload_n (pc' := 19) hm225 rfl rfl rfl ?_
    obtain ⟨g, h⟩ := h
    refine wi_iaload (pc' := 20) hm225 rfl rfl rfl rfl (N := 1000) rfl g ?_
    refine wi_ic_ne (pc' := 23) (t := 29) hm225 rfl rfl rfl (fun hc => ?_) (fun hc => ?_)
    · replace h := h.1 hc
      refine wi_iload_n (pc' := 30) hm225 rfl rfl rfl ?_
      exact wi_iret hm225 rfl h
    · replace h := h.2 hc
      obtain ⟨g, h⟩ := h
      refine wi_iinc (pc' := 26) (L' := [(46, o0), (0, x1), (0, (x2 + (-1)))]) hm225 rfl rfl rfl g rfl ?_
      refine wi_goto (t := 2) hm225 rfl rfl ?_
      exact h
theorem hm226 : fx_code 226 = fx_c226 := rfl
theorem t226_0 {o0 x1 x2 x3 : Int} {σ : fx_S} {Q : fx_V → fx_S → Prop} (h : fx_CI 154 [(0, x1)] σ Q (fun y1 σ1 => ((y1 = 0 → ((((fx_up σ1 46 o0 0 1) 46 o0 0) ≤ 0 → fx_CV 166 [(46, o0), (0, x1), (59, 0)] (fx_up σ1 46 o0 0 1) Q (fun σ2 => ((x3 = 0 → fx_CI 218 [(46, o0), (59, 0), (0, x2)] σ2 Q (fun y2 σ3 => ((y2 ≠ 1000 → Q (0, y2) σ3) ∧ (y2 = 1000 → Q (0, (-1)) σ3)))) ∧ (x3 ≠ 0 → fx_CI 225 [(46, o0), (0, x2)] σ2 Q (fun y3 σ4 => Q (0, y3) σ4))))) ∧ (0 < ((fx_up σ1 46 o0 0 1) 46 o0 0) → Q (0, 0) (fx_up σ1 46 o0 0 1)))) ∧ (y1 ≠ 0 → fx_CI 155 [(0, x2)] σ1 Q (fun y4 σ5 => ((y4 = 0 → ((((fx_up σ5 46 o0 0 1) 46 o0 0) ≤ 0 → fx_CV 166 [(46, o0), (0, x1), (59, 0)] (fx_up σ5 46 o0 0 1) Q (fun σ6 => ((x3 = 0 → fx_CI 218 [(46, o0), (59, 0), (0, x2)] σ6 Q (fun y5 σ7 => ((y5 ≠ 1000 → Q (0, y5) σ7) ∧ (y5 = 1000 → Q (0, (-1)) σ7)))) ∧ (x3 ≠ 0 → fx_CI 225 [(46, o0), (0, x2)] σ6 Q (fun y6 σ8 => Q (0, y6) σ8))))) ∧ (0 < ((fx_up σ5 46 o0 0 1) 46 o0 0) → Q (0, 0) (fx_up σ5 46 o0 0 1)))) ∧ (y4 ≠ 0 → ((((fx_up σ5 46 o0 0 0) 46 o0 0) ≤ 0 → fx_CV 166 [(46, o0), (0, x1), (59, 0)] (fx_up σ5 46 o0 0 0) Q (fun σ9 => ((x3 = 0 → fx_CI 218 [(46, o0), (59, 0), (0, x2)] σ9 Q (fun y7 σ10 => ((y7 ≠ 1000 → Q (0, y7) σ10) ∧ (y7 = 1000 → Q (0, (-1)) σ10)))) ∧ (x3 ≠ 0 → fx_CI 225 [(46, o0), (0, x2)] σ9 Q (fun y8 σ11 => Q (0, y8) σ11))))) ∧ (0 < ((fx_up σ5 46 o0 0 0) 46 o0 0) → Q (0, 0) (fx_up σ5 46 o0 0 0)))))))))) : fx_Ca 226 [(46, o0), (0, x1), (0, x2), (0, x3)] σ Q := by
  show fx_Wp 226 0 [(46, o0), (0, x1), (0, x2), (0, x3), (3, 0)] [] σ Q
  refine wi_aload_n (pc' := 1) hm226 rfl rfl rfl (by decide) ?_
  refine wi_iload_n (pc' := 2) hm226 rfl rfl rfl ?_
  refine wc_I (pc' := 5) (by decide) rfl (by decide) ((fx_wE hm226 rfl).trans (fx_exS (mj := 154) (as := [(0, x1)]) (rest := [(46, o0)]) rfl rk154 rfl rfl rfl rfl)) h (fun y1 σ1 h => ?_)
  refine wi_if_eq (pc' := 8) (t := 19) hm226 rfl rfl rfl (fun hc => ?_) (fun hc => ?_)
  · replace h := h.1 hc
    refine wi_iconst (pc' := 20) (v := 1) hm226 rfl rfl rfl ?_
    refine wi_putI (pc' := 23) hm226 rfl rfl (P := 0) rfl ?_
    refine wi_aload_n (pc' := 24) hm226 rfl rfl rfl (by decide) ?_
    refine wi_getI (pc' := 27) hm226 rfl rfl (P := 0) rfl ?_
    refine wi_if_le (pc' := 30) (t := 32) hm226 rfl rfl rfl (fun hc => ?_) (fun hc => ?_)
    · replace h := h.1 hc
      refine wi_aload_n (pc' := 33) hm226 rfl rfl rfl (by decide) ?_
      refine wi_iload_n (pc' := 34) hm226 rfl rfl rfl ?_
      refine wi_aload_n (pc' := 35) hm226 rfl rfl rfl (by decide) ?_
      refine wi_getR (pc' := 38) (x := 0) hm226 rfl rfl rfl (by omega) ?_
      refine wc_V (pc' := 41) (by decide) rfl (by decide) ((fx_wE hm226 rfl).trans (fx_exV (mj := 166) (as := [(0, x1), (59, 0)]) (rest := []) rfl rk166 rfl rfl rfl rfl rfl)) h (fun σ2 h => ?_)
      refine wi_iload_n (pc' := 42) hm226 rfl rfl rfl ?_
      refine wi_if_eq (pc' := 45) (t := 51) hm226 rfl rfl rfl (fun hc => ?_) (fun hc => ?_)
      · replace h := h.1 hc
        refine wi_aload_n (pc' := 52) hm226 rfl rfl rfl (by decide) ?_
        refine wi_aload_n (pc' := 53) hm226 rfl rfl rfl (by decide) ?_
        refine wi_getR (pc' := 56) (x := 0) hm226 rfl rfl rfl (by omega) ?_
        refine wi_iload_n (pc' := 57) hm226 rfl rfl rfl ?_
        refine wc_I (pc' := 60) (by decide) rfl (by decide) ((fx_wE hm226 rfl).trans (fx_exV (mj := 218) (as := [(59, 0), (0, x2)]) (rest := []) rfl rk218 rfl rfl rfl rfl rfl)) h (fun y2 σ3 h => ?_)
        refine wi_istore (pc' := 62) (L' := [(46, o0), (0, x1), (0, x2), (0, x3), (0, y2)]) hm226 rfl rfl rfl ?_
        refine wi_iload (pc' := 64) hm226 rfl rfl rfl ?_
        refine wi_sipush (pc' := 67) (v := 1000) hm226 rfl rfl rfl ?_
        refine wi_ic_ne (pc' := 70) (t := 74) hm226 rfl rfl rfl (fun hc => ?_) (fun hc => ?_)
        · replace h := h.1 hc
          refine wi_iload (pc' := 76) hm226 rfl rfl rfl ?_
          exact wi_iret hm226 rfl h
        · replace h := h.2 hc
          refine wi_iconst (pc' := 71) (v := (-1)) hm226 rfl rfl rfl ?_
          refine wi_goto (t := 76) hm226 rfl rfl ?_
          exact wi_iret hm226 rfl h
      · replace h := h.2 hc
        refine wi_aload_n (pc' := 46) hm226 rfl rfl rfl (by decide) ?_
        refine wi_iload_n (pc' := 47) hm226 rfl rfl rfl ?_
        refine wc_I (pc' := 50) (by decide) rfl (by decide) ((fx_wE hm226 rfl).trans (fx_exV (mj := 225) (as := [(0, x2)]) (rest := []) rfl rk225 rfl rfl rfl rfl rfl)) h (fun y3 σ4 h => ?_)
        exact wi_iret hm226 rfl h
    · replace h := h.2 hc
      refine wi_iconst (pc' := 31) (v := 0) hm226 rfl rfl rfl ?_
      exact wi_iret hm226 rfl h
  · replace h := h.2 hc
    refine wi_iload_n (pc' := 9) hm226 rfl rfl rfl ?_
    refine wc_I (pc' := 12) (by decide) rfl (by decide) ((fx_wE hm226 rfl).trans (fx_exS (mj := 155) (as := [(0, x2)]) (rest := [(46, o0)]) rfl rk155 rfl rfl rfl rfl)) h (fun y4 σ5 h => ?_)
    refine wi_if_eq (pc' := 15) (t := 19) hm226 rfl rfl rfl (fun hc => ?_) (fun hc => ?_)
    · replace h := h.1 hc
      refine wi_iconst (pc' := 20) (v := 1) hm226 rfl rfl rfl ?_
      refine wi_putI (pc' := 23) hm226 rfl rfl (P := 0) rfl ?_
      refine wi_aload_n (pc' := 24) hm226 rfl rfl rfl (by decide) ?_
      refine wi_getI (pc' := 27) hm226 rfl rfl (P := 0) rfl ?_
      refine wi_if_le (pc' := 30) (t := 32) hm226 rfl rfl rfl (fun hc => ?_) (fun hc => ?_)
      · replace h := h.1 hc
        refine wi_aload_n (pc' := 33) hm226 rfl rfl rfl (by decide) ?_
        refine wi_iload_n (pc' := 34) hm226 rfl rfl rfl ?_
        refine wi_aload_n (pc' := 35) hm226 rfl rfl rfl (by decide) ?_
        refine wi_getR (pc' := 38) (x := 0) hm226 rfl rfl rfl (by omega) ?_
        refine wc_V (pc' := 41) (by decide) rfl (by decide) ((fx_wE hm226 rfl).trans (fx_exV (mj := 166) (as := [(0, x1), (59, 0)]) (rest := []) rfl rk166 rfl rfl rfl rfl rfl)) h (fun σ6 h => ?_)
        refine wi_iload_n (pc' := 42) hm226 rfl rfl rfl ?_
        refine wi_if_eq (pc' := 45) (t := 51) hm226 rfl rfl rfl (fun hc => ?_) (fun hc => ?_)
        · replace h := h.1 hc
          refine wi_aload_n (pc' := 52) hm226 rfl rfl rfl (by decide) ?_
          refine wi_aload_n (pc' := 53) hm226 rfl rfl rfl (by decide) ?_
          refine wi_getR (pc' := 56) (x := 0) hm226 rfl rfl rfl (by omega) ?_
          refine wi_iload_n (pc' := 57) hm226 rfl rfl rfl ?_
          refine wc_I (pc' := 60) (by decide) rfl (by decide) ((fx_wE hm226 rfl).trans (fx_exV (mj := 218) (as := [(59, 0), (0, x2)]) (rest := []) rfl rk218 rfl rfl rfl rfl rfl)) h (fun y5 σ7 h => ?_)
          refine wi_istore (pc' := 62) (L' := [(46, o0), (0, x1), (0, x2), (0, x3), (0, y5)]) hm226 rfl rfl rfl ?_
          refine wi_iload (pc' := 64) hm226 rfl rfl rfl ?_
          refine wi_sipush (pc' := 67) (v := 1000) hm226 rfl rfl rfl ?_
          refine wi_ic_ne (pc' := 70) (t := 74) hm226 rfl rfl rfl (fun hc => ?_) (fun hc => ?_)
          · replace h := h.1 hc
            refine wi_iload (pc' := 76) hm226 rfl rfl rfl ?_
            exact wi_iret hm226 rfl h
          · replace h := h.2 hc
            refine wi_iconst (pc' := 71) (v := (-1)) hm226 rfl rfl rfl ?_
            refine wi_goto (t := 76) hm226 rfl rfl ?_
            exact wi_iret hm226 rfl h
        · replace h := h.2 hc
          refine wi_aload_n (pc' := 46) hm226 rfl rfl rfl (by decide) ?_
          refine wi_iload_n (pc' := 47) hm226 rfl rfl rfl ?_
          refine wc_I (pc' := 50) (by decide) rfl (by decide) ((fx_wE hm226 rfl).trans (fx_exV (mj := 225) (as := [(0, x2)]) (rest := []) rfl rk225 rfl rfl rfl rfl rfl)) h (fun y6 σ8 h => ?_)
          exact wi_iret hm226 rfl h
      · replace h := h.2 hc
        refine wi_iconst (pc' := 31) (v := 0) hm226 rfl rfl rfl ?_
        exact wi_iret hm226 rfl h
    · replace h := h.2 hc
      refine wi_iconst (pc' := 16) (v := 0) hm226 rfl rfl rfl ?_
      refine wi_goto (t := 20) hm226 rfl rfl ?_
      refine wi_putI (pc' := 23) hm226 rfl rfl (P := 0) rfl ?_
      refine wi_aload_n (pc' := 24) hm226 rfl rfl rfl (by decide) ?_
      refine wi_getI (pc' := 27) hm226 rfl rfl (P := 0) rfl ?_
      refine wi_if_le (pc' := 30) (t := 32) hm226 rfl rfl rfl (fun hc => ?_) (fun hc => ?_)
      · replace h := h.1 hc
        refine wi_aload_n (pc' := 33) hm226 rfl rfl rfl (by decide) ?_
        refine wi_iload_n (pc' := 34) hm226 rfl rfl rfl ?_
        refine wi_aload_n (pc' := 35) hm226 rfl rfl rfl (by decide) ?_
        refine wi_getR (pc' := 38) (x := 0) hm226 rfl rfl rfl (by omega) ?_
        refine wc_V (pc' := 41) (by decide) rfl (by decide) ((fx_wE hm226 rfl).trans (fx_exV (mj := 166) (as := [(0, x1), (59, 0)]) (rest := []) rfl rk166 rfl rfl rfl rfl rfl)) h (fun σ9 h => ?_)
        refine wi_iload_n (pc' := 42) hm226 rfl rfl rfl ?_
        refine wi_if_eq (pc' := 45) (t := 51) hm226 rfl rfl rfl (fun hc => ?_) (fun hc => ?_)
        · replace h := h.1 hc
          refine wi_aload_n (pc' := 52) hm226 rfl rfl rfl (by decide) ?_
          refine wi_aload_n (pc' := 53) hm226 rfl rfl rfl (by decide) ?_
          refine wi_getR (pc' := 56) (x := 0) hm226 rfl rfl rfl (by omega) ?_
          refine wi_iload_n (pc' := 57) hm226 rfl rfl rfl ?_
          refine wc_I (pc' := 60) (by decide) rfl (by decide) ((fx_wE hm226 rfl).trans (fx_exV (mj := 218) (as := [(59, 0), (0, x2)]) (rest := []) rfl rk218 rfl rfl rfl rfl rfl)) h (fun y7 σ10 h => ?_)
          refine wi_istore (pc' := 62) (L' := [(46, o0), (0, x1), (0, x2), (0, x3), (0, y7)]) hm226 rfl rfl rfl ?_
          refine wi_iload (pc' := 64) hm226 rfl rfl rfl ?_
          refine wi_sipush (pc' := 67) (v := 1000) hm226 rfl rfl rfl ?_
          refine wi_ic_ne (pc' := 70) (t := 74) hm226 rfl rfl rfl (fun hc => ?_) (fun hc => ?_)
          · replace h := h.1 hc
            refine wi_iload (pc' := 76) hm226 rfl rfl rfl ?_
            exact wi_iret hm226 rfl h
          · replace h := h.2 hc
            refine wi_iconst (pc' := 71) (v := (-1)) hm226 rfl rfl rfl ?_
            refine wi_goto (t := 76) hm226 rfl rfl ?_
            exact wi_iret hm226 rfl h
        · replace h := h.2 hc
          refine wi_aload_n (pc' := 46) hm226 rfl rfl rfl (by decide) ?_
          refine wi_iload_n (pc' := 47) hm226 rfl rfl rfl ?_
          refine wc_I (pc' := 50) (by decide) rfl (by decide) ((fx_wE hm226 rfl).trans (fx_exV (mj := 225) (as := [(0, x2)]) (rest := []) rfl rk225 rfl rfl rfl rfl rfl)) h (fun y8 σ11 h => ?_)
          exact wi_iret hm226 rfl h
      · replace h := h.2 hc
        refine wi_iconst (pc' := 31) (v := 0) hm226 rfl rfl rfl ?_
        exact wi_iret hm226 rfl h
theorem hm227 : fx_code 227 = fx_c227 := rfl
theorem t227_0 {o0 x1 x2 : Int} {σ : fx_S} {Q : fx_V → fx_S → Prop} (h : fx_CI 154 [(0, x1)] σ Q (fun y1 σ1 => ((y1 = 0 → ((((fx_up σ1 46 o0 0 1) 46 o0 0) ≤ 0 → fx_CV 166 [(46, o0), (0, x1), (59, 0)] (fx_up σ1 46 o0 0 1) Q (fun σ2 => fx_CI 218 [(46, o0), (59, 0), (0, x2)] σ2 Q (fun y2 σ3 => fx_CI 225 [(46, o0), (0, x2)] σ3 Q (fun y3 σ4 => (fx_rg (y2 - y3)) ∧ Q (0, (y2 - y3)) σ4)))) ∧ (0 < ((fx_up σ1 46 o0 0 1) 46 o0 0) → Q (0, 0) (fx_up σ1 46 o0 0 1)))) ∧ (y1 ≠ 0 → fx_CI 155 [(0, x2)] σ1 Q (fun y4 σ5 => ((y4 = 0 → ((((fx_up σ5 46 o0 0 1) 46 o0 0) ≤ 0 → fx_CV 166 [(46, o0), (0, x1), (59, 0)] (fx_up σ5 46 o0 0 1) Q (fun σ6 => fx_CI 218 [(46, o0), (59, 0), (0, x2)] σ6 Q (fun y5 σ7 => fx_CI 225 [(46, o0), (0, x2)] σ7 Q (fun y6 σ8 => (fx_rg (y5 - y6)) ∧ Q (0, (y5 - y6)) σ8)))) ∧ (0 < ((fx_up σ5 46 o0 0 1) 46 o0 0) → Q (0, 0) (fx_up σ5 46 o0 0 1)))) ∧ (y4 ≠ 0 → ((((fx_up σ5 46 o0 0 0) 46 o0 0) ≤ 0 → fx_CV 166 [(46, o0), (0, x1), (59, 0)] (fx_up σ5 46 o0 0 0) Q (fun σ9 => fx_CI 218 [(46, o0), (59, 0), (0, x2)] σ9 Q (fun y7 σ10 => fx_CI 225 [(46, o0), (0, x2)] σ10 Q (fun y8 σ11 => (fx_rg (y7 - y8)) ∧ Q (0, (y7 - y8)) σ11)))) ∧ (0 < ((fx_up σ5 46 o0 0 0) 46 o0 0) → Q (0, 0) (fx_up σ5 46 o0 0 0)))))))))) : fx_Ca 227 [(46, o0), (0, x1), (0, x2)] σ Q := by
  show fx_Wp 227 0 [(46, o0), (0, x1), (0, x2)] [] σ Q
  refine wi_aload_n (pc' := 1) hm227 rfl rfl rfl (by decide) ?_
  refine wi_iload_n (pc' := 2) hm227 rfl rfl rfl ?_
  refine wc_I (pc' := 5) (by decide) rfl (by decide) ((fx_wE hm227 rfl).trans (fx_exS (mj := 154) (as := [(0, x1)]) (rest := [(46, o0)]) rfl rk154 rfl rfl rfl rfl)) h (fun y1 σ1 h => ?_)
  refine wi_if_eq (pc' := 8) (t := 19) hm227 rfl rfl rfl (fun hc => ?_) (fun hc => ?_)
  · replace h := h.1 hc
    refine wi_iconst (pc' := 20) (v := 1) hm227 rfl rfl rfl ?_
    refine wi_putI (pc' := 23) hm227 rfl rfl (P := 0) rfl ?_
    refine wi_aload_n (pc' := 24) hm227 rfl rfl rfl (by decide) ?_
    refine wi_getI (pc' := 27) hm227 rfl rfl (P := 0) rfl ?_
    refine wi_if_le (pc' := 30) (t := 32) hm227 rfl rfl rfl (fun hc => ?_) (fun hc => ?_)
    · replace h := h.1 hc
      refine wi_aload_n (pc' := 33) hm227 rfl rfl rfl (by decide) ?_
      refine wi_iload_n (pc' := 34) hm227 rfl rfl rfl ?_
      refine wi_aload_n (pc' := 35) hm227 rfl rfl rfl (by decide) ?_
      refine wi_getR (pc' := 38) (x := 0) hm227 rfl rfl rfl (by omega) ?_
      refine wc_V (pc' := 41) (by decide) rfl (by decide) ((fx_wE hm227 rfl).trans (fx_exV (mj := 166) (as := [(0, x1), (59, 0)]) (rest := []) rfl rk166 rfl rfl rfl rfl rfl)) h (fun σ2 h => ?_)
      refine wi_aload_n (pc' := 42) hm227 rfl rfl rfl (by decide) ?_
      refine wi_aload_n (pc' := 43) hm227 rfl rfl rfl (by decide) ?_
      refine wi_getR (pc' := 46) (x := 0) hm227 rfl rfl rfl (by omega) ?_
      refine wi_iload_n (pc' := 47) hm227 rfl rfl rfl ?_
      refine wc_I (pc' := 50) (by decide) rfl (by decide) ((fx_wE hm227 rfl).trans (fx_exV (mj := 218) (as := [(59, 0), (0, x2)]) (rest := []) rfl rk218 rfl rfl rfl rfl rfl)) h (fun y2 σ3 h => ?_)
      refine wi_aload_n (pc' := 51) hm227 rfl rfl rfl (by decide) ?_
      refine wi_iload_n (pc' := 52) hm227 rfl rfl rfl ?_
      refine wc_I (pc' := 55) (by decide) rfl (by decide) ((fx_wE hm227 rfl).trans (fx_exV (mj := 225) (as := [(0, x2)]) (rest := [(0, y2)]) rfl rk225 rfl rfl rfl rfl rfl)) h (fun y3 σ4 h => ?_)
      obtain ⟨g, h⟩ := h
      refine wi_isub (pc' := 56) hm227 rfl rfl g ?_
      exact wi_iret hm227 rfl h
    · replace h := h.2 hc
      refine wi_iconst (pc' := 31) (v := 0) hm227 rfl rfl rfl ?_
      exact wi_iret hm227 rfl h
  · replace h := h.2 hc
    refine wi_iload_n (pc' := 9) hm227 rfl rfl rfl ?_
    refine wc_I (pc' := 12) (by decide) rfl (by decide) ((fx_wE hm227 rfl).trans (fx_exS (mj := 155) (as := [(0, x2)]) (rest := [(46, o0)]) rfl rk155 rfl rfl rfl rfl)) h (fun y4 σ5 h => ?_)
    refine wi_if_eq (pc' := 15) (t := 19) hm227 rfl rfl rfl (fun hc => ?_) (fun hc => ?_)
    · replace h := h.1 hc
      refine wi_iconst (pc' := 20) (v := 1) hm227 rfl rfl rfl ?_
      refine wi_putI (pc' := 23) hm227 rfl rfl (P := 0) rfl ?_
      refine wi_aload_n (pc' := 24) hm227 rfl rfl rfl (by decide) ?_
      refine wi_getI (pc' := 27) hm227 rfl rfl (P := 0) rfl ?_
      refine wi_if_le (pc' := 30) (t := 32) hm227 rfl rfl rfl (fun hc => ?_) (fun hc => ?_)
      · replace h := h.1 hc
        refine wi_aload_n (pc' := 33) hm227 rfl rfl rfl (by decide) ?_
        refine wi_iload_n (pc' := 34) hm227 rfl rfl rfl ?_
        refine wi_aload_n (pc' := 35) hm227 rfl rfl rfl (by decide) ?_
        refine wi_getR (pc' := 38) (x := 0) hm227 rfl rfl rfl (by omega) ?_
        refine wc_V (pc' := 41) (by decide) rfl (by decide) ((fx_wE hm227 rfl).trans (fx_exV (mj := 166) (as := [(0, x1), (59, 0)]) (rest := []) rfl rk166 rfl rfl rfl rfl rfl)) h (fun σ6 h => ?_)
        refine wi_aload_n (pc' := 42) hm227 rfl rfl rfl (by decide) ?_
        refine wi_aload_n (pc' := 43) hm227 rfl rfl rfl (by decide) ?_
        refine wi_getR (pc' := 46) (x := 0) hm227 rfl rfl rfl (by omega) ?_
        refine wi_iload_n (pc' := 47) hm227 rfl rfl rfl ?_
        refine wc_I (pc' := 50) (by decide) rfl (by decide) ((fx_wE hm227 rfl).trans (fx_exV (mj := 218) (as := [(59, 0), (0, x2)]) (rest := []) rfl rk218 rfl rfl rfl rfl rfl)) h (fun y5 σ7 h => ?_)
        refine wi_aload_n (pc' := 51) hm227 rfl rfl rfl (by decide) ?_
        refine wi_iload_n (pc' := 52) hm227 rfl rfl rfl ?_
        refine wc_I (pc' := 55) (by decide) rfl (by decide) ((fx_wE hm227 rfl).trans (fx_exV (mj := 225) (as := [(0, x2)]) (rest := [(0, y5)]) rfl rk225 rfl rfl rfl rfl rfl)) h (fun y6 σ8 h => ?_)
        obtain ⟨g, h⟩ := h
        refine wi_isub (pc' := 56) hm227 rfl rfl g ?_
        exact wi_iret hm227 rfl h
      · replace h := h.2 hc
        refine wi_iconst (pc' := 31) (v := 0) hm227 rfl rfl rfl ?_
        exact wi_iret hm227 rfl h
    · replace h := h.2 hc
      refine wi_iconst (pc' := 16) (v := 0) hm227 rfl rfl rfl ?_
      refine wi_goto (t := 20) hm227 rfl rfl ?_
      refine wi_putI (pc' := 23) hm227 rfl rfl (P := 0) rfl ?_
      refine wi_aload_n (pc' := 24) hm227 rfl rfl rfl (by decide) ?_
      refine wi_getI (pc' := 27) hm227 rfl rfl (P := 0) rfl ?_
      refine wi_if_le (pc' := 30) (t := 32) hm227 rfl rfl rfl (fun hc => ?_) (fun hc => ?_)
      · replace h := h.1 hc
        refine wi_aload_n (pc' := 33) hm227 rfl rfl rfl (by decide) ?_
        refine wi_iload_n (pc' := 34) hm227 rfl rfl rfl ?_
        refine wi_aload_n (pc' := 35) hm227 rfl rfl rfl (by decide) ?_
        refine wi_getR (pc' := 38) (x := 0) hm227 rfl rfl rfl (by omega) ?_
        refine wc_V (pc' := 41) (by decide) rfl (by decide) ((fx_wE hm227 rfl).trans (fx_exV (mj := 166) (as := [(0, x1), (59, 0)]) (rest := []) rfl rk166 rfl rfl rfl rfl rfl)) h (fun σ9 h => ?_)
        refine wi_aload_n (pc' := 42) hm227 rfl rfl rfl (by decide) ?_
        refine wi_aload_n (pc' := 43) hm227 rfl rfl rfl (by decide) ?_
        refine wi_getR (pc' := 46) (x := 0) hm227 rfl rfl rfl (by omega) ?_
        refine wi_iload_n (pc' := 47) hm227 rfl rfl rfl ?_
        refine wc_I (pc' := 50) (by decide) rfl (by decide) ((fx_wE hm227 rfl).trans (fx_exV (mj := 218) (as := [(59, 0), (0, x2)]) (rest := []) rfl rk218 rfl rfl rfl rfl rfl)) h (fun y7 σ10 h => ?_)
        refine wi_aload_n (pc' := 51) hm227 rfl rfl rfl (by decide) ?_
        refine wi_iload_n (pc' := 52) hm227 rfl rfl rfl ?_
        refine wc_I (pc' := 55) (by decide) rfl (by decide) ((fx_wE hm227 rfl).trans (fx_exV (mj := 225) (as := [(0, x2)]) (rest := [(0, y7)]) rfl rk225 rfl rfl rfl rfl rfl)) h (fun y8 σ11 h => ?_)
        obtain ⟨g, h⟩ := h
        refine wi_isub (pc' := 56) hm227 rfl rfl g ?_
        exact wi_iret hm227 rfl h
      · replace h := h.2 hc
        refine wi_iconst (pc' := 31) (v := 0) hm227 rfl rfl rfl ?_
        exact wi_iret hm227 rfl h
theorem hm228 : fx_code 228 = fx_c228 := rfl
theorem t228_0 {o0 x1 x2 x3 : Int} {σ : fx_S} {Q : fx_V → fx_S → Prop} (h : fx_CI 154 [(0, x1)] σ Q (fun y1 σ1 => ((y1 = 0 → ((((fx_up σ1 46 o0 0 1) 46 o0 0) ≤ 0 → fx_CV 166 [(46, o0), (0, x1), (59, 0)] (fx_up σ1 46 o0 0 1) Q (fun σ2 => fx_Wp 228 58 [(46, o0), (0, x1), (0, x2), (0, x3), (0, x2)] [] σ2 Q)) ∧ (0 < ((fx_up σ1 46 o0 0 1) 46 o0 0) → Q (0, 0) (fx_up σ1 46 o0 0 1)))) ∧ (y1 ≠ 0 → fx_CI 155 [(0, x2)] σ1 Q (fun y2 σ3 => ((y2 ≠ 0 → fx_CI 149 [(0, x3), (0, 0), (0, 99)] σ3 Q (fun y3 σ4 => ((y3 ≠ 0 → ((((fx_up σ4 46 o0 0 0) 46 o0 0) ≤ 0 → fx_CV 166 [(46, o0), (0, x1), (59, 0)] (fx_up σ4 46 o0 0 0) Q (fun σ5 => fx_Wp 228 58 [(46, o0), (0, x1), (0, x2), (0, x3), (0, x2)] [] σ5 Q)) ∧ (0 < ((fx_up σ4 46 o0 0 0) 46 o0 0) → Q (0, 0) (fx_up σ4 46 o0 0 0)))) ∧ (y3 = 0 → ((((fx_up σ4 46 o0 0 2) 46 o0 0) ≤ 0 → fx_CV 166 [(46, o0), (0, x1), (59, 0)] (fx_up σ4 46 o0 0 2) Q (fun σ6 => fx_Wp 228 58 [(46, o0), (0, x1), (0, x2), (0, x3), (0, x2)] [] σ6 Q)) ∧ (0 < ((fx_up σ4 46 o0 0 2) 46 o0 0) → Q (0, 0) (fx_up σ4 46 o0 0 2))))))) ∧ (y2 = 0 → ((((fx_up σ3 46 o0 0 1) 46 o0 0) ≤ 0 → fx_CV 166 [(46, o0), (0, x1), (59, 0)] (fx_up σ3 46 o0 0 1) Q (fun σ7 => fx_Wp 228 58 [(46, o0), (0, x1), (0, x2), (0, x3), (0, x2)] [] σ7 Q)) ∧ (0 < ((fx_up σ3 46 o0 0 1) 46 o0 0) → Q (0, 0) (fx_up σ3 46 o0 0 1)))))))))) : fx_Ca 228 [(46, o0), (0, x1), (0, x2), (0, x3)] σ Q := by
  show fx_Wp 228 0 [(46, o0), (0, x1), (0, x2), (0, x3), (3, 0)] [] σ Q
  refine wi_aload_n (pc' := 1) hm228 rfl rfl rfl (by decide) ?_
  refine wi_iload_n (pc' := 2) hm228 rfl rfl rfl ?_
  refine wc_I (pc' := 5) (by decide) rfl (by decide) ((fx_wE hm228 rfl).trans (fx_exS (mj := 154) (as := [(0, x1)]) (rest := [(46, o0)]) rfl rk154 rfl rfl rfl rfl)) h (fun y1 σ1 h => ?_)
  refine wi_if_eq (pc' := 8) (t := 15) hm228 rfl rfl rfl (fun hc => ?_) (fun hc => ?_)
  · replace h := h.1 hc
    refine wi_iconst (pc' := 16) (v := 1) hm228 rfl rfl rfl ?_
    refine wi_goto (t := 34) hm228 rfl rfl ?_
    refine wi_putI (pc' := 37) hm228 rfl rfl (P := 0) rfl ?_
    refine wi_aload_n (pc' := 38) hm228 rfl rfl rfl (by decide) ?_
    refine wi_getI (pc' := 41) hm228 rfl rfl (P := 0) rfl ?_
    refine wi_if_le (pc' := 44) (t := 46) hm228 rfl rfl rfl (fun hc => ?_) (fun hc => ?_)
    · replace h := h.1 hc
      refine wi_aload_n (pc' := 47) hm228 rfl rfl rfl (by decide) ?_
      refine wi_iload_n (pc' := 48) hm228 rfl rfl rfl ?_
      refine wi_aload_n (pc' := 49) hm228 rfl rfl rfl (by decide) ?_
      refine wi_getR (pc' := 52) (x := 0) hm228 rfl rfl rfl (by omega) ?_
      refine wc_V (pc' := 55) (by decide) rfl (by decide) ((fx_wE hm228 rfl).trans (fx_exV (mj := 166) (as := [(0, x1), (59, 0)]) (rest := []) rfl rk166 rfl rfl rfl rfl rfl)) h (fun σ2 h => ?_)
      refine wi_iload_n (pc' := 56) hm228 rfl rfl rfl ?_
      refine wi_istore (pc' := 58) (L' := [(46, o0), (0, x1), (0, x2), (0, x3), (0, x2)]) hm228 rfl rfl rfl ?_
      exact h
    · replace h := h.2 hc
      refine wi_iconst (pc' := 45) (v := 0) hm228 rfl rfl rfl ?_
      exact wi_iret hm228 rfl h
  · replace h := h.2 hc
    refine wi_iload_n (pc' := 9) hm228 rfl rfl rfl ?_
    refine wc_I (pc' := 12) (by decide) rfl (by decide) ((fx_wE hm228 rfl).trans (fx_exS (mj := 155) (as := [(0, x2)]) (rest := [(46, o0)]) rfl rk155 rfl rfl rfl rfl)) h (fun y2 σ3 h => ?_)
    refine wi_if_ne (pc' := 15) (t := 19) hm228 rfl rfl rfl (fun hc => ?_) (fun hc => ?_)
    · replace h := h.1 hc
      refine wi_iload_n (pc' := 20) hm228 rfl rfl rfl ?_
      refine wi_iconst (pc' := 21) (v := 0) hm228 rfl rfl rfl ?_
      refine wi_bipush (pc' := 23) (v := 99) hm228 rfl rfl rfl ?_
      refine wc_I (pc' := 26) (by decide) rfl (by decide) ((fx_wE hm228 rfl).trans (fx_exS (mj := 149) (as := [(0, x3), (0, 0), (0, 99)]) (rest := [(46, o0)]) rfl rk149 rfl rfl rfl rfl)) h (fun y3 σ4 h => ?_)
      refine wi_if_ne (pc' := 29) (t := 33) hm228 rfl rfl rfl (fun hc => ?_) (fun hc => ?_)
      · replace h := h.1 hc
        refine wi_iconst (pc' := 34) (v := 0) hm228 rfl rfl rfl ?_
        refine wi_putI (pc' := 37) hm228 rfl rfl (P := 0) rfl ?_
        refine wi_aload_n (pc' := 38) hm228 rfl rfl rfl (by decide) ?_
        refine wi_getI (pc' := 41) hm228 rfl rfl (P := 0) rfl ?_
        refine wi_if_le (pc' := 44) (t := 46) hm228 rfl rfl rfl (fun hc => ?_) (fun hc => ?_)
        · replace h := h.1 hc
          refine wi_aload_n (pc' := 47) hm228 rfl rfl rfl (by decide) ?_
          refine wi_iload_n (pc' := 48) hm228 rfl rfl rfl ?_
          refine wi_aload_n (pc' := 49) hm228 rfl rfl rfl (by decide) ?_
          refine wi_getR (pc' := 52) (x := 0) hm228 rfl rfl rfl (by omega) ?_
          refine wc_V (pc' := 55) (by decide) rfl (by decide) ((fx_wE hm228 rfl).trans (fx_exV (mj := 166) (as := [(0, x1), (59, 0)]) (rest := []) rfl rk166 rfl rfl rfl rfl rfl)) h (fun σ5 h => ?_)
          refine wi_iload_n (pc' := 56) hm228 rfl rfl rfl ?_
          refine wi_istore (pc' := 58) (L' := [(46, o0), (0, x1), (0, x2), (0, x3), (0, x2)]) hm228 rfl rfl rfl ?_
          exact h
        · replace h := h.2 hc
          refine wi_iconst (pc' := 45) (v := 0) hm228 rfl rfl rfl ?_
          exact wi_iret hm228 rfl h
      · replace h := h.2 hc
        refine wi_iconst (pc' := 30) (v := 2) hm228 rfl rfl rfl ?_
        refine wi_goto (t := 34) hm228 rfl rfl ?_
        refine wi_putI (pc' := 37) hm228 rfl rfl (P := 0) rfl ?_
        refine wi_aload_n (pc' := 38) hm228 rfl rfl rfl (by decide) ?_
        refine wi_getI (pc' := 41) hm228 rfl rfl (P := 0) rfl ?_
        refine wi_if_le (pc' := 44) (t := 46) hm228 rfl rfl rfl (fun hc => ?_) (fun hc => ?_)
        · replace h := h.1 hc
          refine wi_aload_n (pc' := 47) hm228 rfl rfl rfl (by decide) ?_
          refine wi_iload_n (pc' := 48) hm228 rfl rfl rfl ?_
          refine wi_aload_n (pc' := 49) hm228 rfl rfl rfl (by decide) ?_
          refine wi_getR (pc' := 52) (x := 0) hm228 rfl rfl rfl (by omega) ?_
          refine wc_V (pc' := 55) (by decide) rfl (by decide) ((fx_wE hm228 rfl).trans (fx_exV (mj := 166) (as := [(0, x1), (59, 0)]) (rest := []) rfl rk166 rfl rfl rfl rfl rfl)) h (fun σ6 h => ?_)
          refine wi_iload_n (pc' := 56) hm228 rfl rfl rfl ?_
          refine wi_istore (pc' := 58) (L' := [(46, o0), (0, x1), (0, x2), (0, x3), (0, x2)]) hm228 rfl rfl rfl ?_
          exact h
        · replace h := h.2 hc
          refine wi_iconst (pc' := 45) (v := 0) hm228 rfl rfl rfl ?_
          exact wi_iret hm228 rfl h
    · replace h := h.2 hc
      refine wi_iconst (pc' := 16) (v := 1) hm228 rfl rfl rfl ?_
      refine wi_goto (t := 34) hm228 rfl rfl ?_
      refine wi_putI (pc' := 37) hm228 rfl rfl (P := 0) rfl ?_
      refine wi_aload_n (pc' := 38) hm228 rfl rfl rfl (by decide) ?_
      refine wi_getI (pc' := 41) hm228 rfl rfl (P := 0) rfl ?_
      refine wi_if_le (pc' := 44) (t := 46) hm228 rfl rfl rfl (fun hc => ?_) (fun hc => ?_)
      · replace h := h.1 hc
        refine wi_aload_n (pc' := 47) hm228 rfl rfl rfl (by decide) ?_
        refine wi_iload_n (pc' := 48) hm228 rfl rfl rfl ?_
        refine wi_aload_n (pc' := 49) hm228 rfl rfl rfl (by decide) ?_
        refine wi_getR (pc' := 52) (x := 0) hm228 rfl rfl rfl (by omega) ?_
        refine wc_V (pc' := 55) (by decide) rfl (by decide) ((fx_wE hm228 rfl).trans (fx_exV (mj := 166) (as := [(0, x1), (59, 0)]) (rest := []) rfl rk166 rfl rfl rfl rfl rfl)) h (fun σ7 h => ?_)
        refine wi_iload_n (pc' := 56) hm228 rfl rfl rfl ?_
        refine wi_istore (pc' := 58) (L' := [(46, o0), (0, x1), (0, x2), (0, x3), (0, x2)]) hm228 rfl rfl rfl ?_
        exact h
      · replace h := h.2 hc
        refine wi_iconst (pc' := 45) (v := 0) hm228 rfl rfl rfl ?_
        exact wi_iret hm228 rfl h
theorem t228_58 {o0 x3 x4 : Int} {w1 w2 : fx_V} {σ : fx_S} {Q : fx_V → fx_S → Prop} (h : ((1000 ≤ x4 → Q (0, (-1)) σ) ∧ (x4 < 1000 → (0 ≤ x4 ∧ x4 < 1000) ∧ (((σ 59 0 x4) ≠ x3 → (fx_rg (x4 + 1)) ∧ fx_Wp 228 58 [(46, o0), w1, w2, (0, x3), (0, (x4 + 1))] [] σ Q) ∧ ((σ 59 0 x4) = x3 → Q (0, x4) σ))))) : fx_Wp 228 58 [(46, o0), w1, w2, (0, x3), (0, x4)] [] σ Q := by
  refine wi_iload (pc' := 60) hm228 rfl rfl rfl ?_
  refine wi_sipush (pc' := 63) (v := 1000) hm228 rfl rfl rfl ?_
  refine wi_ic_ge (pc' := 66) (t := 86) hm228 rfl rfl rfl (fun hc => ?_) (fun hc => ?_)
  · replace h := h.1 hc
    refine wi_iconst (pc' := 87) (v := (-1)) hm228 rfl rfl rfl ?_
    exact wi_iret hm228 rfl h
  · replace h := h.2 hc
    refine wi_aload_n (pc' := 67) hm228 rfl rfl rfl (by decide) ?_
    refine wi_getR (pc' := 70) (x := 0) hm228 rfl rfl rfl (by omega) ?_
    refine wi_iload (pc' := 72) hm228 rfl rfl rfl ?_
    obtain ⟨g, h⟩ := h
    refine wi_iaload (pc' := 73) hm228 rfl rfl rfl rfl (N := 1000) rfl g ?_
    refine wi_iload_n (pc' := 74) hm228 rfl rfl rfl ?_
    refine wi_ic_ne (pc' := 77) (t := 80) hm228 rfl rfl rfl (fun hc => ?_) (fun hc => ?_)
    · replace h := h.1 hc
      obtain ⟨g, h⟩ := h
      refine wi_iinc (pc' := 83) (L' := [(46, o0), w1, w2, (0, x3), (0, (x4 + 1))]) hm228 rfl rfl rfl g rfl ?_
      refine wi_goto (t := 58) hm228 rfl rfl ?_
      exact h
    · replace h := h.2 hc
      refine wi_iload (pc' := 79) hm228 rfl rfl rfl ?_
      exact wi_iret hm228 rfl h
theorem hm229 : fx_code 229 = fx_c229 := rfl
theorem t229_0 {o0 x1 : Int} {σ : fx_S} {Q : fx_V → fx_S → Prop} (h : fx_Wp 229 4 [(46, o0), (0, x1), (0, 0), (0, 0), (3, 0)] [] σ Q) : fx_Ca 229 [(46, o0), (0, x1)] σ Q := by
  show fx_Wp 229 0 [(46, o0), (0, x1), (3, 0), (3, 0), (3, 0)] [] σ Q
  refine wi_iconst (pc' := 1) (v := 0) hm229 rfl rfl rfl ?_
  refine wi_istore_n (pc' := 2) (L' := [(46, o0), (0, x1), (0, 0), (3, 0), (3, 0)]) hm229 rfl rfl rfl ?_
  refine wi_iconst (pc' := 3) (v := 0) hm229 rfl rfl rfl ?_
  refine wi_istore_n (pc' := 4) (L' := [(46, o0), (0, x1), (0, 0), (0, 0), (3, 0)]) hm229 rfl rfl rfl ?_
  exact h
theorem t229_4 {o0 x1 x2 x3 : Int} {w4 : fx_V} {σ : fx_S} {Q : fx_V → fx_S → Prop} (h : ((1000 ≤ x3 → Q (0, x2) σ) ∧ (x3 < 1000 → fx_CV 165 [(46, o0), (0, x3)] σ Q (fun σ1 => fx_Wp 229 19 [(46, o0), (0, x1), (0, x2), (0, x3), (0, 0)] [] σ1 Q)))) : fx_Wp 229 4 [(46, o0), (0, x1), (0, x2), (0, x3), w4] [] σ Q := by
  refine wi_iload_n (pc' := 5) hm229 rfl rfl rfl ?_
  refine wi_sipush (pc' := 8) (v := 1000) hm229 rfl rfl rfl ?_
  refine wi_ic_ge (pc' := 11) (t := 128) hm229 rfl rfl rfl (fun hc => ?_) (fun hc => ?_)
  · replace h := h.1 hc
    refine wi_iload_n (pc' := 129) hm229 rfl rfl rfl ?_
    exact wi_iret hm229 rfl h
  · replace h := h.2 hc
    refine wi_aload_n (pc' := 12) hm229 rfl rfl rfl (by decide) ?_
    refine wi_iload_n (pc' := 13) hm229 rfl rfl rfl ?_
    refine wc_V (pc' := 16) (by decide) rfl (by decide) ((fx_wE hm229 rfl).trans (fx_exV (mj := 165) (as := [(0, x3)]) (rest := []) rfl rk165 rfl rfl rfl rfl rfl)) h (fun σ1 h => ?_)
    refine wi_iconst (pc' := 17) (v := 0) hm229 rfl rfl rfl ?_
    refine wi_istore (pc' := 19) (L' := [(46, o0), (0, x1), (0, x2), (0, x3), (0, 0)]) hm229 rfl rfl rfl ?_
    exact h
theorem t229_19 {o0 x1 x2 x3 x4 : Int} {σ : fx_S} {Q : fx_V → fx_S → Prop} (h : ((8 ≤ x4 → (fx_rg (6 * x1)) ∧ (fx_rg (18 + (6 * x1))) ∧ (fx_rg ((18 + (6 * x1)) + 5)) ∧ (0 ≤ ((18 + (6 * x1)) + 5) ∧ ((18 + (6 * x1)) + 5) < 1130) ∧ fx_CV 165 [(46, o0), (0, x3)] (fx_up σ 47 0 ((18 + (6 * x1)) + 5) 1) Q (fun σ1 => (fx_rg (6 * x1)) ∧ (fx_rg (18 + (6 * x1))) ∧ (fx_rg ((18 + (6 * x1)) + 5)) ∧ (0 ≤ ((18 + (6 * x1)) + 5) ∧ ((18 + (6 * x1)) + 5) < 1130) ∧ fx_Wp 229 84 [(46, o0), (0, x1), (0, x2), (0, x3), (0, 0)] [] (fx_up σ1 47 0 ((18 + (6 * x1)) + 5) 0) Q)) ∧ (x4 < 8 → (0 ≤ x4 ∧ x4 < 8) ∧ (0 ≤ x4 ∧ x4 < 8) ∧ (fx_rg (x4 + 1)) ∧ fx_Wp 229 19 [(46, o0), (0, x1), (0, x2), (0, x3), (0, (x4 + 1))] [] (fx_up σ 60 0 x4 (σ 55 0 x4)) Q))) : fx_Wp 229 19 [(46, o0), (0, x1), (0, x2), (0, x3), (0, x4)] [] σ Q := by
  refine wi_iload (pc' := 21) hm229 rfl rfl rfl ?_
  refine wi_bipush (pc' := 23) (v := 8) hm229 rfl rfl rfl ?_
  refine wi_ic_ge (pc' := 26) (t := 46) hm229 rfl rfl rfl (fun hc => ?_) (fun hc => ?_)
  · replace h := h.1 hc
    refine wi_aload_n (pc' := 47) hm229 rfl rfl rfl (by decide) ?_
    refine wi_getR (pc' := 50) (x := 0) hm229 rfl rfl rfl (by omega) ?_
    refine wi_bipush (pc' := 52) (v := 18) hm229 rfl rfl rfl ?_
    refine wi_bipush (pc' := 54) (v := 6) hm229 rfl rfl rfl ?_
    refine wi_iload_n (pc' := 55) hm229 rfl rfl rfl ?_
    obtain ⟨g, h⟩ := h
    refine wi_imul (pc' := 56) hm229 rfl rfl g ?_
    obtain ⟨g, h⟩ := h
    refine wi_iadd (pc' := 57) hm229 rfl rfl g ?_
    refine wi_iconst (pc' := 58) (v := 5) hm229 rfl rfl rfl ?_
    obtain ⟨g, h⟩ := h
    refine wi_iadd (pc' := 59) hm229 rfl rfl g ?_
    refine wi_iconst (pc' := 60) (v := 1) hm229 rfl rfl rfl ?_
    obtain ⟨g, h⟩ := h
    refine wi_iastore (pc' := 61) hm229 rfl rfl rfl (N := 1130) rfl g ?_
    refine wi_aload_n (pc' := 62) hm229 rfl rfl rfl (by decide) ?_
    refine wi_iload_n (pc' := 63) hm229 rfl rfl rfl ?_
    refine wc_V (pc' := 66) (by decide) rfl (by decide) ((fx_wE hm229 rfl).trans (fx_exV (mj := 165) (as := [(0, x3)]) (rest := []) rfl rk165 rfl rfl rfl rfl rfl)) h (fun σ1 h => ?_)
    refine wi_aload_n (pc' := 67) hm229 rfl rfl rfl (by decide) ?_
    refine wi_getR (pc' := 70) (x := 0) hm229 rfl rfl rfl (by omega) ?_
    refine wi_bipush (pc' := 72) (v := 18) hm229 rfl rfl rfl ?_
    refine wi_bipush (pc' := 74) (v := 6) hm229 rfl rfl rfl ?_
    refine wi_iload_n (pc' := 75) hm229 rfl rfl rfl ?_
    obtain ⟨g, h⟩ := h
    refine wi_imul (pc' := 76) hm229 rfl rfl g ?_
    obtain ⟨g, h⟩ := h
    refine wi_iadd (pc' := 77) hm229 rfl rfl g ?_
    refine wi_iconst (pc' := 78) (v := 5) hm229 rfl rfl rfl ?_
    obtain ⟨g, h⟩ := h
    refine wi_iadd (pc' := 79) hm229 rfl rfl g ?_
    refine wi_iconst (pc' := 80) (v := 0) hm229 rfl rfl rfl ?_
    obtain ⟨g, h⟩ := h
    refine wi_iastore (pc' := 81) hm229 rfl rfl rfl (N := 1130) rfl g ?_
    refine wi_iconst (pc' := 82) (v := 0) hm229 rfl rfl rfl ?_
    refine wi_istore (pc' := 84) (L' := [(46, o0), (0, x1), (0, x2), (0, x3), (0, 0)]) hm229 rfl rfl rfl ?_
    exact h
  · replace h := h.2 hc
    refine wi_aload_n (pc' := 27) hm229 rfl rfl rfl (by decide) ?_
    refine wi_getR (pc' := 30) (x := 0) hm229 rfl rfl rfl (by omega) ?_
    refine wi_iload (pc' := 32) hm229 rfl rfl rfl ?_
    refine wi_aload_n (pc' := 33) hm229 rfl rfl rfl (by decide) ?_
    refine wi_getR (pc' := 36) (x := 0) hm229 rfl rfl rfl (by omega) ?_
    refine wi_iload (pc' := 38) hm229 rfl rfl rfl ?_
    obtain ⟨g, h⟩ := h
    refine wi_iaload (pc' := 39) hm229 rfl rfl rfl rfl (N := 8) rfl g ?_
    obtain ⟨g, h⟩ := h
    refine wi_iastore (pc' := 40) hm229 rfl rfl rfl (N := 8) rfl g ?_
    obtain ⟨g, h⟩ := h
    refine wi_iinc (pc' := 43) (L' := [(46, o0), (0, x1), (0, x2), (0, x3), (0, (x4 + 1))]) hm229 rfl rfl rfl g rfl ?_
    refine wi_goto (t := 19) hm229 rfl rfl ?_
    exact h
theorem t229_84 {o0 x1 x2 x3 x4 : Int} {σ : fx_S} {Q : fx_V → fx_S → Prop} (h : ((8 ≤ x4 → (fx_rg (x3 + 1)) ∧ fx_Wp 229 4 [(46, o0), (0, x1), (0, x2), (0, (x3 + 1)), (0, x4)] [] σ Q) ∧ (x4 < 8 → (0 ≤ x4 ∧ x4 < 8) ∧ (0 ≤ x4 ∧ x4 < 8) ∧ (((σ 55 0 x4) = (σ 60 0 x4) → (fx_rg (x2 + 0)) ∧ (fx_rg (x4 + 1)) ∧ fx_Wp 229 84 [(46, o0), (0, x1), (0, (x2 + 0)), (0, x3), (0, (x4 + 1))] [] σ Q) ∧ ((σ 55 0 x4) ≠ (σ 60 0 x4) → (fx_rg (x2 + 1)) ∧ (fx_rg (x4 + 1)) ∧ fx_Wp 229 84 [(46, o0), (0, x1), (0, (x2 + 1)), (0, x3), (0, (x4 + 1))] [] σ Q))))) : fx_Wp 229 84 [(46, o0), (0, x1), (0, x2), (0, x3), (0, x4)] [] σ Q := by
  refine wi_iload (pc' := 86) hm229 rfl rfl rfl ?_
  refine wi_bipush (pc' := 88) (v := 8) hm229 rfl rfl rfl ?_
  refine wi_ic_ge (pc' := 91) (t := 122) hm229 rfl rfl rfl (fun hc => ?_) (fun hc => ?_)
  · replace h := h.1 hc
    obtain ⟨g, h⟩ := h
    refine wi_iinc (pc' := 125) (L' := [(46, o0), (0, x1), (0, x2), (0, (x3 + 1)), (0, x4)]) hm229 rfl rfl rfl g rfl ?_
    refine wi_goto (t := 4) hm229 rfl rfl ?_
    exact h
  · replace h := h.2 hc
    refine wi_iload_n (pc' := 92) hm229 rfl rfl rfl ?_
    refine wi_aload_n (pc' := 93) hm229 rfl rfl rfl (by decide) ?_
    refine wi_getR (pc' := 96) (x := 0) hm229 rfl rfl rfl (by omega) ?_
    refine wi_iload (pc' := 98) hm229 rfl rfl rfl ?_
    obtain ⟨g, h⟩ := h
    refine wi_iaload (pc' := 99) hm229 rfl rfl rfl rfl (N := 8) rfl g ?_
    refine wi_aload_n (pc' := 100) hm229 rfl rfl rfl (by decide) ?_
    refine wi_getR (pc' := 103) (x := 0) hm229 rfl rfl rfl (by omega) ?_
    refine wi_iload (pc' := 105) hm229 rfl rfl rfl ?_
    obtain ⟨g, h⟩ := h
    refine wi_iaload (pc' := 106) hm229 rfl rfl rfl rfl (N := 8) rfl g ?_
    refine wi_ic_eq (pc' := 109) (t := 113) hm229 rfl rfl rfl (fun hc => ?_) (fun hc => ?_)
    · replace h := h.1 hc
      refine wi_iconst (pc' := 114) (v := 0) hm229 rfl rfl rfl ?_
      obtain ⟨g, h⟩ := h
      refine wi_iadd (pc' := 115) hm229 rfl rfl g ?_
      refine wi_istore_n (pc' := 116) (L' := [(46, o0), (0, x1), (0, (x2 + 0)), (0, x3), (0, x4)]) hm229 rfl rfl rfl ?_
      obtain ⟨g, h⟩ := h
      refine wi_iinc (pc' := 119) (L' := [(46, o0), (0, x1), (0, (x2 + 0)), (0, x3), (0, (x4 + 1))]) hm229 rfl rfl rfl g rfl ?_
      refine wi_goto (t := 84) hm229 rfl rfl ?_
      exact h
    · replace h := h.2 hc
      refine wi_iconst (pc' := 110) (v := 1) hm229 rfl rfl rfl ?_
      refine wi_goto (t := 114) hm229 rfl rfl ?_
      obtain ⟨g, h⟩ := h
      refine wi_iadd (pc' := 115) hm229 rfl rfl g ?_
      refine wi_istore_n (pc' := 116) (L' := [(46, o0), (0, x1), (0, (x2 + 1)), (0, x3), (0, x4)]) hm229 rfl rfl rfl ?_
      obtain ⟨g, h⟩ := h
      refine wi_iinc (pc' := 119) (L' := [(46, o0), (0, x1), (0, (x2 + 1)), (0, x3), (0, (x4 + 1))]) hm229 rfl rfl rfl g rfl ?_
      refine wi_goto (t := 84) hm229 rfl rfl ?_
      exact h
theorem hm230 : fx_code 230 = fx_c230 := rfl
theorem t230_0 {o0 x1 x2 : Int} {σ : fx_S} {Q : fx_V → fx_S → Prop} (h : fx_CI 153 [(46, o0), (0, x1)] σ Q (fun y1 σ1 => ((y1 ≠ 0 → fx_CI 149 [(0, x2), (0, 0), (0, 7)] σ1 Q (fun y2 σ2 => ((y2 ≠ 0 → ((((fx_up σ2 46 o0 0 0) 46 o0 0) ≤ 0 → ((6 ≤ x2 → ((x2 ≠ 7 → fx_CV 167 [(46, o0)] (fx_up σ2 46 o0 0 0) Q (fun σ3 => (0 ≤ x1 ∧ x1 < 60) ∧ Q (0, (σ3 58 0 x1)) σ3)) ∧ (x2 = 7 → fx_CI 151 [(46, o0), (0, x1), (0, 5)] (fx_up σ2 46 o0 0 0) Q (fun y3 σ4 => ((y3 ≠ 1 → fx_CI 229 [(46, o0), (0, x1)] σ4 Q (fun y4 σ5 => Q (0, y4) σ5)) ∧ (y3 = 1 → Q (0, (-1)) σ4)))))) ∧ (x2 < 6 → fx_CI 151 [(46, o0), (0, x1), (0, x2)] (fx_up σ2 46 o0 0 0) Q (fun y5 σ6 => Q (0, y5) σ6)))) ∧ (0 < ((fx_up σ2 46 o0 0 0) 46 o0 0) → Q (0, 0) (fx_up σ2 46 o0 0 0)))) ∧ (y2 = 0 → ((((fx_up σ2 46 o0 0 2) 46 o0 0) ≤ 0 → ((6 ≤ x2 → ((x2 ≠ 7 → fx_CV 167 [(46, o0)] (fx_up σ2 46 o0 0 2) Q (fun σ7 => (0 ≤ x1 ∧ x1 < 60) ∧ Q (0, (σ7 58 0 x1)) σ7)) ∧ (x2 = 7 → fx_CI 151 [(46, o0), (0, x1), (0, 5)] (fx_up σ2 46 o0 0 2) Q (fun y6 σ8 => ((y6 ≠ 1 → fx_CI 229 [(46, o0), (0, x1)] σ8 Q (fun y7 σ9 => Q (0, y7) σ9)) ∧ (y6 = 1 → Q (0, (-1)) σ8)))))) ∧ (x2 < 6 → fx_CI 151 [(46, o0), (0, x1), (0, x2)] (fx_up σ2 46 o0 0 2) Q (fun y8 σ10 => Q (0, y8) σ10)))) ∧ (0 < ((fx_up σ2 46 o0 0 2) 46 o0 0) → Q (0, 0) (fx_up σ2 46 o0 0 2))))))) ∧ (y1 = 0 → ((((fx_up σ1 46 o0 0 1) 46 o0 0) ≤ 0 → ((6 ≤ x2 → ((x2 ≠ 7 → fx_CV 167 [(46, o0)] (fx_up σ1 46 o0 0 1) Q (fun σ11 => (0 ≤ x1 ∧ x1 < 60) ∧ Q (0, (σ11 58 0 x1)) σ11)) ∧ (x2 = 7 → fx_CI 151 [(46, o0), (0, x1), (0, 5)] (fx_up σ1 46 o0 0 1) Q (fun y9 σ12 => ((y9 ≠ 1 → fx_CI 229 [(46, o0), (0, x1)] σ12 Q (fun y10 σ13 => Q (0, y10) σ13)) ∧ (y9 = 1 → Q (0, (-1)) σ12)))))) ∧ (x2 < 6 → fx_CI 151 [(46, o0), (0, x1), (0, x2)] (fx_up σ1 46 o0 0 1) Q (fun y11 σ14 => Q (0, y11) σ14)))) ∧ (0 < ((fx_up σ1 46 o0 0 1) 46 o0 0) → Q (0, 0) (fx_up σ1 46 o0 0 1))))))) : fx_Ca 230 [(46, o0), (0, x1), (0, x2)] σ Q := by
  show fx_Wp 230 0 [(46, o0), (0, x1), (0, x2)] [] σ Q
  refine wi_aload_n (pc' := 1) hm230 rfl rfl rfl (by decide) ?_
  refine wi_aload_n (pc' := 2) hm230 rfl rfl rfl (by decide) ?_
  refine wi_iload_n (pc' := 3) hm230 rfl rfl rfl ?_
  refine wc_I (pc' := 6) (by decide) rfl (by decide) ((fx_wE hm230 rfl).trans (fx_exV (mj := 153) (as := [(0, x1)]) (rest := [(46, o0)]) rfl rk153 rfl rfl rfl rfl rfl)) h (fun y1 σ1 h => ?_)
  refine wi_if_ne (pc' := 9) (t := 13) hm230 rfl rfl rfl (fun hc => ?_) (fun hc => ?_)
  · replace h := h.1 hc
    refine wi_iload_n (pc' := 14) hm230 rfl rfl rfl ?_
    refine wi_iconst (pc' := 15) (v := 0) hm230 rfl rfl rfl ?_
    refine wi_bipush (pc' := 17) (v := 7) hm230 rfl rfl rfl ?_
    refine wc_I (pc' := 20) (by decide) rfl (by decide) ((fx_wE hm230 rfl).trans (fx_exS (mj := 149) (as := [(0, x2), (0, 0), (0, 7)]) (rest := [(46, o0)]) rfl rk149 rfl rfl rfl rfl)) h (fun y2 σ2 h => ?_)
    refine wi_if_ne (pc' := 23) (t := 27) hm230 rfl rfl rfl (fun hc => ?_) (fun hc => ?_)
    · replace h := h.1 hc
      refine wi_iconst (pc' := 28) (v := 0) hm230 rfl rfl rfl ?_
      refine wi_putI (pc' := 31) hm230 rfl rfl (P := 0) rfl ?_
      refine wi_aload_n (pc' := 32) hm230 rfl rfl rfl (by decide) ?_
      refine wi_getI (pc' := 35) hm230 rfl rfl (P := 0) rfl ?_
      refine wi_if_le (pc' := 38) (t := 40) hm230 rfl rfl rfl (fun hc => ?_) (fun hc => ?_)
      · replace h := h.1 hc
        refine wi_iload_n (pc' := 41) hm230 rfl rfl rfl ?_
        refine wi_bipush (pc' := 43) (v := 6) hm230 rfl rfl rfl ?_
        refine wi_ic_ge (pc' := 46) (t := 53) hm230 rfl rfl rfl (fun hc => ?_) (fun hc => ?_)
        · replace h := h.1 hc
          refine wi_iload_n (pc' := 54) hm230 rfl rfl rfl ?_
          refine wi_bipush (pc' := 56) (v := 7) hm230 rfl rfl rfl ?_
          refine wi_ic_ne (pc' := 59) (t := 79) hm230 rfl rfl rfl (fun hc => ?_) (fun hc => ?_)
          · replace h := h.1 hc
            refine wi_aload_n (pc' := 80) hm230 rfl rfl rfl (by decide) ?_
            refine wc_V (pc' := 83) (by decide) rfl (by decide) ((fx_wE hm230 rfl).trans (fx_exV (mj := 167) (as := []) (rest := []) rfl rk167 rfl rfl rfl rfl rfl)) h (fun σ3 h => ?_)
            refine wi_aload_n (pc' := 84) hm230 rfl rfl rfl (by decide) ?_
            refine wi_getR (pc' := 87) (x := 0) hm230 rfl rfl rfl (by omega) ?_
            refine wi_iload_n (pc' := 88) hm230 rfl rfl rfl ?_
            obtain ⟨g, h⟩ := h
            refine wi_iaload (pc' := 89) hm230 rfl rfl rfl rfl (N := 60) rfl g ?_
            exact wi_iret hm230 rfl h
          · replace h := h.2 hc
            refine wi_aload_n (pc' := 60) hm230 rfl rfl rfl (by decide) ?_
            refine wi_iload_n (pc' := 61) hm230 rfl rfl rfl ?_
            refine wi_iconst (pc' := 62) (v := 5) hm230 rfl rfl rfl ?_
            refine wc_I (pc' := 65) (by decide) rfl (by decide) ((fx_wE hm230 rfl).trans (fx_exV (mj := 151) (as := [(0, x1), (0, 5)]) (rest := []) rfl rk151 rfl rfl rfl rfl rfl)) h (fun y3 σ4 h => ?_)
            refine wi_iconst (pc' := 66) (v := 1) hm230 rfl rfl rfl ?_
            refine wi_ic_ne (pc' := 69) (t := 73) hm230 rfl rfl rfl (fun hc => ?_) (fun hc => ?_)
            · replace h := h.1 hc
              refine wi_aload_n (pc' := 74) hm230 rfl rfl rfl (by decide) ?_
              refine wi_iload_n (pc' := 75) hm230 rfl rfl rfl ?_
              refine wc_I (pc' := 78) (by decide) rfl (by decide) ((fx_wE hm230 rfl).trans (fx_exV (mj := 229) (as := [(0, x1)]) (rest := []) rfl rk229 rfl rfl rfl rfl rfl)) h (fun y4 σ5 h => ?_)
              exact wi_iret hm230 rfl h
            · replace h := h.2 hc
              refine wi_iconst (pc' := 70) (v := (-1)) hm230 rfl rfl rfl ?_
              refine wi_goto (t := 78) hm230 rfl rfl ?_
              exact wi_iret hm230 rfl h
        · replace h := h.2 hc
          refine wi_aload_n (pc' := 47) hm230 rfl rfl rfl (by decide) ?_
          refine wi_iload_n (pc' := 48) hm230 rfl rfl rfl ?_
          refine wi_iload_n (pc' := 49) hm230 rfl rfl rfl ?_
          refine wc_I (pc' := 52) (by decide) rfl (by decide) ((fx_wE hm230 rfl).trans (fx_exV (mj := 151) (as := [(0, x1), (0, x2)]) (rest := []) rfl rk151 rfl rfl rfl rfl rfl)) h (fun y5 σ6 h => ?_)
          exact wi_iret hm230 rfl h
      · replace h := h.2 hc
        refine wi_iconst (pc' := 39) (v := 0) hm230 rfl rfl rfl ?_
        exact wi_iret hm230 rfl h
    · replace h := h.2 hc
      refine wi_iconst (pc' := 24) (v := 2) hm230 rfl rfl rfl ?_
      refine wi_goto (t := 28) hm230 rfl rfl ?_
      refine wi_putI (pc' := 31) hm230 rfl rfl (P := 0) rfl ?_
      refine wi_aload_n (pc' := 32) hm230 rfl rfl rfl (by decide) ?_
      refine wi_getI (pc' := 35) hm230 rfl rfl (P := 0) rfl ?_
      refine wi_if_le (pc' := 38) (t := 40) hm230 rfl rfl rfl (fun hc => ?_) (fun hc => ?_)
      · replace h := h.1 hc
        refine wi_iload_n (pc' := 41) hm230 rfl rfl rfl ?_
        refine wi_bipush (pc' := 43) (v := 6) hm230 rfl rfl rfl ?_
        refine wi_ic_ge (pc' := 46) (t := 53) hm230 rfl rfl rfl (fun hc => ?_) (fun hc => ?_)
        · replace h := h.1 hc
          refine wi_iload_n (pc' := 54) hm230 rfl rfl rfl ?_
          refine wi_bipush (pc' := 56) (v := 7) hm230 rfl rfl rfl ?_
          refine wi_ic_ne (pc' := 59) (t := 79) hm230 rfl rfl rfl (fun hc => ?_) (fun hc => ?_)
          · replace h := h.1 hc
            refine wi_aload_n (pc' := 80) hm230 rfl rfl rfl (by decide) ?_
            refine wc_V (pc' := 83) (by decide) rfl (by decide) ((fx_wE hm230 rfl).trans (fx_exV (mj := 167) (as := []) (rest := []) rfl rk167 rfl rfl rfl rfl rfl)) h (fun σ7 h => ?_)
            refine wi_aload_n (pc' := 84) hm230 rfl rfl rfl (by decide) ?_
            refine wi_getR (pc' := 87) (x := 0) hm230 rfl rfl rfl (by omega) ?_
            refine wi_iload_n (pc' := 88) hm230 rfl rfl rfl ?_
            obtain ⟨g, h⟩ := h
            refine wi_iaload (pc' := 89) hm230 rfl rfl rfl rfl (N := 60) rfl g ?_
            exact wi_iret hm230 rfl h
          · replace h := h.2 hc
            refine wi_aload_n (pc' := 60) hm230 rfl rfl rfl (by decide) ?_
            refine wi_iload_n (pc' := 61) hm230 rfl rfl rfl ?_
            refine wi_iconst (pc' := 62) (v := 5) hm230 rfl rfl rfl ?_
            refine wc_I (pc' := 65) (by decide) rfl (by decide) ((fx_wE hm230 rfl).trans (fx_exV (mj := 151) (as := [(0, x1), (0, 5)]) (rest := []) rfl rk151 rfl rfl rfl rfl rfl)) h (fun y6 σ8 h => ?_)
            refine wi_iconst (pc' := 66) (v := 1) hm230 rfl rfl rfl ?_
            refine wi_ic_ne (pc' := 69) (t := 73) hm230 rfl rfl rfl (fun hc => ?_) (fun hc => ?_)
            · replace h := h.1 hc
              refine wi_aload_n (pc' := 74) hm230 rfl rfl rfl (by decide) ?_
              refine wi_iload_n (pc' := 75) hm230 rfl rfl rfl ?_
              refine wc_I (pc' := 78) (by decide) rfl (by decide) ((fx_wE hm230 rfl).trans (fx_exV (mj := 229) (as := [(0, x1)]) (rest := []) rfl rk229 rfl rfl rfl rfl rfl)) h (fun y7 σ9 h => ?_)
              exact wi_iret hm230 rfl h
            · replace h := h.2 hc
              refine wi_iconst (pc' := 70) (v := (-1)) hm230 rfl rfl rfl ?_
              refine wi_goto (t := 78) hm230 rfl rfl ?_
              exact wi_iret hm230 rfl h
        · replace h := h.2 hc
          refine wi_aload_n (pc' := 47) hm230 rfl rfl rfl (by decide) ?_
          refine wi_iload_n (pc' := 48) hm230 rfl rfl rfl ?_
          refine wi_iload_n (pc' := 49) hm230 rfl rfl rfl ?_
          refine wc_I (pc' := 52) (by decide) rfl (by decide) ((fx_wE hm230 rfl).trans (fx_exV (mj := 151) (as := [(0, x1), (0, x2)]) (rest := []) rfl rk151 rfl rfl rfl rfl rfl)) h (fun y8 σ10 h => ?_)
          exact wi_iret hm230 rfl h
      · replace h := h.2 hc
        refine wi_iconst (pc' := 39) (v := 0) hm230 rfl rfl rfl ?_
        exact wi_iret hm230 rfl h
  · replace h := h.2 hc
    refine wi_iconst (pc' := 10) (v := 1) hm230 rfl rfl rfl ?_
    refine wi_goto (t := 28) hm230 rfl rfl ?_
    refine wi_putI (pc' := 31) hm230 rfl rfl (P := 0) rfl ?_
    refine wi_aload_n (pc' := 32) hm230 rfl rfl rfl (by decide) ?_
    refine wi_getI (pc' := 35) hm230 rfl rfl (P := 0) rfl ?_
    refine wi_if_le (pc' := 38) (t := 40) hm230 rfl rfl rfl (fun hc => ?_) (fun hc => ?_)
    · replace h := h.1 hc
      refine wi_iload_n (pc' := 41) hm230 rfl rfl rfl ?_
      refine wi_bipush (pc' := 43) (v := 6) hm230 rfl rfl rfl ?_
      refine wi_ic_ge (pc' := 46) (t := 53) hm230 rfl rfl rfl (fun hc => ?_) (fun hc => ?_)
      · replace h := h.1 hc
        refine wi_iload_n (pc' := 54) hm230 rfl rfl rfl ?_
        refine wi_bipush (pc' := 56) (v := 7) hm230 rfl rfl rfl ?_
        refine wi_ic_ne (pc' := 59) (t := 79) hm230 rfl rfl rfl (fun hc => ?_) (fun hc => ?_)
        · replace h := h.1 hc
          refine wi_aload_n (pc' := 80) hm230 rfl rfl rfl (by decide) ?_
          refine wc_V (pc' := 83) (by decide) rfl (by decide) ((fx_wE hm230 rfl).trans (fx_exV (mj := 167) (as := []) (rest := []) rfl rk167 rfl rfl rfl rfl rfl)) h (fun σ11 h => ?_)
          refine wi_aload_n (pc' := 84) hm230 rfl rfl rfl (by decide) ?_
          refine wi_getR (pc' := 87) (x := 0) hm230 rfl rfl rfl (by omega) ?_
          refine wi_iload_n (pc' := 88) hm230 rfl rfl rfl ?_
          obtain ⟨g, h⟩ := h
          refine wi_iaload (pc' := 89) hm230 rfl rfl rfl rfl (N := 60) rfl g ?_
          exact wi_iret hm230 rfl h
        · replace h := h.2 hc
          refine wi_aload_n (pc' := 60) hm230 rfl rfl rfl (by decide) ?_
          refine wi_iload_n (pc' := 61) hm230 rfl rfl rfl ?_
          refine wi_iconst (pc' := 62) (v := 5) hm230 rfl rfl rfl ?_
          refine wc_I (pc' := 65) (by decide) rfl (by decide) ((fx_wE hm230 rfl).trans (fx_exV (mj := 151) (as := [(0, x1), (0, 5)]) (rest := []) rfl rk151 rfl rfl rfl rfl rfl)) h (fun y9 σ12 h => ?_)
          refine wi_iconst (pc' := 66) (v := 1) hm230 rfl rfl rfl ?_
          refine wi_ic_ne (pc' := 69) (t := 73) hm230 rfl rfl rfl (fun hc => ?_) (fun hc => ?_)
          · replace h := h.1 hc
            refine wi_aload_n (pc' := 74) hm230 rfl rfl rfl (by decide) ?_
            refine wi_iload_n (pc' := 75) hm230 rfl rfl rfl ?_
            refine wc_I (pc' := 78) (by decide) rfl (by decide) ((fx_wE hm230 rfl).trans (fx_exV (mj := 229) (as := [(0, x1)]) (rest := []) rfl rk229 rfl rfl rfl rfl rfl)) h (fun y10 σ13 h => ?_)
            exact wi_iret hm230 rfl h
          · replace h := h.2 hc
            refine wi_iconst (pc' := 70) (v := (-1)) hm230 rfl rfl rfl ?_
            refine wi_goto (t := 78) hm230 rfl rfl ?_
            exact wi_iret hm230 rfl h
      · replace h := h.2 hc
        refine wi_aload_n (pc' := 47) hm230 rfl rfl rfl (by decide) ?_
        refine wi_iload_n (pc' := 48) hm230 rfl rfl rfl ?_
        refine wi_iload_n (pc' := 49) hm230 rfl rfl rfl ?_
        refine wc_I (pc' := 52) (by decide) rfl (by decide) ((fx_wE hm230 rfl).trans (fx_exV (mj := 151) (as := [(0, x1), (0, x2)]) (rest := []) rfl rk151 rfl rfl rfl rfl rfl)) h (fun y11 σ14 h => ?_)
        exact wi_iret hm230 rfl h
    · replace h := h.2 hc
      refine wi_iconst (pc' := 39) (v := 0) hm230 rfl rfl rfl ?_
      exact wi_iret hm230 rfl h
theorem hm231 : fx_code 231 = fx_c231 := rfl
theorem t231_0 {x0 x1 x2 x3 : Int} {σ : fx_S} {Q : fx_V → fx_S → Prop} (h : ((x2 < x1 → ((x0 < x3 → ((x3 ≤ x1 → ((x1 ≠ x3 → ((x2 ≤ x0 → ((x0 ≠ x2 → (fx_rg (8 + 2)) ∧ Q (0, (8 + 2)) σ) ∧ (x0 = x2 → (fx_rg (5 + 2)) ∧ Q (0, (5 + 2)) σ))) ∧ (x0 < x2 → (fx_rg (2 + 2)) ∧ Q (0, (2 + 2)) σ))) ∧ (x1 = x3 → ((x2 ≤ x0 → ((x0 ≠ x2 → (fx_rg (8 + 1)) ∧ Q (0, (8 + 1)) σ) ∧ (x0 = x2 → (fx_rg (5 + 1)) ∧ Q (0, (5 + 1)) σ))) ∧ (x0 < x2 → (fx_rg (2 + 1)) ∧ Q (0, (2 + 1)) σ))))) ∧ (x1 < x3 → ((x2 ≤ x0 → ((x0 ≠ x2 → (fx_rg (8 + 0)) ∧ Q (0, (8 + 0)) σ) ∧ (x0 = x2 → (fx_rg (5 + 0)) ∧ Q (0, (5 + 0)) σ))) ∧ (x0 < x2 → (fx_rg (2 + 0)) ∧ Q (0, (2 + 0)) σ))))) ∧ (x3 ≤ x0 → ((x0 ≠ x3 → Q (0, 12) σ) ∧ (x0 = x3 → Q (0, 11) σ))))) ∧ (x1 ≤ x2 → ((x2 ≤ x1 → Q (0, 1) σ) ∧ (x1 < x2 → Q (0, 0) σ))))) : fx_Ca 231 [(0, x0), (0, x1), (0, x2), (0, x3)] σ Q := by
  show fx_Wp 231 0 [(0, x0), (0, x1), (0, x2), (0, x3), (3, 0)] [] σ Q
  refine wi_iload_n (pc' := 1) hm231 rfl rfl rfl ?_
  refine wi_iload_n (pc' := 2) hm231 rfl rfl rfl ?_
  refine wi_ic_gt (pc' := 5) (t := 16) hm231 rfl rfl rfl (fun hc => ?_) (fun hc => ?_)
  · replace h := h.1 hc
    refine wi_iload_n (pc' := 17) hm231 rfl rfl rfl ?_
    refine wi_iload_n (pc' := 18) hm231 rfl rfl rfl ?_
    refine wi_ic_lt (pc' := 21) (t := 34) hm231 rfl rfl rfl (fun hc => ?_) (fun hc => ?_)
    · replace h := h.1 hc
      refine wi_iload_n (pc' := 35) hm231 rfl rfl rfl ?_
      refine wi_iload_n (pc' := 36) hm231 rfl rfl rfl ?_
      refine wi_ic_ge (pc' := 39) (t := 43) hm231 rfl rfl rfl (fun hc => ?_) (fun hc => ?_)
      · replace h := h.1 hc
        refine wi_iload_n (pc' := 44) hm231 rfl rfl rfl ?_
        refine wi_iload_n (pc' := 45) hm231 rfl rfl rfl ?_
        refine wi_ic_ne (pc' := 48) (t := 52) hm231 rfl rfl rfl (fun hc => ?_) (fun hc => ?_)
        · replace h := h.1 hc
          refine wi_iconst (pc' := 53) (v := 2) hm231 rfl rfl rfl ?_
          refine wi_istore (pc' := 55) (L' := [(0, x0), (0, x1), (0, x2), (0, x3), (0, 2)]) hm231 rfl rfl rfl ?_
          refine wi_iload_n (pc' := 56) hm231 rfl rfl rfl ?_
          refine wi_iload_n (pc' := 57) hm231 rfl rfl rfl ?_
          refine wi_ic_ge (pc' := 60) (t := 64) hm231 rfl rfl rfl (fun hc => ?_) (fun hc => ?_)
          · replace h := h.1 hc
            refine wi_iload_n (pc' := 65) hm231 rfl rfl rfl ?_
            refine wi_iload_n (pc' := 66) hm231 rfl rfl rfl ?_
            refine wi_ic_ne (pc' := 69) (t := 73) hm231 rfl rfl rfl (fun hc => ?_) (fun hc => ?_)
            · replace h := h.1 hc
              refine wi_bipush (pc' := 75) (v := 8) hm231 rfl rfl rfl ?_
              refine wi_iload (pc' := 77) hm231 rfl rfl rfl ?_
              obtain ⟨g, h⟩ := h
              refine wi_iadd (pc' := 78) hm231 rfl rfl g ?_
              exact wi_iret hm231 rfl h
            · replace h := h.2 hc
              refine wi_iconst (pc' := 70) (v := 5) hm231 rfl rfl rfl ?_
              refine wi_goto (t := 75) hm231 rfl rfl ?_
              refine wi_iload (pc' := 77) hm231 rfl rfl rfl ?_
              obtain ⟨g, h⟩ := h
              refine wi_iadd (pc' := 78) hm231 rfl rfl g ?_
              exact wi_iret hm231 rfl h
          · replace h := h.2 hc
            refine wi_iconst (pc' := 61) (v := 2) hm231 rfl rfl rfl ?_
            refine wi_goto (t := 75) hm231 rfl rfl ?_
            refine wi_iload (pc' := 77) hm231 rfl rfl rfl ?_
            obtain ⟨g, h⟩ := h
            refine wi_iadd (pc' := 78) hm231 rfl rfl g ?_
            exact wi_iret hm231 rfl h
        · replace h := h.2 hc
          refine wi_iconst (pc' := 49) (v := 1) hm231 rfl rfl rfl ?_
          refine wi_goto (t := 53) hm231 rfl rfl ?_
          refine wi_istore (pc' := 55) (L' := [(0, x0), (0, x1), (0, x2), (0, x3), (0, 1)]) hm231 rfl rfl rfl ?_
          refine wi_iload_n (pc' := 56) hm231 rfl rfl rfl ?_
          refine wi_iload_n (pc' := 57) hm231 rfl rfl rfl ?_
          refine wi_ic_ge (pc' := 60) (t := 64) hm231 rfl rfl rfl (fun hc => ?_) (fun hc => ?_)
          · replace h := h.1 hc
            refine wi_iload_n (pc' := 65) hm231 rfl rfl rfl ?_
            refine wi_iload_n (pc' := 66) hm231 rfl rfl rfl ?_
            refine wi_ic_ne (pc' := 69) (t := 73) hm231 rfl rfl rfl (fun hc => ?_) (fun hc => ?_)
            · replace h := h.1 hc
              refine wi_bipush (pc' := 75) (v := 8) hm231 rfl rfl rfl ?_
              refine wi_iload (pc' := 77) hm231 rfl rfl rfl ?_
              obtain ⟨g, h⟩ := h
              refine wi_iadd (pc' := 78) hm231 rfl rfl g ?_
              exact wi_iret hm231 rfl h
            · replace h := h.2 hc
              refine wi_iconst (pc' := 70) (v := 5) hm231 rfl rfl rfl ?_
              refine wi_goto (t := 75) hm231 rfl rfl ?_
              refine wi_iload (pc' := 77) hm231 rfl rfl rfl ?_
              obtain ⟨g, h⟩ := h
              refine wi_iadd (pc' := 78) hm231 rfl rfl g ?_
              exact wi_iret hm231 rfl h
          · replace h := h.2 hc
            refine wi_iconst (pc' := 61) (v := 2) hm231 rfl rfl rfl ?_
            refine wi_goto (t := 75) hm231 rfl rfl ?_
            refine wi_iload (pc' := 77) hm231 rfl rfl rfl ?_
            obtain ⟨g, h⟩ := h
            refine wi_iadd (pc' := 78) hm231 rfl rfl g ?_
            exact wi_iret hm231 rfl h
      · replace h := h.2 hc
        refine wi_iconst (pc' := 40) (v := 0) hm231 rfl rfl rfl ?_
        refine wi_goto (t := 53) hm231 rfl rfl ?_
        refine wi_istore (pc' := 55) (L' := [(0, x0), (0, x1), (0, x2), (0, x3), (0, 0)]) hm231 rfl rfl rfl ?_
        refine wi_iload_n (pc' := 56) hm231 rfl rfl rfl ?_
        refine wi_iload_n (pc' := 57) hm231 rfl rfl rfl ?_
        refine wi_ic_ge (pc' := 60) (t := 64) hm231 rfl rfl rfl (fun hc => ?_) (fun hc => ?_)
        · replace h := h.1 hc
          refine wi_iload_n (pc' := 65) hm231 rfl rfl rfl ?_
          refine wi_iload_n (pc' := 66) hm231 rfl rfl rfl ?_
          refine wi_ic_ne (pc' := 69) (t := 73) hm231 rfl rfl rfl (fun hc => ?_) (fun hc => ?_)
          · replace h := h.1 hc
            refine wi_bipush (pc' := 75) (v := 8) hm231 rfl rfl rfl ?_
            refine wi_iload (pc' := 77) hm231 rfl rfl rfl ?_
            obtain ⟨g, h⟩ := h
            refine wi_iadd (pc' := 78) hm231 rfl rfl g ?_
            exact wi_iret hm231 rfl h
          · replace h := h.2 hc
            refine wi_iconst (pc' := 70) (v := 5) hm231 rfl rfl rfl ?_
            refine wi_goto (t := 75) hm231 rfl rfl ?_
            refine wi_iload (pc' := 77) hm231 rfl rfl rfl ?_
            obtain ⟨g, h⟩ := h
            refine wi_iadd (pc' := 78) hm231 rfl rfl g ?_
            exact wi_iret hm231 rfl h
        · replace h := h.2 hc
          refine wi_iconst (pc' := 61) (v := 2) hm231 rfl rfl rfl ?_
          refine wi_goto (t := 75) hm231 rfl rfl ?_
          refine wi_iload (pc' := 77) hm231 rfl rfl rfl ?_
          obtain ⟨g, h⟩ := h
          refine wi_iadd (pc' := 78) hm231 rfl rfl g ?_
          exact wi_iret hm231 rfl h
    · replace h := h.2 hc
      refine wi_iload_n (pc' := 22) hm231 rfl rfl rfl ?_
      refine wi_iload_n (pc' := 23) hm231 rfl rfl rfl ?_
      refine wi_ic_ne (pc' := 26) (t := 31) hm231 rfl rfl rfl (fun hc => ?_) (fun hc => ?_)
      · replace h := h.1 hc
        refine wi_bipush (pc' := 33) (v := 12) hm231 rfl rfl rfl ?_
        exact wi_iret hm231 rfl h
      · replace h := h.2 hc
        refine wi_bipush (pc' := 28) (v := 11) hm231 rfl rfl rfl ?_
        refine wi_goto (t := 33) hm231 rfl rfl ?_
        exact wi_iret hm231 rfl h
  · replace h := h.2 hc
    refine wi_iload_n (pc' := 6) hm231 rfl rfl rfl ?_
    refine wi_iload_n (pc' := 7) hm231 rfl rfl rfl ?_
    refine wi_ic_ge (pc' := 10) (t := 14) hm231 rfl rfl rfl (fun hc => ?_) (fun hc => ?_)
    · replace h := h.1 hc
      refine wi_iconst (pc' := 15) (v := 1) hm231 rfl rfl rfl ?_
      exact wi_iret hm231 rfl h
    · replace h := h.2 hc
      refine wi_iconst (pc' := 11) (v := 0) hm231 rfl rfl rfl ?_
      refine wi_goto (t := 15) hm231 rfl rfl ?_
      exact wi_iret hm231 rfl h
theorem hm232 : fx_code 232 = fx_c232 := rfl
theorem t232_0 {o0 x1 x2 : Int} {σ : fx_S} {Q : fx_V → fx_S → Prop} (h : fx_CI 153 [(46, o0), (0, x1)] σ Q (fun y1 σ1 => ((y1 = 0 → ((((fx_up σ1 46 o0 0 1) 46 o0 0) ≤ 0 → fx_CI 151 [(46, o0), (0, x1), (0, 2)] (fx_up σ1 46 o0 0 1) Q (fun y2 σ2 => fx_CI 151 [(46, o0), (0, x1), (0, 3)] σ2 Q (fun y3 σ3 => fx_CI 151 [(46, o0), (0, x2), (0, 2)] σ3 Q (fun y4 σ4 => fx_CI 151 [(46, o0), (0, x2), (0, 3)] σ4 Q (fun y5 σ5 => fx_CI 231 [(0, y2), (0, y3), (0, y4), (0, y5)] σ5 Q (fun y6 σ6 => Q (0, y6) σ6)))))) ∧ (0 < ((fx_up σ1 46 o0 0 1) 46 o0 0) → Q (0, 0) (fx_up σ1 46 o0 0 1)))) ∧ (y1 ≠ 0 → fx_CI 153 [(46, o0), (0, x2)] σ1 Q (fun y7 σ7 => ((y7 ≠ 0 → ((x1 ≠ x2 → ((((fx_up σ7 46 o0 0 0) 46 o0 0) ≤ 0 → fx_CI 151 [(46, o0), (0, x1), (0, 2)] (fx_up σ7 46 o0 0 0) Q (fun y8 σ8 => fx_CI 151 [(46, o0), (0, x1), (0, 3)] σ8 Q (fun y9 σ9 => fx_CI 151 [(46, o0), (0, x2), (0, 2)] σ9 Q (fun y10 σ10 => fx_CI 151 [(46, o0), (0, x2), (0, 3)] σ10 Q (fun y11 σ11 => fx_CI 231 [(0, y8), (0, y9), (0, y10), (0, y11)] σ11 Q (fun y12 σ12 => Q (0, y12) σ12)))))) ∧ (0 < ((fx_up σ7 46 o0 0 0) 46 o0 0) → Q (0, 0) (fx_up σ7 46 o0 0 0)))) ∧ (x1 = x2 → ((((fx_up σ7 46 o0 0 2) 46 o0 0) ≤ 0 → fx_CI 151 [(46, o0), (0, x1), (0, 2)] (fx_up σ7 46 o0 0 2) Q (fun y13 σ13 => fx_CI 151 [(46, o0), (0, x1), (0, 3)] σ13 Q (fun y14 σ14 => fx_CI 151 [(46, o0), (0, x2), (0, 2)] σ14 Q (fun y15 σ15 => fx_CI 151 [(46, o0), (0, x2), (0, 3)] σ15 Q (fun y16 σ16 => fx_CI 231 [(0, y13), (0, y14), (0, y15), (0, y16)] σ16 Q (fun y17 σ17 => Q (0, y17) σ17)))))) ∧ (0 < ((fx_up σ7 46 o0 0 2) 46 o0 0) → Q (0, 0) (fx_up σ7 46 o0 0 2)))))) ∧ (y7 = 0 → ((((fx_up σ7 46 o0 0 1) 46 o0 0) ≤ 0 → fx_CI 151 [(46, o0), (0, x1), (0, 2)] (fx_up σ7 46 o0 0 1) Q (fun y18 σ18 => fx_CI 151 [(46, o0), (0, x1), (0, 3)] σ18 Q (fun y19 σ19 => fx_CI 151 [(46, o0), (0, x2), (0, 2)] σ19 Q (fun y20 σ20 => fx_CI 151 [(46, o0), (0, x2), (0, 3)] σ20 Q (fun y21 σ21 => fx_CI 231 [(0, y18), (0, y19), (0, y20), (0, y21)] σ21 Q (fun y22 σ22 => Q (0, y22) σ22)))))) ∧ (0 < ((fx_up σ7 46 o0 0 1) 46 o0 0) → Q (0, 0) (fx_up σ7 46 o0 0 1)))))))))) : fx_Ca 232 [(46, o0), (0, x1), (0, x2)] σ Q := by
  show fx_Wp 232 0 [(46, o0), (0, x1), (0, x2)] [] σ Q
  refine wi_aload_n (pc' := 1) hm232 rfl rfl rfl (by decide) ?_
  refine wi_aload_n (pc' := 2) hm232 rfl rfl rfl (by decide) ?_
  refine wi_iload_n (pc' := 3) hm232 rfl rfl rfl ?_
  refine wc_I (pc' := 6) (by decide) rfl (by decide) ((fx_wE hm232 rfl).trans (fx_exV (mj := 153) (as := [(0, x1)]) (rest := [(46, o0)]) rfl rk153 rfl rfl rfl rfl rfl)) h (fun y1 σ1 h => ?_)
  refine wi_if_eq (pc' := 9) (t := 17) hm232 rfl rfl rfl (fun hc => ?_) (fun hc => ?_)
  · replace h := h.1 hc
    refine wi_iconst (pc' := 18) (v := 1) hm232 rfl rfl rfl ?_
    refine wi_goto (t := 31) hm232 rfl rfl ?_
    refine wi_putI (pc' := 34) hm232 rfl rfl (P := 0) rfl ?_
    refine wi_aload_n (pc' := 35) hm232 rfl rfl rfl (by decide) ?_
    refine wi_getI (pc' := 38) hm232 rfl rfl (P := 0) rfl ?_
    refine wi_if_le (pc' := 41) (t := 43) hm232 rfl rfl rfl (fun hc => ?_) (fun hc => ?_)
    · replace h := h.1 hc
      refine wi_aload_n (pc' := 44) hm232 rfl rfl rfl (by decide) ?_
      refine wi_iload_n (pc' := 45) hm232 rfl rfl rfl ?_
      refine wi_iconst (pc' := 46) (v := 2) hm232 rfl rfl rfl ?_
      refine wc_I (pc' := 49) (by decide) rfl (by decide) ((fx_wE hm232 rfl).trans (fx_exV (mj := 151) (as := [(0, x1), (0, 2)]) (rest := []) rfl rk151 rfl rfl rfl rfl rfl)) h (fun y2 σ2 h => ?_)
      refine wi_aload_n (pc' := 50) hm232 rfl rfl rfl (by decide) ?_
      refine wi_iload_n (pc' := 51) hm232 rfl rfl rfl ?_
      refine wi_iconst (pc' := 52) (v := 3) hm232 rfl rfl rfl ?_
      refine wc_I (pc' := 55) (by decide) rfl (by decide) ((fx_wE hm232 rfl).trans (fx_exV (mj := 151) (as := [(0, x1), (0, 3)]) (rest := [(0, y2)]) rfl rk151 rfl rfl rfl rfl rfl)) h (fun y3 σ3 h => ?_)
      refine wi_aload_n (pc' := 56) hm232 rfl rfl rfl (by decide) ?_
      refine wi_iload_n (pc' := 57) hm232 rfl rfl rfl ?_
      refine wi_iconst (pc' := 58) (v := 2) hm232 rfl rfl rfl ?_
      refine wc_I (pc' := 61) (by decide) rfl (by decide) ((fx_wE hm232 rfl).trans (fx_exV (mj := 151) (as := [(0, x2), (0, 2)]) (rest := [(0, y3), (0, y2)]) rfl rk151 rfl rfl rfl rfl rfl)) h (fun y4 σ4 h => ?_)
      refine wi_aload_n (pc' := 62) hm232 rfl rfl rfl (by decide) ?_
      refine wi_iload_n (pc' := 63) hm232 rfl rfl rfl ?_
      refine wi_iconst (pc' := 64) (v := 3) hm232 rfl rfl rfl ?_
      refine wc_I (pc' := 67) (by decide) rfl (by decide) ((fx_wE hm232 rfl).trans (fx_exV (mj := 151) (as := [(0, x2), (0, 3)]) (rest := [(0, y4), (0, y3), (0, y2)]) rfl rk151 rfl rfl rfl rfl rfl)) h (fun y5 σ5 h => ?_)
      refine wc_I (pc' := 70) (by decide) rfl (by decide) ((fx_wE hm232 rfl).trans (fx_exS (mj := 231) (as := [(0, y2), (0, y3), (0, y4), (0, y5)]) (rest := []) rfl rk231 rfl rfl rfl rfl)) h (fun y6 σ6 h => ?_)
      exact wi_iret hm232 rfl h
    · replace h := h.2 hc
      refine wi_iconst (pc' := 42) (v := 0) hm232 rfl rfl rfl ?_
      exact wi_iret hm232 rfl h
  · replace h := h.2 hc
    refine wi_aload_n (pc' := 10) hm232 rfl rfl rfl (by decide) ?_
    refine wi_iload_n (pc' := 11) hm232 rfl rfl rfl ?_
    refine wc_I (pc' := 14) (by decide) rfl (by decide) ((fx_wE hm232 rfl).trans (fx_exV (mj := 153) (as := [(0, x2)]) (rest := [(46, o0)]) rfl rk153 rfl rfl rfl rfl rfl)) h (fun y7 σ7 h => ?_)
    refine wi_if_ne (pc' := 17) (t := 21) hm232 rfl rfl rfl (fun hc => ?_) (fun hc => ?_)
    · replace h := h.1 hc
      refine wi_iload_n (pc' := 22) hm232 rfl rfl rfl ?_
      refine wi_iload_n (pc' := 23) hm232 rfl rfl rfl ?_
      refine wi_ic_ne (pc' := 26) (t := 30) hm232 rfl rfl rfl (fun hc => ?_) (fun hc => ?_)
      · replace h := h.1 hc
        refine wi_iconst (pc' := 31) (v := 0) hm232 rfl rfl rfl ?_
        refine wi_putI (pc' := 34) hm232 rfl rfl (P := 0) rfl ?_
        refine wi_aload_n (pc' := 35) hm232 rfl rfl rfl (by decide) ?_
        refine wi_getI (pc' := 38) hm232 rfl rfl (P := 0) rfl ?_
        refine wi_if_le (pc' := 41) (t := 43) hm232 rfl rfl rfl (fun hc => ?_) (fun hc => ?_)
        · replace h := h.1 hc
          refine wi_aload_n (pc' := 44) hm232 rfl rfl rfl (by decide) ?_
          refine wi_iload_n (pc' := 45) hm232 rfl rfl rfl ?_
          refine wi_iconst (pc' := 46) (v := 2) hm232 rfl rfl rfl ?_
          refine wc_I (pc' := 49) (by decide) rfl (by decide) ((fx_wE hm232 rfl).trans (fx_exV (mj := 151) (as := [(0, x1), (0, 2)]) (rest := []) rfl rk151 rfl rfl rfl rfl rfl)) h (fun y8 σ8 h => ?_)
          refine wi_aload_n (pc' := 50) hm232 rfl rfl rfl (by decide) ?_
          refine wi_iload_n (pc' := 51) hm232 rfl rfl rfl ?_
          refine wi_iconst (pc' := 52) (v := 3) hm232 rfl rfl rfl ?_
          refine wc_I (pc' := 55) (by decide) rfl (by decide) ((fx_wE hm232 rfl).trans (fx_exV (mj := 151) (as := [(0, x1), (0, 3)]) (rest := [(0, y8)]) rfl rk151 rfl rfl rfl rfl rfl)) h (fun y9 σ9 h => ?_)
          refine wi_aload_n (pc' := 56) hm232 rfl rfl rfl (by decide) ?_
          refine wi_iload_n (pc' := 57) hm232 rfl rfl rfl ?_
          refine wi_iconst (pc' := 58) (v := 2) hm232 rfl rfl rfl ?_
          refine wc_I (pc' := 61) (by decide) rfl (by decide) ((fx_wE hm232 rfl).trans (fx_exV (mj := 151) (as := [(0, x2), (0, 2)]) (rest := [(0, y9), (0, y8)]) rfl rk151 rfl rfl rfl rfl rfl)) h (fun y10 σ10 h => ?_)
          refine wi_aload_n (pc' := 62) hm232 rfl rfl rfl (by decide) ?_
          refine wi_iload_n (pc' := 63) hm232 rfl rfl rfl ?_
          refine wi_iconst (pc' := 64) (v := 3) hm232 rfl rfl rfl ?_
          refine wc_I (pc' := 67) (by decide) rfl (by decide) ((fx_wE hm232 rfl).trans (fx_exV (mj := 151) (as := [(0, x2), (0, 3)]) (rest := [(0, y10), (0, y9), (0, y8)]) rfl rk151 rfl rfl rfl rfl rfl)) h (fun y11 σ11 h => ?_)
          refine wc_I (pc' := 70) (by decide) rfl (by decide) ((fx_wE hm232 rfl).trans (fx_exS (mj := 231) (as := [(0, y8), (0, y9), (0, y10), (0, y11)]) (rest := []) rfl rk231 rfl rfl rfl rfl)) h (fun y12 σ12 h => ?_)
          exact wi_iret hm232 rfl h
        · replace h := h.2 hc
          refine wi_iconst (pc' := 42) (v := 0) hm232 rfl rfl rfl ?_
          exact wi_iret hm232 rfl h
      · replace h := h.2 hc
        refine wi_iconst (pc' := 27) (v := 2) hm232 rfl rfl rfl ?_
        refine wi_goto (t := 31) hm232 rfl rfl ?_
        refine wi_putI (pc' := 34) hm232 rfl rfl (P := 0) rfl ?_
        refine wi_aload_n (pc' := 35) hm232 rfl rfl rfl (by decide) ?_
        refine wi_getI (pc' := 38) hm232 rfl rfl (P := 0) rfl ?_
        refine wi_if_le (pc' := 41) (t := 43) hm232 rfl rfl rfl (fun hc => ?_) (fun hc => ?_)
        · replace h := h.1 hc
          refine wi_aload_n (pc' := 44) hm232 rfl rfl rfl (by decide) ?_
          refine wi_iload_n (pc' := 45) hm232 rfl rfl rfl ?_
          refine wi_iconst (pc' := 46) (v := 2) hm232 rfl rfl rfl ?_
          refine wc_I (pc' := 49) (by decide) rfl (by decide) ((fx_wE hm232 rfl).trans (fx_exV (mj := 151) (as := [(0, x1), (0, 2)]) (rest := []) rfl rk151 rfl rfl rfl rfl rfl)) h (fun y13 σ13 h => ?_)
          refine wi_aload_n (pc' := 50) hm232 rfl rfl rfl (by decide) ?_
          refine wi_iload_n (pc' := 51) hm232 rfl rfl rfl ?_
          refine wi_iconst (pc' := 52) (v := 3) hm232 rfl rfl rfl ?_
          refine wc_I (pc' := 55) (by decide) rfl (by decide) ((fx_wE hm232 rfl).trans (fx_exV (mj := 151) (as := [(0, x1), (0, 3)]) (rest := [(0, y13)]) rfl rk151 rfl rfl rfl rfl rfl)) h (fun y14 σ14 h => ?_)
          refine wi_aload_n (pc' := 56) hm232 rfl rfl rfl (by decide) ?_
          refine wi_iload_n (pc' := 57) hm232 rfl rfl rfl ?_
          refine wi_iconst (pc' := 58) (v := 2) hm232 rfl rfl rfl ?_
          refine wc_I (pc' := 61) (by decide) rfl (by decide) ((fx_wE hm232 rfl).trans (fx_exV (mj := 151) (as := [(0, x2), (0, 2)]) (rest := [(0, y14), (0, y13)]) rfl rk151 rfl rfl rfl rfl rfl)) h (fun y15 σ15 h => ?_)
          refine wi_aload_n (pc' := 62) hm232 rfl rfl rfl (by decide) ?_
          refine wi_iload_n (pc' := 63) hm232 rfl rfl rfl ?_
          refine wi_iconst (pc' := 64) (v := 3) hm232 rfl rfl rfl ?_
          refine wc_I (pc' := 67) (by decide) rfl (by decide) ((fx_wE hm232 rfl).trans (fx_exV (mj := 151) (as := [(0, x2), (0, 3)]) (rest := [(0, y15), (0, y14), (0, y13)]) rfl rk151 rfl rfl rfl rfl rfl)) h (fun y16 σ16 h => ?_)
          refine wc_I (pc' := 70) (by decide) rfl (by decide) ((fx_wE hm232 rfl).trans (fx_exS (mj := 231) (as := [(0, y13), (0, y14), (0, y15), (0, y16)]) (rest := []) rfl rk231 rfl rfl rfl rfl)) h (fun y17 σ17 h => ?_)
          exact wi_iret hm232 rfl h
        · replace h := h.2 hc
          refine wi_iconst (pc' := 42) (v := 0) hm232 rfl rfl rfl ?_
          exact wi_iret hm232 rfl h
    · replace h := h.2 hc
      refine wi_iconst (pc' := 18) (v := 1) hm232 rfl rfl rfl ?_
      refine wi_goto (t := 31) hm232 rfl rfl ?_
      refine wi_putI (pc' := 34) hm232 rfl rfl (P := 0) rfl ?_
      refine wi_aload_n (pc' := 35) hm232 rfl rfl rfl (by decide) ?_
      refine wi_getI (pc' := 38) hm232 rfl rfl (P := 0) rfl ?_
      refine wi_if_le (pc' := 41) (t := 43) hm232 rfl rfl rfl (fun hc => ?_) (fun hc => ?_)
      · replace h := h.1 hc
        refine wi_aload_n (pc' := 44) hm232 rfl rfl rfl (by decide) ?_
        refine wi_iload_n (pc' := 45) hm232 rfl rfl rfl ?_
        refine wi_iconst (pc' := 46) (v := 2) hm232 rfl rfl rfl ?_
        refine wc_I (pc' := 49) (by decide) rfl (by decide) ((fx_wE hm232 rfl).trans (fx_exV (mj := 151) (as := [(0, x1), (0, 2)]) (rest := []) rfl rk151 rfl rfl rfl rfl rfl)) h (fun y18 σ18 h => ?_)
        refine wi_aload_n (pc' := 50) hm232 rfl rfl rfl (by decide) ?_
        refine wi_iload_n (pc' := 51) hm232 rfl rfl rfl ?_
        refine wi_iconst (pc' := 52) (v := 3) hm232 rfl rfl rfl ?_
        refine wc_I (pc' := 55) (by decide) rfl (by decide) ((fx_wE hm232 rfl).trans (fx_exV (mj := 151) (as := [(0, x1), (0, 3)]) (rest := [(0, y18)]) rfl rk151 rfl rfl rfl rfl rfl)) h (fun y19 σ19 h => ?_)
        refine wi_aload_n (pc' := 56) hm232 rfl rfl rfl (by decide) ?_
        refine wi_iload_n (pc' := 57) hm232 rfl rfl rfl ?_
        refine wi_iconst (pc' := 58) (v := 2) hm232 rfl rfl rfl ?_
        refine wc_I (pc' := 61) (by decide) rfl (by decide) ((fx_wE hm232 rfl).trans (fx_exV (mj := 151) (as := [(0, x2), (0, 2)]) (rest := [(0, y19), (0, y18)]) rfl rk151 rfl rfl rfl rfl rfl)) h (fun y20 σ20 h => ?_)
        refine wi_aload_n (pc' := 62) hm232 rfl rfl rfl (by decide) ?_
        refine wi_iload_n (pc' := 63) hm232 rfl rfl rfl ?_
        refine wi_iconst (pc' := 64) (v := 3) hm232 rfl rfl rfl ?_
        refine wc_I (pc' := 67) (by decide) rfl (by decide) ((fx_wE hm232 rfl).trans (fx_exV (mj := 151) (as := [(0, x2), (0, 3)]) (rest := [(0, y20), (0, y19), (0, y18)]) rfl rk151 rfl rfl rfl rfl rfl)) h (fun y21 σ21 h => ?_)
        refine wc_I (pc' := 70) (by decide) rfl (by decide) ((fx_wE hm232 rfl).trans (fx_exS (mj := 231) (as := [(0, y18), (0, y19), (0, y20), (0, y21)]) (rest := []) rfl rk231 rfl rfl rfl rfl)) h (fun y22 σ22 h => ?_)
        exact wi_iret hm232 rfl h
      · replace h := h.2 hc
        refine wi_iconst (pc' := 42) (v := 0) hm232 rfl rfl rfl ?_
        exact wi_iret hm232 rfl h
theorem hm233 : fx_code 233 = fx_c233 := rfl
theorem t233_0 {o0 x1 : Int} {σ : fx_S} {Q : fx_V → fx_S → Prop} (h : fx_CV 167 [(46, o0)] σ Q (fun σ1 => fx_Wp 233 8 [(46, o0), (0, x1), (0, 0), (0, 0)] [] σ1 Q)) : fx_Ca 233 [(46, o0), (0, x1)] σ Q := by
  show fx_Wp 233 0 [(46, o0), (0, x1), (3, 0), (3, 0)] [] σ Q
  refine wi_iconst (pc' := 1) (v := 0) hm233 rfl rfl rfl ?_
  refine wi_istore_n (pc' := 2) (L' := [(46, o0), (0, x1), (0, 0), (3, 0)]) hm233 rfl rfl rfl ?_
  refine wi_aload_n (pc' := 3) hm233 rfl rfl rfl (by decide) ?_
  refine wc_V (pc' := 6) (by decide) rfl (by decide) ((fx_wE hm233 rfl).trans (fx_exV (mj := 167) (as := []) (rest := []) rfl rk167 rfl rfl rfl rfl rfl)) h (fun σ1 h => ?_)
  refine wi_iconst (pc' := 7) (v := 0) hm233 rfl rfl rfl ?_
  refine wi_istore_n (pc' := 8) (L' := [(46, o0), (0, x1), (0, 0), (0, 0)]) hm233 rfl rfl rfl ?_
  exact h
theorem t233_8 {o0 x1 x2 x3 : Int} {σ : fx_S} {Q : fx_V → fx_S → Prop} (h : (((σ 47 0 1) ≤ x3 → Q (0, x2) σ) ∧ (x3 < (σ 47 0 1) → fx_CI 151 [(46, o0), (0, x3), (0, 1)] σ Q (fun y1 σ1 => ((y1 ≠ x1 → (fx_rg (x2 + 0)) ∧ (fx_rg (x3 + 1)) ∧ fx_Wp 233 8 [(46, o0), (0, x1), (0, (x2 + 0)), (0, (x3 + 1))] [] σ1 Q) ∧ (y1 = x1 → (0 ≤ x3 ∧ x3 < 60) ∧ (fx_rg (x2 + (σ1 58 0 x3))) ∧ (fx_rg (x3 + 1)) ∧ fx_Wp 233 8 [(46, o0), (0, x1), (0, (x2 + (σ1 58 0 x3))), (0, (x3 + 1))] [] σ1 Q)))))) : fx_Wp 233 8 [(46, o0), (0, x1), (0, x2), (0, x3)] [] σ Q := by
  refine wi_iload_n (pc' := 9) hm233 rfl rfl rfl ?_
  refine wi_aload_n (pc' := 10) hm233 rfl rfl rfl (by decide) ?_
  refine wi_getR (pc' := 13) (x := 0) hm233 rfl rfl rfl (by omega) ?_
  refine wi_iconst (pc' := 14) (v := 1) hm233 rfl rfl rfl ?_
  refine wi_iaload (pc' := 15) hm233 rfl rfl rfl rfl (N := 1130) rfl (by decide) ?_
  refine wi_ic_ge (pc' := 18) (t := 47) hm233 rfl rfl rfl (fun hc => ?_) (fun hc => ?_)
  · replace h := h.1 hc
    refine wi_iload_n (pc' := 48) hm233 rfl rfl rfl ?_
    exact wi_iret hm233 rfl h
  · replace h := h.2 hc
    refine wi_iload_n (pc' := 19) hm233 rfl rfl rfl ?_
    refine wi_aload_n (pc' := 20) hm233 rfl rfl rfl (by decide) ?_
    refine wi_iload_n (pc' := 21) hm233 rfl rfl rfl ?_
    refine wi_iconst (pc' := 22) (v := 1) hm233 rfl rfl rfl ?_
    refine wc_I (pc' := 25) (by decide) rfl (by decide) ((fx_wE hm233 rfl).trans (fx_exV (mj := 151) (as := [(0, x3), (0, 1)]) (rest := [(0, x2)]) rfl rk151 rfl rfl rfl rfl rfl)) h (fun y1 σ1 h => ?_)
    refine wi_iload_n (pc' := 26) hm233 rfl rfl rfl ?_
    refine wi_ic_ne (pc' := 29) (t := 38) hm233 rfl rfl rfl (fun hc => ?_) (fun hc => ?_)
    · replace h := h.1 hc
      refine wi_iconst (pc' := 39) (v := 0) hm233 rfl rfl rfl ?_
      obtain ⟨g, h⟩ := h
      refine wi_iadd (pc' := 40) hm233 rfl rfl g ?_
      refine wi_istore_n (pc' := 41) (L' := [(46, o0), (0, x1), (0, (x2 + 0)), (0, x3)]) hm233 rfl rfl rfl ?_
      obtain ⟨g, h⟩ := h
      refine wi_iinc (pc' := 44) (L' := [(46, o0), (0, x1), (0, (x2 + 0)), (0, (x3 + 1))]) hm233 rfl rfl rfl g rfl ?_
      refine wi_goto (t := 8) hm233 rfl rfl ?_
      exact h
    · replace h := h.2 hc
      refine wi_aload_n (pc' := 30) hm233 rfl rfl rfl (by decide) ?_
      refine wi_getR (pc' := 33) (x := 0) hm233 rfl rfl rfl (by omega) ?_
      refine wi_iload_n (pc' := 34) hm233 rfl rfl rfl ?_
      obtain ⟨g, h⟩ := h
      refine wi_iaload (pc' := 35) hm233 rfl rfl rfl rfl (N := 60) rfl g ?_
      refine wi_goto (t := 39) hm233 rfl rfl ?_
      obtain ⟨g, h⟩ := h
      refine wi_iadd (pc' := 40) hm233 rfl rfl g ?_
      refine wi_istore_n (pc' := 41) (L' := [(46, o0), (0, x1), (0, (x2 + (σ1 58 0 x3))), (0, x3)]) hm233 rfl rfl rfl ?_
      obtain ⟨g, h⟩ := h
      refine wi_iinc (pc' := 44) (L' := [(46, o0), (0, x1), (0, (x2 + (σ1 58 0 x3))), (0, (x3 + 1))]) hm233 rfl rfl rfl g rfl ?_
      refine wi_goto (t := 8) hm233 rfl rfl ?_
      exact h
