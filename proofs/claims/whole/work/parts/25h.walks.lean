set_option maxRecDepth 10000 in
theorem hm249 : fx_code 249 = fx_c249 := rfl
theorem t249_0 {o0 x1 x2 x3 : Int} {σ : fx_S} {Q : fx_V → fx_S → Prop} (h : fx_CI 154 [(0, x1)] σ Q (fun y1 σ1 => ((y1 = 0 → Q (0, 0) (fx_up σ1 46 o0 0 1)) ∧ (y1 ≠ 0 → fx_CI 154 [(0, x2)] σ1 Q (fun y2 σ2 => ((y2 ≠ 0 → fx_CI 149 [(0, x3), (0, 0), (0, 12)] σ2 Q (fun y3 σ3 => ((y3 ≠ 0 → fx_CV 166 [(46, o0), (0, x1), (59, 0)] (fx_up σ3 46 o0 0 0) Q (fun σ4 => fx_CV 166 [(46, o0), (0, x2), (59, 1)] σ4 Q (fun σ5 => fx_Wp 249 70 [(46, o0), (0, x1), (0, x2), (0, x3), (0, 0), (0, 0), (3, 0)] [] σ5 Q))) ∧ (y3 = 0 → Q (0, 0) (fx_up σ3 46 o0 0 2))))) ∧ (y2 = 0 → Q (0, 0) (fx_up σ2 46 o0 0 1)))))))) : fx_Ca 249 [(46, o0), (0, x1), (0, x2), (0, x3)] σ Q := by
  show fx_Wp 249 0 [(46, o0), (0, x1), (0, x2), (0, x3), (3, 0), (3, 0), (3, 0)] [] σ Q
  refine wi_aload_n (pc' := 1) hm249 rfl rfl rfl (by decide) ?_
  refine wi_iload_n (pc' := 2) hm249 rfl rfl rfl ?_
  refine wc_I (pc' := 5) (by decide) rfl (by decide) ((fx_wE hm249 rfl).trans (fx_exS (mj := 154) (as := [(0, x1)]) (rest := [(46, o0)]) rfl rk154 rfl rfl rfl rfl)) h (fun y1 σ1 h => ?_)
  refine wi_if_eq (pc' := 8) (t := 15) hm249 rfl rfl rfl (fun hc => ?_) (fun hc => ?_)
  · replace h := h.1 hc
    refine wi_iconst (pc' := 16) (v := 1) hm249 rfl rfl rfl ?_
    refine wi_goto (t := 34) hm249 rfl rfl ?_
    refine wi_putI (pc' := 37) hm249 rfl rfl (P := 0) rfl ?_
    refine wi_aload_n (pc' := 38) hm249 rfl rfl rfl (by decide) ?_
    refine wi_getIe (pc' := 41) hm249 rfl rfl (P := 0) rfl (x := 1) fx_upS ?_
    refine wi_if_le (pc' := 44) (t := 46) hm249 rfl rfl rfl (fun hc => absurd hc (by decide)) (fun _ => ?_)
    refine wi_iconst (pc' := 45) (v := 0) hm249 rfl rfl rfl ?_
    exact wi_iret hm249 rfl h
  · replace h := h.2 hc
    refine wi_iload_n (pc' := 9) hm249 rfl rfl rfl ?_
    refine wc_I (pc' := 12) (by decide) rfl (by decide) ((fx_wE hm249 rfl).trans (fx_exS (mj := 154) (as := [(0, x2)]) (rest := [(46, o0)]) rfl rk154 rfl rfl rfl rfl)) h (fun y2 σ2 h => ?_)
    refine wi_if_ne (pc' := 15) (t := 19) hm249 rfl rfl rfl (fun hc => ?_) (fun hc => ?_)
    · replace h := h.1 hc
      refine wi_iload_n (pc' := 20) hm249 rfl rfl rfl ?_
      refine wi_iconst (pc' := 21) (v := 0) hm249 rfl rfl rfl ?_
      refine wi_bipush (pc' := 23) (v := 12) hm249 rfl rfl rfl ?_
      refine wc_I (pc' := 26) (by decide) rfl (by decide) ((fx_wE hm249 rfl).trans (fx_exS (mj := 149) (as := [(0, x3), (0, 0), (0, 12)]) (rest := [(46, o0)]) rfl rk149 rfl rfl rfl rfl)) h (fun y3 σ3 h => ?_)
      refine wi_if_ne (pc' := 29) (t := 33) hm249 rfl rfl rfl (fun hc => ?_) (fun hc => ?_)
      · replace h := h.1 hc
        refine wi_iconst (pc' := 34) (v := 0) hm249 rfl rfl rfl ?_
        refine wi_putI (pc' := 37) hm249 rfl rfl (P := 0) rfl ?_
        refine wi_aload_n (pc' := 38) hm249 rfl rfl rfl (by decide) ?_
        refine wi_getIe (pc' := 41) hm249 rfl rfl (P := 0) rfl (x := 0) fx_upS ?_
        refine wi_if_le (pc' := 44) (t := 46) hm249 rfl rfl rfl (fun _ => ?_) (fun hc => absurd hc (by decide))
        refine wi_aload_n (pc' := 47) hm249 rfl rfl rfl (by decide) ?_
        refine wi_iload_n (pc' := 48) hm249 rfl rfl rfl ?_
        refine wi_aload_n (pc' := 49) hm249 rfl rfl rfl (by decide) ?_
        refine wi_getR (pc' := 52) (x := 0) hm249 rfl rfl rfl (by omega) ?_
        refine wc_V (pc' := 55) (by decide) rfl (by decide) ((fx_wE hm249 rfl).trans (fx_exV (mj := 166) (as := [(0, x1), (59, 0)]) (rest := []) rfl rk166 rfl rfl rfl rfl rfl)) h (fun σ4 h => ?_)
        refine wi_aload_n (pc' := 56) hm249 rfl rfl rfl (by decide) ?_
        refine wi_iload_n (pc' := 57) hm249 rfl rfl rfl ?_
        refine wi_aload_n (pc' := 58) hm249 rfl rfl rfl (by decide) ?_
        refine wi_getR (pc' := 61) (x := 1) hm249 rfl rfl rfl (by omega) ?_
        refine wc_V (pc' := 64) (by decide) rfl (by decide) ((fx_wE hm249 rfl).trans (fx_exV (mj := 166) (as := [(0, x2), (59, 1)]) (rest := []) rfl rk166 rfl rfl rfl rfl rfl)) h (fun σ5 h => ?_)
        refine wi_iconst (pc' := 65) (v := 0) hm249 rfl rfl rfl ?_
        refine wi_istore (pc' := 67) (L' := [(46, o0), (0, x1), (0, x2), (0, x3), (0, 0), (3, 0), (3, 0)]) hm249 rfl rfl rfl ?_
        refine wi_iconst (pc' := 68) (v := 0) hm249 rfl rfl rfl ?_
        refine wi_istore (pc' := 70) (L' := [(46, o0), (0, x1), (0, x2), (0, x3), (0, 0), (0, 0), (3, 0)]) hm249 rfl rfl rfl ?_
        exact h
      · replace h := h.2 hc
        refine wi_iconst (pc' := 30) (v := 2) hm249 rfl rfl rfl ?_
        refine wi_goto (t := 34) hm249 rfl rfl ?_
        refine wi_putI (pc' := 37) hm249 rfl rfl (P := 0) rfl ?_
        refine wi_aload_n (pc' := 38) hm249 rfl rfl rfl (by decide) ?_
        refine wi_getIe (pc' := 41) hm249 rfl rfl (P := 0) rfl (x := 2) fx_upS ?_
        refine wi_if_le (pc' := 44) (t := 46) hm249 rfl rfl rfl (fun hc => absurd hc (by decide)) (fun _ => ?_)
        refine wi_iconst (pc' := 45) (v := 0) hm249 rfl rfl rfl ?_
        exact wi_iret hm249 rfl h
    · replace h := h.2 hc
      refine wi_iconst (pc' := 16) (v := 1) hm249 rfl rfl rfl ?_
      refine wi_goto (t := 34) hm249 rfl rfl ?_
      refine wi_putI (pc' := 37) hm249 rfl rfl (P := 0) rfl ?_
      refine wi_aload_n (pc' := 38) hm249 rfl rfl rfl (by decide) ?_
      refine wi_getIe (pc' := 41) hm249 rfl rfl (P := 0) rfl (x := 1) fx_upS ?_
      refine wi_if_le (pc' := 44) (t := 46) hm249 rfl rfl rfl (fun hc => absurd hc (by decide)) (fun _ => ?_)
      refine wi_iconst (pc' := 45) (v := 0) hm249 rfl rfl rfl ?_
      exact wi_iret hm249 rfl h
theorem t249_70 {o0 x3 x4 x5 : Int} {w1 w2 w6 : fx_V} {σ : fx_S} {Q : fx_V → fx_S → Prop} (h : ((1000 ≤ x5 → Q (0, x4) σ) ∧ (x5 < 1000 → (0 ≤ x5 ∧ x5 < 1000) ∧ (((σ 59 0 x5) ≠ (-1) → fx_Wp 249 95 [(46, o0), w1, w2, (0, x3), (0, x4), (0, x5), (0, 0)] [] σ Q) ∧ ((σ 59 0 x5) = (-1) → fx_CI 218 [(46, o0), (59, 0), (0, x5)] σ Q (fun y1 σ1 => fx_Wp 249 70 [(46, o0), w1, w2, (0, x3), (0, x4), (0, y1), w6] [] σ1 Q)))))) : fx_Wp 249 70 [(46, o0), w1, w2, (0, x3), (0, x4), (0, x5), w6] [] σ Q := by
  refine wi_iload (pc' := 72) hm249 rfl rfl rfl ?_
  refine wi_sipush (pc' := 75) (v := 1000) hm249 rfl rfl rfl ?_
  refine wi_ic_ge (pc' := 78) (t := 185) hm249 rfl rfl rfl (fun hc => ?_) (fun hc => ?_)
  · replace h := h.1 hc
    refine wi_iload (pc' := 187) hm249 rfl rfl rfl ?_
    exact wi_iret hm249 rfl h
  · replace h := h.2 hc
    refine wi_aload_n (pc' := 79) hm249 rfl rfl rfl (by decide) ?_
    refine wi_getR (pc' := 82) (x := 0) hm249 rfl rfl rfl (by omega) ?_
    refine wi_iload (pc' := 84) hm249 rfl rfl rfl ?_
    obtain ⟨g1, h⟩ := h
    refine wi_iaload (pc' := 85) hm249 rfl rfl rfl rfl (N := 1000) rfl g1 ?_
    refine wi_iconst (pc' := 86) (v := (-1)) hm249 rfl rfl rfl ?_
    refine wi_ic_ne (pc' := 89) (t := 92) hm249 rfl rfl rfl (fun hc => ?_) (fun hc => ?_)
    · replace h := h.1 hc
      refine wi_iconst (pc' := 93) (v := 0) hm249 rfl rfl rfl ?_
      refine wi_istore (pc' := 95) (L' := [(46, o0), w1, w2, (0, x3), (0, x4), (0, x5), (0, 0)]) hm249 rfl rfl rfl ?_
      exact h
    · replace h := h.2 hc
      refine wi_goto (t := 170) hm249 rfl rfl ?_
      refine wi_aload_n (pc' := 171) hm249 rfl rfl rfl (by decide) ?_
      refine wi_aload_n (pc' := 172) hm249 rfl rfl rfl (by decide) ?_
      refine wi_getR (pc' := 175) (x := 0) hm249 rfl rfl rfl (by omega) ?_
      refine wi_iload (pc' := 177) hm249 rfl rfl rfl ?_
      refine wc_I (pc' := 180) (by decide) rfl (by decide) ((fx_wE hm249 rfl).trans (fx_exV (mj := 218) (as := [(59, 0), (0, x5)]) (rest := []) rfl rk218 rfl rfl rfl rfl rfl)) h (fun y1 σ1 h => ?_)
      refine wi_istore (pc' := 182) (L' := [(46, o0), w1, w2, (0, x3), (0, x4), (0, y1), w6]) hm249 rfl rfl rfl ?_
      refine wi_goto (t := 70) hm249 rfl rfl ?_
      exact h
theorem t249_95 {o0 x3 x4 x5 x6 : Int} {w1 w2 : fx_V} {σ : fx_S} {Q : fx_V → fx_S → Prop} (h : ((1000 ≤ x6 → fx_CI 218 [(46, o0), (59, 0), (0, x5)] σ Q (fun y1 σ1 => fx_Wp 249 70 [(46, o0), w1, w2, (0, x3), (0, x4), (0, y1), (0, x6)] [] σ1 Q)) ∧ (x6 < 1000 → (0 ≤ x6 ∧ x6 < 1000) ∧ (((σ 59 1 x6) = (-1) → (fx_rg (x4 + 0)) ∧ fx_CI 218 [(46, o0), (59, 1), (0, x6)] σ Q (fun y2 σ2 => fx_Wp 249 95 [(46, o0), w1, w2, (0, x3), (0, (x4 + 0)), (0, x5), (0, y2)] [] σ2 Q)) ∧ ((σ 59 1 x6) ≠ (-1) → fx_CI 218 [(46, o0), (59, 0), (0, x5)] σ Q (fun y3 σ3 => fx_CI 218 [(46, o0), (59, 1), (0, x6)] σ3 Q (fun y4 σ4 => fx_CI 231 [(0, x5), (0, y3), (0, x6), (0, y4)] σ4 Q (fun y5 σ5 => ((y5 ≠ x3 → (fx_rg (x4 + 0)) ∧ fx_CI 218 [(46, o0), (59, 1), (0, x6)] σ5 Q (fun y6 σ6 => fx_Wp 249 95 [(46, o0), w1, w2, (0, x3), (0, (x4 + 0)), (0, x5), (0, y6)] [] σ6 Q)) ∧ (y5 = x3 → (fx_rg (x4 + 1)) ∧ fx_CI 218 [(46, o0), (59, 1), (0, x6)] σ5 Q (fun y7 σ7 => fx_Wp 249 95 [(46, o0), w1, w2, (0, x3), (0, (x4 + 1)), (0, x5), (0, y7)] [] σ7 Q))))))))))) : fx_Wp 249 95 [(46, o0), w1, w2, (0, x3), (0, x4), (0, x5), (0, x6)] [] σ Q := by
  refine wi_iload (pc' := 97) hm249 rfl rfl rfl ?_
  refine wi_sipush (pc' := 100) (v := 1000) hm249 rfl rfl rfl ?_
  refine wi_ic_ge (pc' := 103) (t := 170) hm249 rfl rfl rfl (fun hc => ?_) (fun hc => ?_)
  · replace h := h.1 hc
    refine wi_aload_n (pc' := 171) hm249 rfl rfl rfl (by decide) ?_
    refine wi_aload_n (pc' := 172) hm249 rfl rfl rfl (by decide) ?_
    refine wi_getR (pc' := 175) (x := 0) hm249 rfl rfl rfl (by omega) ?_
    refine wi_iload (pc' := 177) hm249 rfl rfl rfl ?_
    refine wc_I (pc' := 180) (by decide) rfl (by decide) ((fx_wE hm249 rfl).trans (fx_exV (mj := 218) (as := [(59, 0), (0, x5)]) (rest := []) rfl rk218 rfl rfl rfl rfl rfl)) h (fun y1 σ1 h => ?_)
    refine wi_istore (pc' := 182) (L' := [(46, o0), w1, w2, (0, x3), (0, x4), (0, y1), (0, x6)]) hm249 rfl rfl rfl ?_
    refine wi_goto (t := 70) hm249 rfl rfl ?_
    exact h
  · replace h := h.2 hc
    refine wi_iload (pc' := 105) hm249 rfl rfl rfl ?_
    refine wi_aload_n (pc' := 106) hm249 rfl rfl rfl (by decide) ?_
    refine wi_getR (pc' := 109) (x := 1) hm249 rfl rfl rfl (by omega) ?_
    refine wi_iload (pc' := 111) hm249 rfl rfl rfl ?_
    obtain ⟨g1, h⟩ := h
    refine wi_iaload (pc' := 112) hm249 rfl rfl rfl rfl (N := 1000) rfl g1 ?_
    refine wi_iconst (pc' := 113) (v := (-1)) hm249 rfl rfl rfl ?_
    refine wi_ic_eq (pc' := 116) (t := 151) hm249 rfl rfl rfl (fun hc => ?_) (fun hc => ?_)
    · replace h := h.1 hc
      refine wi_iconst (pc' := 152) (v := 0) hm249 rfl rfl rfl ?_
      obtain ⟨g2, h⟩ := h
      refine wi_iadd (pc' := 153) hm249 rfl rfl g2 ?_
      refine wi_istore (pc' := 155) (L' := [(46, o0), w1, w2, (0, x3), (0, (x4 + 0)), (0, x5), (0, x6)]) hm249 rfl rfl rfl ?_
      refine wi_aload_n (pc' := 156) hm249 rfl rfl rfl (by decide) ?_
      refine wi_aload_n (pc' := 157) hm249 rfl rfl rfl (by decide) ?_
      refine wi_getR (pc' := 160) (x := 1) hm249 rfl rfl rfl (by omega) ?_
      refine wi_iload (pc' := 162) hm249 rfl rfl rfl ?_
      refine wc_I (pc' := 165) (by decide) rfl (by decide) ((fx_wE hm249 rfl).trans (fx_exV (mj := 218) (as := [(59, 1), (0, x6)]) (rest := []) rfl rk218 rfl rfl rfl rfl rfl)) h (fun y2 σ2 h => ?_)
      refine wi_istore (pc' := 167) (L' := [(46, o0), w1, w2, (0, x3), (0, (x4 + 0)), (0, x5), (0, y2)]) hm249 rfl rfl rfl ?_
      refine wi_goto (t := 95) hm249 rfl rfl ?_
      exact h
    · replace h := h.2 hc
      refine wi_iload (pc' := 118) hm249 rfl rfl rfl ?_
      refine wi_aload_n (pc' := 119) hm249 rfl rfl rfl (by decide) ?_
      refine wi_aload_n (pc' := 120) hm249 rfl rfl rfl (by decide) ?_
      refine wi_getR (pc' := 123) (x := 0) hm249 rfl rfl rfl (by omega) ?_
      refine wi_iload (pc' := 125) hm249 rfl rfl rfl ?_
      refine wc_I (pc' := 128) (by decide) rfl (by decide) ((fx_wE hm249 rfl).trans (fx_exV (mj := 218) (as := [(59, 0), (0, x5)]) (rest := [(0, x5), (0, x4)]) rfl rk218 rfl rfl rfl rfl rfl)) h (fun y3 σ3 h => ?_)
      refine wi_iload (pc' := 130) hm249 rfl rfl rfl ?_
      refine wi_aload_n (pc' := 131) hm249 rfl rfl rfl (by decide) ?_
      refine wi_aload_n (pc' := 132) hm249 rfl rfl rfl (by decide) ?_
      refine wi_getR (pc' := 135) (x := 1) hm249 rfl rfl rfl (by omega) ?_
      refine wi_iload (pc' := 137) hm249 rfl rfl rfl ?_
      refine wc_I (pc' := 140) (by decide) rfl (by decide) ((fx_wE hm249 rfl).trans (fx_exV (mj := 218) (as := [(59, 1), (0, x6)]) (rest := [(0, x6), (0, y3), (0, x5), (0, x4)]) rfl rk218 rfl rfl rfl rfl rfl)) h (fun y4 σ4 h => ?_)
      refine wc_I (pc' := 143) (by decide) rfl (by decide) ((fx_wE hm249 rfl).trans (fx_exS (mj := 231) (as := [(0, x5), (0, y3), (0, x6), (0, y4)]) (rest := [(0, x4)]) rfl rk231 rfl rfl rfl rfl)) h (fun y5 σ5 h => ?_)
      refine wi_iload_n (pc' := 144) hm249 rfl rfl rfl ?_
      refine wi_ic_ne (pc' := 147) (t := 151) hm249 rfl rfl rfl (fun hc => ?_) (fun hc => ?_)
      · replace h := h.1 hc
        refine wi_iconst (pc' := 152) (v := 0) hm249 rfl rfl rfl ?_
        obtain ⟨g2, h⟩ := h
        refine wi_iadd (pc' := 153) hm249 rfl rfl g2 ?_
        refine wi_istore (pc' := 155) (L' := [(46, o0), w1, w2, (0, x3), (0, (x4 + 0)), (0, x5), (0, x6)]) hm249 rfl rfl rfl ?_
        refine wi_aload_n (pc' := 156) hm249 rfl rfl rfl (by decide) ?_
        refine wi_aload_n (pc' := 157) hm249 rfl rfl rfl (by decide) ?_
        refine wi_getR (pc' := 160) (x := 1) hm249 rfl rfl rfl (by omega) ?_
        refine wi_iload (pc' := 162) hm249 rfl rfl rfl ?_
        refine wc_I (pc' := 165) (by decide) rfl (by decide) ((fx_wE hm249 rfl).trans (fx_exV (mj := 218) (as := [(59, 1), (0, x6)]) (rest := []) rfl rk218 rfl rfl rfl rfl rfl)) h (fun y6 σ6 h => ?_)
        refine wi_istore (pc' := 167) (L' := [(46, o0), w1, w2, (0, x3), (0, (x4 + 0)), (0, x5), (0, y6)]) hm249 rfl rfl rfl ?_
        refine wi_goto (t := 95) hm249 rfl rfl ?_
        exact h
      · replace h := h.2 hc
        refine wi_iconst (pc' := 148) (v := 1) hm249 rfl rfl rfl ?_
        refine wi_goto (t := 152) hm249 rfl rfl ?_
        obtain ⟨g2, h⟩ := h
        refine wi_iadd (pc' := 153) hm249 rfl rfl g2 ?_
        refine wi_istore (pc' := 155) (L' := [(46, o0), w1, w2, (0, x3), (0, (x4 + 1)), (0, x5), (0, x6)]) hm249 rfl rfl rfl ?_
        refine wi_aload_n (pc' := 156) hm249 rfl rfl rfl (by decide) ?_
        refine wi_aload_n (pc' := 157) hm249 rfl rfl rfl (by decide) ?_
        refine wi_getR (pc' := 160) (x := 1) hm249 rfl rfl rfl (by omega) ?_
        refine wi_iload (pc' := 162) hm249 rfl rfl rfl ?_
        refine wc_I (pc' := 165) (by decide) rfl (by decide) ((fx_wE hm249 rfl).trans (fx_exV (mj := 218) (as := [(59, 1), (0, x6)]) (rest := []) rfl rk218 rfl rfl rfl rfl rfl)) h (fun y7 σ7 h => ?_)
        refine wi_istore (pc' := 167) (L' := [(46, o0), w1, w2, (0, x3), (0, (x4 + 1)), (0, x5), (0, y7)]) hm249 rfl rfl rfl ?_
        refine wi_goto (t := 95) hm249 rfl rfl ?_
        exact h
set_option maxRecDepth 10000 in
theorem hm250 : fx_code 250 = fx_c250 := rfl
theorem t250_0 {o0 x1 x2 x3 : Int} {σ : fx_S} {Q : fx_V → fx_S → Prop} (h : fx_CI 154 [(0, x1)] σ Q (fun y1 σ1 => ((y1 = 0 → Q (0, 0) (fx_up σ1 46 o0 0 1)) ∧ (y1 ≠ 0 → fx_CI 155 [(0, x2)] σ1 Q (fun y2 σ2 => ((y2 ≠ 0 → fx_CI 149 [(0, x3), (0, 0), (0, (σ2 47 0 1))] σ2 Q (fun y3 σ3 => ((y3 ≠ 0 → fx_CV 165 [(46, o0), (0, x2)] (fx_up (fx_up σ3 46 o0 0 0) 46 o0 21 x3) Q (fun σ4 => (0 ≤ x1 ∧ x1 < 8) ∧ Q (0, (σ4 55 0 x1)) (fx_up σ4 46 o0 21 60))) ∧ (y3 = 0 → Q (0, 0) (fx_up σ3 46 o0 0 2))))) ∧ (y2 = 0 → Q (0, 0) (fx_up σ2 46 o0 0 1)))))))) : fx_Ca 250 [(46, o0), (0, x1), (0, x2), (0, x3)] σ Q := by
  show fx_Wp 250 0 [(46, o0), (0, x1), (0, x2), (0, x3)] [] σ Q
  refine wi_aload_n (pc' := 1) hm250 rfl rfl rfl (by decide) ?_
  refine wi_iload_n (pc' := 2) hm250 rfl rfl rfl ?_
  refine wc_I (pc' := 5) (by decide) rfl (by decide) ((fx_wE hm250 rfl).trans (fx_exS (mj := 154) (as := [(0, x1)]) (rest := [(46, o0)]) rfl rk154 rfl rfl rfl rfl)) h (fun y1 σ1 h => ?_)
  refine wi_if_eq (pc' := 8) (t := 15) hm250 rfl rfl rfl (fun hc => ?_) (fun hc => ?_)
  · replace h := h.1 hc
    refine wi_iconst (pc' := 16) (v := 1) hm250 rfl rfl rfl ?_
    refine wi_goto (t := 38) hm250 rfl rfl ?_
    refine wi_putI (pc' := 41) hm250 rfl rfl (P := 0) rfl ?_
    refine wi_aload_n (pc' := 42) hm250 rfl rfl rfl (by decide) ?_
    refine wi_getIe (pc' := 45) hm250 rfl rfl (P := 0) rfl (x := 1) fx_upS ?_
    refine wi_if_le (pc' := 48) (t := 50) hm250 rfl rfl rfl (fun hc => absurd hc (by decide)) (fun _ => ?_)
    refine wi_iconst (pc' := 49) (v := 0) hm250 rfl rfl rfl ?_
    exact wi_iret hm250 rfl h
  · replace h := h.2 hc
    refine wi_iload_n (pc' := 9) hm250 rfl rfl rfl ?_
    refine wc_I (pc' := 12) (by decide) rfl (by decide) ((fx_wE hm250 rfl).trans (fx_exS (mj := 155) (as := [(0, x2)]) (rest := [(46, o0)]) rfl rk155 rfl rfl rfl rfl)) h (fun y2 σ2 h => ?_)
    refine wi_if_ne (pc' := 15) (t := 19) hm250 rfl rfl rfl (fun hc => ?_) (fun hc => ?_)
    · replace h := h.1 hc
      refine wi_iload_n (pc' := 20) hm250 rfl rfl rfl ?_
      refine wi_iconst (pc' := 21) (v := 0) hm250 rfl rfl rfl ?_
      refine wi_aload_n (pc' := 22) hm250 rfl rfl rfl (by decide) ?_
      refine wi_getR (pc' := 25) (x := 0) hm250 rfl rfl rfl (by omega) ?_
      refine wi_iconst (pc' := 26) (v := 1) hm250 rfl rfl rfl ?_
      refine wi_iaload (pc' := 27) hm250 rfl rfl rfl rfl (N := 1130) rfl (by decide) ?_
      refine wc_I (pc' := 30) (by decide) rfl (by decide) ((fx_wE hm250 rfl).trans (fx_exS (mj := 149) (as := [(0, x3), (0, 0), (0, (σ2 47 0 1))]) (rest := [(46, o0)]) rfl rk149 rfl rfl rfl rfl)) h (fun y3 σ3 h => ?_)
      refine wi_if_ne (pc' := 33) (t := 37) hm250 rfl rfl rfl (fun hc => ?_) (fun hc => ?_)
      · replace h := h.1 hc
        refine wi_iconst (pc' := 38) (v := 0) hm250 rfl rfl rfl ?_
        refine wi_putI (pc' := 41) hm250 rfl rfl (P := 0) rfl ?_
        refine wi_aload_n (pc' := 42) hm250 rfl rfl rfl (by decide) ?_
        refine wi_getIe (pc' := 45) hm250 rfl rfl (P := 0) rfl (x := 0) fx_upS ?_
        refine wi_if_le (pc' := 48) (t := 50) hm250 rfl rfl rfl (fun _ => ?_) (fun hc => absurd hc (by decide))
        refine wi_aload_n (pc' := 51) hm250 rfl rfl rfl (by decide) ?_
        refine wi_iload_n (pc' := 52) hm250 rfl rfl rfl ?_
        refine wi_putI (pc' := 55) hm250 rfl rfl (P := 21) rfl ?_
        refine wi_aload_n (pc' := 56) hm250 rfl rfl rfl (by decide) ?_
        refine wi_iload_n (pc' := 57) hm250 rfl rfl rfl ?_
        refine wc_V (pc' := 60) (by decide) rfl (by decide) ((fx_wE hm250 rfl).trans (fx_exV (mj := 165) (as := [(0, x2)]) (rest := []) rfl rk165 rfl rfl rfl rfl rfl)) h (fun σ4 h => ?_)
        refine wi_aload_n (pc' := 61) hm250 rfl rfl rfl (by decide) ?_
        refine wi_bipush (pc' := 63) (v := 60) hm250 rfl rfl rfl ?_
        refine wi_putI (pc' := 66) hm250 rfl rfl (P := 21) rfl ?_
        refine wi_aload_n (pc' := 67) hm250 rfl rfl rfl (by decide) ?_
        refine wi_getR (pc' := 70) (x := 0) hm250 rfl rfl rfl (by omega) ?_
        refine wi_iload_n (pc' := 71) hm250 rfl rfl rfl ?_
        obtain ⟨g1, h⟩ := h
        refine wi_ialoade (pc' := 72) hm250 rfl rfl rfl rfl (N := 8) rfl g1 (x := (σ4 55 0 x1)) (Eq.trans (fx_upK rfl) rfl) ?_
        exact wi_iret hm250 rfl h
      · replace h := h.2 hc
        refine wi_iconst (pc' := 34) (v := 2) hm250 rfl rfl rfl ?_
        refine wi_goto (t := 38) hm250 rfl rfl ?_
        refine wi_putI (pc' := 41) hm250 rfl rfl (P := 0) rfl ?_
        refine wi_aload_n (pc' := 42) hm250 rfl rfl rfl (by decide) ?_
        refine wi_getIe (pc' := 45) hm250 rfl rfl (P := 0) rfl (x := 2) fx_upS ?_
        refine wi_if_le (pc' := 48) (t := 50) hm250 rfl rfl rfl (fun hc => absurd hc (by decide)) (fun _ => ?_)
        refine wi_iconst (pc' := 49) (v := 0) hm250 rfl rfl rfl ?_
        exact wi_iret hm250 rfl h
    · replace h := h.2 hc
      refine wi_iconst (pc' := 16) (v := 1) hm250 rfl rfl rfl ?_
      refine wi_goto (t := 38) hm250 rfl rfl ?_
      refine wi_putI (pc' := 41) hm250 rfl rfl (P := 0) rfl ?_
      refine wi_aload_n (pc' := 42) hm250 rfl rfl rfl (by decide) ?_
      refine wi_getIe (pc' := 45) hm250 rfl rfl (P := 0) rfl (x := 1) fx_upS ?_
      refine wi_if_le (pc' := 48) (t := 50) hm250 rfl rfl rfl (fun hc => absurd hc (by decide)) (fun _ => ?_)
      refine wi_iconst (pc' := 49) (v := 0) hm250 rfl rfl rfl ?_
      exact wi_iret hm250 rfl h
set_option maxRecDepth 10000 in
theorem hm251 : fx_code 251 = fx_c251 := rfl
theorem t251_0 {o0 x1 : Int} {σ : fx_S} {Q : fx_V → fx_S → Prop} (h : fx_Wp 251 7 [(46, o0), (0, x1), (0, 0), (3, 0), (3, 0)] [] (fx_up σ 46 o0 0 0) Q) : fx_Ca 251 [(46, o0), (0, x1)] σ Q := by
  show fx_Wp 251 0 [(46, o0), (0, x1), (3, 0), (3, 0), (3, 0)] [] σ Q
  refine wi_aload_n (pc' := 1) hm251 rfl rfl rfl (by decide) ?_
  refine wi_iconst (pc' := 2) (v := 0) hm251 rfl rfl rfl ?_
  refine wi_putI (pc' := 5) hm251 rfl rfl (P := 0) rfl ?_
  refine wi_iconst (pc' := 6) (v := 0) hm251 rfl rfl rfl ?_
  refine wi_istore_n (pc' := 7) (L' := [(46, o0), (0, x1), (0, 0), (3, 0), (3, 0)]) hm251 rfl rfl rfl ?_
  exact h
theorem t251_7 {o0 x1 x2 : Int} {w3 w4 : fx_V} {σ : fx_S} {Q : fx_V → fx_S → Prop} (h : (((σ 47 0 0) ≤ x2 → Q (0, (-1)) σ) ∧ (x2 < (σ 47 0 0) → fx_Wp 251 22 [(46, o0), (0, x1), (0, x2), (0, 0), (0, 0)] [] σ Q))) : fx_Wp 251 7 [(46, o0), (0, x1), (0, x2), w3, w4] [] σ Q := by
  refine wi_iload_n (pc' := 8) hm251 rfl rfl rfl ?_
  refine wi_aload_n (pc' := 9) hm251 rfl rfl rfl (by decide) ?_
  refine wi_getR (pc' := 12) (x := 0) hm251 rfl rfl rfl (by omega) ?_
  refine wi_iconst (pc' := 13) (v := 0) hm251 rfl rfl rfl ?_
  refine wi_iaload (pc' := 14) hm251 rfl rfl rfl rfl (N := 1130) rfl (by decide) ?_
  refine wi_ic_ge (pc' := 17) (t := 106) hm251 rfl rfl rfl (fun hc => ?_) (fun hc => ?_)
  · replace h := h.1 hc
    refine wi_iconst (pc' := 107) (v := (-1)) hm251 rfl rfl rfl ?_
    exact wi_iret hm251 rfl h
  · replace h := h.2 hc
    refine wi_iconst (pc' := 18) (v := 0) hm251 rfl rfl rfl ?_
    refine wi_istore_n (pc' := 19) (L' := [(46, o0), (0, x1), (0, x2), (0, 0), w4]) hm251 rfl rfl rfl ?_
    refine wi_iconst (pc' := 20) (v := 0) hm251 rfl rfl rfl ?_
    refine wi_istore (pc' := 22) (L' := [(46, o0), (0, x1), (0, x2), (0, 0), (0, 0)]) hm251 rfl rfl rfl ?_
    exact h
theorem t251_22 {o0 x1 x2 x3 x4 : Int} {σ : fx_S} {Q : fx_V → fx_S → Prop} (h : (((σ 47 0 0) ≤ x4 → ((x3 ≠ x1 → (fx_rg (x2 + 1)) ∧ fx_Wp 251 7 [(46, o0), (0, x1), (0, (x2 + 1)), (0, x3), (0, x4)] [] σ Q) ∧ (x3 = x1 → Q (0, x2) σ))) ∧ (x4 < (σ 47 0 0) → (fx_rg (2 + x4)) ∧ (0 ≤ (2 + x4) ∧ (2 + x4) < 1130) ∧ (fx_rg (2 + x2)) ∧ (0 ≤ (2 + x2) ∧ (2 + x2) < 1130) ∧ (((σ 47 0 (2 + x2)) < (σ 47 0 (2 + x4)) → (fx_rg (x3 + 1)) ∧ (fx_rg (x4 + 1)) ∧ fx_Wp 251 22 [(46, o0), (0, x1), (0, x2), (0, (x3 + 1)), (0, (x4 + 1))] [] σ Q) ∧ ((σ 47 0 (2 + x4)) ≤ (σ 47 0 (2 + x2)) → (((σ 47 0 (2 + x4)) ≠ (σ 47 0 (2 + x2)) → (fx_rg (x3 + 0)) ∧ (fx_rg (x4 + 1)) ∧ fx_Wp 251 22 [(46, o0), (0, x1), (0, x2), (0, (x3 + 0)), (0, (x4 + 1))] [] σ Q) ∧ ((σ 47 0 (2 + x4)) = (σ 47 0 (2 + x2)) → ((x2 ≤ x4 → (fx_rg (x3 + 0)) ∧ (fx_rg (x4 + 1)) ∧ fx_Wp 251 22 [(46, o0), (0, x1), (0, x2), (0, (x3 + 0)), (0, (x4 + 1))] [] σ Q) ∧ (x4 < x2 → (fx_rg (x3 + 1)) ∧ (fx_rg (x4 + 1)) ∧ fx_Wp 251 22 [(46, o0), (0, x1), (0, x2), (0, (x3 + 1)), (0, (x4 + 1))] [] σ Q))))))))) : fx_Wp 251 22 [(46, o0), (0, x1), (0, x2), (0, x3), (0, x4)] [] σ Q := by
  refine wi_iload (pc' := 24) hm251 rfl rfl rfl ?_
  refine wi_aload_n (pc' := 25) hm251 rfl rfl rfl (by decide) ?_
  refine wi_getR (pc' := 28) (x := 0) hm251 rfl rfl rfl (by omega) ?_
  refine wi_iconst (pc' := 29) (v := 0) hm251 rfl rfl rfl ?_
  refine wi_iaload (pc' := 30) hm251 rfl rfl rfl rfl (N := 1130) rfl (by decide) ?_
  refine wi_ic_ge (pc' := 33) (t := 93) hm251 rfl rfl rfl (fun hc => ?_) (fun hc => ?_)
  · replace h := h.1 hc
    refine wi_iload_n (pc' := 94) hm251 rfl rfl rfl ?_
    refine wi_iload_n (pc' := 95) hm251 rfl rfl rfl ?_
    refine wi_ic_ne (pc' := 98) (t := 100) hm251 rfl rfl rfl (fun hc => ?_) (fun hc => ?_)
    · replace h := h.1 hc
      obtain ⟨g1, h⟩ := h
      refine wi_iinc (pc' := 103) (L' := [(46, o0), (0, x1), (0, (x2 + 1)), (0, x3), (0, x4)]) hm251 rfl rfl rfl g1 rfl ?_
      refine wi_goto (t := 7) hm251 rfl rfl ?_
      exact h
    · replace h := h.2 hc
      refine wi_iload_n (pc' := 99) hm251 rfl rfl rfl ?_
      exact wi_iret hm251 rfl h
  · replace h := h.2 hc
    refine wi_iload_n (pc' := 34) hm251 rfl rfl rfl ?_
    refine wi_aload_n (pc' := 35) hm251 rfl rfl rfl (by decide) ?_
    refine wi_getR (pc' := 38) (x := 0) hm251 rfl rfl rfl (by omega) ?_
    refine wi_iconst (pc' := 39) (v := 2) hm251 rfl rfl rfl ?_
    refine wi_iload (pc' := 41) hm251 rfl rfl rfl ?_
    obtain ⟨g1, h⟩ := h
    refine wi_iadd (pc' := 42) hm251 rfl rfl g1 ?_
    obtain ⟨g2, h⟩ := h
    refine wi_iaload (pc' := 43) hm251 rfl rfl rfl rfl (N := 1130) rfl g2 ?_
    refine wi_aload_n (pc' := 44) hm251 rfl rfl rfl (by decide) ?_
    refine wi_getR (pc' := 47) (x := 0) hm251 rfl rfl rfl (by omega) ?_
    refine wi_iconst (pc' := 48) (v := 2) hm251 rfl rfl rfl ?_
    refine wi_iload_n (pc' := 49) hm251 rfl rfl rfl ?_
    obtain ⟨g3, h⟩ := h
    refine wi_iadd (pc' := 50) hm251 rfl rfl g3 ?_
    obtain ⟨g4, h⟩ := h
    refine wi_iaload (pc' := 51) hm251 rfl rfl rfl rfl (N := 1130) rfl g4 ?_
    refine wi_ic_gt (pc' := 54) (t := 80) hm251 rfl rfl rfl (fun hc => ?_) (fun hc => ?_)
    · replace h := h.1 hc
      refine wi_iconst (pc' := 81) (v := 1) hm251 rfl rfl rfl ?_
      refine wi_goto (t := 85) hm251 rfl rfl ?_
      obtain ⟨g5, h⟩ := h
      refine wi_iadd (pc' := 86) hm251 rfl rfl g5 ?_
      refine wi_istore_n (pc' := 87) (L' := [(46, o0), (0, x1), (0, x2), (0, (x3 + 1)), (0, x4)]) hm251 rfl rfl rfl ?_
      obtain ⟨g6, h⟩ := h
      refine wi_iinc (pc' := 90) (L' := [(46, o0), (0, x1), (0, x2), (0, (x3 + 1)), (0, (x4 + 1))]) hm251 rfl rfl rfl g6 rfl ?_
      refine wi_goto (t := 22) hm251 rfl rfl ?_
      exact h
    · replace h := h.2 hc
      refine wi_aload_n (pc' := 55) hm251 rfl rfl rfl (by decide) ?_
      refine wi_getR (pc' := 58) (x := 0) hm251 rfl rfl rfl (by omega) ?_
      refine wi_iconst (pc' := 59) (v := 2) hm251 rfl rfl rfl ?_
      refine wi_iload (pc' := 61) hm251 rfl rfl rfl ?_
      refine wi_iadd (pc' := 62) hm251 rfl rfl g1 ?_
      refine wi_iaload (pc' := 63) hm251 rfl rfl rfl rfl (N := 1130) rfl g2 ?_
      refine wi_aload_n (pc' := 64) hm251 rfl rfl rfl (by decide) ?_
      refine wi_getR (pc' := 67) (x := 0) hm251 rfl rfl rfl (by omega) ?_
      refine wi_iconst (pc' := 68) (v := 2) hm251 rfl rfl rfl ?_
      refine wi_iload_n (pc' := 69) hm251 rfl rfl rfl ?_
      refine wi_iadd (pc' := 70) hm251 rfl rfl g3 ?_
      refine wi_iaload (pc' := 71) hm251 rfl rfl rfl rfl (N := 1130) rfl g4 ?_
      refine wi_ic_ne (pc' := 74) (t := 84) hm251 rfl rfl rfl (fun hc => ?_) (fun hc => ?_)
      · replace h := h.1 hc
        refine wi_iconst (pc' := 85) (v := 0) hm251 rfl rfl rfl ?_
        obtain ⟨g5, h⟩ := h
        refine wi_iadd (pc' := 86) hm251 rfl rfl g5 ?_
        refine wi_istore_n (pc' := 87) (L' := [(46, o0), (0, x1), (0, x2), (0, (x3 + 0)), (0, x4)]) hm251 rfl rfl rfl ?_
        obtain ⟨g6, h⟩ := h
        refine wi_iinc (pc' := 90) (L' := [(46, o0), (0, x1), (0, x2), (0, (x3 + 0)), (0, (x4 + 1))]) hm251 rfl rfl rfl g6 rfl ?_
        refine wi_goto (t := 22) hm251 rfl rfl ?_
        exact h
      · replace h := h.2 hc
        refine wi_iload (pc' := 76) hm251 rfl rfl rfl ?_
        refine wi_iload_n (pc' := 77) hm251 rfl rfl rfl ?_
        refine wi_ic_ge (pc' := 80) (t := 84) hm251 rfl rfl rfl (fun hc => ?_) (fun hc => ?_)
        · replace h := h.1 hc
          refine wi_iconst (pc' := 85) (v := 0) hm251 rfl rfl rfl ?_
          obtain ⟨g5, h⟩ := h
          refine wi_iadd (pc' := 86) hm251 rfl rfl g5 ?_
          refine wi_istore_n (pc' := 87) (L' := [(46, o0), (0, x1), (0, x2), (0, (x3 + 0)), (0, x4)]) hm251 rfl rfl rfl ?_
          obtain ⟨g6, h⟩ := h
          refine wi_iinc (pc' := 90) (L' := [(46, o0), (0, x1), (0, x2), (0, (x3 + 0)), (0, (x4 + 1))]) hm251 rfl rfl rfl g6 rfl ?_
          refine wi_goto (t := 22) hm251 rfl rfl ?_
          exact h
        · replace h := h.2 hc
          refine wi_iconst (pc' := 81) (v := 1) hm251 rfl rfl rfl ?_
          refine wi_goto (t := 85) hm251 rfl rfl ?_
          obtain ⟨g5, h⟩ := h
          refine wi_iadd (pc' := 86) hm251 rfl rfl g5 ?_
          refine wi_istore_n (pc' := 87) (L' := [(46, o0), (0, x1), (0, x2), (0, (x3 + 1)), (0, x4)]) hm251 rfl rfl rfl ?_
          obtain ⟨g6, h⟩ := h
          refine wi_iinc (pc' := 90) (L' := [(46, o0), (0, x1), (0, x2), (0, (x3 + 1)), (0, (x4 + 1))]) hm251 rfl rfl rfl g6 rfl ?_
          refine wi_goto (t := 22) hm251 rfl rfl ?_
          exact h
set_option maxRecDepth 10000 in
theorem hm252 : fx_code 252 = fx_c252 := rfl
theorem t252_0 {o0 x1 : Int} {σ : fx_S} {Q : fx_V → fx_S → Prop} (h : fx_CV 167 [(46, o0)] σ Q (fun σ1 => fx_Wp 252 8 [(46, o0), (0, x1), (0, 0), (0, 0)] [] σ1 Q)) : fx_Ca 252 [(46, o0), (0, x1)] σ Q := by
  show fx_Wp 252 0 [(46, o0), (0, x1), (3, 0), (3, 0)] [] σ Q
  refine wi_aload_n (pc' := 1) hm252 rfl rfl rfl (by decide) ?_
  refine wc_V (pc' := 4) (by decide) rfl (by decide) ((fx_wE hm252 rfl).trans (fx_exV (mj := 167) (as := []) (rest := []) rfl rk167 rfl rfl rfl rfl rfl)) h (fun σ1 h => ?_)
  refine wi_iconst (pc' := 5) (v := 0) hm252 rfl rfl rfl ?_
  refine wi_istore_n (pc' := 6) (L' := [(46, o0), (0, x1), (0, 0), (3, 0)]) hm252 rfl rfl rfl ?_
  refine wi_iconst (pc' := 7) (v := 0) hm252 rfl rfl rfl ?_
  refine wi_istore_n (pc' := 8) (L' := [(46, o0), (0, x1), (0, 0), (0, 0)]) hm252 rfl rfl rfl ?_
  exact h
theorem t252_8 {o0 x1 x2 x3 : Int} {σ : fx_S} {Q : fx_V → fx_S → Prop} (h : (((σ 47 0 1) ≤ x3 → ((x1 ≠ (-1) → Q (0, (-1)) σ) ∧ (x1 = (-1) → Q (0, x2) σ))) ∧ (x3 < (σ 47 0 1) → fx_CI 151 [(46, o0), (0, x3), (0, 5)] σ Q (fun y1 σ1 => ((y1 = 1 → (fx_rg (x3 + 1)) ∧ fx_Wp 252 8 [(46, o0), (0, x1), (0, x2), (0, (x3 + 1))] [] σ1 Q) ∧ (y1 ≠ 1 → (0 ≤ x3 ∧ x3 < 60) ∧ (((σ1 58 0 x3) ≤ 0 → ((x2 ≠ x1 → (fx_rg (x2 + 1)) ∧ (fx_rg (x3 + 1)) ∧ fx_Wp 252 8 [(46, o0), (0, x1), (0, (x2 + 1)), (0, (x3 + 1))] [] σ1 Q) ∧ (x2 = x1 → Q (0, x3) σ1))) ∧ (0 < (σ1 58 0 x3) → (fx_rg (x3 + 1)) ∧ fx_Wp 252 8 [(46, o0), (0, x1), (0, x2), (0, (x3 + 1))] [] σ1 Q)))))))) : fx_Wp 252 8 [(46, o0), (0, x1), (0, x2), (0, x3)] [] σ Q := by
  refine wi_iload_n (pc' := 9) hm252 rfl rfl rfl ?_
  refine wi_aload_n (pc' := 10) hm252 rfl rfl rfl (by decide) ?_
  refine wi_getR (pc' := 13) (x := 0) hm252 rfl rfl rfl (by omega) ?_
  refine wi_iconst (pc' := 14) (v := 1) hm252 rfl rfl rfl ?_
  refine wi_iaload (pc' := 15) hm252 rfl rfl rfl rfl (N := 1130) rfl (by decide) ?_
  refine wi_ic_ge (pc' := 18) (t := 56) hm252 rfl rfl rfl (fun hc => ?_) (fun hc => ?_)
  · replace h := h.1 hc
    refine wi_iload_n (pc' := 57) hm252 rfl rfl rfl ?_
    refine wi_iconst (pc' := 58) (v := (-1)) hm252 rfl rfl rfl ?_
    refine wi_ic_ne (pc' := 61) (t := 65) hm252 rfl rfl rfl (fun hc => ?_) (fun hc => ?_)
    · replace h := h.1 hc
      refine wi_iconst (pc' := 66) (v := (-1)) hm252 rfl rfl rfl ?_
      exact wi_iret hm252 rfl h
    · replace h := h.2 hc
      refine wi_iload_n (pc' := 62) hm252 rfl rfl rfl ?_
      refine wi_goto (t := 66) hm252 rfl rfl ?_
      exact wi_iret hm252 rfl h
  · replace h := h.2 hc
    refine wi_aload_n (pc' := 19) hm252 rfl rfl rfl (by decide) ?_
    refine wi_iload_n (pc' := 20) hm252 rfl rfl rfl ?_
    refine wi_iconst (pc' := 21) (v := 5) hm252 rfl rfl rfl ?_
    refine wc_I (pc' := 24) (by decide) rfl (by decide) ((fx_wE hm252 rfl).trans (fx_exV (mj := 151) (as := [(0, x3), (0, 5)]) (rest := []) rfl rk151 rfl rfl rfl rfl rfl)) h (fun y1 σ1 h => ?_)
    refine wi_iconst (pc' := 25) (v := 1) hm252 rfl rfl rfl ?_
    refine wi_ic_eq (pc' := 28) (t := 50) hm252 rfl rfl rfl (fun hc => ?_) (fun hc => ?_)
    · replace h := h.1 hc
      obtain ⟨g1, h⟩ := h
      refine wi_iinc (pc' := 53) (L' := [(46, o0), (0, x1), (0, x2), (0, (x3 + 1))]) hm252 rfl rfl rfl g1 rfl ?_
      refine wi_goto (t := 8) hm252 rfl rfl ?_
      exact h
    · replace h := h.2 hc
      refine wi_aload_n (pc' := 29) hm252 rfl rfl rfl (by decide) ?_
      refine wi_getR (pc' := 32) (x := 0) hm252 rfl rfl rfl (by omega) ?_
      refine wi_iload_n (pc' := 33) hm252 rfl rfl rfl ?_
      obtain ⟨g1, h⟩ := h
      refine wi_iaload (pc' := 34) hm252 rfl rfl rfl rfl (N := 60) rfl g1 ?_
      refine wi_if_le (pc' := 37) (t := 40) hm252 rfl rfl rfl (fun hc => ?_) (fun hc => ?_)
      · replace h := h.1 hc
        refine wi_iload_n (pc' := 41) hm252 rfl rfl rfl ?_
        refine wi_iload_n (pc' := 42) hm252 rfl rfl rfl ?_
        refine wi_ic_ne (pc' := 45) (t := 47) hm252 rfl rfl rfl (fun hc => ?_) (fun hc => ?_)
        · replace h := h.1 hc
          obtain ⟨g2, h⟩ := h
          refine wi_iinc (pc' := 50) (L' := [(46, o0), (0, x1), (0, (x2 + 1)), (0, x3)]) hm252 rfl rfl rfl g2 rfl ?_
          obtain ⟨g3, h⟩ := h
          refine wi_iinc (pc' := 53) (L' := [(46, o0), (0, x1), (0, (x2 + 1)), (0, (x3 + 1))]) hm252 rfl rfl rfl g3 rfl ?_
          refine wi_goto (t := 8) hm252 rfl rfl ?_
          exact h
        · replace h := h.2 hc
          refine wi_iload_n (pc' := 46) hm252 rfl rfl rfl ?_
          exact wi_iret hm252 rfl h
      · replace h := h.2 hc
        refine wi_goto (t := 50) hm252 rfl rfl ?_
        obtain ⟨g2, h⟩ := h
        refine wi_iinc (pc' := 53) (L' := [(46, o0), (0, x1), (0, x2), (0, (x3 + 1))]) hm252 rfl rfl rfl g2 rfl ?_
        refine wi_goto (t := 8) hm252 rfl rfl ?_
        exact h
set_option maxRecDepth 10000 in
theorem hm253 : fx_code 253 = fx_c253 := rfl
theorem t253_0 {o0 x1 : Int} {σ : fx_S} {Q : fx_V → fx_S → Prop} (h : ((0 ≤ x1 → fx_CI 252 [(46, o0), (0, x1)] (fx_up σ 46 o0 0 0) Q (fun y1 σ1 => Q (0, y1) σ1)) ∧ (x1 < 0 → Q (0, (-1)) (fx_up σ 46 o0 0 0)))) : fx_Ca 253 [(46, o0), (0, x1)] σ Q := by
  show fx_Wp 253 0 [(46, o0), (0, x1)] [] σ Q
  refine wi_aload_n (pc' := 1) hm253 rfl rfl rfl (by decide) ?_
  refine wi_iconst (pc' := 2) (v := 0) hm253 rfl rfl rfl ?_
  refine wi_putI (pc' := 5) hm253 rfl rfl (P := 0) rfl ?_
  refine wi_iload_n (pc' := 6) hm253 rfl rfl rfl ?_
  refine wi_if_ge (pc' := 9) (t := 13) hm253 rfl rfl rfl (fun hc => ?_) (fun hc => ?_)
  · replace h := h.1 hc
    refine wi_aload_n (pc' := 14) hm253 rfl rfl rfl (by decide) ?_
    refine wi_iload_n (pc' := 15) hm253 rfl rfl rfl ?_
    refine wc_I (pc' := 18) (by decide) rfl (by decide) ((fx_wE hm253 rfl).trans (fx_exV (mj := 252) (as := [(0, x1)]) (rest := []) rfl rk252 rfl rfl rfl rfl rfl)) h (fun y1 σ1 h => ?_)
    exact wi_iret hm253 rfl h
  · replace h := h.2 hc
    refine wi_iconst (pc' := 10) (v := (-1)) hm253 rfl rfl rfl ?_
    refine wi_goto (t := 18) hm253 rfl rfl ?_
    exact wi_iret hm253 rfl h
set_option maxRecDepth 10000 in
theorem hm254 : fx_code 254 = fx_c254 := rfl
theorem t254_0 {o0 : Int} {σ : fx_S} {Q : fx_V → fx_S → Prop} (h : fx_Wp 254 7 [(46, o0), (0, 0)] [] (fx_up σ 46 o0 0 0) Q) : fx_Ca 254 [(46, o0)] σ Q := by
  show fx_Wp 254 0 [(46, o0), (3, 0)] [] σ Q
  refine wi_aload_n (pc' := 1) hm254 rfl rfl rfl (by decide) ?_
  refine wi_iconst (pc' := 2) (v := 0) hm254 rfl rfl rfl ?_
  refine wi_putI (pc' := 5) hm254 rfl rfl (P := 0) rfl ?_
  refine wi_iconst (pc' := 6) (v := 0) hm254 rfl rfl rfl ?_
  refine wi_istore_n (pc' := 7) (L' := [(46, o0), (0, 0)]) hm254 rfl rfl rfl ?_
  exact h
theorem t254_7 {o0 x1 : Int} {σ : fx_S} {Q : fx_V → fx_S → Prop} (h : ((1130 ≤ x1 → Q (4, 0) (fx_up σ 46 o0 6 1)) ∧ (x1 < 1130 → (0 ≤ x1 ∧ x1 < 1130) ∧ (fx_rg (x1 + 1)) ∧ fx_Wp 254 7 [(46, o0), (0, (x1 + 1))] [] (fx_up σ 49 0 x1 (σ 47 0 x1)) Q))) : fx_Wp 254 7 [(46, o0), (0, x1)] [] σ Q := by
  refine wi_iload_n (pc' := 8) hm254 rfl rfl rfl ?_
  refine wi_sipush (pc' := 11) (v := 1130) hm254 rfl rfl rfl ?_
  refine wi_ic_ge (pc' := 14) (t := 32) hm254 rfl rfl rfl (fun hc => ?_) (fun hc => ?_)
  · replace h := h.1 hc
    refine wi_aload_n (pc' := 33) hm254 rfl rfl rfl (by decide) ?_
    refine wi_iconst (pc' := 34) (v := 1) hm254 rfl rfl rfl ?_
    refine wi_putZ (pc' := 37) hm254 rfl rfl (P := 6) rfl (by decide) ?_
    exact wi_vret hm254 rfl h
  · replace h := h.2 hc
    refine wi_aload_n (pc' := 15) hm254 rfl rfl rfl (by decide) ?_
    refine wi_getR (pc' := 18) (x := 0) hm254 rfl rfl rfl (by omega) ?_
    refine wi_iload_n (pc' := 19) hm254 rfl rfl rfl ?_
    refine wi_aload_n (pc' := 20) hm254 rfl rfl rfl (by decide) ?_
    refine wi_getR (pc' := 23) (x := 0) hm254 rfl rfl rfl (by omega) ?_
    refine wi_iload_n (pc' := 24) hm254 rfl rfl rfl ?_
    obtain ⟨g1, h⟩ := h
    refine wi_iaload (pc' := 25) hm254 rfl rfl rfl rfl (N := 1130) rfl g1 ?_
    refine wi_iastore (pc' := 26) hm254 rfl rfl rfl (N := 1130) rfl g1 ?_
    obtain ⟨g2, h⟩ := h
    refine wi_iinc (pc' := 29) (L' := [(46, o0), (0, (x1 + 1))]) hm254 rfl rfl rfl g2 rfl ?_
    refine wi_goto (t := 7) hm254 rfl rfl ?_
    exact h
set_option maxRecDepth 10000 in
theorem hm255 : fx_code 255 = fx_c255 := rfl
theorem t255_0 {o0 : Int} {σ : fx_S} {Q : fx_V → fx_S → Prop} (h : (((σ 46 o0 6) ≠ 0 → fx_Wp 255 16 [(46, o0), (0, 0)] [] (fx_up σ 46 o0 0 0) Q) ∧ ((σ 46 o0 6) = 0 → Q (0, 0) (fx_up σ 46 o0 0 0)))) : fx_Ca 255 [(46, o0)] σ Q := by
  show fx_Wp 255 0 [(46, o0), (3, 0)] [] σ Q
  refine wi_aload_n (pc' := 1) hm255 rfl rfl rfl (by decide) ?_
  refine wi_iconst (pc' := 2) (v := 0) hm255 rfl rfl rfl ?_
  refine wi_putI (pc' := 5) hm255 rfl rfl (P := 0) rfl ?_
  refine wi_aload_n (pc' := 6) hm255 rfl rfl rfl (by decide) ?_
  refine wi_getIe (pc' := 9) hm255 rfl rfl (P := 6) rfl (x := (σ 46 o0 6)) (Eq.trans (fx_upJ (by decide)) rfl) ?_
  refine wi_if_ne (pc' := 12) (t := 14) hm255 rfl rfl rfl (fun hc => ?_) (fun hc => ?_)
  · replace h := h.1 hc
    refine wi_iconst (pc' := 15) (v := 0) hm255 rfl rfl rfl ?_
    refine wi_istore_n (pc' := 16) (L' := [(46, o0), (0, 0)]) hm255 rfl rfl rfl ?_
    exact h
  · replace h := h.2 hc
    refine wi_iconst (pc' := 13) (v := 0) hm255 rfl rfl rfl ?_
    exact wi_zret hm255 rfl (by decide) h
theorem t255_16 {o0 x1 : Int} {σ : fx_S} {Q : fx_V → fx_S → Prop} (h : ((1130 ≤ x1 → Q (0, 1) (fx_up σ 46 o0 5 0)) ∧ (x1 < 1130 → (0 ≤ x1 ∧ x1 < 1130) ∧ (fx_rg (x1 + 1)) ∧ fx_Wp 255 16 [(46, o0), (0, (x1 + 1))] [] (fx_up σ 47 0 x1 (σ 49 0 x1)) Q))) : fx_Wp 255 16 [(46, o0), (0, x1)] [] σ Q := by
  refine wi_iload_n (pc' := 17) hm255 rfl rfl rfl ?_
  refine wi_sipush (pc' := 20) (v := 1130) hm255 rfl rfl rfl ?_
  refine wi_ic_ge (pc' := 23) (t := 41) hm255 rfl rfl rfl (fun hc => ?_) (fun hc => ?_)
  · replace h := h.1 hc
    refine wi_aload_n (pc' := 42) hm255 rfl rfl rfl (by decide) ?_
    refine wi_iconst (pc' := 43) (v := 0) hm255 rfl rfl rfl ?_
    refine wi_putI (pc' := 46) hm255 rfl rfl (P := 5) rfl ?_
    refine wi_iconst (pc' := 47) (v := 1) hm255 rfl rfl rfl ?_
    exact wi_zret hm255 rfl (by decide) h
  · replace h := h.2 hc
    refine wi_aload_n (pc' := 24) hm255 rfl rfl rfl (by decide) ?_
    refine wi_getR (pc' := 27) (x := 0) hm255 rfl rfl rfl (by omega) ?_
    refine wi_iload_n (pc' := 28) hm255 rfl rfl rfl ?_
    refine wi_aload_n (pc' := 29) hm255 rfl rfl rfl (by decide) ?_
    refine wi_getR (pc' := 32) (x := 0) hm255 rfl rfl rfl (by omega) ?_
    refine wi_iload_n (pc' := 33) hm255 rfl rfl rfl ?_
    obtain ⟨g1, h⟩ := h
    refine wi_iaload (pc' := 34) hm255 rfl rfl rfl rfl (N := 1130) rfl g1 ?_
    refine wi_iastore (pc' := 35) hm255 rfl rfl rfl (N := 1130) rfl g1 ?_
    obtain ⟨g2, h⟩ := h
    refine wi_iinc (pc' := 38) (L' := [(46, o0), (0, (x1 + 1))]) hm255 rfl rfl rfl g2 rfl ?_
    refine wi_goto (t := 16) hm255 rfl rfl ?_
    exact h
set_option maxRecDepth 10000 in
theorem hm256 : fx_code 256 = fx_c256 := rfl
theorem t256_0 {o0 : Int} {σ : fx_S} {Q : fx_V → fx_S → Prop} (h : fx_Wp 256 4 [(46, o0), (0, 0), (0, 0)] [] σ Q) : fx_Ca 256 [(46, o0)] σ Q := by
  show fx_Wp 256 0 [(46, o0), (3, 0), (3, 0)] [] σ Q
  refine wi_iconst (pc' := 1) (v := 0) hm256 rfl rfl rfl ?_
  refine wi_istore_n (pc' := 2) (L' := [(46, o0), (0, 0), (3, 0)]) hm256 rfl rfl rfl ?_
  refine wi_iconst (pc' := 3) (v := 0) hm256 rfl rfl rfl ?_
  refine wi_istore_n (pc' := 4) (L' := [(46, o0), (0, 0), (0, 0)]) hm256 rfl rfl rfl ?_
  exact h
theorem t256_4 {o0 x1 x2 : Int} {σ : fx_S} {Q : fx_V → fx_S → Prop} (h : (((σ 47 0 1) ≤ x2 → Q (0, x1) σ) ∧ (x2 < (σ 47 0 1) → fx_CI 151 [(46, o0), (0, x2), (0, 5)] σ Q (fun y1 σ1 => (fx_rg (x1 + y1)) ∧ (fx_rg (x2 + 1)) ∧ fx_Wp 256 4 [(46, o0), (0, (x1 + y1)), (0, (x2 + 1))] [] σ1 Q)))) : fx_Wp 256 4 [(46, o0), (0, x1), (0, x2)] [] σ Q := by
  refine wi_iload_n (pc' := 5) hm256 rfl rfl rfl ?_
  refine wi_aload_n (pc' := 6) hm256 rfl rfl rfl (by decide) ?_
  refine wi_getR (pc' := 9) (x := 0) hm256 rfl rfl rfl (by omega) ?_
  refine wi_iconst (pc' := 10) (v := 1) hm256 rfl rfl rfl ?_
  refine wi_iaload (pc' := 11) hm256 rfl rfl rfl rfl (N := 1130) rfl (by decide) ?_
  refine wi_ic_ge (pc' := 14) (t := 29) hm256 rfl rfl rfl (fun hc => ?_) (fun hc => ?_)
  · replace h := h.1 hc
    refine wi_iload_n (pc' := 30) hm256 rfl rfl rfl ?_
    exact wi_iret hm256 rfl h
  · replace h := h.2 hc
    refine wi_iload_n (pc' := 15) hm256 rfl rfl rfl ?_
    refine wi_aload_n (pc' := 16) hm256 rfl rfl rfl (by decide) ?_
    refine wi_iload_n (pc' := 17) hm256 rfl rfl rfl ?_
    refine wi_iconst (pc' := 18) (v := 5) hm256 rfl rfl rfl ?_
    refine wc_I (pc' := 21) (by decide) rfl (by decide) ((fx_wE hm256 rfl).trans (fx_exV (mj := 151) (as := [(0, x2), (0, 5)]) (rest := [(0, x1)]) rfl rk151 rfl rfl rfl rfl rfl)) h (fun y1 σ1 h => ?_)
    obtain ⟨g1, h⟩ := h
    refine wi_iadd (pc' := 22) hm256 rfl rfl g1 ?_
    refine wi_istore_n (pc' := 23) (L' := [(46, o0), (0, (x1 + y1)), (0, x2)]) hm256 rfl rfl rfl ?_
    obtain ⟨g2, h⟩ := h
    refine wi_iinc (pc' := 26) (L' := [(46, o0), (0, (x1 + y1)), (0, (x2 + 1))]) hm256 rfl rfl rfl g2 rfl ?_
    refine wi_goto (t := 4) hm256 rfl rfl ?_
    exact h
set_option maxRecDepth 10000 in
theorem hm257 : fx_code 257 = fx_c257 := rfl
theorem t257_0 {o0 : Int} {σ : fx_S} {Q : fx_V → fx_S → Prop} (h : fx_Wp 257 4 [(46, o0), (0, 0), (0, 0)] [] σ Q) : fx_Ca 257 [(46, o0)] σ Q := by
  show fx_Wp 257 0 [(46, o0), (3, 0), (3, 0)] [] σ Q
  refine wi_iconst (pc' := 1) (v := 0) hm257 rfl rfl rfl ?_
  refine wi_istore_n (pc' := 2) (L' := [(46, o0), (0, 0), (3, 0)]) hm257 rfl rfl rfl ?_
  refine wi_iconst (pc' := 3) (v := 0) hm257 rfl rfl rfl ?_
  refine wi_istore_n (pc' := 4) (L' := [(46, o0), (0, 0), (0, 0)]) hm257 rfl rfl rfl ?_
  exact h
theorem t257_4 {o0 x1 x2 : Int} {σ : fx_S} {Q : fx_V → fx_S → Prop} (h : (((σ 47 0 0) ≤ x2 → Q (0, x1) σ) ∧ (x2 < (σ 47 0 0) → (fx_rg (10 + x2)) ∧ (0 ≤ (10 + x2) ∧ (10 + x2) < 1130) ∧ (fx_rg (x1 + (σ 47 0 (10 + x2)))) ∧ (fx_rg (x2 + 1)) ∧ fx_Wp 257 4 [(46, o0), (0, (x1 + (σ 47 0 (10 + x2)))), (0, (x2 + 1))] [] σ Q))) : fx_Wp 257 4 [(46, o0), (0, x1), (0, x2)] [] σ Q := by
  refine wi_iload_n (pc' := 5) hm257 rfl rfl rfl ?_
  refine wi_aload_n (pc' := 6) hm257 rfl rfl rfl (by decide) ?_
  refine wi_getR (pc' := 9) (x := 0) hm257 rfl rfl rfl (by omega) ?_
  refine wi_iconst (pc' := 10) (v := 0) hm257 rfl rfl rfl ?_
  refine wi_iaload (pc' := 11) hm257 rfl rfl rfl rfl (N := 1130) rfl (by decide) ?_
  refine wi_ic_ge (pc' := 14) (t := 32) hm257 rfl rfl rfl (fun hc => ?_) (fun hc => ?_)
  · replace h := h.1 hc
    refine wi_iload_n (pc' := 33) hm257 rfl rfl rfl ?_
    exact wi_iret hm257 rfl h
  · replace h := h.2 hc
    refine wi_iload_n (pc' := 15) hm257 rfl rfl rfl ?_
    refine wi_aload_n (pc' := 16) hm257 rfl rfl rfl (by decide) ?_
    refine wi_getR (pc' := 19) (x := 0) hm257 rfl rfl rfl (by omega) ?_
    refine wi_bipush (pc' := 21) (v := 10) hm257 rfl rfl rfl ?_
    refine wi_iload_n (pc' := 22) hm257 rfl rfl rfl ?_
    obtain ⟨g1, h⟩ := h
    refine wi_iadd (pc' := 23) hm257 rfl rfl g1 ?_
    obtain ⟨g2, h⟩ := h
    refine wi_iaload (pc' := 24) hm257 rfl rfl rfl rfl (N := 1130) rfl g2 ?_
    obtain ⟨g3, h⟩ := h
    refine wi_iadd (pc' := 25) hm257 rfl rfl g3 ?_
    refine wi_istore_n (pc' := 26) (L' := [(46, o0), (0, (x1 + (σ 47 0 (10 + x2)))), (0, x2)]) hm257 rfl rfl rfl ?_
    obtain ⟨g4, h⟩ := h
    refine wi_iinc (pc' := 29) (L' := [(46, o0), (0, (x1 + (σ 47 0 (10 + x2)))), (0, (x2 + 1))]) hm257 rfl rfl rfl g4 rfl ?_
    refine wi_goto (t := 4) hm257 rfl rfl ?_
    exact h
set_option maxRecDepth 10000 in
theorem hm258 : fx_code 258 = fx_c258 := rfl
theorem t258_0 {o0 : Int} {σ : fx_S} {Q : fx_V → fx_S → Prop} (h : fx_Wp 258 4 [(46, o0), (0, 0), (0, 0)] [] σ Q) : fx_Ca 258 [(46, o0)] σ Q := by
  show fx_Wp 258 0 [(46, o0), (3, 0), (3, 0)] [] σ Q
  refine wi_iconst (pc' := 1) (v := 0) hm258 rfl rfl rfl ?_
  refine wi_istore_n (pc' := 2) (L' := [(46, o0), (0, 0), (3, 0)]) hm258 rfl rfl rfl ?_
  refine wi_iconst (pc' := 3) (v := 0) hm258 rfl rfl rfl ?_
  refine wi_istore_n (pc' := 4) (L' := [(46, o0), (0, 0), (0, 0)]) hm258 rfl rfl rfl ?_
  exact h
theorem t258_4 {o0 x1 x2 : Int} {σ : fx_S} {Q : fx_V → fx_S → Prop} (h : ((8 ≤ x2 → Q (0, x1) σ) ∧ (x2 < 8 → fx_CI 162 [(46, o0), (0, x2)] σ Q (fun y1 σ1 => ((y1 = 0 → (fx_rg (x1 + 0)) ∧ (fx_rg (x2 + 1)) ∧ fx_Wp 258 4 [(46, o0), (0, (x1 + 0)), (0, (x2 + 1))] [] σ1 Q) ∧ (y1 ≠ 0 → (fx_rg (x1 + 1)) ∧ (fx_rg (x2 + 1)) ∧ fx_Wp 258 4 [(46, o0), (0, (x1 + 1)), (0, (x2 + 1))] [] σ1 Q)))))) : fx_Wp 258 4 [(46, o0), (0, x1), (0, x2)] [] σ Q := by
  refine wi_iload_n (pc' := 5) hm258 rfl rfl rfl ?_
  refine wi_bipush (pc' := 7) (v := 8) hm258 rfl rfl rfl ?_
  refine wi_ic_ge (pc' := 10) (t := 32) hm258 rfl rfl rfl (fun hc => ?_) (fun hc => ?_)
  · replace h := h.1 hc
    refine wi_iload_n (pc' := 33) hm258 rfl rfl rfl ?_
    exact wi_iret hm258 rfl h
  · replace h := h.2 hc
    refine wi_iload_n (pc' := 11) hm258 rfl rfl rfl ?_
    refine wi_aload_n (pc' := 12) hm258 rfl rfl rfl (by decide) ?_
    refine wi_iload_n (pc' := 13) hm258 rfl rfl rfl ?_
    refine wc_I (pc' := 16) (by decide) rfl (by decide) ((fx_wE hm258 rfl).trans (fx_exV (mj := 162) (as := [(0, x2)]) (rest := [(0, x1)]) rfl rk162 rfl rfl rfl rfl rfl)) h (fun y1 σ1 h => ?_)
    refine wi_if_eq (pc' := 19) (t := 23) hm258 rfl rfl rfl (fun hc => ?_) (fun hc => ?_)
    · replace h := h.1 hc
      refine wi_iconst (pc' := 24) (v := 0) hm258 rfl rfl rfl ?_
      obtain ⟨g1, h⟩ := h
      refine wi_iadd (pc' := 25) hm258 rfl rfl g1 ?_
      refine wi_istore_n (pc' := 26) (L' := [(46, o0), (0, (x1 + 0)), (0, x2)]) hm258 rfl rfl rfl ?_
      obtain ⟨g2, h⟩ := h
      refine wi_iinc (pc' := 29) (L' := [(46, o0), (0, (x1 + 0)), (0, (x2 + 1))]) hm258 rfl rfl rfl g2 rfl ?_
      refine wi_goto (t := 4) hm258 rfl rfl ?_
      exact h
    · replace h := h.2 hc
      refine wi_iconst (pc' := 20) (v := 1) hm258 rfl rfl rfl ?_
      refine wi_goto (t := 24) hm258 rfl rfl ?_
      obtain ⟨g1, h⟩ := h
      refine wi_iadd (pc' := 25) hm258 rfl rfl g1 ?_
      refine wi_istore_n (pc' := 26) (L' := [(46, o0), (0, (x1 + 1)), (0, x2)]) hm258 rfl rfl rfl ?_
      obtain ⟨g2, h⟩ := h
      refine wi_iinc (pc' := 29) (L' := [(46, o0), (0, (x1 + 1)), (0, (x2 + 1))]) hm258 rfl rfl rfl g2 rfl ?_
      refine wi_goto (t := 4) hm258 rfl rfl ?_
      exact h
set_option maxRecDepth 10000 in
theorem hm259 : fx_code 259 = fx_c259 := rfl
theorem t259_0 {o0 : Int} {σ : fx_S} {Q : fx_V → fx_S → Prop} (h : fx_Wp 259 4 [(46, o0), (0, 0), (0, 0)] [] σ Q) : fx_Ca 259 [(46, o0)] σ Q := by
  show fx_Wp 259 0 [(46, o0), (3, 0), (3, 0)] [] σ Q
  refine wi_iconst (pc' := 1) (v := 0) hm259 rfl rfl rfl ?_
  refine wi_istore_n (pc' := 2) (L' := [(46, o0), (0, 0), (3, 0)]) hm259 rfl rfl rfl ?_
  refine wi_iconst (pc' := 3) (v := 0) hm259 rfl rfl rfl ?_
  refine wi_istore_n (pc' := 4) (L' := [(46, o0), (0, 0), (0, 0)]) hm259 rfl rfl rfl ?_
  exact h
theorem t259_4 {o0 x1 x2 : Int} {σ : fx_S} {Q : fx_V → fx_S → Prop} (h : ((8 ≤ x2 → Q (0, x1) σ) ∧ (x2 < 8 → fx_CV 166 [(46, o0), (0, x2), (59, 0)] σ Q (fun σ1 => fx_CI 219 [(46, o0), (59, 0), (0, (-1)), (0, 0)] σ1 Q (fun y1 σ2 => (fx_rg (x1 + y1)) ∧ (fx_rg (x2 + 1)) ∧ fx_Wp 259 4 [(46, o0), (0, (x1 + y1)), (0, (x2 + 1))] [] σ2 Q))))) : fx_Wp 259 4 [(46, o0), (0, x1), (0, x2)] [] σ Q := by
  refine wi_iload_n (pc' := 5) hm259 rfl rfl rfl ?_
  refine wi_bipush (pc' := 7) (v := 8) hm259 rfl rfl rfl ?_
  refine wi_ic_ge (pc' := 10) (t := 38) hm259 rfl rfl rfl (fun hc => ?_) (fun hc => ?_)
  · replace h := h.1 hc
    refine wi_iload_n (pc' := 39) hm259 rfl rfl rfl ?_
    exact wi_iret hm259 rfl h
  · replace h := h.2 hc
    refine wi_aload_n (pc' := 11) hm259 rfl rfl rfl (by decide) ?_
    refine wi_iload_n (pc' := 12) hm259 rfl rfl rfl ?_
    refine wi_aload_n (pc' := 13) hm259 rfl rfl rfl (by decide) ?_
    refine wi_getR (pc' := 16) (x := 0) hm259 rfl rfl rfl (by omega) ?_
    refine wc_V (pc' := 19) (by decide) rfl (by decide) ((fx_wE hm259 rfl).trans (fx_exV (mj := 166) (as := [(0, x2), (59, 0)]) (rest := []) rfl rk166 rfl rfl rfl rfl rfl)) h (fun σ1 h => ?_)
    refine wi_iload_n (pc' := 20) hm259 rfl rfl rfl ?_
    refine wi_aload_n (pc' := 21) hm259 rfl rfl rfl (by decide) ?_
    refine wi_aload_n (pc' := 22) hm259 rfl rfl rfl (by decide) ?_
    refine wi_getR (pc' := 25) (x := 0) hm259 rfl rfl rfl (by omega) ?_
    refine wi_iconst (pc' := 26) (v := (-1)) hm259 rfl rfl rfl ?_
    refine wi_iconst (pc' := 27) (v := 0) hm259 rfl rfl rfl ?_
    refine wc_I (pc' := 30) (by decide) rfl (by decide) ((fx_wE hm259 rfl).trans (fx_exV (mj := 219) (as := [(59, 0), (0, (-1)), (0, 0)]) (rest := [(0, x1)]) rfl rk219 rfl rfl rfl rfl rfl)) h (fun y1 σ2 h => ?_)
    obtain ⟨g1, h⟩ := h
    refine wi_iadd (pc' := 31) hm259 rfl rfl g1 ?_
    refine wi_istore_n (pc' := 32) (L' := [(46, o0), (0, (x1 + y1)), (0, x2)]) hm259 rfl rfl rfl ?_
    obtain ⟨g2, h⟩ := h
    refine wi_iinc (pc' := 35) (L' := [(46, o0), (0, (x1 + y1)), (0, (x2 + 1))]) hm259 rfl rfl rfl g2 rfl ?_
    refine wi_goto (t := 4) hm259 rfl rfl ?_
    exact h
set_option maxRecDepth 10000 in
theorem hm260 : fx_code 260 = fx_c260 := rfl
theorem t260_0 {o0 x1 : Int} {σ : fx_S} {Q : fx_V → fx_S → Prop} (h : ((x1 = 0 → Q (0, (σ 47 0 0)) (fx_up σ 46 o0 0 0)) ∧ (x1 ≠ 0 → ((x1 = 1 → Q (0, (σ 47 0 1)) (fx_up σ 46 o0 0 0)) ∧ (x1 ≠ 1 → ((x1 = 2 → fx_CI 256 [(46, o0)] (fx_up σ 46 o0 0 0) Q (fun y1 σ1 => Q (0, y1) σ1)) ∧ (x1 ≠ 2 → ((x1 = 3 → fx_CI 257 [(46, o0)] (fx_up σ 46 o0 0 0) Q (fun y2 σ2 => Q (0, y2) σ2)) ∧ (x1 ≠ 3 → ((x1 = 4 → fx_CI 258 [(46, o0)] (fx_up σ 46 o0 0 0) Q (fun y3 σ3 => Q (0, y3) σ3)) ∧ (x1 ≠ 4 → ((x1 = 5 → fx_CI 252 [(46, o0), (0, (-1))] (fx_up σ 46 o0 0 0) Q (fun y4 σ4 => Q (0, y4) σ4)) ∧ (x1 ≠ 5 → ((x1 = 6 → fx_CI 259 [(46, o0)] (fx_up σ 46 o0 0 0) Q (fun y5 σ5 => Q (0, y5) σ5)) ∧ (x1 ≠ 6 → ((x1 = 7 → Q (0, (σ 46 o0 5)) (fx_up σ 46 o0 0 0)) ∧ (x1 ≠ 7 → Q (0, (-1)) (fx_up σ 46 o0 0 0)))))))))))))))))) : fx_Ca 260 [(46, o0), (0, x1)] σ Q := by
  show fx_Wp 260 0 [(46, o0), (0, x1)] [] σ Q
  refine wi_aload_n (pc' := 1) hm260 rfl rfl rfl (by decide) ?_
  refine wi_iconst (pc' := 2) (v := 0) hm260 rfl rfl rfl ?_
  refine wi_putI (pc' := 5) hm260 rfl rfl (P := 0) rfl ?_
  refine wi_iload_n (pc' := 6) hm260 rfl rfl rfl ?_
  refine wi_tsw hm260 rfl ?_
  refine fx_swc (fun hc => ?_) (fun hc => ?_)
  · replace h := h.1 hc
    refine wi_aload_n (pc' := 53) hm260 rfl rfl rfl (by decide) ?_
    refine wi_getR (pc' := 56) (x := 0) hm260 rfl rfl rfl (by omega) ?_
    refine wi_iconst (pc' := 57) (v := 0) hm260 rfl rfl rfl ?_
    refine wi_ialoade (pc' := 58) hm260 rfl rfl rfl rfl (N := 1130) rfl (by decide) (x := (σ 47 0 0)) (Eq.trans (fx_upK rfl) rfl) ?_
    exact wi_iret hm260 rfl h
  · replace h := h.2 hc
    refine fx_swc (fun hc => ?_) (fun hc => ?_)
    · replace h := h.1 hc
      refine wi_aload_n (pc' := 60) hm260 rfl rfl rfl (by decide) ?_
      refine wi_getR (pc' := 63) (x := 0) hm260 rfl rfl rfl (by omega) ?_
      refine wi_iconst (pc' := 64) (v := 1) hm260 rfl rfl rfl ?_
      refine wi_ialoade (pc' := 65) hm260 rfl rfl rfl rfl (N := 1130) rfl (by decide) (x := (σ 47 0 1)) (Eq.trans (fx_upK rfl) rfl) ?_
      exact wi_iret hm260 rfl h
    · replace h := h.2 hc
      refine fx_swc (fun hc => ?_) (fun hc => ?_)
      · replace h := h.1 hc
        refine wi_aload_n (pc' := 67) hm260 rfl rfl rfl (by decide) ?_
        refine wc_I (pc' := 70) (by decide) rfl (by decide) ((fx_wE hm260 rfl).trans (fx_exV (mj := 256) (as := []) (rest := []) rfl rk256 rfl rfl rfl rfl rfl)) h (fun y1 σ1 h => ?_)
        exact wi_iret hm260 rfl h
      · replace h := h.2 hc
        refine fx_swc (fun hc => ?_) (fun hc => ?_)
        · replace h := h.1 hc
          refine wi_aload_n (pc' := 72) hm260 rfl rfl rfl (by decide) ?_
          refine wc_I (pc' := 75) (by decide) rfl (by decide) ((fx_wE hm260 rfl).trans (fx_exV (mj := 257) (as := []) (rest := []) rfl rk257 rfl rfl rfl rfl rfl)) h (fun y2 σ2 h => ?_)
          exact wi_iret hm260 rfl h
        · replace h := h.2 hc
          refine fx_swc (fun hc => ?_) (fun hc => ?_)
          · replace h := h.1 hc
            refine wi_aload_n (pc' := 77) hm260 rfl rfl rfl (by decide) ?_
            refine wc_I (pc' := 80) (by decide) rfl (by decide) ((fx_wE hm260 rfl).trans (fx_exV (mj := 258) (as := []) (rest := []) rfl rk258 rfl rfl rfl rfl rfl)) h (fun y3 σ3 h => ?_)
            exact wi_iret hm260 rfl h
          · replace h := h.2 hc
            refine fx_swc (fun hc => ?_) (fun hc => ?_)
            · replace h := h.1 hc
              refine wi_aload_n (pc' := 82) hm260 rfl rfl rfl (by decide) ?_
              refine wi_iconst (pc' := 83) (v := (-1)) hm260 rfl rfl rfl ?_
              refine wc_I (pc' := 86) (by decide) rfl (by decide) ((fx_wE hm260 rfl).trans (fx_exV (mj := 252) (as := [(0, (-1))]) (rest := []) rfl rk252 rfl rfl rfl rfl rfl)) h (fun y4 σ4 h => ?_)
              exact wi_iret hm260 rfl h
            · replace h := h.2 hc
              refine fx_swc (fun hc => ?_) (fun hc => ?_)
              · replace h := h.1 hc
                refine wi_aload_n (pc' := 88) hm260 rfl rfl rfl (by decide) ?_
                refine wc_I (pc' := 91) (by decide) rfl (by decide) ((fx_wE hm260 rfl).trans (fx_exV (mj := 259) (as := []) (rest := []) rfl rk259 rfl rfl rfl rfl rfl)) h (fun y5 σ5 h => ?_)
                exact wi_iret hm260 rfl h
              · replace h := h.2 hc
                refine fx_swc (fun hc => ?_) (fun hc => ?_)
                · replace h := h.1 hc
                  refine wi_aload_n (pc' := 93) hm260 rfl rfl rfl (by decide) ?_
                  refine wi_getIe (pc' := 96) hm260 rfl rfl (P := 5) rfl (x := (σ 46 o0 5)) (Eq.trans (fx_upJ (by decide)) rfl) ?_
                  exact wi_iret hm260 rfl h
                · replace h := h.2 hc
                  refine fx_swn ?_
                  refine wi_iconst (pc' := 98) (v := (-1)) hm260 rfl rfl rfl ?_
                  exact wi_iret hm260 rfl h
