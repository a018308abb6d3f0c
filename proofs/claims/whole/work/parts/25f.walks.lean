theorem hm196 : fx_code 196 = fx_c196 := rfl
theorem t196_0 {o0 x1 : Int} {σ : fx_S} {Q : fx_V → fx_S → Prop} (h : fx_Wp 196 31 [(46, o0), (0, x1), (0, 1), (3, 0)] [] (fx_up (fx_up (fx_up (fx_up (fx_up σ 52 0 0 0) 52 0 1 0) 46 o0 15 0) 46 o0 17 0) 46 o0 18 0) Q) : fx_Ca 196 [(46, o0), (0, x1)] σ Q := by
  show fx_Wp 196 0 [(46, o0), (0, x1), (3, 0), (3, 0)] [] σ Q
  refine wi_aload_n (pc' := 1) hm196 rfl rfl rfl (by decide) ?_
  refine wi_getR (pc' := 4) (x := 0) hm196 rfl rfl rfl (by omega) ?_
  refine wi_iconst (pc' := 5) (v := 0) hm196 rfl rfl rfl ?_
  refine wi_iconst (pc' := 6) (v := 0) hm196 rfl rfl rfl ?_
  refine wi_iastore (pc' := 7) hm196 rfl rfl rfl (N := 94) rfl (by decide) ?_
  refine wi_aload_n (pc' := 8) hm196 rfl rfl rfl (by decide) ?_
  refine wi_getR (pc' := 11) (x := 0) hm196 rfl rfl rfl (by omega) ?_
  refine wi_iconst (pc' := 12) (v := 1) hm196 rfl rfl rfl ?_
  refine wi_iconst (pc' := 13) (v := 0) hm196 rfl rfl rfl ?_
  refine wi_iastore (pc' := 14) hm196 rfl rfl rfl (N := 94) rfl (by decide) ?_
  refine wi_aload_n (pc' := 15) hm196 rfl rfl rfl (by decide) ?_
  refine wi_iconst (pc' := 16) (v := 0) hm196 rfl rfl rfl ?_
  refine wi_putI (pc' := 19) hm196 rfl rfl (P := 15) rfl ?_
  refine wi_aload_n (pc' := 20) hm196 rfl rfl rfl (by decide) ?_
  refine wi_iconst (pc' := 21) (v := 0) hm196 rfl rfl rfl ?_
  refine wi_putI (pc' := 24) hm196 rfl rfl (P := 17) rfl ?_
  refine wi_aload_n (pc' := 25) hm196 rfl rfl rfl (by decide) ?_
  refine wi_iconst (pc' := 26) (v := 0) hm196 rfl rfl rfl ?_
  refine wi_putI (pc' := 29) hm196 rfl rfl (P := 18) rfl ?_
  refine wi_iconst (pc' := 30) (v := 1) hm196 rfl rfl rfl ?_
  refine wi_istore_n (pc' := 31) (L' := [(46, o0), (0, x1), (0, 1), (3, 0)]) hm196 rfl rfl rfl ?_
  exact h
theorem t196_31 {o0 x1 x2 : Int} {w3 : fx_V} {σ : fx_S} {Q : fx_V → fx_S → Prop} (h : ((x2 = 0 → fx_Wp 196 100 [(46, o0), (0, x1), (0, x2), w3] [] σ Q) ∧ (x2 ≠ 0 → (((σ 46 o0 12) ≠ (-1) → fx_Wp 196 100 [(46, o0), (0, x1), (0, x2), w3] [] σ Q) ∧ ((σ 46 o0 12) = (-1) → fx_CV 193 [(46, o0), (0, x1)] σ Q (fun σ1 => (((σ1 46 o0 12) ≠ (-1) → fx_Wp 196 60 [(46, o0), (0, x1), (0, x2), w3] [] σ1 Q) ∧ ((σ1 46 o0 12) = (-1) → fx_CV 195 [(46, o0)] σ1 Q (fun σ2 => fx_Wp 196 60 [(46, o0), (0, x1), (0, x2), w3] [] σ2 Q))))))))) : fx_Wp 196 31 [(46, o0), (0, x1), (0, x2), w3] [] σ Q := by
  refine wi_iload_n (pc' := 32) hm196 rfl rfl rfl ?_
  refine wi_if_eq (pc' := 35) (t := 100) hm196 rfl rfl rfl (fun hc => ?_) (fun hc => ?_)
  · replace h := h.1 hc
    exact h
  · replace h := h.2 hc
    refine wi_aload_n (pc' := 36) hm196 rfl rfl rfl (by decide) ?_
    refine wi_getI (pc' := 39) hm196 rfl rfl (P := 12) rfl ?_
    refine wi_iconst (pc' := 40) (v := (-1)) hm196 rfl rfl rfl ?_
    refine wi_ic_ne (pc' := 43) (t := 100) hm196 rfl rfl rfl (fun hc => ?_) (fun hc => ?_)
    · replace h := h.1 hc
      exact h
    · replace h := h.2 hc
      refine wi_aload_n (pc' := 44) hm196 rfl rfl rfl (by decide) ?_
      refine wi_iload_n (pc' := 45) hm196 rfl rfl rfl ?_
      refine wc_V (pc' := 48) (by decide) rfl (by decide) ((fx_wE hm196 rfl).trans (fx_exV (mj := 193) (as := [(0, x1)]) (rest := []) rfl rk193 rfl rfl rfl rfl rfl)) h (fun σ1 h => ?_)
      refine wi_aload_n (pc' := 49) hm196 rfl rfl rfl (by decide) ?_
      refine wi_getI (pc' := 52) hm196 rfl rfl (P := 12) rfl ?_
      refine wi_iconst (pc' := 53) (v := (-1)) hm196 rfl rfl rfl ?_
      refine wi_ic_ne (pc' := 56) (t := 60) hm196 rfl rfl rfl (fun hc => ?_) (fun hc => ?_)
      · replace h := h.1 hc
        exact h
      · replace h := h.2 hc
        refine wi_aload_n (pc' := 57) hm196 rfl rfl rfl (by decide) ?_
        refine wc_V (pc' := 60) (by decide) rfl (by decide) ((fx_wE hm196 rfl).trans (fx_exV (mj := 195) (as := []) (rest := []) rfl rk195 rfl rfl rfl rfl rfl)) h (fun σ2 h => ?_)
        exact h
theorem t196_60 {o0 x1 : Int} {w2 w3 : fx_V} {σ : fx_S} {Q : fx_V → fx_S → Prop} (h : (((σ 46 o0 12) ≠ (-1) → fx_Wp 196 31 [(46, o0), (0, x1), (0, 0), (0, (-1))] [] σ Q) ∧ ((σ 46 o0 12) = (-1) → fx_CI 194 [(46, o0)] σ Q (fun y1 σ1 => ((y1 = (-1) → fx_Wp 196 31 [(46, o0), (0, x1), (0, 0), (0, y1)] [] σ1 Q) ∧ (y1 ≠ (-1) → fx_CV 191 [(46, o0), (0, y1)] σ1 Q (fun σ2 => fx_Wp 196 31 [(46, o0), (0, x1), (0, 1), (0, y1)] [] σ2 Q))))))) : fx_Wp 196 60 [(46, o0), (0, x1), w2, w3] [] σ Q := by
  refine wi_aload_n (pc' := 61) hm196 rfl rfl rfl (by decide) ?_
  refine wi_getI (pc' := 64) hm196 rfl rfl (P := 12) rfl ?_
  refine wi_iconst (pc' := 65) (v := (-1)) hm196 rfl rfl rfl ?_
  refine wi_ic_ne (pc' := 68) (t := 75) hm196 rfl rfl rfl (fun hc => ?_) (fun hc => ?_)
  · replace h := h.1 hc
    refine wi_iconst (pc' := 76) (v := (-1)) hm196 rfl rfl rfl ?_
    refine wi_istore_n (pc' := 77) (L' := [(46, o0), (0, x1), w2, (0, (-1))]) hm196 rfl rfl rfl ?_
    refine wi_iload_n (pc' := 78) hm196 rfl rfl rfl ?_
    refine wi_iconst (pc' := 79) (v := (-1)) hm196 rfl rfl rfl ?_
    refine wi_ic_eq (pc' := 82) (t := 86) hm196 rfl rfl rfl (fun _ => ?_) (fun hc => absurd hc (by decide))
    refine wi_iconst (pc' := 87) (v := 0) hm196 rfl rfl rfl ?_
    refine wi_istore_n (pc' := 88) (L' := [(46, o0), (0, x1), (0, 0), (0, (-1))]) hm196 rfl rfl rfl ?_
    refine wi_iload_n (pc' := 89) hm196 rfl rfl rfl ?_
    refine wi_if_eq (pc' := 92) (t := 97) hm196 rfl rfl rfl (fun _ => ?_) (fun hc => absurd hc (by decide))
    refine wi_goto (t := 31) hm196 rfl rfl ?_
    exact h
  · replace h := h.2 hc
    refine wi_aload_n (pc' := 69) hm196 rfl rfl rfl (by decide) ?_
    refine wc_I (pc' := 72) (by decide) rfl (by decide) ((fx_wE hm196 rfl).trans (fx_exV (mj := 194) (as := []) (rest := []) rfl rk194 rfl rfl rfl rfl rfl)) h (fun y1 σ1 h => ?_)
    refine wi_goto (t := 76) hm196 rfl rfl ?_
    refine wi_istore_n (pc' := 77) (L' := [(46, o0), (0, x1), w2, (0, y1)]) hm196 rfl rfl rfl ?_
    refine wi_iload_n (pc' := 78) hm196 rfl rfl rfl ?_
    refine wi_iconst (pc' := 79) (v := (-1)) hm196 rfl rfl rfl ?_
    refine wi_ic_eq (pc' := 82) (t := 86) hm196 rfl rfl rfl (fun hc => ?_) (fun hc => ?_)
    · replace h := h.1 hc
      refine wi_iconst (pc' := 87) (v := 0) hm196 rfl rfl rfl ?_
      refine wi_istore_n (pc' := 88) (L' := [(46, o0), (0, x1), (0, 0), (0, y1)]) hm196 rfl rfl rfl ?_
      refine wi_iload_n (pc' := 89) hm196 rfl rfl rfl ?_
      refine wi_if_eq (pc' := 92) (t := 97) hm196 rfl rfl rfl (fun _ => ?_) (fun hc => absurd hc (by decide))
      refine wi_goto (t := 31) hm196 rfl rfl ?_
      exact h
    · replace h := h.2 hc
      refine wi_iconst (pc' := 83) (v := 1) hm196 rfl rfl rfl ?_
      refine wi_goto (t := 87) hm196 rfl rfl ?_
      refine wi_istore_n (pc' := 88) (L' := [(46, o0), (0, x1), (0, 1), (0, y1)]) hm196 rfl rfl rfl ?_
      refine wi_iload_n (pc' := 89) hm196 rfl rfl rfl ?_
      refine wi_if_eq (pc' := 92) (t := 97) hm196 rfl rfl rfl (fun hc => absurd hc (by decide)) (fun _ => ?_)
      refine wi_aload_n (pc' := 93) hm196 rfl rfl rfl (by decide) ?_
      refine wi_iload_n (pc' := 94) hm196 rfl rfl rfl ?_
      refine wc_V (pc' := 97) (by decide) rfl (by decide) ((fx_wE hm196 rfl).trans (fx_exV (mj := 191) (as := [(0, y1)]) (rest := []) rfl rk191 rfl rfl rfl rfl rfl)) h (fun σ2 h => ?_)
      refine wi_goto (t := 31) hm196 rfl rfl ?_
      exact h
theorem t196_100 {o0 x1 : Int} {w2 w3 : fx_V} {σ : fx_S} {Q : fx_V → fx_S → Prop} (h : (((σ 46 o0 12) ≠ (-1) → (((σ 46 o0 12) = (-1) → fx_Wp 196 132 [(46, o0), (0, x1), w2, w3] [] σ Q) ∧ ((σ 46 o0 12) ≠ (-1) → Q (4, 0) σ))) ∧ ((σ 46 o0 12) = (-1) → (((σ 46 o0 18) ≤ 0 → (((σ 46 o0 12) = (-1) → fx_Wp 196 132 [(46, o0), (0, x1), w2, w3] [] σ Q) ∧ ((σ 46 o0 12) ≠ (-1) → Q (4, 0) σ))) ∧ (0 < (σ 46 o0 18) → fx_CI 181 [(46, o0)] σ Q (fun y1 σ1 => fx_CV 182 [(46, o0), (0, y1)] σ1 Q (fun σ2 => (((σ2 46 o0 12) = (-1) → fx_Wp 196 132 [(46, o0), (0, x1), w2, w3] [] σ2 Q) ∧ ((σ2 46 o0 12) ≠ (-1) → Q (4, 0) σ2))))))))) : fx_Wp 196 100 [(46, o0), (0, x1), w2, w3] [] σ Q := by
  refine wi_aload_n (pc' := 101) hm196 rfl rfl rfl (by decide) ?_
  refine wi_getI (pc' := 104) hm196 rfl rfl (P := 12) rfl ?_
  refine wi_iconst (pc' := 105) (v := (-1)) hm196 rfl rfl rfl ?_
  refine wi_ic_ne (pc' := 108) (t := 123) hm196 rfl rfl rfl (fun hc => ?_) (fun hc => ?_)
  · replace h := h.1 hc
    refine wi_aload_n (pc' := 124) hm196 rfl rfl rfl (by decide) ?_
    refine wi_getI (pc' := 127) hm196 rfl rfl (P := 12) rfl ?_
    refine wi_iconst (pc' := 128) (v := (-1)) hm196 rfl rfl rfl ?_
    refine wi_ic_eq (pc' := 131) (t := 132) hm196 rfl rfl rfl (fun hc => ?_) (fun hc => ?_)
    · replace h := h.1 hc
      exact h
    · replace h := h.2 hc
      exact wi_vret hm196 rfl h
  · replace h := h.2 hc
    refine wi_aload_n (pc' := 109) hm196 rfl rfl rfl (by decide) ?_
    refine wi_getI (pc' := 112) hm196 rfl rfl (P := 18) rfl ?_
    refine wi_if_le (pc' := 115) (t := 123) hm196 rfl rfl rfl (fun hc => ?_) (fun hc => ?_)
    · replace h := h.1 hc
      refine wi_aload_n (pc' := 124) hm196 rfl rfl rfl (by decide) ?_
      refine wi_getI (pc' := 127) hm196 rfl rfl (P := 12) rfl ?_
      refine wi_iconst (pc' := 128) (v := (-1)) hm196 rfl rfl rfl ?_
      refine wi_ic_eq (pc' := 131) (t := 132) hm196 rfl rfl rfl (fun hc => ?_) (fun hc => ?_)
      · replace h := h.1 hc
        exact h
      · replace h := h.2 hc
        exact wi_vret hm196 rfl h
    · replace h := h.2 hc
      refine wi_aload_n (pc' := 116) hm196 rfl rfl rfl (by decide) ?_
      refine wi_aload_n (pc' := 117) hm196 rfl rfl rfl (by decide) ?_
      refine wc_I (pc' := 120) (by decide) rfl (by decide) ((fx_wE hm196 rfl).trans (fx_exV (mj := 181) (as := []) (rest := [(46, o0)]) rfl rk181 rfl rfl rfl rfl rfl)) h (fun y1 σ1 h => ?_)
      refine wc_V (pc' := 123) (by decide) rfl (by decide) ((fx_wE hm196 rfl).trans (fx_exV (mj := 182) (as := [(0, y1)]) (rest := []) rfl rk182 rfl rfl rfl rfl rfl)) h (fun σ2 h => ?_)
      refine wi_aload_n (pc' := 124) hm196 rfl rfl rfl (by decide) ?_
      refine wi_getI (pc' := 127) hm196 rfl rfl (P := 12) rfl ?_
      refine wi_iconst (pc' := 128) (v := (-1)) hm196 rfl rfl rfl ?_
      refine wi_ic_eq (pc' := 131) (t := 132) hm196 rfl rfl rfl (fun hc => ?_) (fun hc => ?_)
      · replace h := h.1 hc
        exact h
      · replace h := h.2 hc
        exact wi_vret hm196 rfl h
theorem t196_132 {o0 x1 : Int} {w2 w3 : fx_V} {σ : fx_S} {Q : fx_V → fx_S → Prop} (h : (((σ 46 o0 15) ≤ 0 → fx_Wp 196 148 [(46, o0), (0, x1), w2, (0, 0)] [] σ Q) ∧ (0 < (σ 46 o0 15) → fx_CV 189 [(46, o0)] σ Q (fun σ1 => fx_Wp 196 132 [(46, o0), (0, x1), w2, w3] [] σ1 Q)))) : fx_Wp 196 132 [(46, o0), (0, x1), w2, w3] [] σ Q := by
  refine wi_aload_n (pc' := 133) hm196 rfl rfl rfl (by decide) ?_
  refine wi_getI (pc' := 136) hm196 rfl rfl (P := 15) rfl ?_
  refine wi_if_le (pc' := 139) (t := 146) hm196 rfl rfl rfl (fun hc => ?_) (fun hc => ?_)
  · replace h := h.1 hc
    refine wi_iconst (pc' := 147) (v := 0) hm196 rfl rfl rfl ?_
    refine wi_istore_n (pc' := 148) (L' := [(46, o0), (0, x1), w2, (0, 0)]) hm196 rfl rfl rfl ?_
    exact h
  · replace h := h.2 hc
    refine wi_aload_n (pc' := 140) hm196 rfl rfl rfl (by decide) ?_
    refine wc_V (pc' := 143) (by decide) rfl (by decide) ((fx_wE hm196 rfl).trans (fx_exV (mj := 189) (as := []) (rest := []) rfl rk189 rfl rfl rfl rfl rfl)) h (fun σ1 h => ?_)
    refine wi_goto (t := 132) hm196 rfl rfl ?_
    exact h
theorem t196_148 {o0 x1 x3 : Int} {w2 : fx_V} {σ : fx_S} {Q : fx_V → fx_S → Prop} (h : ((94 ≤ x3 → Q (4, 0) σ) ∧ (x3 < 94 → (fx_rg (94 * x1)) ∧ (fx_rg (378 + (94 * x1))) ∧ (fx_rg ((378 + (94 * x1)) + x3)) ∧ (0 ≤ x3 ∧ x3 < 94) ∧ (0 ≤ ((378 + (94 * x1)) + x3) ∧ ((378 + (94 * x1)) + x3) < 1130) ∧ (fx_rg (x3 + 1)) ∧ fx_Wp 196 148 [(46, o0), (0, x1), w2, (0, (x3 + 1))] [] (fx_up σ 47 0 ((378 + (94 * x1)) + x3) (σ 52 0 x3)) Q))) : fx_Wp 196 148 [(46, o0), (0, x1), w2, (0, x3)] [] σ Q := by
  refine wi_iload_n (pc' := 149) hm196 rfl rfl rfl ?_
  refine wi_bipush (pc' := 151) (v := 94) hm196 rfl rfl rfl ?_
  refine wi_ic_ge (pc' := 154) (t := 181) hm196 rfl rfl rfl (fun hc => ?_) (fun hc => ?_)
  · replace h := h.1 hc
    exact wi_vret hm196 rfl h
  · replace h := h.2 hc
    refine wi_aload_n (pc' := 155) hm196 rfl rfl rfl (by decide) ?_
    refine wi_getR (pc' := 158) (x := 0) hm196 rfl rfl rfl (by omega) ?_
    refine wi_sipush (pc' := 161) (v := 378) hm196 rfl rfl rfl ?_
    refine wi_bipush (pc' := 163) (v := 94) hm196 rfl rfl rfl ?_
    refine wi_iload_n (pc' := 164) hm196 rfl rfl rfl ?_
    obtain ⟨g1, h⟩ := h
    refine wi_imul (pc' := 165) hm196 rfl rfl g1 ?_
    obtain ⟨g2, h⟩ := h
    refine wi_iadd (pc' := 166) hm196 rfl rfl g2 ?_
    refine wi_iload_n (pc' := 167) hm196 rfl rfl rfl ?_
    obtain ⟨g3, h⟩ := h
    refine wi_iadd (pc' := 168) hm196 rfl rfl g3 ?_
    refine wi_aload_n (pc' := 169) hm196 rfl rfl rfl (by decide) ?_
    refine wi_getR (pc' := 172) (x := 0) hm196 rfl rfl rfl (by omega) ?_
    refine wi_iload_n (pc' := 173) hm196 rfl rfl rfl ?_
    obtain ⟨g4, h⟩ := h
    refine wi_iaload (pc' := 174) hm196 rfl rfl rfl rfl (N := 94) rfl g4 ?_
    obtain ⟨g5, h⟩ := h
    refine wi_iastore (pc' := 175) hm196 rfl rfl rfl (N := 1130) rfl g5 ?_
    obtain ⟨g6, h⟩ := h
    refine wi_iinc (pc' := 178) (L' := [(46, o0), (0, x1), w2, (0, (x3 + 1))]) hm196 rfl rfl rfl g6 rfl ?_
    refine wi_goto (t := 148) hm196 rfl rfl ?_
    exact h
theorem hm197 : fx_code 197 = fx_c197 := rfl
theorem t197_0 {o0 : Int} {σ : fx_S} {Q : fx_V → fx_S → Prop} (h : fx_CI 187 [(46, o0), (0, 0), (0, 7)] σ Q (fun y1 σ1 => fx_CI 183 [(46, o0), (62, 16)] σ1 Q (fun y2 σ2 => ((y2 = 0 → fx_CV 184 [(46, o0), (62, 14)] σ2 Q (fun σ3 => (((σ3 46 o0 12) ≠ (-1) → Q (0, 0) σ3) ∧ ((σ3 46 o0 12) = (-1) → fx_CV 196 [(46, o0), (0, y1)] σ3 Q (fun σ4 => Q (0, 0) σ4))))) ∧ (y2 ≠ 0 → fx_CI 175 [(46, o0), (0, y1)] σ2 Q (fun y3 σ5 => Q (0, y3) σ5)))))) : fx_Ca 197 [(46, o0)] σ Q := by
  show fx_Wp 197 0 [(46, o0), (3, 0)] [] σ Q
  refine wi_aload_n (pc' := 1) hm197 rfl rfl rfl (by decide) ?_
  refine wi_iconst (pc' := 2) (v := 0) hm197 rfl rfl rfl ?_
  refine wi_bipush (pc' := 4) (v := 7) hm197 rfl rfl rfl ?_
  refine wc_I (pc' := 7) (by decide) rfl (by decide) ((fx_wE hm197 rfl).trans (fx_exV (mj := 187) (as := [(0, 0), (0, 7)]) (rest := []) rfl rk187 rfl rfl rfl rfl rfl)) h (fun y1 σ1 h => ?_)
  refine wi_istore_n (pc' := 8) (L' := [(46, o0), (0, y1)]) hm197 rfl rfl rfl ?_
  refine wi_aload_n (pc' := 9) hm197 rfl rfl rfl (by decide) ?_
  refine wi_ldc (pc' := 11) (v := 16) hm197 rfl rfl rfl rfl ?_
  refine wc_I (pc' := 14) (by decide) rfl (by decide) ((fx_wE hm197 rfl).trans (fx_exV (mj := 183) (as := [(62, 16)]) (rest := []) rfl rk183 rfl rfl rfl rfl rfl)) h (fun y2 σ2 h => ?_)
  refine wi_if_eq (pc' := 17) (t := 23) hm197 rfl rfl rfl (fun hc => ?_) (fun hc => ?_)
  · replace h := h.1 hc
    refine wi_aload_n (pc' := 24) hm197 rfl rfl rfl (by decide) ?_
    refine wi_ldc (pc' := 26) (v := 14) hm197 rfl rfl rfl rfl ?_
    refine wc_V (pc' := 29) (by decide) rfl (by decide) ((fx_wE hm197 rfl).trans (fx_exV (mj := 184) (as := [(62, 14)]) (rest := []) rfl rk184 rfl rfl rfl rfl rfl)) h (fun σ3 h => ?_)
    refine wi_aload_n (pc' := 30) hm197 rfl rfl rfl (by decide) ?_
    refine wi_getI (pc' := 33) hm197 rfl rfl (P := 12) rfl ?_
    refine wi_iconst (pc' := 34) (v := (-1)) hm197 rfl rfl rfl ?_
    refine wi_ic_ne (pc' := 37) (t := 42) hm197 rfl rfl rfl (fun hc => ?_) (fun hc => ?_)
    · replace h := h.1 hc
      refine wi_iconst (pc' := 43) (v := 0) hm197 rfl rfl rfl ?_
      exact wi_iret hm197 rfl h
    · replace h := h.2 hc
      refine wi_aload_n (pc' := 38) hm197 rfl rfl rfl (by decide) ?_
      refine wi_iload_n (pc' := 39) hm197 rfl rfl rfl ?_
      refine wc_V (pc' := 42) (by decide) rfl (by decide) ((fx_wE hm197 rfl).trans (fx_exV (mj := 196) (as := [(0, y1)]) (rest := []) rfl rk196 rfl rfl rfl rfl rfl)) h (fun σ4 h => ?_)
      refine wi_iconst (pc' := 43) (v := 0) hm197 rfl rfl rfl ?_
      exact wi_iret hm197 rfl h
  · replace h := h.2 hc
    refine wi_aload_n (pc' := 18) hm197 rfl rfl rfl (by decide) ?_
    refine wi_iload_n (pc' := 19) hm197 rfl rfl rfl ?_
    refine wc_I (pc' := 22) (by decide) rfl (by decide) ((fx_wE hm197 rfl).trans (fx_exV (mj := 175) (as := [(0, y1)]) (rest := []) rfl rk175 rfl rfl rfl rfl rfl)) h (fun y3 σ5 h => ?_)
    exact wi_iret hm197 rfl h
theorem hm198 : fx_code 198 = fx_c198 := rfl
theorem t198_0 {o0 : Int} {σ : fx_S} {Q : fx_V → fx_S → Prop} (h : fx_CI 187 [(46, o0), (0, 0), (0, 7)] σ Q (fun y1 σ1 => fx_CI 187 [(46, o0), (0, 0), (0, 7)] σ1 Q (fun y2 σ2 => fx_CI 187 [(46, o0), (0, 0), (0, 999)] σ2 Q (fun y3 σ3 => fx_CI 187 [(46, o0), (0, 1), (0, 1000)] σ3 Q (fun y4 σ4 => fx_CI 187 [(46, o0), (0, 0), (0, 99)] σ4 Q (fun y5 σ5 => (((σ5 46 o0 12) ≠ (-1) → Q (0, 0) σ5) ∧ ((σ5 46 o0 12) = (-1) → fx_CI 169 [(46, o0), (0, y1), (0, y2), (0, y3), (0, y4), (0, y5)] σ5 Q (fun y6 σ6 => Q (0, y6) σ6))))))))) : fx_Ca 198 [(46, o0)] σ Q := by
  show fx_Wp 198 0 [(46, o0), (3, 0), (3, 0), (3, 0), (3, 0), (3, 0)] [] σ Q
  refine wi_aload_n (pc' := 1) hm198 rfl rfl rfl (by decide) ?_
  refine wi_iconst (pc' := 2) (v := 0) hm198 rfl rfl rfl ?_
  refine wi_bipush (pc' := 4) (v := 7) hm198 rfl rfl rfl ?_
  refine wc_I (pc' := 7) (by decide) rfl (by decide) ((fx_wE hm198 rfl).trans (fx_exV (mj := 187) (as := [(0, 0), (0, 7)]) (rest := []) rfl rk187 rfl rfl rfl rfl rfl)) h (fun y1 σ1 h => ?_)
  refine wi_istore_n (pc' := 8) (L' := [(46, o0), (0, y1), (3, 0), (3, 0), (3, 0), (3, 0)]) hm198 rfl rfl rfl ?_
  refine wi_aload_n (pc' := 9) hm198 rfl rfl rfl (by decide) ?_
  refine wi_iconst (pc' := 10) (v := 0) hm198 rfl rfl rfl ?_
  refine wi_bipush (pc' := 12) (v := 7) hm198 rfl rfl rfl ?_
  refine wc_I (pc' := 15) (by decide) rfl (by decide) ((fx_wE hm198 rfl).trans (fx_exV (mj := 187) (as := [(0, 0), (0, 7)]) (rest := []) rfl rk187 rfl rfl rfl rfl rfl)) h (fun y2 σ2 h => ?_)
  refine wi_istore_n (pc' := 16) (L' := [(46, o0), (0, y1), (0, y2), (3, 0), (3, 0), (3, 0)]) hm198 rfl rfl rfl ?_
  refine wi_aload_n (pc' := 17) hm198 rfl rfl rfl (by decide) ?_
  refine wi_iconst (pc' := 18) (v := 0) hm198 rfl rfl rfl ?_
  refine wi_sipush (pc' := 21) (v := 999) hm198 rfl rfl rfl ?_
  refine wc_I (pc' := 24) (by decide) rfl (by decide) ((fx_wE hm198 rfl).trans (fx_exV (mj := 187) (as := [(0, 0), (0, 999)]) (rest := []) rfl rk187 rfl rfl rfl rfl rfl)) h (fun y3 σ3 h => ?_)
  refine wi_istore_n (pc' := 25) (L' := [(46, o0), (0, y1), (0, y2), (0, y3), (3, 0), (3, 0)]) hm198 rfl rfl rfl ?_
  refine wi_aload_n (pc' := 26) hm198 rfl rfl rfl (by decide) ?_
  refine wi_iconst (pc' := 27) (v := 1) hm198 rfl rfl rfl ?_
  refine wi_sipush (pc' := 30) (v := 1000) hm198 rfl rfl rfl ?_
  refine wc_I (pc' := 33) (by decide) rfl (by decide) ((fx_wE hm198 rfl).trans (fx_exV (mj := 187) (as := [(0, 1), (0, 1000)]) (rest := []) rfl rk187 rfl rfl rfl rfl rfl)) h (fun y4 σ4 h => ?_)
  refine wi_istore (pc' := 35) (L' := [(46, o0), (0, y1), (0, y2), (0, y3), (0, y4), (3, 0)]) hm198 rfl rfl rfl ?_
  refine wi_aload_n (pc' := 36) hm198 rfl rfl rfl (by decide) ?_
  refine wi_iconst (pc' := 37) (v := 0) hm198 rfl rfl rfl ?_
  refine wi_bipush (pc' := 39) (v := 99) hm198 rfl rfl rfl ?_
  refine wc_I (pc' := 42) (by decide) rfl (by decide) ((fx_wE hm198 rfl).trans (fx_exV (mj := 187) (as := [(0, 0), (0, 99)]) (rest := []) rfl rk187 rfl rfl rfl rfl rfl)) h (fun y5 σ5 h => ?_)
  refine wi_istore (pc' := 44) (L' := [(46, o0), (0, y1), (0, y2), (0, y3), (0, y4), (0, y5)]) hm198 rfl rfl rfl ?_
  refine wi_aload_n (pc' := 45) hm198 rfl rfl rfl (by decide) ?_
  refine wi_getI (pc' := 48) hm198 rfl rfl (P := 12) rfl ?_
  refine wi_iconst (pc' := 49) (v := (-1)) hm198 rfl rfl rfl ?_
  refine wi_ic_ne (pc' := 52) (t := 66) hm198 rfl rfl rfl (fun hc => ?_) (fun hc => ?_)
  · replace h := h.1 hc
    refine wi_iconst (pc' := 67) (v := 0) hm198 rfl rfl rfl ?_
    exact wi_iret hm198 rfl h
  · replace h := h.2 hc
    refine wi_aload_n (pc' := 53) hm198 rfl rfl rfl (by decide) ?_
    refine wi_iload_n (pc' := 54) hm198 rfl rfl rfl ?_
    refine wi_iload_n (pc' := 55) hm198 rfl rfl rfl ?_
    refine wi_iload_n (pc' := 56) hm198 rfl rfl rfl ?_
    refine wi_iload (pc' := 58) hm198 rfl rfl rfl ?_
    refine wi_iload (pc' := 60) hm198 rfl rfl rfl ?_
    refine wc_I (pc' := 63) (by decide) rfl (by decide) ((fx_wE hm198 rfl).trans (fx_exV (mj := 169) (as := [(0, y1), (0, y2), (0, y3), (0, y4), (0, y5)]) (rest := []) rfl rk169 rfl rfl rfl rfl rfl)) h (fun y6 σ6 h => ?_)
    refine wi_goto (t := 67) hm198 rfl rfl ?_
    exact wi_iret hm198 rfl h
theorem hm199 : fx_code 199 = fx_c199 := rfl
theorem t199_0 {o0 : Int} {σ : fx_S} {Q : fx_V → fx_S → Prop} (h : fx_CI 187 [(46, o0), (0, 0), (0, 7)] σ Q (fun y1 σ1 => fx_CV 184 [(46, o0), (62, 15)] σ1 Q (fun σ2 => fx_CI 187 [(46, o0), (0, 1), (0, 999)] σ2 Q (fun y2 σ3 => (((σ3 46 o0 12) ≠ (-1) → Q (0, 0) σ3) ∧ ((σ3 46 o0 12) = (-1) → fx_CI 174 [(46, o0), (0, y1), (0, y2)] σ3 Q (fun y3 σ4 => Q (0, y3) σ4))))))) : fx_Ca 199 [(46, o0)] σ Q := by
  show fx_Wp 199 0 [(46, o0), (3, 0), (3, 0)] [] σ Q
  refine wi_aload_n (pc' := 1) hm199 rfl rfl rfl (by decide) ?_
  refine wi_iconst (pc' := 2) (v := 0) hm199 rfl rfl rfl ?_
  refine wi_bipush (pc' := 4) (v := 7) hm199 rfl rfl rfl ?_
  refine wc_I (pc' := 7) (by decide) rfl (by decide) ((fx_wE hm199 rfl).trans (fx_exV (mj := 187) (as := [(0, 0), (0, 7)]) (rest := []) rfl rk187 rfl rfl rfl rfl rfl)) h (fun y1 σ1 h => ?_)
  refine wi_istore_n (pc' := 8) (L' := [(46, o0), (0, y1), (3, 0)]) hm199 rfl rfl rfl ?_
  refine wi_aload_n (pc' := 9) hm199 rfl rfl rfl (by decide) ?_
  refine wi_ldc (pc' := 11) (v := 15) hm199 rfl rfl rfl rfl ?_
  refine wc_V (pc' := 14) (by decide) rfl (by decide) ((fx_wE hm199 rfl).trans (fx_exV (mj := 184) (as := [(62, 15)]) (rest := []) rfl rk184 rfl rfl rfl rfl rfl)) h (fun σ2 h => ?_)
  refine wi_aload_n (pc' := 15) hm199 rfl rfl rfl (by decide) ?_
  refine wi_iconst (pc' := 16) (v := 1) hm199 rfl rfl rfl ?_
  refine wi_sipush (pc' := 19) (v := 999) hm199 rfl rfl rfl ?_
  refine wc_I (pc' := 22) (by decide) rfl (by decide) ((fx_wE hm199 rfl).trans (fx_exV (mj := 187) (as := [(0, 1), (0, 999)]) (rest := []) rfl rk187 rfl rfl rfl rfl rfl)) h (fun y2 σ3 h => ?_)
  refine wi_istore_n (pc' := 23) (L' := [(46, o0), (0, y1), (0, y2)]) hm199 rfl rfl rfl ?_
  refine wi_aload_n (pc' := 24) hm199 rfl rfl rfl (by decide) ?_
  refine wi_getI (pc' := 27) hm199 rfl rfl (P := 12) rfl ?_
  refine wi_iconst (pc' := 28) (v := (-1)) hm199 rfl rfl rfl ?_
  refine wi_ic_ne (pc' := 31) (t := 40) hm199 rfl rfl rfl (fun hc => ?_) (fun hc => ?_)
  · replace h := h.1 hc
    refine wi_iconst (pc' := 41) (v := 0) hm199 rfl rfl rfl ?_
    exact wi_iret hm199 rfl h
  · replace h := h.2 hc
    refine wi_aload_n (pc' := 32) hm199 rfl rfl rfl (by decide) ?_
    refine wi_iload_n (pc' := 33) hm199 rfl rfl rfl ?_
    refine wi_iload_n (pc' := 34) hm199 rfl rfl rfl ?_
    refine wc_I (pc' := 37) (by decide) rfl (by decide) ((fx_wE hm199 rfl).trans (fx_exV (mj := 174) (as := [(0, y1), (0, y2)]) (rest := []) rfl rk174 rfl rfl rfl rfl rfl)) h (fun y3 σ4 h => ?_)
    refine wi_goto (t := 41) hm199 rfl rfl ?_
    exact wi_iret hm199 rfl h
theorem hm200 : fx_code 200 = fx_c200 := rfl
theorem t200_0 {o0 x1 : Int} {σ : fx_S} {Q : fx_V → fx_S → Prop} (h : fx_CI 187 [(46, o0), (0, 0), (0, 7)] σ Q (fun y1 σ1 => (((σ1 46 o0 12) ≠ (-1) → Q (0, 0) σ1) ∧ ((σ1 46 o0 12) = (-1) → fx_CI 171 [(46, o0), (0, y1), (0, x1)] σ1 Q (fun y2 σ2 => Q (0, y2) σ2))))) : fx_Ca 200 [(46, o0), (0, x1)] σ Q := by
  show fx_Wp 200 0 [(46, o0), (0, x1), (3, 0)] [] σ Q
  refine wi_aload_n (pc' := 1) hm200 rfl rfl rfl (by decide) ?_
  refine wi_iconst (pc' := 2) (v := 0) hm200 rfl rfl rfl ?_
  refine wi_bipush (pc' := 4) (v := 7) hm200 rfl rfl rfl ?_
  refine wc_I (pc' := 7) (by decide) rfl (by decide) ((fx_wE hm200 rfl).trans (fx_exV (mj := 187) (as := [(0, 0), (0, 7)]) (rest := []) rfl rk187 rfl rfl rfl rfl rfl)) h (fun y1 σ1 h => ?_)
  refine wi_istore_n (pc' := 8) (L' := [(46, o0), (0, x1), (0, y1)]) hm200 rfl rfl rfl ?_
  refine wi_aload_n (pc' := 9) hm200 rfl rfl rfl (by decide) ?_
  refine wi_getI (pc' := 12) hm200 rfl rfl (P := 12) rfl ?_
  refine wi_iconst (pc' := 13) (v := (-1)) hm200 rfl rfl rfl ?_
  refine wi_ic_ne (pc' := 16) (t := 25) hm200 rfl rfl rfl (fun hc => ?_) (fun hc => ?_)
  · replace h := h.1 hc
    refine wi_iconst (pc' := 26) (v := 0) hm200 rfl rfl rfl ?_
    exact wi_iret hm200 rfl h
  · replace h := h.2 hc
    refine wi_aload_n (pc' := 17) hm200 rfl rfl rfl (by decide) ?_
    refine wi_iload_n (pc' := 18) hm200 rfl rfl rfl ?_
    refine wi_iload_n (pc' := 19) hm200 rfl rfl rfl ?_
    refine wc_I (pc' := 22) (by decide) rfl (by decide) ((fx_wE hm200 rfl).trans (fx_exV (mj := 171) (as := [(0, y1), (0, x1)]) (rest := []) rfl rk171 rfl rfl rfl rfl rfl)) h (fun y2 σ2 h => ?_)
    refine wi_goto (t := 26) hm200 rfl rfl ?_
    exact wi_iret hm200 rfl h
theorem hm201 : fx_code 201 = fx_c201 := rfl
theorem t201_0 {o0 : Int} {σ : fx_S} {Q : fx_V → fx_S → Prop} (h : fx_CI 187 [(46, o0), (0, 0), (0, 7)] σ Q (fun y1 σ1 => fx_CI 187 [(46, o0), (0, 0), (0, 99)] σ1 Q (fun y2 σ2 => (((σ2 46 o0 12) ≠ (-1) → Q (0, 0) σ2) ∧ ((σ2 46 o0 12) = (-1) → fx_CI 172 [(46, o0), (0, y1), (0, y2)] σ2 Q (fun y3 σ3 => Q (0, y3) σ3)))))) : fx_Ca 201 [(46, o0)] σ Q := by
  show fx_Wp 201 0 [(46, o0), (3, 0), (3, 0)] [] σ Q
  refine wi_aload_n (pc' := 1) hm201 rfl rfl rfl (by decide) ?_
  refine wi_iconst (pc' := 2) (v := 0) hm201 rfl rfl rfl ?_
  refine wi_bipush (pc' := 4) (v := 7) hm201 rfl rfl rfl ?_
  refine wc_I (pc' := 7) (by decide) rfl (by decide) ((fx_wE hm201 rfl).trans (fx_exV (mj := 187) (as := [(0, 0), (0, 7)]) (rest := []) rfl rk187 rfl rfl rfl rfl rfl)) h (fun y1 σ1 h => ?_)
  refine wi_istore_n (pc' := 8) (L' := [(46, o0), (0, y1), (3, 0)]) hm201 rfl rfl rfl ?_
  refine wi_aload_n (pc' := 9) hm201 rfl rfl rfl (by decide) ?_
  refine wi_iconst (pc' := 10) (v := 0) hm201 rfl rfl rfl ?_
  refine wi_bipush (pc' := 12) (v := 99) hm201 rfl rfl rfl ?_
  refine wc_I (pc' := 15) (by decide) rfl (by decide) ((fx_wE hm201 rfl).trans (fx_exV (mj := 187) (as := [(0, 0), (0, 99)]) (rest := []) rfl rk187 rfl rfl rfl rfl rfl)) h (fun y2 σ2 h => ?_)
  refine wi_istore_n (pc' := 16) (L' := [(46, o0), (0, y1), (0, y2)]) hm201 rfl rfl rfl ?_
  refine wi_aload_n (pc' := 17) hm201 rfl rfl rfl (by decide) ?_
  refine wi_getI (pc' := 20) hm201 rfl rfl (P := 12) rfl ?_
  refine wi_iconst (pc' := 21) (v := (-1)) hm201 rfl rfl rfl ?_
  refine wi_ic_ne (pc' := 24) (t := 33) hm201 rfl rfl rfl (fun hc => ?_) (fun hc => ?_)
  · replace h := h.1 hc
    refine wi_iconst (pc' := 34) (v := 0) hm201 rfl rfl rfl ?_
    exact wi_iret hm201 rfl h
  · replace h := h.2 hc
    refine wi_aload_n (pc' := 25) hm201 rfl rfl rfl (by decide) ?_
    refine wi_iload_n (pc' := 26) hm201 rfl rfl rfl ?_
    refine wi_iload_n (pc' := 27) hm201 rfl rfl rfl ?_
    refine wc_I (pc' := 30) (by decide) rfl (by decide) ((fx_wE hm201 rfl).trans (fx_exV (mj := 172) (as := [(0, y1), (0, y2)]) (rest := []) rfl rk172 rfl rfl rfl rfl rfl)) h (fun y3 σ3 h => ?_)
    refine wi_goto (t := 34) hm201 rfl rfl ?_
    exact wi_iret hm201 rfl h
theorem hm202 : fx_code 202 = fx_c202 := rfl
theorem t202_0 {o0 : Int} {σ : fx_S} {Q : fx_V → fx_S → Prop} (h : fx_CI 181 [(46, o0)] σ Q (fun y1 σ1 => fx_CI 183 [(46, o0), (62, 0)] σ1 Q (fun y2 σ2 => ((y2 = 0 → fx_CI 183 [(46, o0), (62, 1)] σ2 Q (fun y3 σ3 => ((y3 = 0 → fx_CI 183 [(46, o0), (62, 2)] σ3 Q (fun y4 σ4 => ((y4 = 0 → fx_CI 183 [(46, o0), (62, 3)] σ4 Q (fun y5 σ5 => ((y5 = 0 → fx_CI 183 [(46, o0), (62, 4)] σ5 Q (fun y6 σ6 => ((y6 = 0 → fx_CI 183 [(46, o0), (62, 5)] σ6 Q (fun y7 σ7 => ((y7 = 0 → fx_CI 183 [(46, o0), (62, 6)] σ7 Q (fun y8 σ8 => ((y8 = 0 → fx_CI 183 [(46, o0), (62, 7)] σ8 Q (fun y9 σ9 => ((y9 = 0 → fx_CV 182 [(46, o0), (0, y1)] σ9 Q (fun σ10 => fx_Wp 202 197 [(46, o0), (0, y1), (0, 0), (3, 0)] [] σ10 Q)) ∧ (y9 ≠ 0 → fx_CI 197 [(46, o0)] σ9 Q (fun y10 σ11 => fx_Wp 202 197 [(46, o0), (0, y1), (0, y10), (3, 0)] [] σ11 Q))))) ∧ (y8 ≠ 0 → fx_CI 199 [(46, o0)] σ8 Q (fun y11 σ12 => fx_Wp 202 197 [(46, o0), (0, y1), (0, y11), (3, 0)] [] σ12 Q))))) ∧ (y7 ≠ 0 → fx_CI 201 [(46, o0)] σ7 Q (fun y12 σ13 => fx_Wp 202 197 [(46, o0), (0, y1), (0, y12), (3, 0)] [] σ13 Q))))) ∧ (y6 ≠ 0 → fx_CI 200 [(46, o0), (0, 0)] σ6 Q (fun y13 σ14 => fx_Wp 202 197 [(46, o0), (0, y1), (0, y13), (3, 0)] [] σ14 Q))))) ∧ (y5 ≠ 0 → fx_CI 200 [(46, o0), (0, 1)] σ5 Q (fun y14 σ15 => fx_Wp 202 197 [(46, o0), (0, y1), (0, y14), (3, 0)] [] σ15 Q))))) ∧ (y4 ≠ 0 → fx_CI 187 [(46, o0), (0, 0), (0, 59)] σ4 Q (fun y15 σ16 => (((σ16 46 o0 12) ≠ (-1) → fx_Wp 202 197 [(46, o0), (0, y1), (0, 0), (0, y15)] [] σ16 Q) ∧ ((σ16 46 o0 12) = (-1) → fx_CI 170 [(46, o0), (0, y15)] σ16 Q (fun y16 σ17 => fx_Wp 202 197 [(46, o0), (0, y1), (0, y16), (0, y15)] [] σ17 Q)))))))) ∧ (y3 ≠ 0 → fx_CI 198 [(46, o0)] σ3 Q (fun y17 σ18 => fx_Wp 202 197 [(46, o0), (0, y1), (0, y17), (3, 0)] [] σ18 Q))))) ∧ (y2 ≠ 0 → fx_CI 187 [(46, o0), (0, 0), (0, 99)] σ2 Q (fun y18 σ19 => (((σ19 46 o0 12) ≠ (-1) → fx_Wp 202 197 [(46, o0), (0, y1), (0, 0), (0, y18)] [] σ19 Q) ∧ ((σ19 46 o0 12) = (-1) → fx_CI 168 [(46, o0), (0, y18)] σ19 Q (fun y19 σ20 => fx_Wp 202 197 [(46, o0), (0, y1), (0, y19), (0, y18)] [] σ20 Q))))))))) : fx_Ca 202 [(46, o0)] σ Q := by
  show fx_Wp 202 0 [(46, o0), (3, 0), (3, 0), (3, 0)] [] σ Q
  refine wi_aload_n (pc' := 1) hm202 rfl rfl rfl (by decide) ?_
  refine wc_I (pc' := 4) (by decide) rfl (by decide) ((fx_wE hm202 rfl).trans (fx_exV (mj := 181) (as := []) (rest := []) rfl rk181 rfl rfl rfl rfl rfl)) h (fun y1 σ1 h => ?_)
  refine wi_istore_n (pc' := 5) (L' := [(46, o0), (0, y1), (3, 0), (3, 0)]) hm202 rfl rfl rfl ?_
  refine wi_iconst (pc' := 6) (v := 0) hm202 rfl rfl rfl ?_
  refine wi_istore_n (pc' := 7) (L' := [(46, o0), (0, y1), (0, 0), (3, 0)]) hm202 rfl rfl rfl ?_
  refine wi_aload_n (pc' := 8) hm202 rfl rfl rfl (by decide) ?_
  refine wi_ldc (pc' := 10) (v := 0) hm202 rfl rfl rfl rfl ?_
  refine wc_I (pc' := 13) (by decide) rfl (by decide) ((fx_wE hm202 rfl).trans (fx_exV (mj := 183) (as := [(62, 0)]) (rest := []) rfl rk183 rfl rfl rfl rfl rfl)) h (fun y2 σ2 h => ?_)
  refine wi_if_eq (pc' := 16) (t := 45) hm202 rfl rfl rfl (fun hc => ?_) (fun hc => ?_)
  · replace h := h.1 hc
    refine wi_aload_n (pc' := 46) hm202 rfl rfl rfl (by decide) ?_
    refine wi_ldc (pc' := 48) (v := 1) hm202 rfl rfl rfl rfl ?_
    refine wc_I (pc' := 51) (by decide) rfl (by decide) ((fx_wE hm202 rfl).trans (fx_exV (mj := 183) (as := [(62, 1)]) (rest := []) rfl rk183 rfl rfl rfl rfl rfl)) h (fun y3 σ3 h => ?_)
    refine wi_if_eq (pc' := 54) (t := 62) hm202 rfl rfl rfl (fun hc => ?_) (fun hc => ?_)
    · replace h := h.1 hc
      refine wi_aload_n (pc' := 63) hm202 rfl rfl rfl (by decide) ?_
      refine wi_ldc (pc' := 65) (v := 2) hm202 rfl rfl rfl rfl ?_
      refine wc_I (pc' := 68) (by decide) rfl (by decide) ((fx_wE hm202 rfl).trans (fx_exV (mj := 183) (as := [(62, 2)]) (rest := []) rfl rk183 rfl rfl rfl rfl rfl)) h (fun y4 σ4 h => ?_)
      refine wi_if_eq (pc' := 71) (t := 100) hm202 rfl rfl rfl (fun hc => ?_) (fun hc => ?_)
      · replace h := h.1 hc
        refine wi_aload_n (pc' := 101) hm202 rfl rfl rfl (by decide) ?_
        refine wi_ldc_w (pc' := 104) (v := 3) hm202 rfl rfl rfl rfl ?_
        refine wc_I (pc' := 107) (by decide) rfl (by decide) ((fx_wE hm202 rfl).trans (fx_exV (mj := 183) (as := [(62, 3)]) (rest := []) rfl rk183 rfl rfl rfl rfl rfl)) h (fun y5 σ5 h => ?_)
        refine wi_if_eq (pc' := 110) (t := 119) hm202 rfl rfl rfl (fun hc => ?_) (fun hc => ?_)
        · replace h := h.1 hc
          refine wi_aload_n (pc' := 120) hm202 rfl rfl rfl (by decide) ?_
          refine wi_ldc_w (pc' := 123) (v := 4) hm202 rfl rfl rfl rfl ?_
          refine wc_I (pc' := 126) (by decide) rfl (by decide) ((fx_wE hm202 rfl).trans (fx_exV (mj := 183) (as := [(62, 4)]) (rest := []) rfl rk183 rfl rfl rfl rfl rfl)) h (fun y6 σ6 h => ?_)
          refine wi_if_eq (pc' := 129) (t := 138) hm202 rfl rfl rfl (fun hc => ?_) (fun hc => ?_)
          · replace h := h.1 hc
            refine wi_aload_n (pc' := 139) hm202 rfl rfl rfl (by decide) ?_
            refine wi_ldc_w (pc' := 142) (v := 5) hm202 rfl rfl rfl rfl ?_
            refine wc_I (pc' := 145) (by decide) rfl (by decide) ((fx_wE hm202 rfl).trans (fx_exV (mj := 183) (as := [(62, 5)]) (rest := []) rfl rk183 rfl rfl rfl rfl rfl)) h (fun y7 σ7 h => ?_)
            refine wi_if_eq (pc' := 148) (t := 156) hm202 rfl rfl rfl (fun hc => ?_) (fun hc => ?_)
            · replace h := h.1 hc
              refine wi_aload_n (pc' := 157) hm202 rfl rfl rfl (by decide) ?_
              refine wi_ldc_w (pc' := 160) (v := 6) hm202 rfl rfl rfl rfl ?_
              refine wc_I (pc' := 163) (by decide) rfl (by decide) ((fx_wE hm202 rfl).trans (fx_exV (mj := 183) (as := [(62, 6)]) (rest := []) rfl rk183 rfl rfl rfl rfl rfl)) h (fun y8 σ8 h => ?_)
              refine wi_if_eq (pc' := 166) (t := 174) hm202 rfl rfl rfl (fun hc => ?_) (fun hc => ?_)
              · replace h := h.1 hc
                refine wi_aload_n (pc' := 175) hm202 rfl rfl rfl (by decide) ?_
                refine wi_ldc_w (pc' := 178) (v := 7) hm202 rfl rfl rfl rfl ?_
                refine wc_I (pc' := 181) (by decide) rfl (by decide) ((fx_wE hm202 rfl).trans (fx_exV (mj := 183) (as := [(62, 7)]) (rest := []) rfl rk183 rfl rfl rfl rfl rfl)) h (fun y9 σ9 h => ?_)
                refine wi_if_eq (pc' := 184) (t := 192) hm202 rfl rfl rfl (fun hc => ?_) (fun hc => ?_)
                · replace h := h.1 hc
                  refine wi_aload_n (pc' := 193) hm202 rfl rfl rfl (by decide) ?_
                  refine wi_iload_n (pc' := 194) hm202 rfl rfl rfl ?_
                  refine wc_V (pc' := 197) (by decide) rfl (by decide) ((fx_wE hm202 rfl).trans (fx_exV (mj := 182) (as := [(0, y1)]) (rest := []) rfl rk182 rfl rfl rfl rfl rfl)) h (fun σ10 h => ?_)
                  exact h
                · replace h := h.2 hc
                  refine wi_aload_n (pc' := 185) hm202 rfl rfl rfl (by decide) ?_
                  refine wc_I (pc' := 188) (by decide) rfl (by decide) ((fx_wE hm202 rfl).trans (fx_exV (mj := 197) (as := []) (rest := []) rfl rk197 rfl rfl rfl rfl rfl)) h (fun y10 σ11 h => ?_)
                  refine wi_istore_n (pc' := 189) (L' := [(46, o0), (0, y1), (0, y10), (3, 0)]) hm202 rfl rfl rfl ?_
                  refine wi_goto (t := 197) hm202 rfl rfl ?_
                  exact h
              · replace h := h.2 hc
                refine wi_aload_n (pc' := 167) hm202 rfl rfl rfl (by decide) ?_
                refine wc_I (pc' := 170) (by decide) rfl (by decide) ((fx_wE hm202 rfl).trans (fx_exV (mj := 199) (as := []) (rest := []) rfl rk199 rfl rfl rfl rfl rfl)) h (fun y11 σ12 h => ?_)
                refine wi_istore_n (pc' := 171) (L' := [(46, o0), (0, y1), (0, y11), (3, 0)]) hm202 rfl rfl rfl ?_
                refine wi_goto (t := 197) hm202 rfl rfl ?_
                exact h
            · replace h := h.2 hc
              refine wi_aload_n (pc' := 149) hm202 rfl rfl rfl (by decide) ?_
              refine wc_I (pc' := 152) (by decide) rfl (by decide) ((fx_wE hm202 rfl).trans (fx_exV (mj := 201) (as := []) (rest := []) rfl rk201 rfl rfl rfl rfl rfl)) h (fun y12 σ13 h => ?_)
              refine wi_istore_n (pc' := 153) (L' := [(46, o0), (0, y1), (0, y12), (3, 0)]) hm202 rfl rfl rfl ?_
              refine wi_goto (t := 197) hm202 rfl rfl ?_
              exact h
          · replace h := h.2 hc
            refine wi_aload_n (pc' := 130) hm202 rfl rfl rfl (by decide) ?_
            refine wi_iconst (pc' := 131) (v := 0) hm202 rfl rfl rfl ?_
            refine wc_I (pc' := 134) (by decide) rfl (by decide) ((fx_wE hm202 rfl).trans (fx_exV (mj := 200) (as := [(0, 0)]) (rest := []) rfl rk200 rfl rfl rfl rfl rfl)) h (fun y13 σ14 h => ?_)
            refine wi_istore_n (pc' := 135) (L' := [(46, o0), (0, y1), (0, y13), (3, 0)]) hm202 rfl rfl rfl ?_
            refine wi_goto (t := 197) hm202 rfl rfl ?_
            exact h
        · replace h := h.2 hc
          refine wi_aload_n (pc' := 111) hm202 rfl rfl rfl (by decide) ?_
          refine wi_iconst (pc' := 112) (v := 1) hm202 rfl rfl rfl ?_
          refine wc_I (pc' := 115) (by decide) rfl (by decide) ((fx_wE hm202 rfl).trans (fx_exV (mj := 200) (as := [(0, 1)]) (rest := []) rfl rk200 rfl rfl rfl rfl rfl)) h (fun y14 σ15 h => ?_)
          refine wi_istore_n (pc' := 116) (L' := [(46, o0), (0, y1), (0, y14), (3, 0)]) hm202 rfl rfl rfl ?_
          refine wi_goto (t := 197) hm202 rfl rfl ?_
          exact h
      · replace h := h.2 hc
        refine wi_aload_n (pc' := 72) hm202 rfl rfl rfl (by decide) ?_
        refine wi_iconst (pc' := 73) (v := 0) hm202 rfl rfl rfl ?_
        refine wi_bipush (pc' := 75) (v := 59) hm202 rfl rfl rfl ?_
        refine wc_I (pc' := 78) (by decide) rfl (by decide) ((fx_wE hm202 rfl).trans (fx_exV (mj := 187) (as := [(0, 0), (0, 59)]) (rest := []) rfl rk187 rfl rfl rfl rfl rfl)) h (fun y15 σ16 h => ?_)
        refine wi_istore_n (pc' := 79) (L' := [(46, o0), (0, y1), (0, 0), (0, y15)]) hm202 rfl rfl rfl ?_
        refine wi_aload_n (pc' := 80) hm202 rfl rfl rfl (by decide) ?_
        refine wi_getI (pc' := 83) hm202 rfl rfl (P := 12) rfl ?_
        refine wi_iconst (pc' := 84) (v := (-1)) hm202 rfl rfl rfl ?_
        refine wi_ic_ne (pc' := 87) (t := 95) hm202 rfl rfl rfl (fun hc => ?_) (fun hc => ?_)
        · replace h := h.1 hc
          refine wi_iconst (pc' := 96) (v := 0) hm202 rfl rfl rfl ?_
          refine wi_istore_n (pc' := 97) (L' := [(46, o0), (0, y1), (0, 0), (0, y15)]) hm202 rfl rfl rfl ?_
          refine wi_goto (t := 197) hm202 rfl rfl ?_
          exact h
        · replace h := h.2 hc
          refine wi_aload_n (pc' := 88) hm202 rfl rfl rfl (by decide) ?_
          refine wi_iload_n (pc' := 89) hm202 rfl rfl rfl ?_
          refine wc_I (pc' := 92) (by decide) rfl (by decide) ((fx_wE hm202 rfl).trans (fx_exV (mj := 170) (as := [(0, y15)]) (rest := []) rfl rk170 rfl rfl rfl rfl rfl)) h (fun y16 σ17 h => ?_)
          refine wi_goto (t := 96) hm202 rfl rfl ?_
          refine wi_istore_n (pc' := 97) (L' := [(46, o0), (0, y1), (0, y16), (0, y15)]) hm202 rfl rfl rfl ?_
          refine wi_goto (t := 197) hm202 rfl rfl ?_
          exact h
    · replace h := h.2 hc
      refine wi_aload_n (pc' := 55) hm202 rfl rfl rfl (by decide) ?_
      refine wc_I (pc' := 58) (by decide) rfl (by decide) ((fx_wE hm202 rfl).trans (fx_exV (mj := 198) (as := []) (rest := []) rfl rk198 rfl rfl rfl rfl rfl)) h (fun y17 σ18 h => ?_)
      refine wi_istore_n (pc' := 59) (L' := [(46, o0), (0, y1), (0, y17), (3, 0)]) hm202 rfl rfl rfl ?_
      refine wi_goto (t := 197) hm202 rfl rfl ?_
      exact h
  · replace h := h.2 hc
    refine wi_aload_n (pc' := 17) hm202 rfl rfl rfl (by decide) ?_
    refine wi_iconst (pc' := 18) (v := 0) hm202 rfl rfl rfl ?_
    refine wi_bipush (pc' := 20) (v := 99) hm202 rfl rfl rfl ?_
    refine wc_I (pc' := 23) (by decide) rfl (by decide) ((fx_wE hm202 rfl).trans (fx_exV (mj := 187) (as := [(0, 0), (0, 99)]) (rest := []) rfl rk187 rfl rfl rfl rfl rfl)) h (fun y18 σ19 h => ?_)
    refine wi_istore_n (pc' := 24) (L' := [(46, o0), (0, y1), (0, 0), (0, y18)]) hm202 rfl rfl rfl ?_
    refine wi_aload_n (pc' := 25) hm202 rfl rfl rfl (by decide) ?_
    refine wi_getI (pc' := 28) hm202 rfl rfl (P := 12) rfl ?_
    refine wi_iconst (pc' := 29) (v := (-1)) hm202 rfl rfl rfl ?_
    refine wi_ic_ne (pc' := 32) (t := 40) hm202 rfl rfl rfl (fun hc => ?_) (fun hc => ?_)
    · replace h := h.1 hc
      refine wi_iconst (pc' := 41) (v := 0) hm202 rfl rfl rfl ?_
      refine wi_istore_n (pc' := 42) (L' := [(46, o0), (0, y1), (0, 0), (0, y18)]) hm202 rfl rfl rfl ?_
      refine wi_goto (t := 197) hm202 rfl rfl ?_
      exact h
    · replace h := h.2 hc
      refine wi_aload_n (pc' := 33) hm202 rfl rfl rfl (by decide) ?_
      refine wi_iload_n (pc' := 34) hm202 rfl rfl rfl ?_
      refine wc_I (pc' := 37) (by decide) rfl (by decide) ((fx_wE hm202 rfl).trans (fx_exV (mj := 168) (as := [(0, y18)]) (rest := []) rfl rk168 rfl rfl rfl rfl rfl)) h (fun y19 σ20 h => ?_)
      refine wi_goto (t := 41) hm202 rfl rfl ?_
      refine wi_istore_n (pc' := 42) (L' := [(46, o0), (0, y1), (0, y19), (0, y18)]) hm202 rfl rfl rfl ?_
      refine wi_goto (t := 197) hm202 rfl rfl ?_
      exact h
theorem t202_197 {o0 x1 x2 : Int} {w3 : fx_V} {σ : fx_S} {Q : fx_V → fx_S → Prop} (h : (((σ 46 o0 12) = (-1) → ((x2 ≤ 0 → Q (0, x2) σ) ∧ (0 < x2 → fx_CV 182 [(46, o0), (0, x1)] σ Q (fun σ1 => Q (0, x2) σ1)))) ∧ ((σ 46 o0 12) ≠ (-1) → Q (0, 0) σ))) : fx_Wp 202 197 [(46, o0), (0, x1), (0, x2), w3] [] σ Q := by
  refine wi_aload_n (pc' := 198) hm202 rfl rfl rfl (by decide) ?_
  refine wi_getI (pc' := 201) hm202 rfl rfl (P := 12) rfl ?_
  refine wi_iconst (pc' := 202) (v := (-1)) hm202 rfl rfl rfl ?_
  refine wi_ic_eq (pc' := 205) (t := 207) hm202 rfl rfl rfl (fun hc => ?_) (fun hc => ?_)
  · replace h := h.1 hc
    refine wi_iload_n (pc' := 208) hm202 rfl rfl rfl ?_
    refine wi_if_le (pc' := 211) (t := 216) hm202 rfl rfl rfl (fun hc => ?_) (fun hc => ?_)
    · replace h := h.1 hc
      refine wi_iload_n (pc' := 217) hm202 rfl rfl rfl ?_
      exact wi_iret hm202 rfl h
    · replace h := h.2 hc
      refine wi_aload_n (pc' := 212) hm202 rfl rfl rfl (by decide) ?_
      refine wi_iload_n (pc' := 213) hm202 rfl rfl rfl ?_
      refine wc_V (pc' := 216) (by decide) rfl (by decide) ((fx_wE hm202 rfl).trans (fx_exV (mj := 182) (as := [(0, x1)]) (rest := []) rfl rk182 rfl rfl rfl rfl rfl)) h (fun σ1 h => ?_)
      refine wi_iload_n (pc' := 217) hm202 rfl rfl rfl ?_
      exact wi_iret hm202 rfl h
  · replace h := h.2 hc
    refine wi_iconst (pc' := 206) (v := 0) hm202 rfl rfl rfl ?_
    exact wi_iret hm202 rfl h
theorem hm203 : fx_code 203 = fx_c203 := rfl
theorem t203_0 {o0 : Int} {σ : fx_S} {Q : fx_V → fx_S → Prop} (h : fx_CV 176 [(46, o0)] (fx_up (fx_up (fx_up (fx_up σ 46 o0 12 (-1)) 46 o0 10 (σ 46 o0 9)) 46 o0 9 0) 46 o0 11 0) Q (fun σ1 => fx_CI 181 [(46, o0)] σ1 Q (fun y1 σ2 => (((σ2 46 o0 10) ≤ y1 → fx_Wp 203 48 [(46, o0), (0, 0), (0, 0), (0, 0), (3, 0)] [] σ2 Q) ∧ (y1 < (σ2 46 o0 10) → fx_Wp 203 48 [(46, o0), (0, 0), (0, 0), (0, 1), (3, 0)] [] σ2 Q))))) : fx_Ca 203 [(46, o0)] σ Q := by
  show fx_Wp 203 0 [(46, o0), (3, 0), (3, 0), (3, 0), (3, 0)] [] σ Q
  refine wi_aload_n (pc' := 1) hm203 rfl rfl rfl (by decide) ?_
  refine wi_iconst (pc' := 2) (v := (-1)) hm203 rfl rfl rfl ?_
  refine wi_putI (pc' := 5) hm203 rfl rfl (P := 12) rfl ?_
  refine wi_aload_n (pc' := 6) hm203 rfl rfl rfl (by decide) ?_
  refine wi_aload_n (pc' := 7) hm203 rfl rfl rfl (by decide) ?_
  refine wi_getIe (pc' := 10) hm203 rfl rfl (P := 9) rfl (x := (σ 46 o0 9)) (Eq.trans (fx_upJ (by decide)) rfl) ?_
  refine wi_putI (pc' := 13) hm203 rfl rfl (P := 10) rfl ?_
  refine wi_aload_n (pc' := 14) hm203 rfl rfl rfl (by decide) ?_
  refine wi_iconst (pc' := 15) (v := 0) hm203 rfl rfl rfl ?_
  refine wi_putI (pc' := 18) hm203 rfl rfl (P := 9) rfl ?_
  refine wi_aload_n (pc' := 19) hm203 rfl rfl rfl (by decide) ?_
  refine wi_iconst (pc' := 20) (v := 0) hm203 rfl rfl rfl ?_
  refine wi_putI (pc' := 23) hm203 rfl rfl (P := 11) rfl ?_
  refine wi_aload_n (pc' := 24) hm203 rfl rfl rfl (by decide) ?_
  refine wc_V (pc' := 27) (by decide) rfl (by decide) ((fx_wE hm203 rfl).trans (fx_exV (mj := 176) (as := []) (rest := []) rfl rk176 rfl rfl rfl rfl rfl)) h (fun σ1 h => ?_)
  refine wi_iconst (pc' := 28) (v := 0) hm203 rfl rfl rfl ?_
  refine wi_istore_n (pc' := 29) (L' := [(46, o0), (0, 0), (3, 0), (3, 0), (3, 0)]) hm203 rfl rfl rfl ?_
  refine wi_iconst (pc' := 30) (v := 0) hm203 rfl rfl rfl ?_
  refine wi_istore_n (pc' := 31) (L' := [(46, o0), (0, 0), (0, 0), (3, 0), (3, 0)]) hm203 rfl rfl rfl ?_
  refine wi_aload_n (pc' := 32) hm203 rfl rfl rfl (by decide) ?_
  refine wc_I (pc' := 35) (by decide) rfl (by decide) ((fx_wE hm203 rfl).trans (fx_exV (mj := 181) (as := []) (rest := []) rfl rk181 rfl rfl rfl rfl rfl)) h (fun y1 σ2 h => ?_)
  refine wi_aload_n (pc' := 36) hm203 rfl rfl rfl (by decide) ?_
  refine wi_getI (pc' := 39) hm203 rfl rfl (P := 10) rfl ?_
  refine wi_ic_ge (pc' := 42) (t := 46) hm203 rfl rfl rfl (fun hc => ?_) (fun hc => ?_)
  · replace h := h.1 hc
    refine wi_iconst (pc' := 47) (v := 0) hm203 rfl rfl rfl ?_
    refine wi_istore_n (pc' := 48) (L' := [(46, o0), (0, 0), (0, 0), (0, 0), (3, 0)]) hm203 rfl rfl rfl ?_
    exact h
  · replace h := h.2 hc
    refine wi_iconst (pc' := 43) (v := 1) hm203 rfl rfl rfl ?_
    refine wi_goto (t := 47) hm203 rfl rfl ?_
    refine wi_istore_n (pc' := 48) (L' := [(46, o0), (0, 0), (0, 0), (0, 1), (3, 0)]) hm203 rfl rfl rfl ?_
    exact h
theorem t203_48 {o0 x1 x2 x3 : Int} {w4 : fx_V} {σ : fx_S} {Q : fx_V → fx_S → Prop} (h : ((x3 = 0 → fx_Wp 203 154 [(46, o0), (0, x1), (0, x2), (0, x3), w4] [] σ Q) ∧ (x3 ≠ 0 → (((σ 46 o0 12) ≠ (-1) → fx_Wp 203 154 [(46, o0), (0, x1), (0, x2), (0, x3), w4] [] σ Q) ∧ ((σ 46 o0 12) = (-1) → ((x1 ≠ 14 → (((σ 46 o0 12) ≠ (-1) → fx_Wp 203 87 [(46, o0), (0, x1), (0, x2), (0, x3), w4] [] σ Q) ∧ ((σ 46 o0 12) = (-1) → fx_CI 202 [(46, o0)] σ Q (fun y1 σ1 => fx_Wp 203 87 [(46, o0), (0, x1), (0, y1), (0, x3), w4] [] σ1 Q)))) ∧ (x1 = 14 → fx_CI 181 [(46, o0)] σ Q (fun y2 σ2 => fx_CV 182 [(46, o0), (0, y2)] σ2 Q (fun σ3 => (((σ3 46 o0 12) ≠ (-1) → fx_Wp 203 87 [(46, o0), (0, x1), (0, x2), (0, x3), w4] [] σ3 Q) ∧ ((σ3 46 o0 12) = (-1) → fx_CI 202 [(46, o0)] σ3 Q (fun y3 σ4 => fx_Wp 203 87 [(46, o0), (0, x1), (0, y3), (0, x3), w4] [] σ4 Q)))))))))))) : fx_Wp 203 48 [(46, o0), (0, x1), (0, x2), (0, x3), w4] [] σ Q := by
  refine wi_iload_n (pc' := 49) hm203 rfl rfl rfl ?_
  refine wi_if_eq (pc' := 52) (t := 154) hm203 rfl rfl rfl (fun hc => ?_) (fun hc => ?_)
  · replace h := h.1 hc
    exact h
  · replace h := h.2 hc
    refine wi_aload_n (pc' := 53) hm203 rfl rfl rfl (by decide) ?_
    refine wi_getI (pc' := 56) hm203 rfl rfl (P := 12) rfl ?_
    refine wi_iconst (pc' := 57) (v := (-1)) hm203 rfl rfl rfl ?_
    refine wi_ic_ne (pc' := 60) (t := 154) hm203 rfl rfl rfl (fun hc => ?_) (fun hc => ?_)
    · replace h := h.1 hc
      exact h
    · replace h := h.2 hc
      refine wi_iload_n (pc' := 61) hm203 rfl rfl rfl ?_
      refine wi_bipush (pc' := 63) (v := 14) hm203 rfl rfl rfl ?_
      refine wi_ic_ne (pc' := 66) (t := 74) hm203 rfl rfl rfl (fun hc => ?_) (fun hc => ?_)
      · replace h := h.1 hc
        refine wi_aload_n (pc' := 75) hm203 rfl rfl rfl (by decide) ?_
        refine wi_getI (pc' := 78) hm203 rfl rfl (P := 12) rfl ?_
        refine wi_iconst (pc' := 79) (v := (-1)) hm203 rfl rfl rfl ?_
        refine wi_ic_ne (pc' := 82) (t := 87) hm203 rfl rfl rfl (fun hc => ?_) (fun hc => ?_)
        · replace h := h.1 hc
          exact h
        · replace h := h.2 hc
          refine wi_aload_n (pc' := 83) hm203 rfl rfl rfl (by decide) ?_
          refine wc_I (pc' := 86) (by decide) rfl (by decide) ((fx_wE hm203 rfl).trans (fx_exV (mj := 202) (as := []) (rest := []) rfl rk202 rfl rfl rfl rfl rfl)) h (fun y1 σ1 h => ?_)
          refine wi_istore_n (pc' := 87) (L' := [(46, o0), (0, x1), (0, y1), (0, x3), w4]) hm203 rfl rfl rfl ?_
          exact h
      · replace h := h.2 hc
        refine wi_aload_n (pc' := 67) hm203 rfl rfl rfl (by decide) ?_
        refine wi_aload_n (pc' := 68) hm203 rfl rfl rfl (by decide) ?_
        refine wc_I (pc' := 71) (by decide) rfl (by decide) ((fx_wE hm203 rfl).trans (fx_exV (mj := 181) (as := []) (rest := [(46, o0)]) rfl rk181 rfl rfl rfl rfl rfl)) h (fun y2 σ2 h => ?_)
        refine wc_V (pc' := 74) (by decide) rfl (by decide) ((fx_wE hm203 rfl).trans (fx_exV (mj := 182) (as := [(0, y2)]) (rest := []) rfl rk182 rfl rfl rfl rfl rfl)) h (fun σ3 h => ?_)
        refine wi_aload_n (pc' := 75) hm203 rfl rfl rfl (by decide) ?_
        refine wi_getI (pc' := 78) hm203 rfl rfl (P := 12) rfl ?_
        refine wi_iconst (pc' := 79) (v := (-1)) hm203 rfl rfl rfl ?_
        refine wi_ic_ne (pc' := 82) (t := 87) hm203 rfl rfl rfl (fun hc => ?_) (fun hc => ?_)
        · replace h := h.1 hc
          exact h
        · replace h := h.2 hc
          refine wi_aload_n (pc' := 83) hm203 rfl rfl rfl (by decide) ?_
          refine wc_I (pc' := 86) (by decide) rfl (by decide) ((fx_wE hm203 rfl).trans (fx_exV (mj := 202) (as := []) (rest := []) rfl rk202 rfl rfl rfl rfl rfl)) h (fun y3 σ4 h => ?_)
          refine wi_istore_n (pc' := 87) (L' := [(46, o0), (0, x1), (0, y3), (0, x3), w4]) hm203 rfl rfl rfl ?_
          exact h
theorem t203_87 {o0 x1 x2 : Int} {w3 w4 : fx_V} {σ : fx_S} {Q : fx_V → fx_S → Prop} (h : (fx_rg (x1 + 1)) ∧ fx_CI 181 [(46, o0)] σ Q (fun y1 σ1 => (((σ1 46 o0 10) ≤ y1 → fx_Wp 203 48 [(46, o0), (0, (x1 + 1)), (0, x2), (0, 0), w4] [] σ1 Q) ∧ (y1 < (σ1 46 o0 10) → (((σ1 46 o0 12) ≠ (-1) → fx_Wp 203 48 [(46, o0), (0, (x1 + 1)), (0, x2), (0, 1), w4] [] σ1 Q) ∧ ((σ1 46 o0 12) = (-1) → (0 ≤ (σ1 46 o0 11) ∧ (σ1 46 o0 11) < 400) ∧ (((σ1 51 0 (σ1 46 o0 11)) = 59 → (fx_rg ((σ1 46 o0 11) + 1)) ∧ fx_Wp 203 48 [(46, o0), (0, (x1 + 1)), (0, x2), (0, 1), w4] [] (fx_up σ1 46 o0 11 ((σ1 46 o0 11) + 1)) Q) ∧ ((σ1 51 0 (σ1 46 o0 11)) ≠ 59 → fx_CV 182 [(46, o0), (0, (σ1 46 o0 11))] σ1 Q (fun σ2 => (fx_rg ((σ2 46 o0 11) + 1)) ∧ fx_Wp 203 48 [(46, o0), (0, (x1 + 1)), (0, x2), (0, 1), w4] [] (fx_up σ2 46 o0 11 ((σ2 46 o0 11) + 1)) Q))))))))) : fx_Wp 203 87 [(46, o0), (0, x1), (0, x2), w3, w4] [] σ Q := by
  obtain ⟨g1, h⟩ := h
  refine wi_iinc (pc' := 90) (L' := [(46, o0), (0, (x1 + 1)), (0, x2), w3, w4]) hm203 rfl rfl rfl g1 rfl ?_
  refine wi_aload_n (pc' := 91) hm203 rfl rfl rfl (by decide) ?_
  refine wc_I (pc' := 94) (by decide) rfl (by decide) ((fx_wE hm203 rfl).trans (fx_exV (mj := 181) (as := []) (rest := []) rfl rk181 rfl rfl rfl rfl rfl)) h (fun y1 σ1 h => ?_)
  refine wi_aload_n (pc' := 95) hm203 rfl rfl rfl (by decide) ?_
  refine wi_getI (pc' := 98) hm203 rfl rfl (P := 10) rfl ?_
  refine wi_ic_ge (pc' := 101) (t := 105) hm203 rfl rfl rfl (fun hc => ?_) (fun hc => ?_)
  · replace h := h.1 hc
    refine wi_iconst (pc' := 106) (v := 0) hm203 rfl rfl rfl ?_
    refine wi_istore_n (pc' := 107) (L' := [(46, o0), (0, (x1 + 1)), (0, x2), (0, 0), w4]) hm203 rfl rfl rfl ?_
    refine wi_iload_n (pc' := 108) hm203 rfl rfl rfl ?_
    refine wi_if_eq (pc' := 111) (t := 48) hm203 rfl rfl rfl (fun _ => ?_) (fun hc => absurd hc (by decide))
    exact h
  · replace h := h.2 hc
    refine wi_iconst (pc' := 102) (v := 1) hm203 rfl rfl rfl ?_
    refine wi_goto (t := 106) hm203 rfl rfl ?_
    refine wi_istore_n (pc' := 107) (L' := [(46, o0), (0, (x1 + 1)), (0, x2), (0, 1), w4]) hm203 rfl rfl rfl ?_
    refine wi_iload_n (pc' := 108) hm203 rfl rfl rfl ?_
    refine wi_if_eq (pc' := 111) (t := 48) hm203 rfl rfl rfl (fun hc => absurd hc (by decide)) (fun _ => ?_)
    refine wi_aload_n (pc' := 112) hm203 rfl rfl rfl (by decide) ?_
    refine wi_getI (pc' := 115) hm203 rfl rfl (P := 12) rfl ?_
    refine wi_iconst (pc' := 116) (v := (-1)) hm203 rfl rfl rfl ?_
    refine wi_ic_ne (pc' := 119) (t := 48) hm203 rfl rfl rfl (fun hc => ?_) (fun hc => ?_)
    · replace h := h.1 hc
      exact h
    · replace h := h.2 hc
      refine wi_aload_n (pc' := 120) hm203 rfl rfl rfl (by decide) ?_
      refine wi_getR (pc' := 123) (x := 0) hm203 rfl rfl rfl (by omega) ?_
      refine wi_aload_n (pc' := 124) hm203 rfl rfl rfl (by decide) ?_
      refine wi_getI (pc' := 127) hm203 rfl rfl (P := 11) rfl ?_
      obtain ⟨g2, h⟩ := h
      refine wi_iaload (pc' := 128) hm203 rfl rfl rfl rfl (N := 400) rfl g2 ?_
      refine wi_bipush (pc' := 130) (v := 59) hm203 rfl rfl rfl ?_
      refine wi_ic_eq (pc' := 133) (t := 141) hm203 rfl rfl rfl (fun hc => ?_) (fun hc => ?_)
      · replace h := h.1 hc
        refine wi_aload_n (pc' := 142) hm203 rfl rfl rfl (by decide) ?_
        refine wi_dup (pc' := 143) hm203 rfl rfl rfl ?_
        refine wi_getI (pc' := 146) hm203 rfl rfl (P := 11) rfl ?_
        refine wi_iconst (pc' := 147) (v := 1) hm203 rfl rfl rfl ?_
        obtain ⟨g3, h⟩ := h
        refine wi_iadd (pc' := 148) hm203 rfl rfl g3 ?_
        refine wi_putI (pc' := 151) hm203 rfl rfl (P := 11) rfl ?_
        refine wi_goto (t := 48) hm203 rfl rfl ?_
        exact h
      · replace h := h.2 hc
        refine wi_aload_n (pc' := 134) hm203 rfl rfl rfl (by decide) ?_
        refine wi_aload_n (pc' := 135) hm203 rfl rfl rfl (by decide) ?_
        refine wi_getI (pc' := 138) hm203 rfl rfl (P := 11) rfl ?_
        refine wc_V (pc' := 141) (by decide) rfl (by decide) ((fx_wE hm203 rfl).trans (fx_exV (mj := 182) (as := [(0, (σ1 46 o0 11))]) (rest := []) rfl rk182 rfl rfl rfl rfl rfl)) h (fun σ2 h => ?_)
        refine wi_aload_n (pc' := 142) hm203 rfl rfl rfl (by decide) ?_
        refine wi_dup (pc' := 143) hm203 rfl rfl rfl ?_
        refine wi_getI (pc' := 146) hm203 rfl rfl (P := 11) rfl ?_
        refine wi_iconst (pc' := 147) (v := 1) hm203 rfl rfl rfl ?_
        obtain ⟨g3, h⟩ := h
        refine wi_iadd (pc' := 148) hm203 rfl rfl g3 ?_
        refine wi_putI (pc' := 151) hm203 rfl rfl (P := 11) rfl ?_
        refine wi_goto (t := 48) hm203 rfl rfl ?_
        exact h
theorem t203_154 {o0 x1 x2 : Int} {w3 w4 : fx_V} {σ : fx_S} {Q : fx_V → fx_S → Prop} (h : (((σ 46 o0 12) ≠ (-1) → ((x2 ≤ 0 → fx_Wp 203 220 [(46, o0), (0, x1), (0, x2), w3, (0, 0)] [] (fx_up (fx_up σ 46 o0 0 1) 46 o0 7 (σ 46 o0 7)) Q) ∧ (0 < x2 → fx_Wp 203 220 [(46, o0), (0, x1), (0, x2), w3, (0, 0)] [] (fx_up (fx_up σ 46 o0 0 1) 46 o0 7 x2) Q))) ∧ ((σ 46 o0 12) = (-1) → ((x1 ≤ 0 → Q (0, x1) (fx_up (fx_up (fx_up σ 46 o0 0 0) 46 o0 7 (σ 46 o0 7)) 46 o0 5 0)) ∧ (0 < x1 → Q (0, x1) (fx_up (fx_up (fx_up σ 46 o0 0 0) 46 o0 7 0) 46 o0 5 0)))))) : fx_Wp 203 154 [(46, o0), (0, x1), (0, x2), w3, w4] [] σ Q := by
  refine wi_aload_n (pc' := 155) hm203 rfl rfl rfl (by decide) ?_
  refine wi_aload_n (pc' := 156) hm203 rfl rfl rfl (by decide) ?_
  refine wi_getI (pc' := 159) hm203 rfl rfl (P := 12) rfl ?_
  refine wi_iconst (pc' := 160) (v := (-1)) hm203 rfl rfl rfl ?_
  refine wi_ic_ne (pc' := 163) (t := 167) hm203 rfl rfl rfl (fun hc => ?_) (fun hc => ?_)
  · replace h := h.1 hc
    refine wi_iconst (pc' := 168) (v := 1) hm203 rfl rfl rfl ?_
    refine wi_putI (pc' := 171) hm203 rfl rfl (P := 0) rfl ?_
    refine wi_aload_n (pc' := 172) hm203 rfl rfl rfl (by decide) ?_
    refine wi_getIe (pc' := 175) hm203 rfl rfl (P := 0) rfl (x := 1) fx_upS ?_
    refine wi_if_ne (pc' := 178) (t := 201) hm203 rfl rfl rfl (fun _ => ?_) (fun hc => absurd hc (by decide))
    refine wi_aload_n (pc' := 202) hm203 rfl rfl rfl (by decide) ?_
    refine wi_iload_n (pc' := 203) hm203 rfl rfl rfl ?_
    refine wi_if_le (pc' := 206) (t := 210) hm203 rfl rfl rfl (fun hc => ?_) (fun hc => ?_)
    · replace h := h.1 hc
      refine wi_aload_n (pc' := 211) hm203 rfl rfl rfl (by decide) ?_
      refine wi_getIe (pc' := 214) hm203 rfl rfl (P := 7) rfl (x := (σ 46 o0 7)) (Eq.trans (fx_upJ (by decide)) rfl) ?_
      refine wi_putI (pc' := 217) hm203 rfl rfl (P := 7) rfl ?_
      refine wi_iconst (pc' := 218) (v := 0) hm203 rfl rfl rfl ?_
      refine wi_istore (pc' := 220) (L' := [(46, o0), (0, x1), (0, x2), w3, (0, 0)]) hm203 rfl rfl rfl ?_
      exact h
    · replace h := h.2 hc
      refine wi_iload_n (pc' := 207) hm203 rfl rfl rfl ?_
      refine wi_goto (t := 214) hm203 rfl rfl ?_
      refine wi_putI (pc' := 217) hm203 rfl rfl (P := 7) rfl ?_
      refine wi_iconst (pc' := 218) (v := 0) hm203 rfl rfl rfl ?_
      refine wi_istore (pc' := 220) (L' := [(46, o0), (0, x1), (0, x2), w3, (0, 0)]) hm203 rfl rfl rfl ?_
      exact h
  · replace h := h.2 hc
    refine wi_iconst (pc' := 164) (v := 0) hm203 rfl rfl rfl ?_
    refine wi_goto (t := 168) hm203 rfl rfl ?_
    refine wi_putI (pc' := 171) hm203 rfl rfl (P := 0) rfl ?_
    refine wi_aload_n (pc' := 172) hm203 rfl rfl rfl (by decide) ?_
    refine wi_getIe (pc' := 175) hm203 rfl rfl (P := 0) rfl (x := 0) fx_upS ?_
    refine wi_if_ne (pc' := 178) (t := 201) hm203 rfl rfl rfl (fun hc => absurd hc (by decide)) (fun _ => ?_)
    refine wi_aload_n (pc' := 179) hm203 rfl rfl rfl (by decide) ?_
    refine wi_iload_n (pc' := 180) hm203 rfl rfl rfl ?_
    refine wi_if_le (pc' := 183) (t := 187) hm203 rfl rfl rfl (fun hc => ?_) (fun hc => ?_)
    · replace h := h.1 hc
      refine wi_aload_n (pc' := 188) hm203 rfl rfl rfl (by decide) ?_
      refine wi_getIe (pc' := 191) hm203 rfl rfl (P := 7) rfl (x := (σ 46 o0 7)) (Eq.trans (fx_upJ (by decide)) rfl) ?_
      refine wi_putI (pc' := 194) hm203 rfl rfl (P := 7) rfl ?_
      refine wi_aload_n (pc' := 195) hm203 rfl rfl rfl (by decide) ?_
      refine wi_iconst (pc' := 196) (v := 0) hm203 rfl rfl rfl ?_
      refine wi_putI (pc' := 199) hm203 rfl rfl (P := 5) rfl ?_
      refine wi_iload_n (pc' := 200) hm203 rfl rfl rfl ?_
      exact wi_iret hm203 rfl h
    · replace h := h.2 hc
      refine wi_iconst (pc' := 184) (v := 0) hm203 rfl rfl rfl ?_
      refine wi_goto (t := 191) hm203 rfl rfl ?_
      refine wi_putI (pc' := 194) hm203 rfl rfl (P := 7) rfl ?_
      refine wi_aload_n (pc' := 195) hm203 rfl rfl rfl (by decide) ?_
      refine wi_iconst (pc' := 196) (v := 0) hm203 rfl rfl rfl ?_
      refine wi_putI (pc' := 199) hm203 rfl rfl (P := 5) rfl ?_
      refine wi_iload_n (pc' := 200) hm203 rfl rfl rfl ?_
      exact wi_iret hm203 rfl h
theorem t203_220 {o0 x4 : Int} {w1 w2 w3 : fx_V} {σ : fx_S} {Q : fx_V → fx_S → Prop} (h : ((1130 ≤ x4 → Q (0, 0) σ) ∧ (x4 < 1130 → (0 ≤ x4 ∧ x4 < 1130) ∧ (fx_rg (x4 + 1)) ∧ fx_Wp 203 220 [(46, o0), w1, w2, w3, (0, (x4 + 1))] [] (fx_up σ 47 0 x4 (σ 48 0 x4)) Q))) : fx_Wp 203 220 [(46, o0), w1, w2, w3, (0, x4)] [] σ Q := by
  refine wi_iload (pc' := 222) hm203 rfl rfl rfl ?_
  refine wi_sipush (pc' := 225) (v := 1130) hm203 rfl rfl rfl ?_
  refine wi_ic_ge (pc' := 228) (t := 248) hm203 rfl rfl rfl (fun hc => ?_) (fun hc => ?_)
  · replace h := h.1 hc
    refine wi_iconst (pc' := 249) (v := 0) hm203 rfl rfl rfl ?_
    exact wi_iret hm203 rfl h
  · replace h := h.2 hc
    refine wi_aload_n (pc' := 229) hm203 rfl rfl rfl (by decide) ?_
    refine wi_getR (pc' := 232) (x := 0) hm203 rfl rfl rfl (by omega) ?_
    refine wi_iload (pc' := 234) hm203 rfl rfl rfl ?_
    refine wi_aload_n (pc' := 235) hm203 rfl rfl rfl (by decide) ?_
    refine wi_getR (pc' := 238) (x := 0) hm203 rfl rfl rfl (by omega) ?_
    refine wi_iload (pc' := 240) hm203 rfl rfl rfl ?_
    obtain ⟨g1, h⟩ := h
    refine wi_iaload (pc' := 241) hm203 rfl rfl rfl rfl (N := 1130) rfl g1 ?_
    refine wi_iastore (pc' := 242) hm203 rfl rfl rfl (N := 1130) rfl g1 ?_
    obtain ⟨g2, h⟩ := h
    refine wi_iinc (pc' := 245) (L' := [(46, o0), w1, w2, w3, (0, (x4 + 1))]) hm203 rfl rfl rfl g2 rfl ?_
    refine wi_goto (t := 220) hm203 rfl rfl ?_
    exact h
theorem hm204 : fx_code 204 = fx_c204 := rfl
theorem t204_0 {o0 : Int} {σ : fx_S} {Q : fx_V → fx_S → Prop} (h : Q (0, (σ 46 o0 12)) (fx_up σ 46 o0 0 0)) : fx_Ca 204 [(46, o0)] σ Q := by
  show fx_Wp 204 0 [(46, o0)] [] σ Q
  refine wi_aload_n (pc' := 1) hm204 rfl rfl rfl (by decide) ?_
  refine wi_iconst (pc' := 2) (v := 0) hm204 rfl rfl rfl ?_
  refine wi_putI (pc' := 5) hm204 rfl rfl (P := 0) rfl ?_
  refine wi_aload_n (pc' := 6) hm204 rfl rfl rfl (by decide) ?_
  refine wi_getIe (pc' := 9) hm204 rfl rfl (P := 12) rfl (x := (σ 46 o0 12)) (Eq.trans (fx_upJ (by decide)) rfl) ?_
  exact wi_iret hm204 rfl h
theorem hm205 : fx_code 205 = fx_c205 := rfl
theorem t205_0 {o0 : Int} {σ : fx_S} {Q : fx_V → fx_S → Prop} (h : Q (0, (σ 46 o0 7)) (fx_up σ 46 o0 0 0)) : fx_Ca 205 [(46, o0)] σ Q := by
  show fx_Wp 205 0 [(46, o0)] [] σ Q
  refine wi_aload_n (pc' := 1) hm205 rfl rfl rfl (by decide) ?_
  refine wi_iconst (pc' := 2) (v := 0) hm205 rfl rfl rfl ?_
  refine wi_putI (pc' := 5) hm205 rfl rfl (P := 0) rfl ?_
  refine wi_aload_n (pc' := 6) hm205 rfl rfl rfl (by decide) ?_
  refine wi_getIe (pc' := 9) hm205 rfl rfl (P := 7) rfl (x := (σ 46 o0 7)) (Eq.trans (fx_upJ (by decide)) rfl) ?_
  exact wi_iret hm205 rfl h
theorem hm206 : fx_code 206 = fx_c206 := rfl
theorem t206_0 {o0 x1 : Int} {σ : fx_S} {Q : fx_V → fx_S → Prop} (h : fx_CI 149 [(0, x1), (0, 0), (0, 99)] σ Q (fun y1 σ1 => ((y1 = 0 → Q (0, 0) (fx_up σ1 46 o0 0 1)) ∧ (y1 ≠ 0 → fx_CV 176 [(46, o0)] (fx_up σ1 46 o0 0 0) Q (fun σ2 => fx_CI 168 [(46, o0), (0, x1)] σ2 Q (fun y2 σ3 => fx_CI 178 [(46, o0), (0, y2), (0, 2)] σ3 Q (fun y3 σ4 => ((y3 = 0 → Q (0, 0) σ4) ∧ (y3 ≠ 0 → (fx_rg ((σ4 47 0 0) - 1)) ∧ Q (0, ((σ4 47 0 0) - 1)) σ4))))))))) : fx_Ca 206 [(46, o0), (0, x1)] σ Q := by
  show fx_Wp 206 0 [(46, o0), (0, x1)] [] σ Q
  refine wi_aload_n (pc' := 1) hm206 rfl rfl rfl (by decide) ?_
  refine wi_iload_n (pc' := 2) hm206 rfl rfl rfl ?_
  refine wi_iconst (pc' := 3) (v := 0) hm206 rfl rfl rfl ?_
  refine wi_bipush (pc' := 5) (v := 99) hm206 rfl rfl rfl ?_
  refine wc_I (pc' := 8) (by decide) rfl (by decide) ((fx_wE hm206 rfl).trans (fx_exS (mj := 149) (as := [(0, x1), (0, 0), (0, 99)]) (rest := [(46, o0)]) rfl rk149 rfl rfl rfl rfl)) h (fun y1 σ1 h => ?_)
  refine wi_if_eq (pc' := 11) (t := 15) hm206 rfl rfl rfl (fun hc => ?_) (fun hc => ?_)
  · replace h := h.1 hc
    refine wi_iconst (pc' := 16) (v := 1) hm206 rfl rfl rfl ?_
    refine wi_putI (pc' := 19) hm206 rfl rfl (P := 0) rfl ?_
    refine wi_aload_n (pc' := 20) hm206 rfl rfl rfl (by decide) ?_
    refine wi_getIe (pc' := 23) hm206 rfl rfl (P := 0) rfl (x := 1) fx_upS ?_
    refine wi_if_le (pc' := 26) (t := 28) hm206 rfl rfl rfl (fun hc => absurd hc (by decide)) (fun _ => ?_)
    refine wi_iconst (pc' := 27) (v := 0) hm206 rfl rfl rfl ?_
    exact wi_iret hm206 rfl h
  · replace h := h.2 hc
    refine wi_iconst (pc' := 12) (v := 0) hm206 rfl rfl rfl ?_
    refine wi_goto (t := 16) hm206 rfl rfl ?_
    refine wi_putI (pc' := 19) hm206 rfl rfl (P := 0) rfl ?_
    refine wi_aload_n (pc' := 20) hm206 rfl rfl rfl (by decide) ?_
    refine wi_getIe (pc' := 23) hm206 rfl rfl (P := 0) rfl (x := 0) fx_upS ?_
    refine wi_if_le (pc' := 26) (t := 28) hm206 rfl rfl rfl (fun _ => ?_) (fun hc => absurd hc (by decide))
    refine wi_aload_n (pc' := 29) hm206 rfl rfl rfl (by decide) ?_
    refine wc_V (pc' := 32) (by decide) rfl (by decide) ((fx_wE hm206 rfl).trans (fx_exV (mj := 176) (as := []) (rest := []) rfl rk176 rfl rfl rfl rfl rfl)) h (fun σ2 h => ?_)
    refine wi_aload_n (pc' := 33) hm206 rfl rfl rfl (by decide) ?_
    refine wi_aload_n (pc' := 34) hm206 rfl rfl rfl (by decide) ?_
    refine wi_iload_n (pc' := 35) hm206 rfl rfl rfl ?_
    refine wc_I (pc' := 38) (by decide) rfl (by decide) ((fx_wE hm206 rfl).trans (fx_exV (mj := 168) (as := [(0, x1)]) (rest := [(46, o0)]) rfl rk168 rfl rfl rfl rfl rfl)) h (fun y2 σ3 h => ?_)
    refine wi_iconst (pc' := 39) (v := 2) hm206 rfl rfl rfl ?_
    refine wc_I (pc' := 42) (by decide) rfl (by decide) ((fx_wE hm206 rfl).trans (fx_exV (mj := 178) (as := [(0, y2), (0, 2)]) (rest := []) rfl rk178 rfl rfl rfl rfl rfl)) h (fun y3 σ4 h => ?_)
    refine wi_if_eq (pc' := 45) (t := 56) hm206 rfl rfl rfl (fun hc => ?_) (fun hc => ?_)
    · replace h := h.1 hc
      refine wi_iconst (pc' := 57) (v := 0) hm206 rfl rfl rfl ?_
      exact wi_iret hm206 rfl h
    · replace h := h.2 hc
      refine wi_aload_n (pc' := 46) hm206 rfl rfl rfl (by decide) ?_
      refine wi_getR (pc' := 49) (x := 0) hm206 rfl rfl rfl (by omega) ?_
      refine wi_iconst (pc' := 50) (v := 0) hm206 rfl rfl rfl ?_
      refine wi_iaload (pc' := 51) hm206 rfl rfl rfl rfl (N := 1130) rfl (by decide) ?_
      refine wi_iconst (pc' := 52) (v := 1) hm206 rfl rfl rfl ?_
      obtain ⟨g1, h⟩ := h
      refine wi_isub (pc' := 53) hm206 rfl rfl g1 ?_
      refine wi_goto (t := 57) hm206 rfl rfl ?_
      exact wi_iret hm206 rfl h
theorem hm207 : fx_code 207 = fx_c207 := rfl
theorem t207_0 {o0 x1 x2 x3 x4 x5 : Int} {σ : fx_S} {Q : fx_V → fx_S → Prop} (h : fx_CI 154 [(0, x1)] σ Q (fun y1 σ1 => ((y1 ≠ 0 → fx_CI 149 [(0, x3), (0, 0), (0, 1000)] σ1 Q (fun y2 σ2 => ((y2 = 0 → Q (0, 0) (fx_up σ2 46 o0 0 2)) ∧ (y2 ≠ 0 → fx_CI 149 [(0, x4), (0, 0), (0, 1000)] σ2 Q (fun y3 σ3 => ((y3 = 0 → Q (0, 0) (fx_up σ3 46 o0 0 2)) ∧ (y3 ≠ 0 → fx_CI 149 [(0, x5), (0, 0), (0, 99)] σ3 Q (fun y4 σ4 => ((y4 ≠ 0 → fx_CV 176 [(46, o0)] (fx_up σ4 46 o0 0 0) Q (fun σ5 => fx_CI 169 [(46, o0), (0, x1), (0, x2), (0, x3), (0, x4), (0, x5)] σ5 Q (fun y5 σ6 => fx_CI 178 [(46, o0), (0, y5), (0, 3)] σ6 Q (fun y6 σ7 => ((y6 = 0 → Q (0, 0) σ7) ∧ (y6 ≠ 0 → (fx_rg ((σ7 47 0 1) - 1)) ∧ Q (0, ((σ7 47 0 1) - 1)) σ7)))))) ∧ (y4 = 0 → Q (0, 0) (fx_up σ4 46 o0 0 2))))))))))) ∧ (y1 = 0 → Q (0, 0) (fx_up σ1 46 o0 0 1))))) : fx_Ca 207 [(46, o0), (0, x1), (0, x2), (0, x3), (0, x4), (0, x5)] σ Q := by
  show fx_Wp 207 0 [(46, o0), (0, x1), (0, x2), (0, x3), (0, x4), (0, x5)] [] σ Q
  refine wi_aload_n (pc' := 1) hm207 rfl rfl rfl (by decide) ?_
  refine wi_iload_n (pc' := 2) hm207 rfl rfl rfl ?_
  refine wc_I (pc' := 5) (by decide) rfl (by decide) ((fx_wE hm207 rfl).trans (fx_exS (mj := 154) (as := [(0, x1)]) (rest := [(46, o0)]) rfl rk154 rfl rfl rfl rfl)) h (fun y1 σ1 h => ?_)
  refine wi_if_ne (pc' := 8) (t := 12) hm207 rfl rfl rfl (fun hc => ?_) (fun hc => ?_)
  · replace h := h.1 hc
    refine wi_iload_n (pc' := 13) hm207 rfl rfl rfl ?_
    refine wi_iconst (pc' := 14) (v := 0) hm207 rfl rfl rfl ?_
    refine wi_sipush (pc' := 17) (v := 1000) hm207 rfl rfl rfl ?_
    refine wc_I (pc' := 20) (by decide) rfl (by decide) ((fx_wE hm207 rfl).trans (fx_exS (mj := 149) (as := [(0, x3), (0, 0), (0, 1000)]) (rest := [(46, o0)]) rfl rk149 rfl rfl rfl rfl)) h (fun y2 σ2 h => ?_)
    refine wi_if_eq (pc' := 23) (t := 46) hm207 rfl rfl rfl (fun hc => ?_) (fun hc => ?_)
    · replace h := h.1 hc
      refine wi_iconst (pc' := 47) (v := 2) hm207 rfl rfl rfl ?_
      refine wi_goto (t := 51) hm207 rfl rfl ?_
      refine wi_putI (pc' := 54) hm207 rfl rfl (P := 0) rfl ?_
      refine wi_aload_n (pc' := 55) hm207 rfl rfl rfl (by decide) ?_
      refine wi_getIe (pc' := 58) hm207 rfl rfl (P := 0) rfl (x := 2) fx_upS ?_
      refine wi_if_le (pc' := 61) (t := 63) hm207 rfl rfl rfl (fun hc => absurd hc (by decide)) (fun _ => ?_)
      refine wi_iconst (pc' := 62) (v := 0) hm207 rfl rfl rfl ?_
      exact wi_iret hm207 rfl h
    · replace h := h.2 hc
      refine wi_iload (pc' := 25) hm207 rfl rfl rfl ?_
      refine wi_iconst (pc' := 26) (v := 0) hm207 rfl rfl rfl ?_
      refine wi_sipush (pc' := 29) (v := 1000) hm207 rfl rfl rfl ?_
      refine wc_I (pc' := 32) (by decide) rfl (by decide) ((fx_wE hm207 rfl).trans (fx_exS (mj := 149) (as := [(0, x4), (0, 0), (0, 1000)]) (rest := [(46, o0)]) rfl rk149 rfl rfl rfl rfl)) h (fun y3 σ3 h => ?_)
      refine wi_if_eq (pc' := 35) (t := 46) hm207 rfl rfl rfl (fun hc => ?_) (fun hc => ?_)
      · replace h := h.1 hc
        refine wi_iconst (pc' := 47) (v := 2) hm207 rfl rfl rfl ?_
        refine wi_goto (t := 51) hm207 rfl rfl ?_
        refine wi_putI (pc' := 54) hm207 rfl rfl (P := 0) rfl ?_
        refine wi_aload_n (pc' := 55) hm207 rfl rfl rfl (by decide) ?_
        refine wi_getIe (pc' := 58) hm207 rfl rfl (P := 0) rfl (x := 2) fx_upS ?_
        refine wi_if_le (pc' := 61) (t := 63) hm207 rfl rfl rfl (fun hc => absurd hc (by decide)) (fun _ => ?_)
        refine wi_iconst (pc' := 62) (v := 0) hm207 rfl rfl rfl ?_
        exact wi_iret hm207 rfl h
      · replace h := h.2 hc
        refine wi_iload (pc' := 37) hm207 rfl rfl rfl ?_
        refine wi_iconst (pc' := 38) (v := 0) hm207 rfl rfl rfl ?_
        refine wi_bipush (pc' := 40) (v := 99) hm207 rfl rfl rfl ?_
        refine wc_I (pc' := 43) (by decide) rfl (by decide) ((fx_wE hm207 rfl).trans (fx_exS (mj := 149) (as := [(0, x5), (0, 0), (0, 99)]) (rest := [(46, o0)]) rfl rk149 rfl rfl rfl rfl)) h (fun y4 σ4 h => ?_)
        refine wi_if_ne (pc' := 46) (t := 50) hm207 rfl rfl rfl (fun hc => ?_) (fun hc => ?_)
        · replace h := h.1 hc
          refine wi_iconst (pc' := 51) (v := 0) hm207 rfl rfl rfl ?_
          refine wi_putI (pc' := 54) hm207 rfl rfl (P := 0) rfl ?_
          refine wi_aload_n (pc' := 55) hm207 rfl rfl rfl (by decide) ?_
          refine wi_getIe (pc' := 58) hm207 rfl rfl (P := 0) rfl (x := 0) fx_upS ?_
          refine wi_if_le (pc' := 61) (t := 63) hm207 rfl rfl rfl (fun _ => ?_) (fun hc => absurd hc (by decide))
          refine wi_aload_n (pc' := 64) hm207 rfl rfl rfl (by decide) ?_
          refine wc_V (pc' := 67) (by decide) rfl (by decide) ((fx_wE hm207 rfl).trans (fx_exV (mj := 176) (as := []) (rest := []) rfl rk176 rfl rfl rfl rfl rfl)) h (fun σ5 h => ?_)
          refine wi_aload_n (pc' := 68) hm207 rfl rfl rfl (by decide) ?_
          refine wi_aload_n (pc' := 69) hm207 rfl rfl rfl (by decide) ?_
          refine wi_iload_n (pc' := 70) hm207 rfl rfl rfl ?_
          refine wi_iload_n (pc' := 71) hm207 rfl rfl rfl ?_
          refine wi_iload_n (pc' := 72) hm207 rfl rfl rfl ?_
          refine wi_iload (pc' := 74) hm207 rfl rfl rfl ?_
          refine wi_iload (pc' := 76) hm207 rfl rfl rfl ?_
          refine wc_I (pc' := 79) (by decide) rfl (by decide) ((fx_wE hm207 rfl).trans (fx_exV (mj := 169) (as := [(0, x1), (0, x2), (0, x3), (0, x4), (0, x5)]) (rest := [(46, o0)]) rfl rk169 rfl rfl rfl rfl rfl)) h (fun y5 σ6 h => ?_)
          refine wi_iconst (pc' := 80) (v := 3) hm207 rfl rfl rfl ?_
          refine wc_I (pc' := 83) (by decide) rfl (by decide) ((fx_wE hm207 rfl).trans (fx_exV (mj := 178) (as := [(0, y5), (0, 3)]) (rest := []) rfl rk178 rfl rfl rfl rfl rfl)) h (fun y6 σ7 h => ?_)
          refine wi_if_eq (pc' := 86) (t := 97) hm207 rfl rfl rfl (fun hc => ?_) (fun hc => ?_)
          · replace h := h.1 hc
            refine wi_iconst (pc' := 98) (v := 0) hm207 rfl rfl rfl ?_
            exact wi_iret hm207 rfl h
          · replace h := h.2 hc
            refine wi_aload_n (pc' := 87) hm207 rfl rfl rfl (by decide) ?_
            refine wi_getR (pc' := 90) (x := 0) hm207 rfl rfl rfl (by omega) ?_
            refine wi_iconst (pc' := 91) (v := 1) hm207 rfl rfl rfl ?_
            refine wi_iaload (pc' := 92) hm207 rfl rfl rfl rfl (N := 1130) rfl (by decide) ?_
            refine wi_iconst (pc' := 93) (v := 1) hm207 rfl rfl rfl ?_
            obtain ⟨g1, h⟩ := h
            refine wi_isub (pc' := 94) hm207 rfl rfl g1 ?_
            refine wi_goto (t := 98) hm207 rfl rfl ?_
            exact wi_iret hm207 rfl h
        · replace h := h.2 hc
          refine wi_iconst (pc' := 47) (v := 2) hm207 rfl rfl rfl ?_
          refine wi_goto (t := 51) hm207 rfl rfl ?_
          refine wi_putI (pc' := 54) hm207 rfl rfl (P := 0) rfl ?_
          refine wi_aload_n (pc' := 55) hm207 rfl rfl rfl (by decide) ?_
          refine wi_getIe (pc' := 58) hm207 rfl rfl (P := 0) rfl (x := 2) fx_upS ?_
          refine wi_if_le (pc' := 61) (t := 63) hm207 rfl rfl rfl (fun hc => absurd hc (by decide)) (fun _ => ?_)
          refine wi_iconst (pc' := 62) (v := 0) hm207 rfl rfl rfl ?_
          exact wi_iret hm207 rfl h
  · replace h := h.2 hc
    refine wi_iconst (pc' := 9) (v := 1) hm207 rfl rfl rfl ?_
    refine wi_goto (t := 51) hm207 rfl rfl ?_
    refine wi_putI (pc' := 54) hm207 rfl rfl (P := 0) rfl ?_
    refine wi_aload_n (pc' := 55) hm207 rfl rfl rfl (by decide) ?_
    refine wi_getIe (pc' := 58) hm207 rfl rfl (P := 0) rfl (x := 1) fx_upS ?_
    refine wi_if_le (pc' := 61) (t := 63) hm207 rfl rfl rfl (fun hc => absurd hc (by decide)) (fun _ => ?_)
    refine wi_iconst (pc' := 62) (v := 0) hm207 rfl rfl rfl ?_
    exact wi_iret hm207 rfl h
theorem hm208 : fx_code 208 = fx_c208 := rfl
theorem t208_0 {o0 x1 : Int} {σ : fx_S} {Q : fx_V → fx_S → Prop} (h : fx_CV 176 [(46, o0)] σ Q (fun σ1 => fx_CV 167 [(46, o0)] σ1 Q (fun σ2 => fx_CI 170 [(46, o0), (0, x1)] σ2 Q (fun y1 σ3 => fx_CI 178 [(46, o0), (0, y1), (0, 1)] σ3 Q (fun y2 σ4 => ((y2 = 0 → Q (0, 0) σ4) ∧ (y2 ≠ 0 → (0 ≤ x1 ∧ x1 < 60) ∧ Q (0, (σ4 58 0 x1)) σ4))))))) : fx_Ca 208 [(46, o0), (0, x1)] σ Q := by
  show fx_Wp 208 0 [(46, o0), (0, x1)] [] σ Q
  refine wi_aload_n (pc' := 1) hm208 rfl rfl rfl (by decide) ?_
  refine wc_V (pc' := 4) (by decide) rfl (by decide) ((fx_wE hm208 rfl).trans (fx_exV (mj := 176) (as := []) (rest := []) rfl rk176 rfl rfl rfl rfl rfl)) h (fun σ1 h => ?_)
  refine wi_aload_n (pc' := 5) hm208 rfl rfl rfl (by decide) ?_
  refine wc_V (pc' := 8) (by decide) rfl (by decide) ((fx_wE hm208 rfl).trans (fx_exV (mj := 167) (as := []) (rest := []) rfl rk167 rfl rfl rfl rfl rfl)) h (fun σ2 h => ?_)
  refine wi_aload_n (pc' := 9) hm208 rfl rfl rfl (by decide) ?_
  refine wi_aload_n (pc' := 10) hm208 rfl rfl rfl (by decide) ?_
  refine wi_iload_n (pc' := 11) hm208 rfl rfl rfl ?_
  refine wc_I (pc' := 14) (by decide) rfl (by decide) ((fx_wE hm208 rfl).trans (fx_exV (mj := 170) (as := [(0, x1)]) (rest := [(46, o0)]) rfl rk170 rfl rfl rfl rfl rfl)) h (fun y1 σ3 h => ?_)
  refine wi_iconst (pc' := 15) (v := 1) hm208 rfl rfl rfl ?_
  refine wc_I (pc' := 18) (by decide) rfl (by decide) ((fx_wE hm208 rfl).trans (fx_exV (mj := 178) (as := [(0, y1), (0, 1)]) (rest := []) rfl rk178 rfl rfl rfl rfl rfl)) h (fun y2 σ4 h => ?_)
  refine wi_if_eq (pc' := 21) (t := 30) hm208 rfl rfl rfl (fun hc => ?_) (fun hc => ?_)
  · replace h := h.1 hc
    refine wi_iconst (pc' := 31) (v := 0) hm208 rfl rfl rfl ?_
    exact wi_iret hm208 rfl h
  · replace h := h.2 hc
    refine wi_aload_n (pc' := 22) hm208 rfl rfl rfl (by decide) ?_
    refine wi_getR (pc' := 25) (x := 0) hm208 rfl rfl rfl (by omega) ?_
    refine wi_iload_n (pc' := 26) hm208 rfl rfl rfl ?_
    obtain ⟨g1, h⟩ := h
    refine wi_iaload (pc' := 27) hm208 rfl rfl rfl rfl (N := 60) rfl g1 ?_
    refine wi_goto (t := 31) hm208 rfl rfl ?_
    exact wi_iret hm208 rfl h
theorem hm209 : fx_code 209 = fx_c209 := rfl
theorem t209_0 {o0 x1 x2 : Int} {σ : fx_S} {Q : fx_V → fx_S → Prop} (h : fx_Wp 209 5 [(46, o0), (0, x1), (0, x2), (0, 0), (0, 0)] [] σ Q) : fx_Ca 209 [(46, o0), (0, x1), (0, x2)] σ Q := by
  show fx_Wp 209 0 [(46, o0), (0, x1), (0, x2), (3, 0), (3, 0)] [] σ Q
  refine wi_iconst (pc' := 1) (v := 0) hm209 rfl rfl rfl ?_
  refine wi_istore_n (pc' := 2) (L' := [(46, o0), (0, x1), (0, x2), (0, 0), (3, 0)]) hm209 rfl rfl rfl ?_
  refine wi_iconst (pc' := 3) (v := 0) hm209 rfl rfl rfl ?_
  refine wi_istore (pc' := 5) (L' := [(46, o0), (0, x1), (0, x2), (0, 0), (0, 0)]) hm209 rfl rfl rfl ?_
  exact h
theorem t209_5 {o0 x1 x2 x3 x4 : Int} {σ : fx_S} {Q : fx_V → fx_S → Prop} (h : (((σ 47 0 1) ≤ x4 → Q (0, x3) σ) ∧ (x4 < (σ 47 0 1) → fx_CI 151 [(46, o0), (0, x4), (0, x1)] σ Q (fun y1 σ1 => ((y1 ≠ x2 → (fx_rg (x3 + 0)) ∧ (fx_rg (x4 + 1)) ∧ fx_Wp 209 5 [(46, o0), (0, x1), (0, x2), (0, (x3 + 0)), (0, (x4 + 1))] [] σ1 Q) ∧ (y1 = x2 → fx_CI 151 [(46, o0), (0, x4), (0, 5)] σ1 Q (fun y2 σ2 => ((y2 ≠ 0 → (fx_rg (x3 + 0)) ∧ (fx_rg (x4 + 1)) ∧ fx_Wp 209 5 [(46, o0), (0, x1), (0, x2), (0, (x3 + 0)), (0, (x4 + 1))] [] σ2 Q) ∧ (y2 = 0 → (fx_rg (x3 + 1)) ∧ (fx_rg (x4 + 1)) ∧ fx_Wp 209 5 [(46, o0), (0, x1), (0, x2), (0, (x3 + 1)), (0, (x4 + 1))] [] σ2 Q))))))))) : fx_Wp 209 5 [(46, o0), (0, x1), (0, x2), (0, x3), (0, x4)] [] σ Q := by
  refine wi_iload (pc' := 7) hm209 rfl rfl rfl ?_
  refine wi_aload_n (pc' := 8) hm209 rfl rfl rfl (by decide) ?_
  refine wi_getR (pc' := 11) (x := 0) hm209 rfl rfl rfl (by omega) ?_
  refine wi_iconst (pc' := 12) (v := 1) hm209 rfl rfl rfl ?_
  refine wi_iaload (pc' := 13) hm209 rfl rfl rfl rfl (N := 1130) rfl (by decide) ?_
  refine wi_ic_ge (pc' := 16) (t := 51) hm209 rfl rfl rfl (fun hc => ?_) (fun hc => ?_)
  · replace h := h.1 hc
    refine wi_iload_n (pc' := 52) hm209 rfl rfl rfl ?_
    exact wi_iret hm209 rfl h
  · replace h := h.2 hc
    refine wi_iload_n (pc' := 17) hm209 rfl rfl rfl ?_
    refine wi_aload_n (pc' := 18) hm209 rfl rfl rfl (by decide) ?_
    refine wi_iload (pc' := 20) hm209 rfl rfl rfl ?_
    refine wi_iload_n (pc' := 21) hm209 rfl rfl rfl ?_
    refine wc_I (pc' := 24) (by decide) rfl (by decide) ((fx_wE hm209 rfl).trans (fx_exV (mj := 151) (as := [(0, x4), (0, x1)]) (rest := [(0, x3)]) rfl rk151 rfl rfl rfl rfl rfl)) h (fun y1 σ1 h => ?_)
    refine wi_iload_n (pc' := 25) hm209 rfl rfl rfl ?_
    refine wi_ic_ne (pc' := 28) (t := 42) hm209 rfl rfl rfl (fun hc => ?_) (fun hc => ?_)
    · replace h := h.1 hc
      refine wi_iconst (pc' := 43) (v := 0) hm209 rfl rfl rfl ?_
      obtain ⟨g1, h⟩ := h
      refine wi_iadd (pc' := 44) hm209 rfl rfl g1 ?_
      refine wi_istore_n (pc' := 45) (L' := [(46, o0), (0, x1), (0, x2), (0, (x3 + 0)), (0, x4)]) hm209 rfl rfl rfl ?_
      obtain ⟨g2, h⟩ := h
      refine wi_iinc (pc' := 48) (L' := [(46, o0), (0, x1), (0, x2), (0, (x3 + 0)), (0, (x4 + 1))]) hm209 rfl rfl rfl g2 rfl ?_
      refine wi_goto (t := 5) hm209 rfl rfl ?_
      exact h
    · replace h := h.2 hc
      refine wi_aload_n (pc' := 29) hm209 rfl rfl rfl (by decide) ?_
      refine wi_iload (pc' := 31) hm209 rfl rfl rfl ?_
      refine wi_iconst (pc' := 32) (v := 5) hm209 rfl rfl rfl ?_
      refine wc_I (pc' := 35) (by decide) rfl (by decide) ((fx_wE hm209 rfl).trans (fx_exV (mj := 151) (as := [(0, x4), (0, 5)]) (rest := [(0, x3)]) rfl rk151 rfl rfl rfl rfl rfl)) h (fun y2 σ2 h => ?_)
      refine wi_if_ne (pc' := 38) (t := 42) hm209 rfl rfl rfl (fun hc => ?_) (fun hc => ?_)
      · replace h := h.1 hc
        refine wi_iconst (pc' := 43) (v := 0) hm209 rfl rfl rfl ?_
        obtain ⟨g1, h⟩ := h
        refine wi_iadd (pc' := 44) hm209 rfl rfl g1 ?_
        refine wi_istore_n (pc' := 45) (L' := [(46, o0), (0, x1), (0, x2), (0, (x3 + 0)), (0, x4)]) hm209 rfl rfl rfl ?_
        obtain ⟨g2, h⟩ := h
        refine wi_iinc (pc' := 48) (L' := [(46, o0), (0, x1), (0, x2), (0, (x3 + 0)), (0, (x4 + 1))]) hm209 rfl rfl rfl g2 rfl ?_
        refine wi_goto (t := 5) hm209 rfl rfl ?_
        exact h
      · replace h := h.2 hc
        refine wi_iconst (pc' := 39) (v := 1) hm209 rfl rfl rfl ?_
        refine wi_goto (t := 43) hm209 rfl rfl ?_
        obtain ⟨g1, h⟩ := h
        refine wi_iadd (pc' := 44) hm209 rfl rfl g1 ?_
        refine wi_istore_n (pc' := 45) (L' := [(46, o0), (0, x1), (0, x2), (0, (x3 + 1)), (0, x4)]) hm209 rfl rfl rfl ?_
        obtain ⟨g2, h⟩ := h
        refine wi_iinc (pc' := 48) (L' := [(46, o0), (0, x1), (0, x2), (0, (x3 + 1)), (0, (x4 + 1))]) hm209 rfl rfl rfl g2 rfl ?_
        refine wi_goto (t := 5) hm209 rfl rfl ?_
        exact h
theorem hm210 : fx_code 210 = fx_c210 := rfl
theorem t210_0 {o0 x1 x2 : Int} {σ : fx_S} {Q : fx_V → fx_S → Prop} (h : fx_CV 176 [(46, o0)] σ Q (fun σ1 => ((x2 = 0 → fx_CI 171 [(46, o0), (0, x1), (0, 1)] σ1 Q (fun y1 σ2 => fx_CI 178 [(46, o0), (0, y1), (0, 1)] σ2 Q (fun y2 σ3 => ((y2 = 0 → Q (0, 0) σ3) ∧ (y2 ≠ 0 → fx_CI 209 [(46, o0), (0, 1), (0, x1)] σ3 Q (fun y3 σ4 => Q (0, y3) σ4)))))) ∧ (x2 ≠ 0 → fx_CI 171 [(46, o0), (0, x1), (0, 0)] σ1 Q (fun y4 σ5 => fx_CI 178 [(46, o0), (0, y4), (0, 1)] σ5 Q (fun y5 σ6 => ((y5 = 0 → Q (0, 0) σ6) ∧ (y5 ≠ 0 → fx_CI 209 [(46, o0), (0, 1), (0, x1)] σ6 Q (fun y6 σ7 => Q (0, y6) σ7))))))))) : fx_Ca 210 [(46, o0), (0, x1), (0, x2)] σ Q := by
  show fx_Wp 210 0 [(46, o0), (0, x1), (0, x2)] [] σ Q
  refine wi_aload_n (pc' := 1) hm210 rfl rfl rfl (by decide) ?_
  refine wc_V (pc' := 4) (by decide) rfl (by decide) ((fx_wE hm210 rfl).trans (fx_exV (mj := 176) (as := []) (rest := []) rfl rk176 rfl rfl rfl rfl rfl)) h (fun σ1 h => ?_)
  refine wi_aload_n (pc' := 5) hm210 rfl rfl rfl (by decide) ?_
  refine wi_aload_n (pc' := 6) hm210 rfl rfl rfl (by decide) ?_
  refine wi_iload_n (pc' := 7) hm210 rfl rfl rfl ?_
  refine wi_iload_n (pc' := 8) hm210 rfl rfl rfl ?_
  refine wi_if_eq (pc' := 11) (t := 15) hm210 rfl rfl rfl (fun hc => ?_) (fun hc => ?_)
  · replace h := h.1 hc
    refine wi_iconst (pc' := 16) (v := 1) hm210 rfl rfl rfl ?_
    refine wc_I (pc' := 19) (by decide) rfl (by decide) ((fx_wE hm210 rfl).trans (fx_exV (mj := 171) (as := [(0, x1), (0, 1)]) (rest := [(46, o0)]) rfl rk171 rfl rfl rfl rfl rfl)) h (fun y1 σ2 h => ?_)
    refine wi_iconst (pc' := 20) (v := 1) hm210 rfl rfl rfl ?_
    refine wc_I (pc' := 23) (by decide) rfl (by decide) ((fx_wE hm210 rfl).trans (fx_exV (mj := 178) (as := [(0, y1), (0, 1)]) (rest := []) rfl rk178 rfl rfl rfl rfl rfl)) h (fun y2 σ3 h => ?_)
    refine wi_if_eq (pc' := 26) (t := 35) hm210 rfl rfl rfl (fun hc => ?_) (fun hc => ?_)
    · replace h := h.1 hc
      refine wi_iconst (pc' := 36) (v := 0) hm210 rfl rfl rfl ?_
      exact wi_iret hm210 rfl h
    · replace h := h.2 hc
      refine wi_aload_n (pc' := 27) hm210 rfl rfl rfl (by decide) ?_
      refine wi_iconst (pc' := 28) (v := 1) hm210 rfl rfl rfl ?_
      refine wi_iload_n (pc' := 29) hm210 rfl rfl rfl ?_
      refine wc_I (pc' := 32) (by decide) rfl (by decide) ((fx_wE hm210 rfl).trans (fx_exV (mj := 209) (as := [(0, 1), (0, x1)]) (rest := []) rfl rk209 rfl rfl rfl rfl rfl)) h (fun y3 σ4 h => ?_)
      refine wi_goto (t := 36) hm210 rfl rfl ?_
      exact wi_iret hm210 rfl h
  · replace h := h.2 hc
    refine wi_iconst (pc' := 12) (v := 0) hm210 rfl rfl rfl ?_
    refine wi_goto (t := 16) hm210 rfl rfl ?_
    refine wc_I (pc' := 19) (by decide) rfl (by decide) ((fx_wE hm210 rfl).trans (fx_exV (mj := 171) (as := [(0, x1), (0, 0)]) (rest := [(46, o0)]) rfl rk171 rfl rfl rfl rfl rfl)) h (fun y4 σ5 h => ?_)
    refine wi_iconst (pc' := 20) (v := 1) hm210 rfl rfl rfl ?_
    refine wc_I (pc' := 23) (by decide) rfl (by decide) ((fx_wE hm210 rfl).trans (fx_exV (mj := 178) (as := [(0, y4), (0, 1)]) (rest := []) rfl rk178 rfl rfl rfl rfl rfl)) h (fun y5 σ6 h => ?_)
    refine wi_if_eq (pc' := 26) (t := 35) hm210 rfl rfl rfl (fun hc => ?_) (fun hc => ?_)
    · replace h := h.1 hc
      refine wi_iconst (pc' := 36) (v := 0) hm210 rfl rfl rfl ?_
      exact wi_iret hm210 rfl h
    · replace h := h.2 hc
      refine wi_aload_n (pc' := 27) hm210 rfl rfl rfl (by decide) ?_
      refine wi_iconst (pc' := 28) (v := 1) hm210 rfl rfl rfl ?_
      refine wi_iload_n (pc' := 29) hm210 rfl rfl rfl ?_
      refine wc_I (pc' := 32) (by decide) rfl (by decide) ((fx_wE hm210 rfl).trans (fx_exV (mj := 209) (as := [(0, 1), (0, x1)]) (rest := []) rfl rk209 rfl rfl rfl rfl rfl)) h (fun y6 σ7 h => ?_)
      refine wi_goto (t := 36) hm210 rfl rfl ?_
      exact wi_iret hm210 rfl h
theorem hm211 : fx_code 211 = fx_c211 := rfl
theorem t211_0 {o0 x1 x2 : Int} {σ : fx_S} {Q : fx_V → fx_S → Prop} (h : fx_CI 149 [(0, x2), (0, 0), (0, 99)] σ Q (fun y1 σ1 => ((y1 = 0 → Q (0, 0) (fx_up σ1 46 o0 0 1)) ∧ (y1 ≠ 0 → fx_CV 176 [(46, o0)] (fx_up σ1 46 o0 0 0) Q (fun σ2 => fx_CI 152 [(46, o0), (0, x1)] σ2 Q (fun y2 σ3 => ((y2 = 0 → fx_CI 172 [(46, o0), (0, x1), (0, x2)] σ3 Q (fun y3 σ4 => fx_CI 178 [(46, o0), (0, y3), (0, 2)] σ4 Q (fun y4 σ5 => ((y4 = 0 → Q (0, 0) σ5) ∧ (y4 ≠ 0 → Q (0, 0) σ5))))) ∧ (y2 ≠ 0 → (fx_rg (2 + x1)) ∧ (0 ≤ (2 + x1) ∧ (2 + x1) < 1130) ∧ fx_CI 172 [(46, o0), (0, x1), (0, x2)] σ3 Q (fun y5 σ6 => fx_CI 178 [(46, o0), (0, y5), (0, 2)] σ6 Q (fun y6 σ7 => ((y6 = 0 → Q (0, 0) σ7) ∧ (y6 ≠ 0 → Q (0, (σ3 47 0 (2 + x1))) σ7)))))))))))) : fx_Ca 211 [(46, o0), (0, x1), (0, x2)] σ Q := by
  show fx_Wp 211 0 [(46, o0), (0, x1), (0, x2), (3, 0)] [] σ Q
  refine wi_aload_n (pc' := 1) hm211 rfl rfl rfl (by decide) ?_
  refine wi_iload_n (pc' := 2) hm211 rfl rfl rfl ?_
  refine wi_iconst (pc' := 3) (v := 0) hm211 rfl rfl rfl ?_
  refine wi_bipush (pc' := 5) (v := 99) hm211 rfl rfl rfl ?_
  refine wc_I (pc' := 8) (by decide) rfl (by decide) ((fx_wE hm211 rfl).trans (fx_exS (mj := 149) (as := [(0, x2), (0, 0), (0, 99)]) (rest := [(46, o0)]) rfl rk149 rfl rfl rfl rfl)) h (fun y1 σ1 h => ?_)
  refine wi_if_eq (pc' := 11) (t := 15) hm211 rfl rfl rfl (fun hc => ?_) (fun hc => ?_)
  · replace h := h.1 hc
    refine wi_iconst (pc' := 16) (v := 1) hm211 rfl rfl rfl ?_
    refine wi_putI (pc' := 19) hm211 rfl rfl (P := 0) rfl ?_
    refine wi_aload_n (pc' := 20) hm211 rfl rfl rfl (by decide) ?_
    refine wi_getIe (pc' := 23) hm211 rfl rfl (P := 0) rfl (x := 1) fx_upS ?_
    refine wi_if_le (pc' := 26) (t := 28) hm211 rfl rfl rfl (fun hc => absurd hc (by decide)) (fun _ => ?_)
    refine wi_iconst (pc' := 27) (v := 0) hm211 rfl rfl rfl ?_
    exact wi_iret hm211 rfl h
  · replace h := h.2 hc
    refine wi_iconst (pc' := 12) (v := 0) hm211 rfl rfl rfl ?_
    refine wi_goto (t := 16) hm211 rfl rfl ?_
    refine wi_putI (pc' := 19) hm211 rfl rfl (P := 0) rfl ?_
    refine wi_aload_n (pc' := 20) hm211 rfl rfl rfl (by decide) ?_
    refine wi_getIe (pc' := 23) hm211 rfl rfl (P := 0) rfl (x := 0) fx_upS ?_
    refine wi_if_le (pc' := 26) (t := 28) hm211 rfl rfl rfl (fun _ => ?_) (fun hc => absurd hc (by decide))
    refine wi_aload_n (pc' := 29) hm211 rfl rfl rfl (by decide) ?_
    refine wc_V (pc' := 32) (by decide) rfl (by decide) ((fx_wE hm211 rfl).trans (fx_exV (mj := 176) (as := []) (rest := []) rfl rk176 rfl rfl rfl rfl rfl)) h (fun σ2 h => ?_)
    refine wi_aload_n (pc' := 33) hm211 rfl rfl rfl (by decide) ?_
    refine wi_iload_n (pc' := 34) hm211 rfl rfl rfl ?_
    refine wc_I (pc' := 37) (by decide) rfl (by decide) ((fx_wE hm211 rfl).trans (fx_exV (mj := 152) (as := [(0, x1)]) (rest := []) rfl rk152 rfl rfl rfl rfl rfl)) h (fun y2 σ3 h => ?_)
    refine wi_if_eq (pc' := 40) (t := 51) hm211 rfl rfl rfl (fun hc => ?_) (fun hc => ?_)
    · replace h := h.1 hc
      refine wi_iconst (pc' := 52) (v := 0) hm211 rfl rfl rfl ?_
      refine wi_istore_n (pc' := 53) (L' := [(46, o0), (0, x1), (0, x2), (0, 0)]) hm211 rfl rfl rfl ?_
      refine wi_aload_n (pc' := 54) hm211 rfl rfl rfl (by decide) ?_
      refine wi_aload_n (pc' := 55) hm211 rfl rfl rfl (by decide) ?_
      refine wi_iload_n (pc' := 56) hm211 rfl rfl rfl ?_
      refine wi_iload_n (pc' := 57) hm211 rfl rfl rfl ?_
      refine wc_I (pc' := 60) (by decide) rfl (by decide) ((fx_wE hm211 rfl).trans (fx_exV (mj := 172) (as := [(0, x1), (0, x2)]) (rest := [(46, o0)]) rfl rk172 rfl rfl rfl rfl rfl)) h (fun y3 σ4 h => ?_)
      refine wi_iconst (pc' := 61) (v := 2) hm211 rfl rfl rfl ?_
      refine wc_I (pc' := 64) (by decide) rfl (by decide) ((fx_wE hm211 rfl).trans (fx_exV (mj := 178) (as := [(0, y3), (0, 2)]) (rest := []) rfl rk178 rfl rfl rfl rfl rfl)) h (fun y4 σ5 h => ?_)
      refine wi_if_eq (pc' := 67) (t := 71) hm211 rfl rfl rfl (fun hc => ?_) (fun hc => ?_)
      · replace h := h.1 hc
        refine wi_iconst (pc' := 72) (v := 0) hm211 rfl rfl rfl ?_
        exact wi_iret hm211 rfl h
      · replace h := h.2 hc
        refine wi_iload_n (pc' := 68) hm211 rfl rfl rfl ?_
        refine wi_goto (t := 72) hm211 rfl rfl ?_
        exact wi_iret hm211 rfl h
    · replace h := h.2 hc
      refine wi_aload_n (pc' := 41) hm211 rfl rfl rfl (by decide) ?_
      refine wi_getR (pc' := 44) (x := 0) hm211 rfl rfl rfl (by omega) ?_
      refine wi_iconst (pc' := 45) (v := 2) hm211 rfl rfl rfl ?_
      refine wi_iload_n (pc' := 46) hm211 rfl rfl rfl ?_
      obtain ⟨g1, h⟩ := h
      refine wi_iadd (pc' := 47) hm211 rfl rfl g1 ?_
      obtain ⟨g2, h⟩ := h
      refine wi_iaload (pc' := 48) hm211 rfl rfl rfl rfl (N := 1130) rfl g2 ?_
      refine wi_goto (t := 52) hm211 rfl rfl ?_
      refine wi_istore_n (pc' := 53) (L' := [(46, o0), (0, x1), (0, x2), (0, (σ3 47 0 (2 + x1)))]) hm211 rfl rfl rfl ?_
      refine wi_aload_n (pc' := 54) hm211 rfl rfl rfl (by decide) ?_
      refine wi_aload_n (pc' := 55) hm211 rfl rfl rfl (by decide) ?_
      refine wi_iload_n (pc' := 56) hm211 rfl rfl rfl ?_
      refine wi_iload_n (pc' := 57) hm211 rfl rfl rfl ?_
      refine wc_I (pc' := 60) (by decide) rfl (by decide) ((fx_wE hm211 rfl).trans (fx_exV (mj := 172) (as := [(0, x1), (0, x2)]) (rest := [(46, o0)]) rfl rk172 rfl rfl rfl rfl rfl)) h (fun y5 σ6 h => ?_)
      refine wi_iconst (pc' := 61) (v := 2) hm211 rfl rfl rfl ?_
      refine wc_I (pc' := 64) (by decide) rfl (by decide) ((fx_wE hm211 rfl).trans (fx_exV (mj := 178) (as := [(0, y5), (0, 2)]) (rest := []) rfl rk178 rfl rfl rfl rfl rfl)) h (fun y6 σ7 h => ?_)
      refine wi_if_eq (pc' := 67) (t := 71) hm211 rfl rfl rfl (fun hc => ?_) (fun hc => ?_)
      · replace h := h.1 hc
        refine wi_iconst (pc' := 72) (v := 0) hm211 rfl rfl rfl ?_
        exact wi_iret hm211 rfl h
      · replace h := h.2 hc
        refine wi_iload_n (pc' := 68) hm211 rfl rfl rfl ?_
        refine wi_goto (t := 72) hm211 rfl rfl ?_
        exact wi_iret hm211 rfl h
theorem hm212 : fx_code 212 = fx_c212 := rfl
theorem t212_0 {o0 x1 x2 : Int} {σ : fx_S} {Q : fx_V → fx_S → Prop} (h : fx_CI 154 [(0, x1)] σ Q (fun y1 σ1 => ((y1 ≠ 0 → fx_CI 149 [(0, x2), (0, 1), (0, 999)] σ1 Q (fun y2 σ2 => ((y2 ≠ 0 → fx_CV 176 [(46, o0)] (fx_up σ2 46 o0 0 0) Q (fun σ3 => fx_CI 174 [(46, o0), (0, x1), (0, x2)] σ3 Q (fun y3 σ4 => fx_CI 178 [(46, o0), (0, y3), (0, 3)] σ4 Q (fun y4 σ5 => ((y4 = 0 → Q (0, 0) σ5) ∧ (y4 ≠ 0 → Q (0, (σ5 46 o0 29)) σ5)))))) ∧ (y2 = 0 → Q (0, 0) (fx_up σ2 46 o0 0 2))))) ∧ (y1 = 0 → Q (0, 0) (fx_up σ1 46 o0 0 1))))) : fx_Ca 212 [(46, o0), (0, x1), (0, x2)] σ Q := by
  show fx_Wp 212 0 [(46, o0), (0, x1), (0, x2)] [] σ Q
  refine wi_aload_n (pc' := 1) hm212 rfl rfl rfl (by decide) ?_
  refine wi_iload_n (pc' := 2) hm212 rfl rfl rfl ?_
  refine wc_I (pc' := 5) (by decide) rfl (by decide) ((fx_wE hm212 rfl).trans (fx_exS (mj := 154) (as := [(0, x1)]) (rest := [(46, o0)]) rfl rk154 rfl rfl rfl rfl)) h (fun y1 σ1 h => ?_)
  refine wi_if_ne (pc' := 8) (t := 12) hm212 rfl rfl rfl (fun hc => ?_) (fun hc => ?_)
  · replace h := h.1 hc
    refine wi_iload_n (pc' := 13) hm212 rfl rfl rfl ?_
    refine wi_iconst (pc' := 14) (v := 1) hm212 rfl rfl rfl ?_
    refine wi_sipush (pc' := 17) (v := 999) hm212 rfl rfl rfl ?_
    refine wc_I (pc' := 20) (by decide) rfl (by decide) ((fx_wE hm212 rfl).trans (fx_exS (mj := 149) (as := [(0, x2), (0, 1), (0, 999)]) (rest := [(46, o0)]) rfl rk149 rfl rfl rfl rfl)) h (fun y2 σ2 h => ?_)
    refine wi_if_ne (pc' := 23) (t := 27) hm212 rfl rfl rfl (fun hc => ?_) (fun hc => ?_)
    · replace h := h.1 hc
      refine wi_iconst (pc' := 28) (v := 0) hm212 rfl rfl rfl ?_
      refine wi_putI (pc' := 31) hm212 rfl rfl (P := 0) rfl ?_
      refine wi_aload_n (pc' := 32) hm212 rfl rfl rfl (by decide) ?_
      refine wi_getIe (pc' := 35) hm212 rfl rfl (P := 0) rfl (x := 0) fx_upS ?_
      refine wi_if_le (pc' := 38) (t := 40) hm212 rfl rfl rfl (fun _ => ?_) (fun hc => absurd hc (by decide))
      refine wi_aload_n (pc' := 41) hm212 rfl rfl rfl (by decide) ?_
      refine wc_V (pc' := 44) (by decide) rfl (by decide) ((fx_wE hm212 rfl).trans (fx_exV (mj := 176) (as := []) (rest := []) rfl rk176 rfl rfl rfl rfl rfl)) h (fun σ3 h => ?_)
      refine wi_aload_n (pc' := 45) hm212 rfl rfl rfl (by decide) ?_
      refine wi_aload_n (pc' := 46) hm212 rfl rfl rfl (by decide) ?_
      refine wi_iload_n (pc' := 47) hm212 rfl rfl rfl ?_
      refine wi_iload_n (pc' := 48) hm212 rfl rfl rfl ?_
      refine wc_I (pc' := 51) (by decide) rfl (by decide) ((fx_wE hm212 rfl).trans (fx_exV (mj := 174) (as := [(0, x1), (0, x2)]) (rest := [(46, o0)]) rfl rk174 rfl rfl rfl rfl rfl)) h (fun y3 σ4 h => ?_)
      refine wi_iconst (pc' := 52) (v := 3) hm212 rfl rfl rfl ?_
      refine wc_I (pc' := 55) (by decide) rfl (by decide) ((fx_wE hm212 rfl).trans (fx_exV (mj := 178) (as := [(0, y3), (0, 3)]) (rest := []) rfl rk178 rfl rfl rfl rfl rfl)) h (fun y4 σ5 h => ?_)
      refine wi_if_eq (pc' := 58) (t := 65) hm212 rfl rfl rfl (fun hc => ?_) (fun hc => ?_)
      · replace h := h.1 hc
        refine wi_iconst (pc' := 66) (v := 0) hm212 rfl rfl rfl ?_
        exact wi_iret hm212 rfl h
      · replace h := h.2 hc
        refine wi_aload_n (pc' := 59) hm212 rfl rfl rfl (by decide) ?_
        refine wi_getI (pc' := 62) hm212 rfl rfl (P := 29) rfl ?_
        refine wi_goto (t := 66) hm212 rfl rfl ?_
        exact wi_iret hm212 rfl h
    · replace h := h.2 hc
      refine wi_iconst (pc' := 24) (v := 2) hm212 rfl rfl rfl ?_
      refine wi_goto (t := 28) hm212 rfl rfl ?_
      refine wi_putI (pc' := 31) hm212 rfl rfl (P := 0) rfl ?_
      refine wi_aload_n (pc' := 32) hm212 rfl rfl rfl (by decide) ?_
      refine wi_getIe (pc' := 35) hm212 rfl rfl (P := 0) rfl (x := 2) fx_upS ?_
      refine wi_if_le (pc' := 38) (t := 40) hm212 rfl rfl rfl (fun hc => absurd hc (by decide)) (fun _ => ?_)
      refine wi_iconst (pc' := 39) (v := 0) hm212 rfl rfl rfl ?_
      exact wi_iret hm212 rfl h
  · replace h := h.2 hc
    refine wi_iconst (pc' := 9) (v := 1) hm212 rfl rfl rfl ?_
    refine wi_goto (t := 28) hm212 rfl rfl ?_
    refine wi_putI (pc' := 31) hm212 rfl rfl (P := 0) rfl ?_
    refine wi_aload_n (pc' := 32) hm212 rfl rfl rfl (by decide) ?_
    refine wi_getIe (pc' := 35) hm212 rfl rfl (P := 0) rfl (x := 1) fx_upS ?_
    refine wi_if_le (pc' := 38) (t := 40) hm212 rfl rfl rfl (fun hc => absurd hc (by decide)) (fun _ => ?_)
    refine wi_iconst (pc' := 39) (v := 0) hm212 rfl rfl rfl ?_
    exact wi_iret hm212 rfl h
theorem hm213 : fx_code 213 = fx_c213 := rfl
theorem t213_0 {o0 x1 : Int} {σ : fx_S} {Q : fx_V → fx_S → Prop} (h : fx_CI 154 [(0, x1)] σ Q (fun y1 σ1 => ((y1 = 0 → Q (0, 0) (fx_up σ1 46 o0 0 1)) ∧ (y1 ≠ 0 → fx_CV 176 [(46, o0)] (fx_up σ1 46 o0 0 0) Q (fun σ2 => fx_CI 160 [(46, o0), (0, x1), (0, 1)] σ2 Q (fun y2 σ3 => fx_CI 175 [(46, o0), (0, x1)] σ3 Q (fun y3 σ4 => fx_CI 178 [(46, o0), (0, y3), (0, 2)] σ4 Q (fun y4 σ5 => ((y4 = 0 → Q (0, 0) σ5) ∧ (y4 ≠ 0 → Q (0, y2) σ5)))))))))) : fx_Ca 213 [(46, o0), (0, x1)] σ Q := by
  show fx_Wp 213 0 [(46, o0), (0, x1), (3, 0)] [] σ Q
  refine wi_aload_n (pc' := 1) hm213 rfl rfl rfl (by decide) ?_
  refine wi_iload_n (pc' := 2) hm213 rfl rfl rfl ?_
  refine wc_I (pc' := 5) (by decide) rfl (by decide) ((fx_wE hm213 rfl).trans (fx_exS (mj := 154) (as := [(0, x1)]) (rest := [(46, o0)]) rfl rk154 rfl rfl rfl rfl)) h (fun y1 σ1 h => ?_)
  refine wi_if_eq (pc' := 8) (t := 12) hm213 rfl rfl rfl (fun hc => ?_) (fun hc => ?_)
  · replace h := h.1 hc
    refine wi_iconst (pc' := 13) (v := 1) hm213 rfl rfl rfl ?_
    refine wi_putI (pc' := 16) hm213 rfl rfl (P := 0) rfl ?_
    refine wi_aload_n (pc' := 17) hm213 rfl rfl rfl (by decide) ?_
    refine wi_getIe (pc' := 20) hm213 rfl rfl (P := 0) rfl (x := 1) fx_upS ?_
    refine wi_if_le (pc' := 23) (t := 25) hm213 rfl rfl rfl (fun hc => absurd hc (by decide)) (fun _ => ?_)
    refine wi_iconst (pc' := 24) (v := 0) hm213 rfl rfl rfl ?_
    exact wi_iret hm213 rfl h
  · replace h := h.2 hc
    refine wi_iconst (pc' := 9) (v := 0) hm213 rfl rfl rfl ?_
    refine wi_goto (t := 13) hm213 rfl rfl ?_
    refine wi_putI (pc' := 16) hm213 rfl rfl (P := 0) rfl ?_
    refine wi_aload_n (pc' := 17) hm213 rfl rfl rfl (by decide) ?_
    refine wi_getIe (pc' := 20) hm213 rfl rfl (P := 0) rfl (x := 0) fx_upS ?_
    refine wi_if_le (pc' := 23) (t := 25) hm213 rfl rfl rfl (fun _ => ?_) (fun hc => absurd hc (by decide))
    refine wi_aload_n (pc' := 26) hm213 rfl rfl rfl (by decide) ?_
    refine wc_V (pc' := 29) (by decide) rfl (by decide) ((fx_wE hm213 rfl).trans (fx_exV (mj := 176) (as := []) (rest := []) rfl rk176 rfl rfl rfl rfl rfl)) h (fun σ2 h => ?_)
    refine wi_aload_n (pc' := 30) hm213 rfl rfl rfl (by decide) ?_
    refine wi_iload_n (pc' := 31) hm213 rfl rfl rfl ?_
    refine wi_iconst (pc' := 32) (v := 1) hm213 rfl rfl rfl ?_
    refine wc_I (pc' := 35) (by decide) rfl (by decide) ((fx_wE hm213 rfl).trans (fx_exV (mj := 160) (as := [(0, x1), (0, 1)]) (rest := []) rfl rk160 rfl rfl rfl rfl rfl)) h (fun y2 σ3 h => ?_)
    refine wi_istore_n (pc' := 36) (L' := [(46, o0), (0, x1), (0, y2)]) hm213 rfl rfl rfl ?_
    refine wi_aload_n (pc' := 37) hm213 rfl rfl rfl (by decide) ?_
    refine wi_aload_n (pc' := 38) hm213 rfl rfl rfl (by decide) ?_
    refine wi_iload_n (pc' := 39) hm213 rfl rfl rfl ?_
    refine wc_I (pc' := 42) (by decide) rfl (by decide) ((fx_wE hm213 rfl).trans (fx_exV (mj := 175) (as := [(0, x1)]) (rest := [(46, o0)]) rfl rk175 rfl rfl rfl rfl rfl)) h (fun y3 σ4 h => ?_)
    refine wi_iconst (pc' := 43) (v := 2) hm213 rfl rfl rfl ?_
    refine wc_I (pc' := 46) (by decide) rfl (by decide) ((fx_wE hm213 rfl).trans (fx_exV (mj := 178) (as := [(0, y3), (0, 2)]) (rest := []) rfl rk178 rfl rfl rfl rfl rfl)) h (fun y4 σ5 h => ?_)
    refine wi_if_eq (pc' := 49) (t := 53) hm213 rfl rfl rfl (fun hc => ?_) (fun hc => ?_)
    · replace h := h.1 hc
      refine wi_iconst (pc' := 54) (v := 0) hm213 rfl rfl rfl ?_
      exact wi_iret hm213 rfl h
    · replace h := h.2 hc
      refine wi_iload_n (pc' := 50) hm213 rfl rfl rfl ?_
      refine wi_goto (t := 54) hm213 rfl rfl ?_
      exact wi_iret hm213 rfl h
theorem hm214 : fx_code 214 = fx_c214 := rfl
theorem t214_0 {o0 : Int} {σ : fx_S} {Q : fx_V → fx_S → Prop} (h : (((σ 46 o0 5) ≠ 0 → (fx_rg ((σ 46 o0 5) - 1)) ∧ fx_Wp 214 37 [(46, o0), (0, 0)] [] (fx_up (fx_up σ 46 o0 0 0) 46 o0 5 ((σ 46 o0 5) - 1)) Q) ∧ ((σ 46 o0 5) = 0 → Q (0, 0) (fx_up σ 46 o0 0 1)))) : fx_Ca 214 [(46, o0)] σ Q := by
  show fx_Wp 214 0 [(46, o0), (3, 0)] [] σ Q
  refine wi_aload_n (pc' := 1) hm214 rfl rfl rfl (by decide) ?_
  refine wi_aload_n (pc' := 2) hm214 rfl rfl rfl (by decide) ?_
  refine wi_getI (pc' := 5) hm214 rfl rfl (P := 5) rfl ?_
  refine wi_if_ne (pc' := 8) (t := 12) hm214 rfl rfl rfl (fun hc => ?_) (fun hc => ?_)
  · replace h := h.1 hc
    refine wi_iconst (pc' := 13) (v := 0) hm214 rfl rfl rfl ?_
    refine wi_putI (pc' := 16) hm214 rfl rfl (P := 0) rfl ?_
    refine wi_aload_n (pc' := 17) hm214 rfl rfl rfl (by decide) ?_
    refine wi_getIe (pc' := 20) hm214 rfl rfl (P := 0) rfl (x := 0) fx_upS ?_
    refine wi_if_le (pc' := 23) (t := 25) hm214 rfl rfl rfl (fun _ => ?_) (fun hc => absurd hc (by decide))
    refine wi_aload_n (pc' := 26) hm214 rfl rfl rfl (by decide) ?_
    refine wi_dup (pc' := 27) hm214 rfl rfl rfl ?_
    refine wi_getIe (pc' := 30) hm214 rfl rfl (P := 5) rfl (x := (σ 46 o0 5)) (Eq.trans (fx_upJ (by decide)) rfl) ?_
    refine wi_iconst (pc' := 31) (v := 1) hm214 rfl rfl rfl ?_
    obtain ⟨g1, h⟩ := h
    refine wi_isub (pc' := 32) hm214 rfl rfl g1 ?_
    refine wi_putI (pc' := 35) hm214 rfl rfl (P := 5) rfl ?_
    refine wi_iconst (pc' := 36) (v := 0) hm214 rfl rfl rfl ?_
    refine wi_istore_n (pc' := 37) (L' := [(46, o0), (0, 0)]) hm214 rfl rfl rfl ?_
    exact h
  · replace h := h.2 hc
    refine wi_iconst (pc' := 9) (v := 1) hm214 rfl rfl rfl ?_
    refine wi_goto (t := 13) hm214 rfl rfl ?_
    refine wi_putI (pc' := 16) hm214 rfl rfl (P := 0) rfl ?_
    refine wi_aload_n (pc' := 17) hm214 rfl rfl rfl (by decide) ?_
    refine wi_getIe (pc' := 20) hm214 rfl rfl (P := 0) rfl (x := 1) fx_upS ?_
    refine wi_if_le (pc' := 23) (t := 25) hm214 rfl rfl rfl (fun hc => absurd hc (by decide)) (fun _ => ?_)
    refine wi_iconst (pc' := 24) (v := 0) hm214 rfl rfl rfl ?_
    exact wi_iret hm214 rfl h
theorem t214_37 {o0 x1 : Int} {σ : fx_S} {Q : fx_V → fx_S → Prop} (h : ((1130 ≤ x1 → Q (0, (σ 46 o0 5)) σ) ∧ (x1 < 1130 → (fx_rg (1130 * (σ 46 o0 5))) ∧ (fx_rg ((1130 * (σ 46 o0 5)) + x1)) ∧ (0 ≤ ((1130 * (σ 46 o0 5)) + x1) ∧ ((1130 * (σ 46 o0 5)) + x1) < 9040) ∧ (0 ≤ x1 ∧ x1 < 1130) ∧ (fx_rg (x1 + 1)) ∧ fx_Wp 214 37 [(46, o0), (0, (x1 + 1))] [] (fx_up σ 47 0 x1 (σ 50 0 ((1130 * (σ 46 o0 5)) + x1))) Q))) : fx_Wp 214 37 [(46, o0), (0, x1)] [] σ Q := by
  refine wi_iload_n (pc' := 38) hm214 rfl rfl rfl ?_
  refine wi_sipush (pc' := 41) (v := 1130) hm214 rfl rfl rfl ?_
  refine wi_ic_ge (pc' := 44) (t := 71) hm214 rfl rfl rfl (fun hc => ?_) (fun hc => ?_)
  · replace h := h.1 hc
    refine wi_aload_n (pc' := 72) hm214 rfl rfl rfl (by decide) ?_
    refine wi_getI (pc' := 75) hm214 rfl rfl (P := 5) rfl ?_
    exact wi_iret hm214 rfl h
  · replace h := h.2 hc
    refine wi_aload_n (pc' := 45) hm214 rfl rfl rfl (by decide) ?_
    refine wi_getR (pc' := 48) (x := 0) hm214 rfl rfl rfl (by omega) ?_
    refine wi_iload_n (pc' := 49) hm214 rfl rfl rfl ?_
    refine wi_aload_n (pc' := 50) hm214 rfl rfl rfl (by decide) ?_
    refine wi_getR (pc' := 53) (x := 0) hm214 rfl rfl rfl (by omega) ?_
    refine wi_sipush (pc' := 56) (v := 1130) hm214 rfl rfl rfl ?_
    refine wi_aload_n (pc' := 57) hm214 rfl rfl rfl (by decide) ?_
    refine wi_getI (pc' := 60) hm214 rfl rfl (P := 5) rfl ?_
    obtain ⟨g1, h⟩ := h
    refine wi_imul (pc' := 61) hm214 rfl rfl g1 ?_
    refine wi_iload_n (pc' := 62) hm214 rfl rfl rfl ?_
    obtain ⟨g2, h⟩ := h
    refine wi_iadd (pc' := 63) hm214 rfl rfl g2 ?_
    obtain ⟨g3, h⟩ := h
    refine wi_iaload (pc' := 64) hm214 rfl rfl rfl rfl (N := 9040) rfl g3 ?_
    obtain ⟨g4, h⟩ := h
    refine wi_iastore (pc' := 65) hm214 rfl rfl rfl (N := 1130) rfl g4 ?_
    obtain ⟨g5, h⟩ := h
    refine wi_iinc (pc' := 68) (L' := [(46, o0), (0, (x1 + 1))]) hm214 rfl rfl rfl g5 rfl ?_
    refine wi_goto (t := 37) hm214 rfl rfl ?_
    exact h
theorem hm215 : fx_code 215 = fx_c215 := rfl
theorem t215_0 {o0 x1 x2 : Int} {σ : fx_S} {Q : fx_V → fx_S → Prop} (h : fx_CI 154 [(0, x1)] σ Q (fun y1 σ1 => ((y1 = 0 → Q (0, 0) (fx_up σ1 46 o0 0 1)) ∧ (y1 ≠ 0 → fx_CI 155 [(0, x2)] σ1 Q (fun y2 σ2 => ((y2 = 0 → Q (0, 0) (fx_up σ2 46 o0 0 1)) ∧ (y2 ≠ 0 → fx_CV 165 [(46, o0), (0, x2)] (fx_up σ2 46 o0 0 0) Q (fun σ3 => (0 ≤ x1 ∧ x1 < 8) ∧ Q (0, (σ3 55 0 x1)) σ3)))))))) : fx_Ca 215 [(46, o0), (0, x1), (0, x2)] σ Q := by
  show fx_Wp 215 0 [(46, o0), (0, x1), (0, x2)] [] σ Q
  refine wi_aload_n (pc' := 1) hm215 rfl rfl rfl (by decide) ?_
  refine wi_iload_n (pc' := 2) hm215 rfl rfl rfl ?_
  refine wc_I (pc' := 5) (by decide) rfl (by decide) ((fx_wE hm215 rfl).trans (fx_exS (mj := 154) (as := [(0, x1)]) (rest := [(46, o0)]) rfl rk154 rfl rfl rfl rfl)) h (fun y1 σ1 h => ?_)
  refine wi_if_eq (pc' := 8) (t := 19) hm215 rfl rfl rfl (fun hc => ?_) (fun hc => ?_)
  · replace h := h.1 hc
    refine wi_iconst (pc' := 20) (v := 1) hm215 rfl rfl rfl ?_
    refine wi_putI (pc' := 23) hm215 rfl rfl (P := 0) rfl ?_
    refine wi_aload_n (pc' := 24) hm215 rfl rfl rfl (by decide) ?_
    refine wi_getIe (pc' := 27) hm215 rfl rfl (P := 0) rfl (x := 1) fx_upS ?_
    refine wi_if_le (pc' := 30) (t := 32) hm215 rfl rfl rfl (fun hc => absurd hc (by decide)) (fun _ => ?_)
    refine wi_iconst (pc' := 31) (v := 0) hm215 rfl rfl rfl ?_
    exact wi_iret hm215 rfl h
  · replace h := h.2 hc
    refine wi_iload_n (pc' := 9) hm215 rfl rfl rfl ?_
    refine wc_I (pc' := 12) (by decide) rfl (by decide) ((fx_wE hm215 rfl).trans (fx_exS (mj := 155) (as := [(0, x2)]) (rest := [(46, o0)]) rfl rk155 rfl rfl rfl rfl)) h (fun y2 σ2 h => ?_)
    refine wi_if_eq (pc' := 15) (t := 19) hm215 rfl rfl rfl (fun hc => ?_) (fun hc => ?_)
    · replace h := h.1 hc
      refine wi_iconst (pc' := 20) (v := 1) hm215 rfl rfl rfl ?_
      refine wi_putI (pc' := 23) hm215 rfl rfl (P := 0) rfl ?_
      refine wi_aload_n (pc' := 24) hm215 rfl rfl rfl (by decide) ?_
      refine wi_getIe (pc' := 27) hm215 rfl rfl (P := 0) rfl (x := 1) fx_upS ?_
      refine wi_if_le (pc' := 30) (t := 32) hm215 rfl rfl rfl (fun hc => absurd hc (by decide)) (fun _ => ?_)
      refine wi_iconst (pc' := 31) (v := 0) hm215 rfl rfl rfl ?_
      exact wi_iret hm215 rfl h
    · replace h := h.2 hc
      refine wi_iconst (pc' := 16) (v := 0) hm215 rfl rfl rfl ?_
      refine wi_goto (t := 20) hm215 rfl rfl ?_
      refine wi_putI (pc' := 23) hm215 rfl rfl (P := 0) rfl ?_
      refine wi_aload_n (pc' := 24) hm215 rfl rfl rfl (by decide) ?_
      refine wi_getIe (pc' := 27) hm215 rfl rfl (P := 0) rfl (x := 0) fx_upS ?_
      refine wi_if_le (pc' := 30) (t := 32) hm215 rfl rfl rfl (fun _ => ?_) (fun hc => absurd hc (by decide))
      refine wi_aload_n (pc' := 33) hm215 rfl rfl rfl (by decide) ?_
      refine wi_iload_n (pc' := 34) hm215 rfl rfl rfl ?_
      refine wc_V (pc' := 37) (by decide) rfl (by decide) ((fx_wE hm215 rfl).trans (fx_exV (mj := 165) (as := [(0, x2)]) (rest := []) rfl rk165 rfl rfl rfl rfl rfl)) h (fun σ3 h => ?_)
      refine wi_aload_n (pc' := 38) hm215 rfl rfl rfl (by decide) ?_
      refine wi_getR (pc' := 41) (x := 0) hm215 rfl rfl rfl (by omega) ?_
      refine wi_iload_n (pc' := 42) hm215 rfl rfl rfl ?_
      obtain ⟨g1, h⟩ := h
      refine wi_iaload (pc' := 43) hm215 rfl rfl rfl rfl (N := 8) rfl g1 ?_
      exact wi_iret hm215 rfl h
theorem hm216 : fx_code 216 = fx_c216 := rfl
theorem t216_0 {o0 x1 x2 x3 : Int} {σ : fx_S} {Q : fx_V → fx_S → Prop} (h : fx_CI 154 [(0, x1)] σ Q (fun y1 σ1 => ((y1 = 0 → Q (0, 0) (fx_up σ1 46 o0 0 1)) ∧ (y1 ≠ 0 → fx_CI 155 [(0, x2)] σ1 Q (fun y2 σ2 => ((y2 ≠ 0 → fx_CI 149 [(0, x3), (0, 0), (0, 2)] σ2 Q (fun y3 σ3 => ((y3 ≠ 0 → fx_CV 165 [(46, o0), (0, x2)] (fx_up σ3 46 o0 0 0) Q (fun σ4 => ((x3 ≠ 2 → ((x3 = 0 → (0 ≤ x1 ∧ x1 < 8) ∧ Q (0, (σ4 56 0 x1)) σ4) ∧ (x3 ≠ 0 → (0 ≤ x1 ∧ x1 < 8) ∧ (((σ4 56 0 x1) ≠ (-1) → fx_CI 151 [(46, o0), (0, (σ4 56 0 x1)), (0, 1)] σ4 Q (fun y4 σ5 => Q (0, y4) σ5)) ∧ ((σ4 56 0 x1) = (-1) → Q (0, (σ4 56 0 x1)) σ4))))) ∧ (x3 = 2 → (0 ≤ x1 ∧ x1 < 8) ∧ (((σ4 56 0 x1) = (-1) → (((σ4 55 0 x1) = (-1) → Q (0, 2) σ4) ∧ ((σ4 55 0 x1) ≠ (-1) → Q (0, 1) σ4))) ∧ ((σ4 56 0 x1) ≠ (-1) → Q (0, 0) σ4)))))) ∧ (y3 = 0 → Q (0, 0) (fx_up σ3 46 o0 0 2))))) ∧ (y2 = 0 → Q (0, 0) (fx_up σ2 46 o0 0 1)))))))) : fx_Ca 216 [(46, o0), (0, x1), (0, x2), (0, x3)] σ Q := by
  show fx_Wp 216 0 [(46, o0), (0, x1), (0, x2), (0, x3)] [] σ Q
  refine wi_aload_n (pc' := 1) hm216 rfl rfl rfl (by decide) ?_
  refine wi_iload_n (pc' := 2) hm216 rfl rfl rfl ?_
  refine wc_I (pc' := 5) (by decide) rfl (by decide) ((fx_wE hm216 rfl).trans (fx_exS (mj := 154) (as := [(0, x1)]) (rest := [(46, o0)]) rfl rk154 rfl rfl rfl rfl)) h (fun y1 σ1 h => ?_)
  refine wi_if_eq (pc' := 8) (t := 15) hm216 rfl rfl rfl (fun hc => ?_) (fun hc => ?_)
  · replace h := h.1 hc
    refine wi_iconst (pc' := 16) (v := 1) hm216 rfl rfl rfl ?_
    refine wi_goto (t := 33) hm216 rfl rfl ?_
    refine wi_putI (pc' := 36) hm216 rfl rfl (P := 0) rfl ?_
    refine wi_aload_n (pc' := 37) hm216 rfl rfl rfl (by decide) ?_
    refine wi_getIe (pc' := 40) hm216 rfl rfl (P := 0) rfl (x := 1) fx_upS ?_
    refine wi_if_le (pc' := 43) (t := 45) hm216 rfl rfl rfl (fun hc => absurd hc (by decide)) (fun _ => ?_)
    refine wi_iconst (pc' := 44) (v := 0) hm216 rfl rfl rfl ?_
    exact wi_iret hm216 rfl h
  · replace h := h.2 hc
    refine wi_iload_n (pc' := 9) hm216 rfl rfl rfl ?_
    refine wc_I (pc' := 12) (by decide) rfl (by decide) ((fx_wE hm216 rfl).trans (fx_exS (mj := 155) (as := [(0, x2)]) (rest := [(46, o0)]) rfl rk155 rfl rfl rfl rfl)) h (fun y2 σ2 h => ?_)
    refine wi_if_ne (pc' := 15) (t := 19) hm216 rfl rfl rfl (fun hc => ?_) (fun hc => ?_)
    · replace h := h.1 hc
      refine wi_iload_n (pc' := 20) hm216 rfl rfl rfl ?_
      refine wi_iconst (pc' := 21) (v := 0) hm216 rfl rfl rfl ?_
      refine wi_iconst (pc' := 22) (v := 2) hm216 rfl rfl rfl ?_
      refine wc_I (pc' := 25) (by decide) rfl (by decide) ((fx_wE hm216 rfl).trans (fx_exS (mj := 149) (as := [(0, x3), (0, 0), (0, 2)]) (rest := [(46, o0)]) rfl rk149 rfl rfl rfl rfl)) h (fun y3 σ3 h => ?_)
      refine wi_if_ne (pc' := 28) (t := 32) hm216 rfl rfl rfl (fun hc => ?_) (fun hc => ?_)
      · replace h := h.1 hc
        refine wi_iconst (pc' := 33) (v := 0) hm216 rfl rfl rfl ?_
        refine wi_putI (pc' := 36) hm216 rfl rfl (P := 0) rfl ?_
        refine wi_aload_n (pc' := 37) hm216 rfl rfl rfl (by decide) ?_
        refine wi_getIe (pc' := 40) hm216 rfl rfl (P := 0) rfl (x := 0) fx_upS ?_
        refine wi_if_le (pc' := 43) (t := 45) hm216 rfl rfl rfl (fun _ => ?_) (fun hc => absurd hc (by decide))
        refine wi_aload_n (pc' := 46) hm216 rfl rfl rfl (by decide) ?_
        refine wi_iload_n (pc' := 47) hm216 rfl rfl rfl ?_
        refine wc_V (pc' := 50) (by decide) rfl (by decide) ((fx_wE hm216 rfl).trans (fx_exV (mj := 165) (as := [(0, x2)]) (rest := []) rfl rk165 rfl rfl rfl rfl rfl)) h (fun σ4 h => ?_)
        refine wi_iload_n (pc' := 51) hm216 rfl rfl rfl ?_
        refine wi_iconst (pc' := 52) (v := 2) hm216 rfl rfl rfl ?_
        refine wi_ic_ne (pc' := 55) (t := 85) hm216 rfl rfl rfl (fun hc => ?_) (fun hc => ?_)
        · replace h := h.1 hc
          refine wi_iload_n (pc' := 86) hm216 rfl rfl rfl ?_
          refine wi_if_eq (pc' := 89) (t := 99) hm216 rfl rfl rfl (fun hc => ?_) (fun hc => ?_)
          · replace h := h.1 hc
            refine wi_aload_n (pc' := 100) hm216 rfl rfl rfl (by decide) ?_
            refine wi_getR (pc' := 103) (x := 0) hm216 rfl rfl rfl (by omega) ?_
            refine wi_iload_n (pc' := 104) hm216 rfl rfl rfl ?_
            obtain ⟨g1, h⟩ := h
            refine wi_iaload (pc' := 105) hm216 rfl rfl rfl rfl (N := 8) rfl g1 ?_
            refine wi_goto (t := 119) hm216 rfl rfl ?_
            exact wi_iret hm216 rfl h
          · replace h := h.2 hc
            refine wi_aload_n (pc' := 90) hm216 rfl rfl rfl (by decide) ?_
            refine wi_getR (pc' := 93) (x := 0) hm216 rfl rfl rfl (by omega) ?_
            refine wi_iload_n (pc' := 94) hm216 rfl rfl rfl ?_
            obtain ⟨g1, h⟩ := h
            refine wi_iaload (pc' := 95) hm216 rfl rfl rfl rfl (N := 8) rfl g1 ?_
            refine wi_iconst (pc' := 96) (v := (-1)) hm216 rfl rfl rfl ?_
            refine wi_ic_ne (pc' := 99) (t := 108) hm216 rfl rfl rfl (fun hc => ?_) (fun hc => ?_)
            · replace h := h.1 hc
              refine wi_aload_n (pc' := 109) hm216 rfl rfl rfl (by decide) ?_
              refine wi_aload_n (pc' := 110) hm216 rfl rfl rfl (by decide) ?_
              refine wi_getR (pc' := 113) (x := 0) hm216 rfl rfl rfl (by omega) ?_
              refine wi_iload_n (pc' := 114) hm216 rfl rfl rfl ?_
              refine wi_iaload (pc' := 115) hm216 rfl rfl rfl rfl (N := 8) rfl g1 ?_
              refine wi_iconst (pc' := 116) (v := 1) hm216 rfl rfl rfl ?_
              refine wc_I (pc' := 119) (by decide) rfl (by decide) ((fx_wE hm216 rfl).trans (fx_exV (mj := 151) (as := [(0, (σ4 56 0 x1)), (0, 1)]) (rest := []) rfl rk151 rfl rfl rfl rfl rfl)) h (fun y4 σ5 h => ?_)
              exact wi_iret hm216 rfl h
            · replace h := h.2 hc
              refine wi_aload_n (pc' := 100) hm216 rfl rfl rfl (by decide) ?_
              refine wi_getR (pc' := 103) (x := 0) hm216 rfl rfl rfl (by omega) ?_
              refine wi_iload_n (pc' := 104) hm216 rfl rfl rfl ?_
              refine wi_iaload (pc' := 105) hm216 rfl rfl rfl rfl (N := 8) rfl g1 ?_
              refine wi_goto (t := 119) hm216 rfl rfl ?_
              exact wi_iret hm216 rfl h
        · replace h := h.2 hc
          refine wi_aload_n (pc' := 56) hm216 rfl rfl rfl (by decide) ?_
          refine wi_getR (pc' := 59) (x := 0) hm216 rfl rfl rfl (by omega) ?_
          refine wi_iload_n (pc' := 60) hm216 rfl rfl rfl ?_
          obtain ⟨g1, h⟩ := h
          refine wi_iaload (pc' := 61) hm216 rfl rfl rfl rfl (N := 8) rfl g1 ?_
          refine wi_iconst (pc' := 62) (v := (-1)) hm216 rfl rfl rfl ?_
          refine wi_ic_eq (pc' := 65) (t := 69) hm216 rfl rfl rfl (fun hc => ?_) (fun hc => ?_)
          · replace h := h.1 hc
            refine wi_aload_n (pc' := 70) hm216 rfl rfl rfl (by decide) ?_
            refine wi_getR (pc' := 73) (x := 0) hm216 rfl rfl rfl (by omega) ?_
            refine wi_iload_n (pc' := 74) hm216 rfl rfl rfl ?_
            refine wi_iaload (pc' := 75) hm216 rfl rfl rfl rfl (N := 8) rfl g1 ?_
            refine wi_iconst (pc' := 76) (v := (-1)) hm216 rfl rfl rfl ?_
            refine wi_ic_eq (pc' := 79) (t := 83) hm216 rfl rfl rfl (fun hc => ?_) (fun hc => ?_)
            · replace h := h.1 hc
              refine wi_iconst (pc' := 84) (v := 2) hm216 rfl rfl rfl ?_
              exact wi_iret hm216 rfl h
            · replace h := h.2 hc
              refine wi_iconst (pc' := 80) (v := 1) hm216 rfl rfl rfl ?_
              refine wi_goto (t := 84) hm216 rfl rfl ?_
              exact wi_iret hm216 rfl h
          · replace h := h.2 hc
            refine wi_iconst (pc' := 66) (v := 0) hm216 rfl rfl rfl ?_
            refine wi_goto (t := 84) hm216 rfl rfl ?_
            exact wi_iret hm216 rfl h
      · replace h := h.2 hc
        refine wi_iconst (pc' := 29) (v := 2) hm216 rfl rfl rfl ?_
        refine wi_goto (t := 33) hm216 rfl rfl ?_
        refine wi_putI (pc' := 36) hm216 rfl rfl (P := 0) rfl ?_
        refine wi_aload_n (pc' := 37) hm216 rfl rfl rfl (by decide) ?_
        refine wi_getIe (pc' := 40) hm216 rfl rfl (P := 0) rfl (x := 2) fx_upS ?_
        refine wi_if_le (pc' := 43) (t := 45) hm216 rfl rfl rfl (fun hc => absurd hc (by decide)) (fun _ => ?_)
        refine wi_iconst (pc' := 44) (v := 0) hm216 rfl rfl rfl ?_
        exact wi_iret hm216 rfl h
    · replace h := h.2 hc
      refine wi_iconst (pc' := 16) (v := 1) hm216 rfl rfl rfl ?_
      refine wi_goto (t := 33) hm216 rfl rfl ?_
      refine wi_putI (pc' := 36) hm216 rfl rfl (P := 0) rfl ?_
      refine wi_aload_n (pc' := 37) hm216 rfl rfl rfl (by decide) ?_
      refine wi_getIe (pc' := 40) hm216 rfl rfl (P := 0) rfl (x := 1) fx_upS ?_
      refine wi_if_le (pc' := 43) (t := 45) hm216 rfl rfl rfl (fun hc => absurd hc (by decide)) (fun _ => ?_)
      refine wi_iconst (pc' := 44) (v := 0) hm216 rfl rfl rfl ?_
      exact wi_iret hm216 rfl h
theorem hm217 : fx_code 217 = fx_c217 := rfl
theorem t217_0 {o0 x1 x2 x3 : Int} {σ : fx_S} {Q : fx_V → fx_S → Prop} (h : fx_CI 154 [(0, x1)] σ Q (fun y1 σ1 => ((y1 = 0 → Q (0, 0) (fx_up σ1 46 o0 0 1)) ∧ (y1 ≠ 0 → fx_CI 155 [(0, x2)] σ1 Q (fun y2 σ2 => ((y2 = 0 → Q (0, 0) (fx_up σ2 46 o0 0 1)) ∧ (y2 ≠ 0 → fx_Wp 217 41 [(46, o0), (0, x1), (0, x2), (0, x3), (0, 0), (0, (-1)), (0, 0), (3, 0), (3, 0)] [] (fx_up σ2 46 o0 0 0) Q))))))) : fx_Ca 217 [(46, o0), (0, x1), (0, x2), (0, x3)] σ Q := by
  show fx_Wp 217 0 [(46, o0), (0, x1), (0, x2), (0, x3), (3, 0), (3, 0), (3, 0), (3, 0), (3, 0)] [] σ Q
  refine wi_aload_n (pc' := 1) hm217 rfl rfl rfl (by decide) ?_
  refine wi_iload_n (pc' := 2) hm217 rfl rfl rfl ?_
  refine wc_I (pc' := 5) (by decide) rfl (by decide) ((fx_wE hm217 rfl).trans (fx_exS (mj := 154) (as := [(0, x1)]) (rest := [(46, o0)]) rfl rk154 rfl rfl rfl rfl)) h (fun y1 σ1 h => ?_)
  refine wi_if_eq (pc' := 8) (t := 19) hm217 rfl rfl rfl (fun hc => ?_) (fun hc => ?_)
  · replace h := h.1 hc
    refine wi_iconst (pc' := 20) (v := 1) hm217 rfl rfl rfl ?_
    refine wi_putI (pc' := 23) hm217 rfl rfl (P := 0) rfl ?_
    refine wi_aload_n (pc' := 24) hm217 rfl rfl rfl (by decide) ?_
    refine wi_getIe (pc' := 27) hm217 rfl rfl (P := 0) rfl (x := 1) fx_upS ?_
    refine wi_if_le (pc' := 30) (t := 32) hm217 rfl rfl rfl (fun hc => absurd hc (by decide)) (fun _ => ?_)
    refine wi_iconst (pc' := 31) (v := 0) hm217 rfl rfl rfl ?_
    exact wi_iret hm217 rfl h
  · replace h := h.2 hc
    refine wi_iload_n (pc' := 9) hm217 rfl rfl rfl ?_
    refine wc_I (pc' := 12) (by decide) rfl (by decide) ((fx_wE hm217 rfl).trans (fx_exS (mj := 155) (as := [(0, x2)]) (rest := [(46, o0)]) rfl rk155 rfl rfl rfl rfl)) h (fun y2 σ2 h => ?_)
    refine wi_if_eq (pc' := 15) (t := 19) hm217 rfl rfl rfl (fun hc => ?_) (fun hc => ?_)
    · replace h := h.1 hc
      refine wi_iconst (pc' := 20) (v := 1) hm217 rfl rfl rfl ?_
      refine wi_putI (pc' := 23) hm217 rfl rfl (P := 0) rfl ?_
      refine wi_aload_n (pc' := 24) hm217 rfl rfl rfl (by decide) ?_
      refine wi_getIe (pc' := 27) hm217 rfl rfl (P := 0) rfl (x := 1) fx_upS ?_
      refine wi_if_le (pc' := 30) (t := 32) hm217 rfl rfl rfl (fun hc => absurd hc (by decide)) (fun _ => ?_)
      refine wi_iconst (pc' := 31) (v := 0) hm217 rfl rfl rfl ?_
      exact wi_iret hm217 rfl h
    · replace h := h.2 hc
      refine wi_iconst (pc' := 16) (v := 0) hm217 rfl rfl rfl ?_
      refine wi_goto (t := 20) hm217 rfl rfl ?_
      refine wi_putI (pc' := 23) hm217 rfl rfl (P := 0) rfl ?_
      refine wi_aload_n (pc' := 24) hm217 rfl rfl rfl (by decide) ?_
      refine wi_getIe (pc' := 27) hm217 rfl rfl (P := 0) rfl (x := 0) fx_upS ?_
      refine wi_if_le (pc' := 30) (t := 32) hm217 rfl rfl rfl (fun _ => ?_) (fun hc => absurd hc (by decide))
      refine wi_iconst (pc' := 33) (v := 0) hm217 rfl rfl rfl ?_
      refine wi_istore (pc' := 35) (L' := [(46, o0), (0, x1), (0, x2), (0, x3), (0, 0), (3, 0), (3, 0), (3, 0), (3, 0)]) hm217 rfl rfl rfl ?_
      refine wi_iconst (pc' := 36) (v := (-1)) hm217 rfl rfl rfl ?_
      refine wi_istore (pc' := 38) (L' := [(46, o0), (0, x1), (0, x2), (0, x3), (0, 0), (0, (-1)), (3, 0), (3, 0), (3, 0)]) hm217 rfl rfl rfl ?_
      refine wi_iconst (pc' := 39) (v := 0) hm217 rfl rfl rfl ?_
      refine wi_istore (pc' := 41) (L' := [(46, o0), (0, x1), (0, x2), (0, x3), (0, 0), (0, (-1)), (0, 0), (3, 0), (3, 0)]) hm217 rfl rfl rfl ?_
      exact h
theorem t217_41 {o0 x1 x2 x3 x4 x5 x6 : Int} {w7 w8 : fx_V} {σ : fx_S} {Q : fx_V → fx_S → Prop} (h : (((σ 47 0 1) ≤ x6 → ((x3 ≠ (-1) → Q (0, x5) σ) ∧ (x3 = (-1) → Q (0, x4) σ))) ∧ (x6 < (σ 47 0 1) → fx_CI 151 [(46, o0), (0, x6), (0, 0)] σ Q (fun y1 σ1 => ((y1 ≠ x1 → (fx_rg (x6 + 1)) ∧ fx_Wp 217 41 [(46, o0), (0, x1), (0, x2), (0, x3), (0, x4), (0, x5), (0, (x6 + 1)), w7, w8] [] σ1 Q) ∧ (y1 = x1 → fx_CI 156 [(46, o0), (0, x6), (0, x2)] σ1 Q (fun y2 σ2 => ((y2 ≠ 0 → (fx_rg (x4 + 1)) ∧ fx_Wp 217 85 [(46, o0), (0, x1), (0, x2), (0, x3), (0, (x4 + 1)), (0, x5), (0, x6), (0, 0), (0, 0)] [] σ2 Q) ∧ (y2 = 0 → (fx_rg (x6 + 1)) ∧ fx_Wp 217 41 [(46, o0), (0, x1), (0, x2), (0, x3), (0, x4), (0, x5), (0, (x6 + 1)), w7, w8] [] σ2 Q))))))))) : fx_Wp 217 41 [(46, o0), (0, x1), (0, x2), (0, x3), (0, x4), (0, x5), (0, x6), w7, w8] [] σ Q := by
  refine wi_iload (pc' := 43) hm217 rfl rfl rfl ?_
  refine wi_aload_n (pc' := 44) hm217 rfl rfl rfl (by decide) ?_
  refine wi_getR (pc' := 47) (x := 0) hm217 rfl rfl rfl (by omega) ?_
  refine wi_iconst (pc' := 48) (v := 1) hm217 rfl rfl rfl ?_
  refine wi_iaload (pc' := 49) hm217 rfl rfl rfl rfl (N := 1130) rfl (by decide) ?_
  refine wi_ic_ge (pc' := 52) (t := 167) hm217 rfl rfl rfl (fun hc => ?_) (fun hc => ?_)
  · replace h := h.1 hc
    refine wi_iload_n (pc' := 168) hm217 rfl rfl rfl ?_
    refine wi_iconst (pc' := 169) (v := (-1)) hm217 rfl rfl rfl ?_
    refine wi_ic_ne (pc' := 172) (t := 177) hm217 rfl rfl rfl (fun hc => ?_) (fun hc => ?_)
    · replace h := h.1 hc
      refine wi_iload (pc' := 179) hm217 rfl rfl rfl ?_
      exact wi_iret hm217 rfl h
    · replace h := h.2 hc
      refine wi_iload (pc' := 174) hm217 rfl rfl rfl ?_
      refine wi_goto (t := 179) hm217 rfl rfl ?_
      exact wi_iret hm217 rfl h
  · replace h := h.2 hc
    refine wi_aload_n (pc' := 53) hm217 rfl rfl rfl (by decide) ?_
    refine wi_iload (pc' := 55) hm217 rfl rfl rfl ?_
    refine wi_iconst (pc' := 56) (v := 0) hm217 rfl rfl rfl ?_
    refine wc_I (pc' := 59) (by decide) rfl (by decide) ((fx_wE hm217 rfl).trans (fx_exV (mj := 151) (as := [(0, x6), (0, 0)]) (rest := []) rfl rk151 rfl rfl rfl rfl rfl)) h (fun y1 σ1 h => ?_)
    refine wi_iload_n (pc' := 60) hm217 rfl rfl rfl ?_
    refine wi_ic_ne (pc' := 63) (t := 161) hm217 rfl rfl rfl (fun hc => ?_) (fun hc => ?_)
    · replace h := h.1 hc
      obtain ⟨g1, h⟩ := h
      refine wi_iinc (pc' := 164) (L' := [(46, o0), (0, x1), (0, x2), (0, x3), (0, x4), (0, x5), (0, (x6 + 1)), w7, w8]) hm217 rfl rfl rfl g1 rfl ?_
      refine wi_goto (t := 41) hm217 rfl rfl ?_
      exact h
    · replace h := h.2 hc
      refine wi_aload_n (pc' := 64) hm217 rfl rfl rfl (by decide) ?_
      refine wi_iload (pc' := 66) hm217 rfl rfl rfl ?_
      refine wi_iload_n (pc' := 67) hm217 rfl rfl rfl ?_
      refine wc_I (pc' := 70) (by decide) rfl (by decide) ((fx_wE hm217 rfl).trans (fx_exV (mj := 156) (as := [(0, x6), (0, x2)]) (rest := []) rfl rk156 rfl rfl rfl rfl rfl)) h (fun y2 σ2 h => ?_)
      refine wi_if_ne (pc' := 73) (t := 76) hm217 rfl rfl rfl (fun hc => ?_) (fun hc => ?_)
      · replace h := h.1 hc
        obtain ⟨g1, h⟩ := h
        refine wi_iinc (pc' := 79) (L' := [(46, o0), (0, x1), (0, x2), (0, x3), (0, (x4 + 1)), (0, x5), (0, x6), w7, w8]) hm217 rfl rfl rfl g1 rfl ?_
        refine wi_iconst (pc' := 80) (v := 0) hm217 rfl rfl rfl ?_
        refine wi_istore (pc' := 82) (L' := [(46, o0), (0, x1), (0, x2), (0, x3), (0, (x4 + 1)), (0, x5), (0, x6), (0, 0), w8]) hm217 rfl rfl rfl ?_
        refine wi_iconst (pc' := 83) (v := 0) hm217 rfl rfl rfl ?_
        refine wi_istore (pc' := 85) (L' := [(46, o0), (0, x1), (0, x2), (0, x3), (0, (x4 + 1)), (0, x5), (0, x6), (0, 0), (0, 0)]) hm217 rfl rfl rfl ?_
        exact h
      · replace h := h.2 hc
        refine wi_goto (t := 161) hm217 rfl rfl ?_
        obtain ⟨g1, h⟩ := h
        refine wi_iinc (pc' := 164) (L' := [(46, o0), (0, x1), (0, x2), (0, x3), (0, x4), (0, x5), (0, (x6 + 1)), w7, w8]) hm217 rfl rfl rfl g1 rfl ?_
        refine wi_goto (t := 41) hm217 rfl rfl ?_
        exact h
theorem t217_85 {o0 x1 x2 x3 x4 x5 x6 x7 x8 : Int} {σ : fx_S} {Q : fx_V → fx_S → Prop} (h : (((σ 47 0 1) ≤ x8 → ((x7 ≠ x3 → (fx_rg (x6 + 1)) ∧ fx_Wp 217 41 [(46, o0), (0, x1), (0, x2), (0, x3), (0, x4), (0, x5), (0, (x6 + 1)), (0, x7), (0, x8)] [] σ Q) ∧ (x7 = x3 → (fx_rg (x6 + 1)) ∧ fx_Wp 217 41 [(46, o0), (0, x1), (0, x2), (0, x3), (0, x4), (0, x6), (0, (x6 + 1)), (0, x7), (0, x8)] [] σ Q))) ∧ (x8 < (σ 47 0 1) → ((x8 = x6 → (fx_rg (x7 + 0)) ∧ (fx_rg (x8 + 1)) ∧ fx_Wp 217 85 [(46, o0), (0, x1), (0, x2), (0, x3), (0, x4), (0, x5), (0, x6), (0, (x7 + 0)), (0, (x8 + 1))] [] σ Q) ∧ (x8 ≠ x6 → fx_CI 151 [(46, o0), (0, x8), (0, 0)] σ Q (fun y1 σ1 => ((y1 ≠ x1 → (fx_rg (x7 + 0)) ∧ (fx_rg (x8 + 1)) ∧ fx_Wp 217 85 [(46, o0), (0, x1), (0, x2), (0, x3), (0, x4), (0, x5), (0, x6), (0, (x7 + 0)), (0, (x8 + 1))] [] σ1 Q) ∧ (y1 = x1 → fx_CI 156 [(46, o0), (0, x8), (0, x2)] σ1 Q (fun y2 σ2 => ((y2 = 0 → (fx_rg (x7 + 0)) ∧ (fx_rg (x8 + 1)) ∧ fx_Wp 217 85 [(46, o0), (0, x1), (0, x2), (0, x3), (0, x4), (0, x5), (0, x6), (0, (x7 + 0)), (0, (x8 + 1))] [] σ2 Q) ∧ (y2 ≠ 0 → fx_CI 158 [(46, o0), (0, x8), (0, x6)] σ2 Q (fun y3 σ3 => ((y3 = 0 → (fx_rg (x7 + 0)) ∧ (fx_rg (x8 + 1)) ∧ fx_Wp 217 85 [(46, o0), (0, x1), (0, x2), (0, x3), (0, x4), (0, x5), (0, x6), (0, (x7 + 0)), (0, (x8 + 1))] [] σ3 Q) ∧ (y3 ≠ 0 → (fx_rg (x7 + 1)) ∧ (fx_rg (x8 + 1)) ∧ fx_Wp 217 85 [(46, o0), (0, x1), (0, x2), (0, x3), (0, x4), (0, x5), (0, x6), (0, (x7 + 1)), (0, (x8 + 1))] [] σ3 Q)))))))))))))) : fx_Wp 217 85 [(46, o0), (0, x1), (0, x2), (0, x3), (0, x4), (0, x5), (0, x6), (0, x7), (0, x8)] [] σ Q := by
  refine wi_iload (pc' := 87) hm217 rfl rfl rfl ?_
  refine wi_aload_n (pc' := 88) hm217 rfl rfl rfl (by decide) ?_
  refine wi_getR (pc' := 91) (x := 0) hm217 rfl rfl rfl (by omega) ?_
  refine wi_iconst (pc' := 92) (v := 1) hm217 rfl rfl rfl ?_
  refine wi_iaload (pc' := 93) hm217 rfl rfl rfl rfl (N := 1130) rfl (by decide) ?_
  refine wi_ic_ge (pc' := 96) (t := 151) hm217 rfl rfl rfl (fun hc => ?_) (fun hc => ?_)
  · replace h := h.1 hc
    refine wi_iload (pc' := 153) hm217 rfl rfl rfl ?_
    refine wi_iload_n (pc' := 154) hm217 rfl rfl rfl ?_
    refine wi_ic_ne (pc' := 157) (t := 161) hm217 rfl rfl rfl (fun hc => ?_) (fun hc => ?_)
    · replace h := h.1 hc
      obtain ⟨g1, h⟩ := h
      refine wi_iinc (pc' := 164) (L' := [(46, o0), (0, x1), (0, x2), (0, x3), (0, x4), (0, x5), (0, (x6 + 1)), (0, x7), (0, x8)]) hm217 rfl rfl rfl g1 rfl ?_
      refine wi_goto (t := 41) hm217 rfl rfl ?_
      exact h
    · replace h := h.2 hc
      refine wi_iload (pc' := 159) hm217 rfl rfl rfl ?_
      refine wi_istore (pc' := 161) (L' := [(46, o0), (0, x1), (0, x2), (0, x3), (0, x4), (0, x6), (0, x6), (0, x7), (0, x8)]) hm217 rfl rfl rfl ?_
      obtain ⟨g1, h⟩ := h
      refine wi_iinc (pc' := 164) (L' := [(46, o0), (0, x1), (0, x2), (0, x3), (0, x4), (0, x6), (0, (x6 + 1)), (0, x7), (0, x8)]) hm217 rfl rfl rfl g1 rfl ?_
      refine wi_goto (t := 41) hm217 rfl rfl ?_
      exact h
  · replace h := h.2 hc
    refine wi_iload (pc' := 98) hm217 rfl rfl rfl ?_
    refine wi_iload (pc' := 100) hm217 rfl rfl rfl ?_
    refine wi_iload (pc' := 102) hm217 rfl rfl rfl ?_
    refine wi_ic_eq (pc' := 105) (t := 141) hm217 rfl rfl rfl (fun hc => ?_) (fun hc => ?_)
    · replace h := h.1 hc
      refine wi_iconst (pc' := 142) (v := 0) hm217 rfl rfl rfl ?_
      obtain ⟨g1, h⟩ := h
      refine wi_iadd (pc' := 143) hm217 rfl rfl g1 ?_
      refine wi_istore (pc' := 145) (L' := [(46, o0), (0, x1), (0, x2), (0, x3), (0, x4), (0, x5), (0, x6), (0, (x7 + 0)), (0, x8)]) hm217 rfl rfl rfl ?_
      obtain ⟨g2, h⟩ := h
      refine wi_iinc (pc' := 148) (L' := [(46, o0), (0, x1), (0, x2), (0, x3), (0, x4), (0, x5), (0, x6), (0, (x7 + 0)), (0, (x8 + 1))]) hm217 rfl rfl rfl g2 rfl ?_
      refine wi_goto (t := 85) hm217 rfl rfl ?_
      exact h
    · replace h := h.2 hc
      refine wi_aload_n (pc' := 106) hm217 rfl rfl rfl (by decide) ?_
      refine wi_iload (pc' := 108) hm217 rfl rfl rfl ?_
      refine wi_iconst (pc' := 109) (v := 0) hm217 rfl rfl rfl ?_
      refine wc_I (pc' := 112) (by decide) rfl (by decide) ((fx_wE hm217 rfl).trans (fx_exV (mj := 151) (as := [(0, x8), (0, 0)]) (rest := [(0, x7)]) rfl rk151 rfl rfl rfl rfl rfl)) h (fun y1 σ1 h => ?_)
      refine wi_iload_n (pc' := 113) hm217 rfl rfl rfl ?_
      refine wi_ic_ne (pc' := 116) (t := 141) hm217 rfl rfl rfl (fun hc => ?_) (fun hc => ?_)
      · replace h := h.1 hc
        refine wi_iconst (pc' := 142) (v := 0) hm217 rfl rfl rfl ?_
        obtain ⟨g1, h⟩ := h
        refine wi_iadd (pc' := 143) hm217 rfl rfl g1 ?_
        refine wi_istore (pc' := 145) (L' := [(46, o0), (0, x1), (0, x2), (0, x3), (0, x4), (0, x5), (0, x6), (0, (x7 + 0)), (0, x8)]) hm217 rfl rfl rfl ?_
        obtain ⟨g2, h⟩ := h
        refine wi_iinc (pc' := 148) (L' := [(46, o0), (0, x1), (0, x2), (0, x3), (0, x4), (0, x5), (0, x6), (0, (x7 + 0)), (0, (x8 + 1))]) hm217 rfl rfl rfl g2 rfl ?_
        refine wi_goto (t := 85) hm217 rfl rfl ?_
        exact h
      · replace h := h.2 hc
        refine wi_aload_n (pc' := 117) hm217 rfl rfl rfl (by decide) ?_
        refine wi_iload (pc' := 119) hm217 rfl rfl rfl ?_
        refine wi_iload_n (pc' := 120) hm217 rfl rfl rfl ?_
        refine wc_I (pc' := 123) (by decide) rfl (by decide) ((fx_wE hm217 rfl).trans (fx_exV (mj := 156) (as := [(0, x8), (0, x2)]) (rest := [(0, x7)]) rfl rk156 rfl rfl rfl rfl rfl)) h (fun y2 σ2 h => ?_)
        refine wi_if_eq (pc' := 126) (t := 141) hm217 rfl rfl rfl (fun hc => ?_) (fun hc => ?_)
        · replace h := h.1 hc
          refine wi_iconst (pc' := 142) (v := 0) hm217 rfl rfl rfl ?_
          obtain ⟨g1, h⟩ := h
          refine wi_iadd (pc' := 143) hm217 rfl rfl g1 ?_
          refine wi_istore (pc' := 145) (L' := [(46, o0), (0, x1), (0, x2), (0, x3), (0, x4), (0, x5), (0, x6), (0, (x7 + 0)), (0, x8)]) hm217 rfl rfl rfl ?_
          obtain ⟨g2, h⟩ := h
          refine wi_iinc (pc' := 148) (L' := [(46, o0), (0, x1), (0, x2), (0, x3), (0, x4), (0, x5), (0, x6), (0, (x7 + 0)), (0, (x8 + 1))]) hm217 rfl rfl rfl g2 rfl ?_
          refine wi_goto (t := 85) hm217 rfl rfl ?_
          exact h
        · replace h := h.2 hc
          refine wi_aload_n (pc' := 127) hm217 rfl rfl rfl (by decide) ?_
          refine wi_iload (pc' := 129) hm217 rfl rfl rfl ?_
          refine wi_iload (pc' := 131) hm217 rfl rfl rfl ?_
          refine wc_I (pc' := 134) (by decide) rfl (by decide) ((fx_wE hm217 rfl).trans (fx_exV (mj := 158) (as := [(0, x8), (0, x6)]) (rest := [(0, x7)]) rfl rk158 rfl rfl rfl rfl rfl)) h (fun y3 σ3 h => ?_)
          refine wi_if_eq (pc' := 137) (t := 141) hm217 rfl rfl rfl (fun hc => ?_) (fun hc => ?_)
          · replace h := h.1 hc
            refine wi_iconst (pc' := 142) (v := 0) hm217 rfl rfl rfl ?_
            obtain ⟨g1, h⟩ := h
            refine wi_iadd (pc' := 143) hm217 rfl rfl g1 ?_
            refine wi_istore (pc' := 145) (L' := [(46, o0), (0, x1), (0, x2), (0, x3), (0, x4), (0, x5), (0, x6), (0, (x7 + 0)), (0, x8)]) hm217 rfl rfl rfl ?_
            obtain ⟨g2, h⟩ := h
            refine wi_iinc (pc' := 148) (L' := [(46, o0), (0, x1), (0, x2), (0, x3), (0, x4), (0, x5), (0, x6), (0, (x7 + 0)), (0, (x8 + 1))]) hm217 rfl rfl rfl g2 rfl ?_
            refine wi_goto (t := 85) hm217 rfl rfl ?_
            exact h
          · replace h := h.2 hc
            refine wi_iconst (pc' := 138) (v := 1) hm217 rfl rfl rfl ?_
            refine wi_goto (t := 142) hm217 rfl rfl ?_
            obtain ⟨g1, h⟩ := h
            refine wi_iadd (pc' := 143) hm217 rfl rfl g1 ?_
            refine wi_istore (pc' := 145) (L' := [(46, o0), (0, x1), (0, x2), (0, x3), (0, x4), (0, x5), (0, x6), (0, (x7 + 1)), (0, x8)]) hm217 rfl rfl rfl ?_
            obtain ⟨g2, h⟩ := h
            refine wi_iinc (pc' := 148) (L' := [(46, o0), (0, x1), (0, x2), (0, x3), (0, x4), (0, x5), (0, x6), (0, (x7 + 1)), (0, (x8 + 1))]) hm217 rfl rfl rfl g2 rfl ?_
            refine wi_goto (t := 85) hm217 rfl rfl ?_
            exact h
theorem hm218 : fx_code 218 = fx_c218 := rfl
theorem t218_0 {o0 o1 x2 : Int} {σ : fx_S} {Q : fx_V → fx_S → Prop} (h : fx_Wp 218 2 [(46, o0), (59, o1), (0, x2), (0, x2)] [] σ Q) : fx_Ca 218 [(46, o0), (59, o1), (0, x2)] σ Q := by
  show fx_Wp 218 0 [(46, o0), (59, o1), (0, x2), (3, 0)] [] σ Q
  refine wi_iload_n (pc' := 1) hm218 rfl rfl rfl ?_
  refine wi_istore_n (pc' := 2) (L' := [(46, o0), (59, o1), (0, x2), (0, x2)]) hm218 rfl rfl rfl ?_
  exact h
theorem t218_2 {o1 x2 x3 : Int} {w0 : fx_V} {σ : fx_S} {Q : fx_V → fx_S → Prop} (h : ((1000 ≤ x3 → Q (0, x3) σ) ∧ (x3 < 1000 → (0 ≤ x3 ∧ x3 < 1000) ∧ (0 ≤ x2 ∧ x2 < 1000) ∧ (((σ 59 o1 x3) ≠ (σ 59 o1 x2) → Q (0, x3) σ) ∧ ((σ 59 o1 x3) = (σ 59 o1 x2) → (fx_rg (x3 + 1)) ∧ fx_Wp 218 2 [w0, (59, o1), (0, x2), (0, (x3 + 1))] [] σ Q))))) : fx_Wp 218 2 [w0, (59, o1), (0, x2), (0, x3)] [] σ Q := by
  refine wi_iload_n (pc' := 3) hm218 rfl rfl rfl ?_
  refine wi_sipush (pc' := 6) (v := 1000) hm218 rfl rfl rfl ?_
  refine wi_ic_ge (pc' := 9) (t := 24) hm218 rfl rfl rfl (fun hc => ?_) (fun hc => ?_)
  · replace h := h.1 hc
    refine wi_iload_n (pc' := 25) hm218 rfl rfl rfl ?_
    exact wi_iret hm218 rfl h
  · replace h := h.2 hc
    refine wi_aload_n (pc' := 10) hm218 rfl rfl rfl (by decide) ?_
    refine wi_iload_n (pc' := 11) hm218 rfl rfl rfl ?_
    obtain ⟨g1, h⟩ := h
    refine wi_iaload (pc' := 12) hm218 rfl rfl rfl rfl (N := 1000) rfl g1 ?_
    refine wi_aload_n (pc' := 13) hm218 rfl rfl rfl (by decide) ?_
    refine wi_iload_n (pc' := 14) hm218 rfl rfl rfl ?_
    obtain ⟨g2, h⟩ := h
    refine wi_iaload (pc' := 15) hm218 rfl rfl rfl rfl (N := 1000) rfl g2 ?_
    refine wi_ic_ne (pc' := 18) (t := 24) hm218 rfl rfl rfl (fun hc => ?_) (fun hc => ?_)
    · replace h := h.1 hc
      refine wi_iload_n (pc' := 25) hm218 rfl rfl rfl ?_
      exact wi_iret hm218 rfl h
    · replace h := h.2 hc
      obtain ⟨g3, h⟩ := h
      refine wi_iinc (pc' := 21) (L' := [w0, (59, o1), (0, x2), (0, (x3 + 1))]) hm218 rfl rfl rfl g3 rfl ?_
      refine wi_goto (t := 2) hm218 rfl rfl ?_
      exact h
theorem hm219 : fx_code 219 = fx_c219 := rfl
theorem t219_0 {o0 o1 x2 x3 : Int} {σ : fx_S} {Q : fx_V → fx_S → Prop} (h : fx_Wp 219 6 [(46, o0), (59, o1), (0, x2), (0, x3), (0, 0), (0, 0)] [] σ Q) : fx_Ca 219 [(46, o0), (59, o1), (0, x2), (0, x3)] σ Q := by
  show fx_Wp 219 0 [(46, o0), (59, o1), (0, x2), (0, x3), (3, 0), (3, 0)] [] σ Q
  refine wi_iconst (pc' := 1) (v := 0) hm219 rfl rfl rfl ?_
  refine wi_istore (pc' := 3) (L' := [(46, o0), (59, o1), (0, x2), (0, x3), (0, 0), (3, 0)]) hm219 rfl rfl rfl ?_
  refine wi_iconst (pc' := 4) (v := 0) hm219 rfl rfl rfl ?_
  refine wi_istore (pc' := 6) (L' := [(46, o0), (59, o1), (0, x2), (0, x3), (0, 0), (0, 0)]) hm219 rfl rfl rfl ?_
  exact h
theorem t219_6 {o0 o1 x2 x3 x4 x5 : Int} {σ : fx_S} {Q : fx_V → fx_S → Prop} (h : ((1000 ≤ x5 → ((x2 ≠ (-1) → Q (0, (-1)) σ) ∧ (x2 = (-1) → Q (0, x4) σ))) ∧ (x5 < 1000 → (0 ≤ x5 ∧ x5 < 1000) ∧ (((σ 59 o1 x5) ≠ (-1) → ((x3 = 0 → ((x4 ≠ x2 → (fx_rg (x4 + 1)) ∧ fx_CI 218 [(46, o0), (59, o1), (0, x5)] σ Q (fun y1 σ1 => fx_Wp 219 6 [(46, o0), (59, o1), (0, x2), (0, x3), (0, (x4 + 1)), (0, y1)] [] σ1 Q)) ∧ (x4 = x2 → Q (0, x5) σ))) ∧ (x3 ≠ 0 → fx_CI 218 [(46, o0), (59, o1), (0, x5)] σ Q (fun y2 σ2 => fx_Wp 219 6 [(46, o0), (59, o1), (0, x2), (0, x3), (0, x4), (0, y2)] [] σ2 Q)))) ∧ ((σ 59 o1 x5) = (-1) → ((x3 = 1 → ((x4 ≠ x2 → (fx_rg (x4 + 1)) ∧ fx_CI 218 [(46, o0), (59, o1), (0, x5)] σ Q (fun y3 σ3 => fx_Wp 219 6 [(46, o0), (59, o1), (0, x2), (0, x3), (0, (x4 + 1)), (0, y3)] [] σ3 Q)) ∧ (x4 = x2 → Q (0, x5) σ))) ∧ (x3 ≠ 1 → fx_CI 218 [(46, o0), (59, o1), (0, x5)] σ Q (fun y4 σ4 => fx_Wp 219 6 [(46, o0), (59, o1), (0, x2), (0, x3), (0, x4), (0, y4)] [] σ4 Q)))))))) : fx_Wp 219 6 [(46, o0), (59, o1), (0, x2), (0, x3), (0, x4), (0, x5)] [] σ Q := by
  refine wi_iload (pc' := 8) hm219 rfl rfl rfl ?_
  refine wi_sipush (pc' := 11) (v := 1000) hm219 rfl rfl rfl ?_
  refine wi_ic_ge (pc' := 14) (t := 58) hm219 rfl rfl rfl (fun hc => ?_) (fun hc => ?_)
  · replace h := h.1 hc
    refine wi_iload_n (pc' := 59) hm219 rfl rfl rfl ?_
    refine wi_iconst (pc' := 60) (v := (-1)) hm219 rfl rfl rfl ?_
    refine wi_ic_ne (pc' := 63) (t := 68) hm219 rfl rfl rfl (fun hc => ?_) (fun hc => ?_)
    · replace h := h.1 hc
      refine wi_iconst (pc' := 69) (v := (-1)) hm219 rfl rfl rfl ?_
      exact wi_iret hm219 rfl h
    · replace h := h.2 hc
      refine wi_iload (pc' := 65) hm219 rfl rfl rfl ?_
      refine wi_goto (t := 69) hm219 rfl rfl ?_
      exact wi_iret hm219 rfl h
  · replace h := h.2 hc
    refine wi_iload_n (pc' := 15) hm219 rfl rfl rfl ?_
    refine wi_aload_n (pc' := 16) hm219 rfl rfl rfl (by decide) ?_
    refine wi_iload (pc' := 18) hm219 rfl rfl rfl ?_
    obtain ⟨g1, h⟩ := h
    refine wi_iaload (pc' := 19) hm219 rfl rfl rfl rfl (N := 1000) rfl g1 ?_
    refine wi_iconst (pc' := 20) (v := (-1)) hm219 rfl rfl rfl ?_
    refine wi_ic_ne (pc' := 23) (t := 27) hm219 rfl rfl rfl (fun hc => ?_) (fun hc => ?_)
    · replace h := h.1 hc
      refine wi_iconst (pc' := 28) (v := 0) hm219 rfl rfl rfl ?_
      refine wi_ic_eq (pc' := 31) (t := 34) hm219 rfl rfl rfl (fun hc => ?_) (fun hc => ?_)
      · replace h := h.1 hc
        refine wi_iload (pc' := 36) hm219 rfl rfl rfl ?_
        refine wi_iload_n (pc' := 37) hm219 rfl rfl rfl ?_
        refine wi_ic_ne (pc' := 40) (t := 43) hm219 rfl rfl rfl (fun hc => ?_) (fun hc => ?_)
        · replace h := h.1 hc
          obtain ⟨g2, h⟩ := h
          refine wi_iinc (pc' := 46) (L' := [(46, o0), (59, o1), (0, x2), (0, x3), (0, (x4 + 1)), (0, x5)]) hm219 rfl rfl rfl g2 rfl ?_
          refine wi_aload_n (pc' := 47) hm219 rfl rfl rfl (by decide) ?_
          refine wi_aload_n (pc' := 48) hm219 rfl rfl rfl (by decide) ?_
          refine wi_iload (pc' := 50) hm219 rfl rfl rfl ?_
          refine wc_I (pc' := 53) (by decide) rfl (by decide) ((fx_wE hm219 rfl).trans (fx_exV (mj := 218) (as := [(59, o1), (0, x5)]) (rest := []) rfl rk218 rfl rfl rfl rfl rfl)) h (fun y1 σ1 h => ?_)
          refine wi_istore (pc' := 55) (L' := [(46, o0), (59, o1), (0, x2), (0, x3), (0, (x4 + 1)), (0, y1)]) hm219 rfl rfl rfl ?_
          refine wi_goto (t := 6) hm219 rfl rfl ?_
          exact h
        · replace h := h.2 hc
          refine wi_iload (pc' := 42) hm219 rfl rfl rfl ?_
          exact wi_iret hm219 rfl h
      · replace h := h.2 hc
        refine wi_goto (t := 46) hm219 rfl rfl ?_
        refine wi_aload_n (pc' := 47) hm219 rfl rfl rfl (by decide) ?_
        refine wi_aload_n (pc' := 48) hm219 rfl rfl rfl (by decide) ?_
        refine wi_iload (pc' := 50) hm219 rfl rfl rfl ?_
        refine wc_I (pc' := 53) (by decide) rfl (by decide) ((fx_wE hm219 rfl).trans (fx_exV (mj := 218) (as := [(59, o1), (0, x5)]) (rest := []) rfl rk218 rfl rfl rfl rfl rfl)) h (fun y2 σ2 h => ?_)
        refine wi_istore (pc' := 55) (L' := [(46, o0), (59, o1), (0, x2), (0, x3), (0, x4), (0, y2)]) hm219 rfl rfl rfl ?_
        refine wi_goto (t := 6) hm219 rfl rfl ?_
        exact h
    · replace h := h.2 hc
      refine wi_iconst (pc' := 24) (v := 1) hm219 rfl rfl rfl ?_
      refine wi_goto (t := 28) hm219 rfl rfl ?_
      refine wi_ic_eq (pc' := 31) (t := 34) hm219 rfl rfl rfl (fun hc => ?_) (fun hc => ?_)
      · replace h := h.1 hc
        refine wi_iload (pc' := 36) hm219 rfl rfl rfl ?_
        refine wi_iload_n (pc' := 37) hm219 rfl rfl rfl ?_
        refine wi_ic_ne (pc' := 40) (t := 43) hm219 rfl rfl rfl (fun hc => ?_) (fun hc => ?_)
        · replace h := h.1 hc
          obtain ⟨g2, h⟩ := h
          refine wi_iinc (pc' := 46) (L' := [(46, o0), (59, o1), (0, x2), (0, x3), (0, (x4 + 1)), (0, x5)]) hm219 rfl rfl rfl g2 rfl ?_
          refine wi_aload_n (pc' := 47) hm219 rfl rfl rfl (by decide) ?_
          refine wi_aload_n (pc' := 48) hm219 rfl rfl rfl (by decide) ?_
          refine wi_iload (pc' := 50) hm219 rfl rfl rfl ?_
          refine wc_I (pc' := 53) (by decide) rfl (by decide) ((fx_wE hm219 rfl).trans (fx_exV (mj := 218) (as := [(59, o1), (0, x5)]) (rest := []) rfl rk218 rfl rfl rfl rfl rfl)) h (fun y3 σ3 h => ?_)
          refine wi_istore (pc' := 55) (L' := [(46, o0), (59, o1), (0, x2), (0, x3), (0, (x4 + 1)), (0, y3)]) hm219 rfl rfl rfl ?_
          refine wi_goto (t := 6) hm219 rfl rfl ?_
          exact h
        · replace h := h.2 hc
          refine wi_iload (pc' := 42) hm219 rfl rfl rfl ?_
          exact wi_iret hm219 rfl h
      · replace h := h.2 hc
        refine wi_goto (t := 46) hm219 rfl rfl ?_
        refine wi_aload_n (pc' := 47) hm219 rfl rfl rfl (by decide) ?_
        refine wi_aload_n (pc' := 48) hm219 rfl rfl rfl (by decide) ?_
        refine wi_iload (pc' := 50) hm219 rfl rfl rfl ?_
        refine wc_I (pc' := 53) (by decide) rfl (by decide) ((fx_wE hm219 rfl).trans (fx_exV (mj := 218) (as := [(59, o1), (0, x5)]) (rest := []) rfl rk218 rfl rfl rfl rfl rfl)) h (fun y4 σ4 h => ?_)
        refine wi_istore (pc' := 55) (L' := [(46, o0), (59, o1), (0, x2), (0, x3), (0, x4), (0, y4)]) hm219 rfl rfl rfl ?_
        refine wi_goto (t := 6) hm219 rfl rfl ?_
        exact h
theorem hm220 : fx_code 220 = fx_c220 := rfl
theorem t220_0 {o0 x1 x2 x3 : Int} {σ : fx_S} {Q : fx_V → fx_S → Prop} (h : fx_CI 154 [(0, x1)] σ Q (fun y1 σ1 => ((y1 ≠ 0 → fx_CI 149 [(0, x3), (0, 0), (0, 2)] σ1 Q (fun y2 σ2 => ((y2 ≠ 0 → fx_CV 166 [(46, o0), (0, x1), (59, 0)] (fx_up σ2 46 o0 0 0) Q (fun σ3 => fx_CI 219 [(46, o0), (59, 0), (0, x2), (0, 0)] σ3 Q (fun y3 σ4 => ((x2 = (-1) → Q (0, y3) σ4) ∧ (x2 ≠ (-1) → ((y3 ≠ (-1) → ((x3 ≠ 0 → ((x3 ≠ 1 → (0 ≤ y3 ∧ y3 < 1000) ∧ Q (0, (σ4 59 0 y3)) σ4) ∧ (x3 = 1 → fx_CI 218 [(46, o0), (59, 0), (0, y3)] σ4 Q (fun y4 σ5 => Q (0, y4) σ5)))) ∧ (x3 = 0 → Q (0, y3) σ4))) ∧ (y3 = (-1) → Q (0, y3) σ4))))))) ∧ (y2 = 0 → Q (0, 0) (fx_up σ2 46 o0 0 2))))) ∧ (y1 = 0 → Q (0, 0) (fx_up σ1 46 o0 0 1))))) : fx_Ca 220 [(46, o0), (0, x1), (0, x2), (0, x3)] σ Q := by
  show fx_Wp 220 0 [(46, o0), (0, x1), (0, x2), (0, x3), (3, 0)] [] σ Q
  refine wi_aload_n (pc' := 1) hm220 rfl rfl rfl (by decide) ?_
  refine wi_iload_n (pc' := 2) hm220 rfl rfl rfl ?_
  refine wc_I (pc' := 5) (by decide) rfl (by decide) ((fx_wE hm220 rfl).trans (fx_exS (mj := 154) (as := [(0, x1)]) (rest := [(46, o0)]) rfl rk154 rfl rfl rfl rfl)) h (fun y1 σ1 h => ?_)
  refine wi_if_ne (pc' := 8) (t := 12) hm220 rfl rfl rfl (fun hc => ?_) (fun hc => ?_)
  · replace h := h.1 hc
    refine wi_iload_n (pc' := 13) hm220 rfl rfl rfl ?_
    refine wi_iconst (pc' := 14) (v := 0) hm220 rfl rfl rfl ?_
    refine wi_iconst (pc' := 15) (v := 2) hm220 rfl rfl rfl ?_
    refine wc_I (pc' := 18) (by decide) rfl (by decide) ((fx_wE hm220 rfl).trans (fx_exS (mj := 149) (as := [(0, x3), (0, 0), (0, 2)]) (rest := [(46, o0)]) rfl rk149 rfl rfl rfl rfl)) h (fun y2 σ2 h => ?_)
    refine wi_if_ne (pc' := 21) (t := 25) hm220 rfl rfl rfl (fun hc => ?_) (fun hc => ?_)
    · replace h := h.1 hc
      refine wi_iconst (pc' := 26) (v := 0) hm220 rfl rfl rfl ?_
      refine wi_putI (pc' := 29) hm220 rfl rfl (P := 0) rfl ?_
      refine wi_aload_n (pc' := 30) hm220 rfl rfl rfl (by decide) ?_
      refine wi_getIe (pc' := 33) hm220 rfl rfl (P := 0) rfl (x := 0) fx_upS ?_
      refine wi_if_le (pc' := 36) (t := 38) hm220 rfl rfl rfl (fun _ => ?_) (fun hc => absurd hc (by decide))
      refine wi_aload_n (pc' := 39) hm220 rfl rfl rfl (by decide) ?_
      refine wi_iload_n (pc' := 40) hm220 rfl rfl rfl ?_
      refine wi_aload_n (pc' := 41) hm220 rfl rfl rfl (by decide) ?_
      refine wi_getR (pc' := 44) (x := 0) hm220 rfl rfl rfl (by omega) ?_
      refine wc_V (pc' := 47) (by decide) rfl (by decide) ((fx_wE hm220 rfl).trans (fx_exV (mj := 166) (as := [(0, x1), (59, 0)]) (rest := []) rfl rk166 rfl rfl rfl rfl rfl)) h (fun σ3 h => ?_)
      refine wi_aload_n (pc' := 48) hm220 rfl rfl rfl (by decide) ?_
      refine wi_aload_n (pc' := 49) hm220 rfl rfl rfl (by decide) ?_
      refine wi_getR (pc' := 52) (x := 0) hm220 rfl rfl rfl (by omega) ?_
      refine wi_iload_n (pc' := 53) hm220 rfl rfl rfl ?_
      refine wi_iconst (pc' := 54) (v := 0) hm220 rfl rfl rfl ?_
      refine wc_I (pc' := 57) (by decide) rfl (by decide) ((fx_wE hm220 rfl).trans (fx_exV (mj := 219) (as := [(59, 0), (0, x2), (0, 0)]) (rest := []) rfl rk219 rfl rfl rfl rfl rfl)) h (fun y3 σ4 h => ?_)
      refine wi_istore (pc' := 59) (L' := [(46, o0), (0, x1), (0, x2), (0, x3), (0, y3)]) hm220 rfl rfl rfl ?_
      refine wi_iload_n (pc' := 60) hm220 rfl rfl rfl ?_
      refine wi_iconst (pc' := 61) (v := (-1)) hm220 rfl rfl rfl ?_
      refine wi_ic_eq (pc' := 64) (t := 70) hm220 rfl rfl rfl (fun hc => ?_) (fun hc => ?_)
      · replace h := h.1 hc
        refine wi_iload (pc' := 72) hm220 rfl rfl rfl ?_
        exact wi_iret hm220 rfl h
      · replace h := h.2 hc
        refine wi_iload (pc' := 66) hm220 rfl rfl rfl ?_
        refine wi_iconst (pc' := 67) (v := (-1)) hm220 rfl rfl rfl ?_
        refine wi_ic_ne (pc' := 70) (t := 73) hm220 rfl rfl rfl (fun hc => ?_) (fun hc => ?_)
        · replace h := h.1 hc
          refine wi_iload_n (pc' := 74) hm220 rfl rfl rfl ?_
          refine wi_if_ne (pc' := 77) (t := 82) hm220 rfl rfl rfl (fun hc => ?_) (fun hc => ?_)
          · replace h := h.1 hc
            refine wi_iload_n (pc' := 83) hm220 rfl rfl rfl ?_
            refine wi_iconst (pc' := 84) (v := 1) hm220 rfl rfl rfl ?_
            refine wi_ic_ne (pc' := 87) (t := 100) hm220 rfl rfl rfl (fun hc => ?_) (fun hc => ?_)
            · replace h := h.1 hc
              refine wi_aload_n (pc' := 101) hm220 rfl rfl rfl (by decide) ?_
              refine wi_getR (pc' := 104) (x := 0) hm220 rfl rfl rfl (by omega) ?_
              refine wi_iload (pc' := 106) hm220 rfl rfl rfl ?_
              obtain ⟨g1, h⟩ := h
              refine wi_iaload (pc' := 107) hm220 rfl rfl rfl rfl (N := 1000) rfl g1 ?_
              exact wi_iret hm220 rfl h
            · replace h := h.2 hc
              refine wi_aload_n (pc' := 88) hm220 rfl rfl rfl (by decide) ?_
              refine wi_aload_n (pc' := 89) hm220 rfl rfl rfl (by decide) ?_
              refine wi_getR (pc' := 92) (x := 0) hm220 rfl rfl rfl (by omega) ?_
              refine wi_iload (pc' := 94) hm220 rfl rfl rfl ?_
              refine wc_I (pc' := 97) (by decide) rfl (by decide) ((fx_wE hm220 rfl).trans (fx_exV (mj := 218) (as := [(59, 0), (0, y3)]) (rest := []) rfl rk218 rfl rfl rfl rfl rfl)) h (fun y4 σ5 h => ?_)
              refine wi_goto (t := 107) hm220 rfl rfl ?_
              exact wi_iret hm220 rfl h
          · replace h := h.2 hc
            refine wi_iload (pc' := 79) hm220 rfl rfl rfl ?_
            refine wi_goto (t := 107) hm220 rfl rfl ?_
            exact wi_iret hm220 rfl h
        · replace h := h.2 hc
          refine wi_iload (pc' := 72) hm220 rfl rfl rfl ?_
          exact wi_iret hm220 rfl h
    · replace h := h.2 hc
      refine wi_iconst (pc' := 22) (v := 2) hm220 rfl rfl rfl ?_
      refine wi_goto (t := 26) hm220 rfl rfl ?_
      refine wi_putI (pc' := 29) hm220 rfl rfl (P := 0) rfl ?_
      refine wi_aload_n (pc' := 30) hm220 rfl rfl rfl (by decide) ?_
      refine wi_getIe (pc' := 33) hm220 rfl rfl (P := 0) rfl (x := 2) fx_upS ?_
      refine wi_if_le (pc' := 36) (t := 38) hm220 rfl rfl rfl (fun hc => absurd hc (by decide)) (fun _ => ?_)
      refine wi_iconst (pc' := 37) (v := 0) hm220 rfl rfl rfl ?_
      exact wi_iret hm220 rfl h
  · replace h := h.2 hc
    refine wi_iconst (pc' := 9) (v := 1) hm220 rfl rfl rfl ?_
    refine wi_goto (t := 26) hm220 rfl rfl ?_
    refine wi_putI (pc' := 29) hm220 rfl rfl (P := 0) rfl ?_
    refine wi_aload_n (pc' := 30) hm220 rfl rfl rfl (by decide) ?_
    refine wi_getIe (pc' := 33) hm220 rfl rfl (P := 0) rfl (x := 1) fx_upS ?_
    refine wi_if_le (pc' := 36) (t := 38) hm220 rfl rfl rfl (fun hc => absurd hc (by decide)) (fun _ => ?_)
    refine wi_iconst (pc' := 37) (v := 0) hm220 rfl rfl rfl ?_
    exact wi_iret hm220 rfl h
theorem hm221 : fx_code 221 = fx_c221 := rfl
theorem t221_0 {o0 x1 x2 x3 : Int} {σ : fx_S} {Q : fx_V → fx_S → Prop} (h : fx_CI 154 [(0, x1)] σ Q (fun y1 σ1 => ((y1 ≠ 0 → fx_CI 149 [(0, x3), (0, 0), (0, 1)] σ1 Q (fun y2 σ2 => ((y2 ≠ 0 → fx_CV 166 [(46, o0), (0, x1), (59, 0)] (fx_up σ2 46 o0 0 0) Q (fun σ3 => fx_CI 219 [(46, o0), (59, 0), (0, x2), (0, 1)] σ3 Q (fun y3 σ4 => ((x2 = (-1) → Q (0, y3) σ4) ∧ (x2 ≠ (-1) → ((y3 = (-1) → Q (0, y3) σ4) ∧ (y3 ≠ (-1) → ((x3 ≠ 0 → fx_CI 218 [(46, o0), (59, 0), (0, y3)] σ4 Q (fun y4 σ5 => Q (0, y4) σ5)) ∧ (x3 = 0 → Q (0, y3) σ4))))))))) ∧ (y2 = 0 → Q (0, 0) (fx_up σ2 46 o0 0 2))))) ∧ (y1 = 0 → Q (0, 0) (fx_up σ1 46 o0 0 1))))) : fx_Ca 221 [(46, o0), (0, x1), (0, x2), (0, x3)] σ Q := by
  show fx_Wp 221 0 [(46, o0), (0, x1), (0, x2), (0, x3), (3, 0)] [] σ Q
  refine wi_aload_n (pc' := 1) hm221 rfl rfl rfl (by decide) ?_
  refine wi_iload_n (pc' := 2) hm221 rfl rfl rfl ?_
  refine wc_I (pc' := 5) (by decide) rfl (by decide) ((fx_wE hm221 rfl).trans (fx_exS (mj := 154) (as := [(0, x1)]) (rest := [(46, o0)]) rfl rk154 rfl rfl rfl rfl)) h (fun y1 σ1 h => ?_)
  refine wi_if_ne (pc' := 8) (t := 12) hm221 rfl rfl rfl (fun hc => ?_) (fun hc => ?_)
  · replace h := h.1 hc
    refine wi_iload_n (pc' := 13) hm221 rfl rfl rfl ?_
    refine wi_iconst (pc' := 14) (v := 0) hm221 rfl rfl rfl ?_
    refine wi_iconst (pc' := 15) (v := 1) hm221 rfl rfl rfl ?_
    refine wc_I (pc' := 18) (by decide) rfl (by decide) ((fx_wE hm221 rfl).trans (fx_exS (mj := 149) (as := [(0, x3), (0, 0), (0, 1)]) (rest := [(46, o0)]) rfl rk149 rfl rfl rfl rfl)) h (fun y2 σ2 h => ?_)
    refine wi_if_ne (pc' := 21) (t := 25) hm221 rfl rfl rfl (fun hc => ?_) (fun hc => ?_)
    · replace h := h.1 hc
      refine wi_iconst (pc' := 26) (v := 0) hm221 rfl rfl rfl ?_
      refine wi_putI (pc' := 29) hm221 rfl rfl (P := 0) rfl ?_
      refine wi_aload_n (pc' := 30) hm221 rfl rfl rfl (by decide) ?_
      refine wi_getIe (pc' := 33) hm221 rfl rfl (P := 0) rfl (x := 0) fx_upS ?_
      refine wi_if_le (pc' := 36) (t := 38) hm221 rfl rfl rfl (fun _ => ?_) (fun hc => absurd hc (by decide))
      refine wi_aload_n (pc' := 39) hm221 rfl rfl rfl (by decide) ?_
      refine wi_iload_n (pc' := 40) hm221 rfl rfl rfl ?_
      refine wi_aload_n (pc' := 41) hm221 rfl rfl rfl (by decide) ?_
      refine wi_getR (pc' := 44) (x := 0) hm221 rfl rfl rfl (by omega) ?_
      refine wc_V (pc' := 47) (by decide) rfl (by decide) ((fx_wE hm221 rfl).trans (fx_exV (mj := 166) (as := [(0, x1), (59, 0)]) (rest := []) rfl rk166 rfl rfl rfl rfl rfl)) h (fun σ3 h => ?_)
      refine wi_aload_n (pc' := 48) hm221 rfl rfl rfl (by decide) ?_
      refine wi_aload_n (pc' := 49) hm221 rfl rfl rfl (by decide) ?_
      refine wi_getR (pc' := 52) (x := 0) hm221 rfl rfl rfl (by omega) ?_
      refine wi_iload_n (pc' := 53) hm221 rfl rfl rfl ?_
      refine wi_iconst (pc' := 54) (v := 1) hm221 rfl rfl rfl ?_
      refine wc_I (pc' := 57) (by decide) rfl (by decide) ((fx_wE hm221 rfl).trans (fx_exV (mj := 219) (as := [(59, 0), (0, x2), (0, 1)]) (rest := []) rfl rk219 rfl rfl rfl rfl rfl)) h (fun y3 σ4 h => ?_)
      refine wi_istore (pc' := 59) (L' := [(46, o0), (0, x1), (0, x2), (0, x3), (0, y3)]) hm221 rfl rfl rfl ?_
      refine wi_iload_n (pc' := 60) hm221 rfl rfl rfl ?_
      refine wi_iconst (pc' := 61) (v := (-1)) hm221 rfl rfl rfl ?_
      refine wi_ic_eq (pc' := 64) (t := 74) hm221 rfl rfl rfl (fun hc => ?_) (fun hc => ?_)
      · replace h := h.1 hc
        refine wi_iload (pc' := 76) hm221 rfl rfl rfl ?_
        exact wi_iret hm221 rfl h
      · replace h := h.2 hc
        refine wi_iload (pc' := 66) hm221 rfl rfl rfl ?_
        refine wi_iconst (pc' := 67) (v := (-1)) hm221 rfl rfl rfl ?_
        refine wi_ic_eq (pc' := 70) (t := 74) hm221 rfl rfl rfl (fun hc => ?_) (fun hc => ?_)
        · replace h := h.1 hc
          refine wi_iload (pc' := 76) hm221 rfl rfl rfl ?_
          exact wi_iret hm221 rfl h
        · replace h := h.2 hc
          refine wi_iload_n (pc' := 71) hm221 rfl rfl rfl ?_
          refine wi_if_ne (pc' := 74) (t := 77) hm221 rfl rfl rfl (fun hc => ?_) (fun hc => ?_)
          · replace h := h.1 hc
            refine wi_aload_n (pc' := 78) hm221 rfl rfl rfl (by decide) ?_
            refine wi_aload_n (pc' := 79) hm221 rfl rfl rfl (by decide) ?_
            refine wi_getR (pc' := 82) (x := 0) hm221 rfl rfl rfl (by omega) ?_
            refine wi_iload (pc' := 84) hm221 rfl rfl rfl ?_
            refine wc_I (pc' := 87) (by decide) rfl (by decide) ((fx_wE hm221 rfl).trans (fx_exV (mj := 218) (as := [(59, 0), (0, y3)]) (rest := []) rfl rk218 rfl rfl rfl rfl rfl)) h (fun y4 σ5 h => ?_)
            exact wi_iret hm221 rfl h
          · replace h := h.2 hc
            refine wi_iload (pc' := 76) hm221 rfl rfl rfl ?_
            exact wi_iret hm221 rfl h
    · replace h := h.2 hc
      refine wi_iconst (pc' := 22) (v := 2) hm221 rfl rfl rfl ?_
      refine wi_goto (t := 26) hm221 rfl rfl ?_
      refine wi_putI (pc' := 29) hm221 rfl rfl (P := 0) rfl ?_
      refine wi_aload_n (pc' := 30) hm221 rfl rfl rfl (by decide) ?_
      refine wi_getIe (pc' := 33) hm221 rfl rfl (P := 0) rfl (x := 2) fx_upS ?_
      refine wi_if_le (pc' := 36) (t := 38) hm221 rfl rfl rfl (fun hc => absurd hc (by decide)) (fun _ => ?_)
      refine wi_iconst (pc' := 37) (v := 0) hm221 rfl rfl rfl ?_
      exact wi_iret hm221 rfl h
  · replace h := h.2 hc
    refine wi_iconst (pc' := 9) (v := 1) hm221 rfl rfl rfl ?_
    refine wi_goto (t := 26) hm221 rfl rfl ?_
    refine wi_putI (pc' := 29) hm221 rfl rfl (P := 0) rfl ?_
    refine wi_aload_n (pc' := 30) hm221 rfl rfl rfl (by decide) ?_
    refine wi_getIe (pc' := 33) hm221 rfl rfl (P := 0) rfl (x := 1) fx_upS ?_
    refine wi_if_le (pc' := 36) (t := 38) hm221 rfl rfl rfl (fun hc => absurd hc (by decide)) (fun _ => ?_)
    refine wi_iconst (pc' := 37) (v := 0) hm221 rfl rfl rfl ?_
    exact wi_iret hm221 rfl h
theorem hm222 : fx_code 222 = fx_c222 := rfl
theorem t222_0 {o0 x1 : Int} {σ : fx_S} {Q : fx_V → fx_S → Prop} (h : fx_CI 164 [(46, o0), (0, x1)] σ Q (fun y1 σ1 => fx_CI 160 [(46, o0), (0, x1), (0, 0)] σ1 Q (fun y2 σ2 => (fx_rg (y2 - 1)) ∧ fx_Wp 222 15 [(46, o0), (0, x1), (0, y1), (0, (y2 - 1)), (3, 0), (3, 0), (3, 0)] [] σ2 Q))) : fx_Ca 222 [(46, o0), (0, x1)] σ Q := by
  show fx_Wp 222 0 [(46, o0), (0, x1), (3, 0), (3, 0), (3, 0), (3, 0), (3, 0)] [] σ Q
  refine wi_aload_n (pc' := 1) hm222 rfl rfl rfl (by decide) ?_
  refine wi_iload_n (pc' := 2) hm222 rfl rfl rfl ?_
  refine wc_I (pc' := 5) (by decide) rfl (by decide) ((fx_wE hm222 rfl).trans (fx_exV (mj := 164) (as := [(0, x1)]) (rest := []) rfl rk164 rfl rfl rfl rfl rfl)) h (fun y1 σ1 h => ?_)
  refine wi_istore_n (pc' := 6) (L' := [(46, o0), (0, x1), (0, y1), (3, 0), (3, 0), (3, 0), (3, 0)]) hm222 rfl rfl rfl ?_
  refine wi_aload_n (pc' := 7) hm222 rfl rfl rfl (by decide) ?_
  refine wi_iload_n (pc' := 8) hm222 rfl rfl rfl ?_
  refine wi_iconst (pc' := 9) (v := 0) hm222 rfl rfl rfl ?_
  refine wc_I (pc' := 12) (by decide) rfl (by decide) ((fx_wE hm222 rfl).trans (fx_exV (mj := 160) (as := [(0, x1), (0, 0)]) (rest := []) rfl rk160 rfl rfl rfl rfl rfl)) h (fun y2 σ2 h => ?_)
  refine wi_iconst (pc' := 13) (v := 1) hm222 rfl rfl rfl ?_
  obtain ⟨g1, h⟩ := h
  refine wi_isub (pc' := 14) hm222 rfl rfl g1 ?_
  refine wi_istore_n (pc' := 15) (L' := [(46, o0), (0, x1), (0, y1), (0, (y2 - 1)), (3, 0), (3, 0), (3, 0)]) hm222 rfl rfl rfl ?_
  exact h
theorem t222_15 {o0 x1 x3 : Int} {w2 w4 w5 w6 : fx_V} {σ : fx_S} {Q : fx_V → fx_S → Prop} (h : fx_CI 161 [(46, o0), (0, x1), (0, x3), (0, 0)] σ Q (fun y1 σ1 => ((y1 ≤ 1 → fx_CI 161 [(46, o0), (0, x1), (0, x3), (0, 1)] σ1 Q (fun y2 σ2 => Q (0, y2) σ2)) ∧ (1 < y1 → fx_CI 161 [(46, o0), (0, x1), (0, x3), (0, 0)] σ1 Q (fun y3 σ3 => fx_CI 161 [(46, o0), (0, x1), (0, x3), (0, 2)] σ3 Q (fun y4 σ4 => fx_CI 161 [(46, o0), (0, x1), (0, x3), (0, 3)] σ4 Q (fun y5 σ5 => ((y3 = 6 → fx_Wp 222 15 [(46, o0), (0, x1), w2, (0, y5), (0, y3), (0, y4), (0, y5)] [] σ5 Q) ∧ (y3 ≠ 6 → ((y3 ≠ 7 → ((y3 ≠ 8 → fx_Wp 222 109 [(46, o0), (0, x1), w2, (0, x3), (0, y3), (0, y4), (0, y5)] [] σ5 Q) ∧ (y3 = 8 → (0 ≤ y5 ∧ y5 < 23) ∧ (((σ5 57 0 y5) = (-1) → fx_Wp 222 109 [(46, o0), (0, x1), w2, (0, x3), (0, y3), (0, y4), (0, y5)] [] σ5 Q) ∧ ((σ5 57 0 y5) ≠ (-1) → Q (0, (-1)) (fx_up σ5 46 o0 28 2)))))) ∧ (y3 = 7 → (0 ≤ y5 ∧ y5 < 23) ∧ (((σ5 57 0 y5) ≠ (-1) → ((y3 ≠ 8 → fx_Wp 222 109 [(46, o0), (0, x1), w2, (0, x3), (0, y3), (0, y4), (0, y5)] [] σ5 Q) ∧ (y3 = 8 → (((σ5 57 0 y5) = (-1) → fx_Wp 222 109 [(46, o0), (0, x1), w2, (0, x3), (0, y3), (0, y4), (0, y5)] [] σ5 Q) ∧ ((σ5 57 0 y5) ≠ (-1) → Q (0, (-1)) (fx_up σ5 46 o0 28 2)))))) ∧ ((σ5 57 0 y5) = (-1) → fx_Wp 222 15 [(46, o0), (0, x1), w2, (0, y5), (0, y3), (0, y4), (0, y5)] [] σ5 Q))))))))))))) : fx_Wp 222 15 [(46, o0), (0, x1), w2, (0, x3), w4, w5, w6] [] σ Q := by
  refine wi_aload_n (pc' := 16) hm222 rfl rfl rfl (by decide) ?_
  refine wi_iload_n (pc' := 17) hm222 rfl rfl rfl ?_
  refine wi_iload_n (pc' := 18) hm222 rfl rfl rfl ?_
  refine wi_iconst (pc' := 19) (v := 0) hm222 rfl rfl rfl ?_
  refine wc_I (pc' := 22) (by decide) rfl (by decide) ((fx_wE hm222 rfl).trans (fx_exV (mj := 161) (as := [(0, x1), (0, x3), (0, 0)]) (rest := []) rfl rk161 rfl rfl rfl rfl rfl)) h (fun y1 σ1 h => ?_)
  refine wi_iconst (pc' := 23) (v := 1) hm222 rfl rfl rfl ?_
  refine wi_ic_le (pc' := 26) (t := 160) hm222 rfl rfl rfl (fun hc => ?_) (fun hc => ?_)
  · replace h := h.1 hc
    refine wi_aload_n (pc' := 161) hm222 rfl rfl rfl (by decide) ?_
    refine wi_iload_n (pc' := 162) hm222 rfl rfl rfl ?_
    refine wi_iload_n (pc' := 163) hm222 rfl rfl rfl ?_
    refine wi_iconst (pc' := 164) (v := 1) hm222 rfl rfl rfl ?_
    refine wc_I (pc' := 167) (by decide) rfl (by decide) ((fx_wE hm222 rfl).trans (fx_exV (mj := 161) (as := [(0, x1), (0, x3), (0, 1)]) (rest := []) rfl rk161 rfl rfl rfl rfl rfl)) h (fun y2 σ2 h => ?_)
    exact wi_iret hm222 rfl h
  · replace h := h.2 hc
    refine wi_aload_n (pc' := 27) hm222 rfl rfl rfl (by decide) ?_
    refine wi_iload_n (pc' := 28) hm222 rfl rfl rfl ?_
    refine wi_iload_n (pc' := 29) hm222 rfl rfl rfl ?_
    refine wi_iconst (pc' := 30) (v := 0) hm222 rfl rfl rfl ?_
    refine wc_I (pc' := 33) (by decide) rfl (by decide) ((fx_wE hm222 rfl).trans (fx_exV (mj := 161) (as := [(0, x1), (0, x3), (0, 0)]) (rest := []) rfl rk161 rfl rfl rfl rfl rfl)) h (fun y3 σ3 h => ?_)
    refine wi_istore (pc' := 35) (L' := [(46, o0), (0, x1), w2, (0, x3), (0, y3), w5, w6]) hm222 rfl rfl rfl ?_
    refine wi_aload_n (pc' := 36) hm222 rfl rfl rfl (by decide) ?_
    refine wi_iload_n (pc' := 37) hm222 rfl rfl rfl ?_
    refine wi_iload_n (pc' := 38) hm222 rfl rfl rfl ?_
    refine wi_iconst (pc' := 39) (v := 2) hm222 rfl rfl rfl ?_
    refine wc_I (pc' := 42) (by decide) rfl (by decide) ((fx_wE hm222 rfl).trans (fx_exV (mj := 161) (as := [(0, x1), (0, x3), (0, 2)]) (rest := []) rfl rk161 rfl rfl rfl rfl rfl)) h (fun y4 σ4 h => ?_)
    refine wi_istore (pc' := 44) (L' := [(46, o0), (0, x1), w2, (0, x3), (0, y3), (0, y4), w6]) hm222 rfl rfl rfl ?_
    refine wi_aload_n (pc' := 45) hm222 rfl rfl rfl (by decide) ?_
    refine wi_iload_n (pc' := 46) hm222 rfl rfl rfl ?_
    refine wi_iload_n (pc' := 47) hm222 rfl rfl rfl ?_
    refine wi_iconst (pc' := 48) (v := 3) hm222 rfl rfl rfl ?_
    refine wc_I (pc' := 51) (by decide) rfl (by decide) ((fx_wE hm222 rfl).trans (fx_exV (mj := 161) (as := [(0, x1), (0, x3), (0, 3)]) (rest := []) rfl rk161 rfl rfl rfl rfl rfl)) h (fun y5 σ5 h => ?_)
    refine wi_istore (pc' := 53) (L' := [(46, o0), (0, x1), w2, (0, x3), (0, y3), (0, y4), (0, y5)]) hm222 rfl rfl rfl ?_
    refine wi_iload (pc' := 55) hm222 rfl rfl rfl ?_
    refine wi_bipush (pc' := 57) (v := 6) hm222 rfl rfl rfl ?_
    refine wi_ic_eq (pc' := 60) (t := 78) hm222 rfl rfl rfl (fun hc => ?_) (fun hc => ?_)
    · replace h := h.1 hc
      refine wi_iload (pc' := 80) hm222 rfl rfl rfl ?_
      refine wi_istore_n (pc' := 81) (L' := [(46, o0), (0, x1), w2, (0, y5), (0, y3), (0, y4), (0, y5)]) hm222 rfl rfl rfl ?_
      refine wi_goto (t := 157) hm222 rfl rfl ?_
      refine wi_goto (t := 15) hm222 rfl rfl ?_
      exact h
    · replace h := h.2 hc
      refine wi_iload (pc' := 62) hm222 rfl rfl rfl ?_
      refine wi_bipush (pc' := 64) (v := 7) hm222 rfl rfl rfl ?_
      refine wi_ic_ne (pc' := 67) (t := 84) hm222 rfl rfl rfl (fun hc => ?_) (fun hc => ?_)
      · replace h := h.1 hc
        refine wi_iload (pc' := 86) hm222 rfl rfl rfl ?_
        refine wi_bipush (pc' := 88) (v := 8) hm222 rfl rfl rfl ?_
        refine wi_ic_ne (pc' := 91) (t := 109) hm222 rfl rfl rfl (fun hc => ?_) (fun hc => ?_)
        · replace h := h.1 hc
          exact h
        · replace h := h.2 hc
          refine wi_aload_n (pc' := 92) hm222 rfl rfl rfl (by decide) ?_
          refine wi_getR (pc' := 95) (x := 0) hm222 rfl rfl rfl (by omega) ?_
          refine wi_iload (pc' := 97) hm222 rfl rfl rfl ?_
          obtain ⟨g1, h⟩ := h
          refine wi_iaload (pc' := 98) hm222 rfl rfl rfl rfl (N := 23) rfl g1 ?_
          refine wi_iconst (pc' := 99) (v := (-1)) hm222 rfl rfl rfl ?_
          refine wi_ic_eq (pc' := 102) (t := 109) hm222 rfl rfl rfl (fun hc => ?_) (fun hc => ?_)
          · replace h := h.1 hc
            exact h
          · replace h := h.2 hc
            refine wi_aload_n (pc' := 103) hm222 rfl rfl rfl (by decide) ?_
            refine wi_iconst (pc' := 104) (v := 2) hm222 rfl rfl rfl ?_
            refine wi_putI (pc' := 107) hm222 rfl rfl (P := 28) rfl ?_
            refine wi_iconst (pc' := 108) (v := (-1)) hm222 rfl rfl rfl ?_
            exact wi_iret hm222 rfl h
      · replace h := h.2 hc
        refine wi_aload_n (pc' := 68) hm222 rfl rfl rfl (by decide) ?_
        refine wi_getR (pc' := 71) (x := 0) hm222 rfl rfl rfl (by omega) ?_
        refine wi_iload (pc' := 73) hm222 rfl rfl rfl ?_
        obtain ⟨g1, h⟩ := h
        refine wi_iaload (pc' := 74) hm222 rfl rfl rfl rfl (N := 23) rfl g1 ?_
        refine wi_iconst (pc' := 75) (v := (-1)) hm222 rfl rfl rfl ?_
        refine wi_ic_ne (pc' := 78) (t := 84) hm222 rfl rfl rfl (fun hc => ?_) (fun hc => ?_)
        · replace h := h.1 hc
          refine wi_iload (pc' := 86) hm222 rfl rfl rfl ?_
          refine wi_bipush (pc' := 88) (v := 8) hm222 rfl rfl rfl ?_
          refine wi_ic_ne (pc' := 91) (t := 109) hm222 rfl rfl rfl (fun hc => ?_) (fun hc => ?_)
          · replace h := h.1 hc
            exact h
          · replace h := h.2 hc
            refine wi_aload_n (pc' := 92) hm222 rfl rfl rfl (by decide) ?_
            refine wi_getR (pc' := 95) (x := 0) hm222 rfl rfl rfl (by omega) ?_
            refine wi_iload (pc' := 97) hm222 rfl rfl rfl ?_
            refine wi_iaload (pc' := 98) hm222 rfl rfl rfl rfl (N := 23) rfl g1 ?_
            refine wi_iconst (pc' := 99) (v := (-1)) hm222 rfl rfl rfl ?_
            refine wi_ic_eq (pc' := 102) (t := 109) hm222 rfl rfl rfl (fun hc => ?_) (fun hc => ?_)
            · replace h := h.1 hc
              exact h
            · replace h := h.2 hc
              refine wi_aload_n (pc' := 103) hm222 rfl rfl rfl (by decide) ?_
              refine wi_iconst (pc' := 104) (v := 2) hm222 rfl rfl rfl ?_
              refine wi_putI (pc' := 107) hm222 rfl rfl (P := 28) rfl ?_
              refine wi_iconst (pc' := 108) (v := (-1)) hm222 rfl rfl rfl ?_
              exact wi_iret hm222 rfl h
        · replace h := h.2 hc
          refine wi_iload (pc' := 80) hm222 rfl rfl rfl ?_
          refine wi_istore_n (pc' := 81) (L' := [(46, o0), (0, x1), w2, (0, y5), (0, y3), (0, y4), (0, y5)]) hm222 rfl rfl rfl ?_
          refine wi_goto (t := 157) hm222 rfl rfl ?_
          refine wi_goto (t := 15) hm222 rfl rfl ?_
          exact h
theorem t222_109 {o0 x1 x4 x5 x6 : Int} {w2 w3 : fx_V} {σ : fx_S} {Q : fx_V → fx_S → Prop} (h : ((7 ≤ x4 → fx_Wp 222 15 [(46, o0), (0, x1), w2, (0, x5), (0, x4), (0, x5), (0, x6)] [] σ Q) ∧ (x4 < 7 → (0 ≤ x5 ∧ x5 < 23) ∧ (((σ 57 0 x5) ≠ (-1) → (0 ≤ x6 ∧ x6 < 23) ∧ (((σ 57 0 x6) ≠ (-1) → Q (0, (-1)) (fx_up σ 46 o0 28 1)) ∧ ((σ 57 0 x6) = (-1) → fx_Wp 222 15 [(46, o0), (0, x1), w2, (0, x6), (0, x4), (0, x5), (0, x6)] [] σ Q))) ∧ ((σ 57 0 x5) = (-1) → fx_Wp 222 15 [(46, o0), (0, x1), w2, (0, x5), (0, x4), (0, x5), (0, x6)] [] σ Q))))) : fx_Wp 222 109 [(46, o0), (0, x1), w2, w3, (0, x4), (0, x5), (0, x6)] [] σ Q := by
  refine wi_iload (pc' := 111) hm222 rfl rfl rfl ?_
  refine wi_bipush (pc' := 113) (v := 7) hm222 rfl rfl rfl ?_
  refine wi_ic_ge (pc' := 116) (t := 127) hm222 rfl rfl rfl (fun hc => ?_) (fun hc => ?_)
  · replace h := h.1 hc
    refine wi_iload (pc' := 129) hm222 rfl rfl rfl ?_
    refine wi_istore_n (pc' := 130) (L' := [(46, o0), (0, x1), w2, (0, x5), (0, x4), (0, x5), (0, x6)]) hm222 rfl rfl rfl ?_
    refine wi_goto (t := 157) hm222 rfl rfl ?_
    refine wi_goto (t := 15) hm222 rfl rfl ?_
    exact h
  · replace h := h.2 hc
    refine wi_aload_n (pc' := 117) hm222 rfl rfl rfl (by decide) ?_
    refine wi_getR (pc' := 120) (x := 0) hm222 rfl rfl rfl (by omega) ?_
    refine wi_iload (pc' := 122) hm222 rfl rfl rfl ?_
    obtain ⟨g1, h⟩ := h
    refine wi_iaload (pc' := 123) hm222 rfl rfl rfl rfl (N := 23) rfl g1 ?_
    refine wi_iconst (pc' := 124) (v := (-1)) hm222 rfl rfl rfl ?_
    refine wi_ic_ne (pc' := 127) (t := 133) hm222 rfl rfl rfl (fun hc => ?_) (fun hc => ?_)
    · replace h := h.1 hc
      refine wi_aload_n (pc' := 134) hm222 rfl rfl rfl (by decide) ?_
      refine wi_getR (pc' := 137) (x := 0) hm222 rfl rfl rfl (by omega) ?_
      refine wi_iload (pc' := 139) hm222 rfl rfl rfl ?_
      obtain ⟨g2, h⟩ := h
      refine wi_iaload (pc' := 140) hm222 rfl rfl rfl rfl (N := 23) rfl g2 ?_
      refine wi_iconst (pc' := 141) (v := (-1)) hm222 rfl rfl rfl ?_
      refine wi_ic_ne (pc' := 144) (t := 150) hm222 rfl rfl rfl (fun hc => ?_) (fun hc => ?_)
      · replace h := h.1 hc
        refine wi_aload_n (pc' := 151) hm222 rfl rfl rfl (by decide) ?_
        refine wi_iconst (pc' := 152) (v := 1) hm222 rfl rfl rfl ?_
        refine wi_putI (pc' := 155) hm222 rfl rfl (P := 28) rfl ?_
        refine wi_iconst (pc' := 156) (v := (-1)) hm222 rfl rfl rfl ?_
        exact wi_iret hm222 rfl h
      · replace h := h.2 hc
        refine wi_iload (pc' := 146) hm222 rfl rfl rfl ?_
        refine wi_istore_n (pc' := 147) (L' := [(46, o0), (0, x1), w2, (0, x6), (0, x4), (0, x5), (0, x6)]) hm222 rfl rfl rfl ?_
        refine wi_goto (t := 157) hm222 rfl rfl ?_
        refine wi_goto (t := 15) hm222 rfl rfl ?_
        exact h
    · replace h := h.2 hc
      refine wi_iload (pc' := 129) hm222 rfl rfl rfl ?_
      refine wi_istore_n (pc' := 130) (L' := [(46, o0), (0, x1), w2, (0, x5), (0, x4), (0, x5), (0, x6)]) hm222 rfl rfl rfl ?_
      refine wi_goto (t := 157) hm222 rfl rfl ?_
      refine wi_goto (t := 15) hm222 rfl rfl ?_
      exact h
theorem hm223 : fx_code 223 = fx_c223 := rfl
theorem t223_0 {o0 x1 : Int} {σ : fx_S} {Q : fx_V → fx_S → Prop} (h : fx_Wp 223 12 [(46, o0), (0, x1), (0, x1)] [] (fx_up (fx_up σ 46 o0 27 0) 46 o0 28 0) Q) : fx_Ca 223 [(46, o0), (0, x1)] σ Q := by
  show fx_Wp 223 0 [(46, o0), (0, x1), (3, 0)] [] σ Q
  refine wi_aload_n (pc' := 1) hm223 rfl rfl rfl (by decide) ?_
  refine wi_iconst (pc' := 2) (v := 0) hm223 rfl rfl rfl ?_
  refine wi_putI (pc' := 5) hm223 rfl rfl (P := 27) rfl ?_
  refine wi_aload_n (pc' := 6) hm223 rfl rfl rfl (by decide) ?_
  refine wi_iconst (pc' := 7) (v := 0) hm223 rfl rfl rfl ?_
  refine wi_putI (pc' := 10) hm223 rfl rfl (P := 28) rfl ?_
  refine wi_iload_n (pc' := 11) hm223 rfl rfl rfl ?_
  refine wi_istore_n (pc' := 12) (L' := [(46, o0), (0, x1), (0, x1)]) hm223 rfl rfl rfl ?_
  exact h
theorem t223_12 {o0 x2 : Int} {w1 : fx_V} {σ : fx_S} {Q : fx_V → fx_S → Prop} (h : ((x2 = (-1) → Q (4, 0) σ) ∧ (x2 ≠ (-1) → (0 ≤ (σ 46 o0 27) ∧ (σ 46 o0 27) < 8) ∧ (fx_rg ((σ 46 o0 27) + 1)) ∧ fx_CI 162 [(46, o0), (0, x2)] (fx_up (fx_up σ 60 0 (σ 46 o0 27) x2) 46 o0 27 ((σ 46 o0 27) + 1)) Q (fun y1 σ1 => ((y1 = 0 → fx_Wp 223 12 [(46, o0), w1, (0, (-1))] [] σ1 Q) ∧ (y1 ≠ 0 → fx_CI 222 [(46, o0), (0, x2)] σ1 Q (fun y2 σ2 => fx_Wp 223 12 [(46, o0), w1, (0, y2)] [] σ2 Q))))))) : fx_Wp 223 12 [(46, o0), w1, (0, x2)] [] σ Q := by
  refine wi_iload_n (pc' := 13) hm223 rfl rfl rfl ?_
  refine wi_iconst (pc' := 14) (v := (-1)) hm223 rfl rfl rfl ?_
  refine wi_ic_eq (pc' := 17) (t := 58) hm223 rfl rfl rfl (fun hc => ?_) (fun hc => ?_)
  · replace h := h.1 hc
    exact wi_vret hm223 rfl h
  · replace h := h.2 hc
    refine wi_aload_n (pc' := 18) hm223 rfl rfl rfl (by decide) ?_
    refine wi_getR (pc' := 21) (x := 0) hm223 rfl rfl rfl (by omega) ?_
    refine wi_aload_n (pc' := 22) hm223 rfl rfl rfl (by decide) ?_
    refine wi_getI (pc' := 25) hm223 rfl rfl (P := 27) rfl ?_
    refine wi_iload_n (pc' := 26) hm223 rfl rfl rfl ?_
    obtain ⟨g1, h⟩ := h
    refine wi_iastore (pc' := 27) hm223 rfl rfl rfl (N := 8) rfl g1 ?_
    refine wi_aload_n (pc' := 28) hm223 rfl rfl rfl (by decide) ?_
    refine wi_dup (pc' := 29) hm223 rfl rfl rfl ?_
    refine wi_getIe (pc' := 32) hm223 rfl rfl (P := 27) rfl (x := (σ 46 o0 27)) (Eq.trans (fx_upK rfl) rfl) ?_
    refine wi_iconst (pc' := 33) (v := 1) hm223 rfl rfl rfl ?_
    obtain ⟨g2, h⟩ := h
    refine wi_iadd (pc' := 34) hm223 rfl rfl g2 ?_
    refine wi_putI (pc' := 37) hm223 rfl rfl (P := 27) rfl ?_
    refine wi_aload_n (pc' := 38) hm223 rfl rfl rfl (by decide) ?_
    refine wi_iload_n (pc' := 39) hm223 rfl rfl rfl ?_
    refine wc_I (pc' := 42) (by decide) rfl (by decide) ((fx_wE hm223 rfl).trans (fx_exV (mj := 162) (as := [(0, x2)]) (rest := []) rfl rk162 rfl rfl rfl rfl rfl)) h (fun y1 σ1 h => ?_)
    refine wi_if_eq (pc' := 45) (t := 53) hm223 rfl rfl rfl (fun hc => ?_) (fun hc => ?_)
    · replace h := h.1 hc
      refine wi_iconst (pc' := 54) (v := (-1)) hm223 rfl rfl rfl ?_
      refine wi_istore_n (pc' := 55) (L' := [(46, o0), w1, (0, (-1))]) hm223 rfl rfl rfl ?_
      refine wi_goto (t := 12) hm223 rfl rfl ?_
      exact h
    · replace h := h.2 hc
      refine wi_aload_n (pc' := 46) hm223 rfl rfl rfl (by decide) ?_
      refine wi_iload_n (pc' := 47) hm223 rfl rfl rfl ?_
      refine wc_I (pc' := 50) (by decide) rfl (by decide) ((fx_wE hm223 rfl).trans (fx_exV (mj := 222) (as := [(0, x2)]) (rest := []) rfl rk222 rfl rfl rfl rfl rfl)) h (fun y2 σ2 h => ?_)
      refine wi_goto (t := 54) hm223 rfl rfl ?_
      refine wi_istore_n (pc' := 55) (L' := [(46, o0), w1, (0, y2)]) hm223 rfl rfl rfl ?_
      refine wi_goto (t := 12) hm223 rfl rfl ?_
      exact h
