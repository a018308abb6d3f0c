theorem hm224 : fx_code 224 = fx_c224 := rfl
theorem t224_0 {o0 x1 x2 x3 : Int} {σ : fx_S} {Q : fx_V → fx_S → Prop} (h : fx_CI 154 [(0, x1)] σ Q (fun y1 σ1 => ((y1 = 0 → Q (0, 0) (fx_up σ1 46 o0 0 1)) ∧ (y1 ≠ 0 → fx_CI 155 [(0, x2)] σ1 Q (fun y2 σ2 => ((y2 = 0 → Q (0, 0) (fx_up σ2 46 o0 0 1)) ∧ (y2 ≠ 0 → fx_CV 165 [(46, o0), (0, x2)] (fx_up σ2 46 o0 0 0) Q (fun σ3 => (0 ≤ x1 ∧ x1 < 8) ∧ (((σ3 55 0 x1) = (-1) → fx_CV 223 [(46, o0), (0, x1)] σ3 Q (fun σ4 => ((x3 ≠ (-1) → ((x3 ≠ (-2) → (fx_rg ((σ4 46 o0 27) - 1)) ∧ fx_CI 149 [(0, x3), (0, 0), (0, ((σ4 46 o0 27) - 1))] σ4 Q (fun y3 σ5 => ((y3 = 0 → Q (0, (-1)) σ5) ∧ (y3 ≠ 0 → (0 ≤ x3 ∧ x3 < 8) ∧ Q (0, (σ5 60 0 x3)) σ5)))) ∧ (x3 = (-2) → Q (0, (σ4 46 o0 28)) σ4))) ∧ (x3 = (-1) → Q (0, (σ4 46 o0 27)) σ4)))) ∧ ((σ3 55 0 x1) ≠ (-1) → Q (0, (-1)) σ3)))))))))) : fx_Ca 224 [(46, o0), (0, x1), (0, x2), (0, x3)] σ Q := by
  show fx_Wp 224 0 [(46, o0), (0, x1), (0, x2), (0, x3)] [] σ Q
  refine wi_aload_n (pc' := 1) hm224 rfl rfl rfl (by decide) ?_
  refine wi_iload_n (pc' := 2) hm224 rfl rfl rfl ?_
  refine wc_I (pc' := 5) (by decide) rfl (by decide) ((fx_wE hm224 rfl).trans (fx_exS (mj := 154) (as := [(0, x1)]) (rest := [(46, o0)]) rfl rk154 rfl rfl rfl rfl)) h (fun y1 σ1 h => ?_)
  refine wi_if_eq (pc' := 8) (t := 19) hm224 rfl rfl rfl (fun hc => ?_) (fun hc => ?_)
  · replace h := h.1 hc
    refine wi_iconst (pc' := 20) (v := 1) hm224 rfl rfl rfl ?_
    refine wi_putI (pc' := 23) hm224 rfl rfl (P := 0) rfl ?_
    refine wi_aload_n (pc' := 24) hm224 rfl rfl rfl (by decide) ?_
    refine wi_getIe (pc' := 27) hm224 rfl rfl (P := 0) rfl (x := 1) fx_upS ?_
    refine wi_if_le (pc' := 30) (t := 32) hm224 rfl rfl rfl (fun hc => absurd hc (by decide)) (fun _ => ?_)
    refine wi_iconst (pc' := 31) (v := 0) hm224 rfl rfl rfl ?_
    exact wi_iret hm224 rfl h
  · replace h := h.2 hc
    refine wi_iload_n (pc' := 9) hm224 rfl rfl rfl ?_
    refine wc_I (pc' := 12) (by decide) rfl (by decide) ((fx_wE hm224 rfl).trans (fx_exS (mj := 155) (as := [(0, x2)]) (rest := [(46, o0)]) rfl rk155 rfl rfl rfl rfl)) h (fun y2 σ2 h => ?_)
    refine wi_if_eq (pc' := 15) (t := 19) hm224 rfl rfl rfl (fun hc => ?_) (fun hc => ?_)
    · replace h := h.1 hc
      refine wi_iconst (pc' := 20) (v := 1) hm224 rfl rfl rfl ?_
      refine wi_putI (pc' := 23) hm224 rfl rfl (P := 0) rfl ?_
      refine wi_aload_n (pc' := 24) hm224 rfl rfl rfl (by decide) ?_
      refine wi_getIe (pc' := 27) hm224 rfl rfl (P := 0) rfl (x := 1) fx_upS ?_
      refine wi_if_le (pc' := 30) (t := 32) hm224 rfl rfl rfl (fun hc => absurd hc (by decide)) (fun _ => ?_)
      refine wi_iconst (pc' := 31) (v := 0) hm224 rfl rfl rfl ?_
      exact wi_iret hm224 rfl h
    · replace h := h.2 hc
      refine wi_iconst (pc' := 16) (v := 0) hm224 rfl rfl rfl ?_
      refine wi_goto (t := 20) hm224 rfl rfl ?_
      refine wi_putI (pc' := 23) hm224 rfl rfl (P := 0) rfl ?_
      refine wi_aload_n (pc' := 24) hm224 rfl rfl rfl (by decide) ?_
      refine wi_getIe (pc' := 27) hm224 rfl rfl (P := 0) rfl (x := 0) fx_upS ?_
      refine wi_if_le (pc' := 30) (t := 32) hm224 rfl rfl rfl (fun _ => ?_) (fun hc => absurd hc (by decide))
      refine wi_aload_n (pc' := 33) hm224 rfl rfl rfl (by decide) ?_
      refine wi_iload_n (pc' := 34) hm224 rfl rfl rfl ?_
      refine wc_V (pc' := 37) (by decide) rfl (by decide) ((fx_wE hm224 rfl).trans (fx_exV (mj := 165) (as := [(0, x2)]) (rest := []) rfl rk165 rfl rfl rfl rfl rfl)) h (fun σ3 h => ?_)
      refine wi_aload_n (pc' := 38) hm224 rfl rfl rfl (by decide) ?_
      refine wi_getR (pc' := 41) (x := 0) hm224 rfl rfl rfl (by omega) ?_
      refine wi_iload_n (pc' := 42) hm224 rfl rfl rfl ?_
      obtain ⟨g1, h⟩ := h
      refine wi_iaload (pc' := 43) hm224 rfl rfl rfl rfl (N := 8) rfl g1 ?_
      refine wi_iconst (pc' := 44) (v := (-1)) hm224 rfl rfl rfl ?_
      refine wi_ic_eq (pc' := 47) (t := 49) hm224 rfl rfl rfl (fun hc => ?_) (fun hc => ?_)
      · replace h := h.1 hc
        refine wi_aload_n (pc' := 50) hm224 rfl rfl rfl (by decide) ?_
        refine wi_iload_n (pc' := 51) hm224 rfl rfl rfl ?_
        refine wc_V (pc' := 54) (by decide) rfl (by decide) ((fx_wE hm224 rfl).trans (fx_exV (mj := 223) (as := [(0, x1)]) (rest := []) rfl rk223 rfl rfl rfl rfl rfl)) h (fun σ4 h => ?_)
        refine wi_iload_n (pc' := 55) hm224 rfl rfl rfl ?_
        refine wi_iconst (pc' := 56) (v := (-1)) hm224 rfl rfl rfl ?_
        refine wi_ic_ne (pc' := 59) (t := 64) hm224 rfl rfl rfl (fun hc => ?_) (fun hc => ?_)
        · replace h := h.1 hc
          refine wi_iload_n (pc' := 65) hm224 rfl rfl rfl ?_
          refine wi_bipush (pc' := 67) (v := (-2)) hm224 rfl rfl rfl ?_
          refine wi_ic_ne (pc' := 70) (t := 75) hm224 rfl rfl rfl (fun hc => ?_) (fun hc => ?_)
          · replace h := h.1 hc
            refine wi_iload_n (pc' := 76) hm224 rfl rfl rfl ?_
            refine wi_iconst (pc' := 77) (v := 0) hm224 rfl rfl rfl ?_
            refine wi_aload_n (pc' := 78) hm224 rfl rfl rfl (by decide) ?_
            refine wi_getI (pc' := 81) hm224 rfl rfl (P := 27) rfl ?_
            refine wi_iconst (pc' := 82) (v := 1) hm224 rfl rfl rfl ?_
            obtain ⟨g2, h⟩ := h
            refine wi_isub (pc' := 83) hm224 rfl rfl g2 ?_
            refine wc_I (pc' := 86) (by decide) rfl (by decide) ((fx_wE hm224 rfl).trans (fx_exS (mj := 149) (as := [(0, x3), (0, 0), (0, ((σ4 46 o0 27) - 1))]) (rest := []) rfl rk149 rfl rfl rfl rfl)) h (fun y3 σ5 h => ?_)
            refine wi_if_eq (pc' := 89) (t := 98) hm224 rfl rfl rfl (fun hc => ?_) (fun hc => ?_)
            · replace h := h.1 hc
              refine wi_iconst (pc' := 99) (v := (-1)) hm224 rfl rfl rfl ?_
              exact wi_iret hm224 rfl h
            · replace h := h.2 hc
              refine wi_aload_n (pc' := 90) hm224 rfl rfl rfl (by decide) ?_
              refine wi_getR (pc' := 93) (x := 0) hm224 rfl rfl rfl (by omega) ?_
              refine wi_iload_n (pc' := 94) hm224 rfl rfl rfl ?_
              obtain ⟨g3, h⟩ := h
              refine wi_iaload (pc' := 95) hm224 rfl rfl rfl rfl (N := 8) rfl g3 ?_
              refine wi_goto (t := 99) hm224 rfl rfl ?_
              exact wi_iret hm224 rfl h
          · replace h := h.2 hc
            refine wi_aload_n (pc' := 71) hm224 rfl rfl rfl (by decide) ?_
            refine wi_getI (pc' := 74) hm224 rfl rfl (P := 28) rfl ?_
            exact wi_iret hm224 rfl h
        · replace h := h.2 hc
          refine wi_aload_n (pc' := 60) hm224 rfl rfl rfl (by decide) ?_
          refine wi_getI (pc' := 63) hm224 rfl rfl (P := 27) rfl ?_
          exact wi_iret hm224 rfl h
      · replace h := h.2 hc
        refine wi_iconst (pc' := 48) (v := (-1)) hm224 rfl rfl rfl ?_
        exact wi_iret hm224 rfl h
theorem hm225 : fx_code 225 = fx_c225 := rfl
theorem t225_0 {o0 x1 : Int} {σ : fx_S} {Q : fx_V → fx_S → Prop} (h : fx_Wp 225 2 [(46, o0), (0, x1), (0, x1)] [] σ Q) : fx_Ca 225 [(46, o0), (0, x1)] σ Q := by
  show fx_Wp 225 0 [(46, o0), (0, x1), (3, 0)] [] σ Q
  refine wi_iload_n (pc' := 1) hm225 rfl rfl rfl ?_
  refine wi_istore_n (pc' := 2) (L' := [(46, o0), (0, x1), (0, x1)]) hm225 rfl rfl rfl ?_
  exact h
theorem t225_2 {o0 x1 x2 : Int} {σ : fx_S} {Q : fx_V → fx_S → Prop} (h : ((x2 ≤ 0 → Q (0, x2) σ) ∧ (0 < x2 → (fx_rg (x2 - 1)) ∧ (0 ≤ (x2 - 1) ∧ (x2 - 1) < 1000) ∧ (0 ≤ x1 ∧ x1 < 1000) ∧ (((σ 59 0 (x2 - 1)) ≠ (σ 59 0 x1) → Q (0, x2) σ) ∧ ((σ 59 0 (x2 - 1)) = (σ 59 0 x1) → (fx_rg (x2 + (-1))) ∧ fx_Wp 225 2 [(46, o0), (0, x1), (0, (x2 + (-1)))] [] σ Q))))) : fx_Wp 225 2 [(46, o0), (0, x1), (0, x2)] [] σ Q := by
  refine wi_iload_n (pc' := 3) hm225 rfl rfl rfl ?_
  refine wi_if_le (pc' := 6) (t := 29) hm225 rfl rfl rfl (fun hc => ?_) (fun hc => ?_)
  · replace h := h.1 hc
    refine wi_iload_n (pc' := 30) hm225 rfl rfl rfl ?_
    exact wi_iret hm225 rfl h
  · replace h := h.2 hc
    refine wi_aload_n (pc' := 7) hm225 rfl rfl rfl (by decide) ?_
    refine wi_getR (pc' := 10) (x := 0) hm225 rfl rfl rfl (by omega) ?_
    refine wi_iload_n (pc' := 11) hm225 rfl rfl rfl ?_
    refine wi_iconst (pc' := 12) (v := 1) hm225 rfl rfl rfl ?_
    obtain ⟨g1, h⟩ := h
    refine wi_isub (pc' := 13) hm225 rfl rfl g1 ?_
    obtain ⟨g2, h⟩ := h
    refine wi_iaload (pc' := 14) hm225 rfl rfl rfl rfl (N := 1000) rfl g2 ?_
    refine wi_aload_n (pc' := 15) hm225 rfl rfl rfl (by decide) ?_
    refine wi_getR (pc' := 18) (x := 0) hm225 rfl rfl rfl (by omega) ?_
    refine wi_iload_n (pc' := 19) hm225 rfl rfl rfl ?_
    obtain ⟨g3, h⟩ := h
    refine wi_iaload (pc' := 20) hm225 rfl rfl rfl rfl (N := 1000) rfl g3 ?_
    refine wi_ic_ne (pc' := 23) (t := 29) hm225 rfl rfl rfl (fun hc => ?_) (fun hc => ?_)
    · replace h := h.1 hc
      refine wi_iload_n (pc' := 30) hm225 rfl rfl rfl ?_
      exact wi_iret hm225 rfl h
    · replace h := h.2 hc
      obtain ⟨g4, h⟩ := h
      refine wi_iinc (pc' := 26) (L' := [(46, o0), (0, x1), (0, (x2 + (-1)))]) hm225 rfl rfl rfl g4 rfl ?_
      refine wi_goto (t := 2) hm225 rfl rfl ?_
      exact h
theorem hm226 : fx_code 226 = fx_c226 := rfl
theorem t226_0 {o0 x1 x2 x3 : Int} {σ : fx_S} {Q : fx_V → fx_S → Prop} (h : fx_CI 154 [(0, x1)] σ Q (fun y1 σ1 => ((y1 = 0 → Q (0, 0) (fx_up σ1 46 o0 0 1)) ∧ (y1 ≠ 0 → fx_CI 155 [(0, x2)] σ1 Q (fun y2 σ2 => ((y2 = 0 → Q (0, 0) (fx_up σ2 46 o0 0 1)) ∧ (y2 ≠ 0 → fx_CV 166 [(46, o0), (0, x1), (59, 0)] (fx_up σ2 46 o0 0 0) Q (fun σ3 => ((x3 = 0 → fx_CI 218 [(46, o0), (59, 0), (0, x2)] σ3 Q (fun y3 σ4 => ((y3 ≠ 1000 → Q (0, y3) σ4) ∧ (y3 = 1000 → Q (0, (-1)) σ4)))) ∧ (x3 ≠ 0 → fx_CI 225 [(46, o0), (0, x2)] σ3 Q (fun y4 σ5 => Q (0, y4) σ5))))))))))) : fx_Ca 226 [(46, o0), (0, x1), (0, x2), (0, x3)] σ Q := by
  show fx_Wp 226 0 [(46, o0), (0, x1), (0, x2), (0, x3), (3, 0)] [] σ Q
  refine wi_aload_n (pc' := 1) hm226 rfl rfl rfl (by decide) ?_
  refine wi_iload_n (pc' := 2) hm226 rfl rfl rfl ?_
  refine wc_I (pc' := 5) (by decide) rfl (by decide) ((fx_wE hm226 rfl).trans (fx_exS (mj := 154) (as := [(0, x1)]) (rest := [(46, o0)]) rfl rk154 rfl rfl rfl rfl)) h (fun y1 σ1 h => ?_)
  refine wi_if_eq (pc' := 8) (t := 19) hm226 rfl rfl rfl (fun hc => ?_) (fun hc => ?_)
  · replace h := h.1 hc
    refine wi_iconst (pc' := 20) (v := 1) hm226 rfl rfl rfl ?_
    refine wi_putI (pc' := 23) hm226 rfl rfl (P := 0) rfl ?_
    refine wi_aload_n (pc' := 24) hm226 rfl rfl rfl (by decide) ?_
    refine wi_getIe (pc' := 27) hm226 rfl rfl (P := 0) rfl (x := 1) fx_upS ?_
    refine wi_if_le (pc' := 30) (t := 32) hm226 rfl rfl rfl (fun hc => absurd hc (by decide)) (fun _ => ?_)
    refine wi_iconst (pc' := 31) (v := 0) hm226 rfl rfl rfl ?_
    exact wi_iret hm226 rfl h
  · replace h := h.2 hc
    refine wi_iload_n (pc' := 9) hm226 rfl rfl rfl ?_
    refine wc_I (pc' := 12) (by decide) rfl (by decide) ((fx_wE hm226 rfl).trans (fx_exS (mj := 155) (as := [(0, x2)]) (rest := [(46, o0)]) rfl rk155 rfl rfl rfl rfl)) h (fun y2 σ2 h => ?_)
    refine wi_if_eq (pc' := 15) (t := 19) hm226 rfl rfl rfl (fun hc => ?_) (fun hc => ?_)
    · replace h := h.1 hc
      refine wi_iconst (pc' := 20) (v := 1) hm226 rfl rfl rfl ?_
      refine wi_putI (pc' := 23) hm226 rfl rfl (P := 0) rfl ?_
      refine wi_aload_n (pc' := 24) hm226 rfl rfl rfl (by decide) ?_
      refine wi_getIe (pc' := 27) hm226 rfl rfl (P := 0) rfl (x := 1) fx_upS ?_
      refine wi_if_le (pc' := 30) (t := 32) hm226 rfl rfl rfl (fun hc => absurd hc (by decide)) (fun _ => ?_)
      refine wi_iconst (pc' := 31) (v := 0) hm226 rfl rfl rfl ?_
      exact wi_iret hm226 rfl h
    · replace h := h.2 hc
      refine wi_iconst (pc' := 16) (v := 0) hm226 rfl rfl rfl ?_
      refine wi_goto (t := 20) hm226 rfl rfl ?_
      refine wi_putI (pc' := 23) hm226 rfl rfl (P := 0) rfl ?_
      refine wi_aload_n (pc' := 24) hm226 rfl rfl rfl (by decide) ?_
      refine wi_getIe (pc' := 27) hm226 rfl rfl (P := 0) rfl (x := 0) fx_upS ?_
      refine wi_if_le (pc' := 30) (t := 32) hm226 rfl rfl rfl (fun _ => ?_) (fun hc => absurd hc (by decide))
      refine wi_aload_n (pc' := 33) hm226 rfl rfl rfl (by decide) ?_
      refine wi_iload_n (pc' := 34) hm226 rfl rfl rfl ?_
      refine wi_aload_n (pc' := 35) hm226 rfl rfl rfl (by decide) ?_
      refine wi_getR (pc' := 38) (x := 0) hm226 rfl rfl rfl (by omega) ?_
      refine wc_V (pc' := 41) (by decide) rfl (by decide) ((fx_wE hm226 rfl).trans (fx_exV (mj := 166) (as := [(0, x1), (59, 0)]) (rest := []) rfl rk166 rfl rfl rfl rfl rfl)) h (fun σ3 h => ?_)
      refine wi_iload_n (pc' := 42) hm226 rfl rfl rfl ?_
      refine wi_if_eq (pc' := 45) (t := 51) hm226 rfl rfl rfl (fun hc => ?_) (fun hc => ?_)
      · replace h := h.1 hc
        refine wi_aload_n (pc' := 52) hm226 rfl rfl rfl (by decide) ?_
        refine wi_aload_n (pc' := 53) hm226 rfl rfl rfl (by decide) ?_
        refine wi_getR (pc' := 56) (x := 0) hm226 rfl rfl rfl (by omega) ?_
        refine wi_iload_n (pc' := 57) hm226 rfl rfl rfl ?_
        refine wc_I (pc' := 60) (by decide) rfl (by decide) ((fx_wE hm226 rfl).trans (fx_exV (mj := 218) (as := [(59, 0), (0, x2)]) (rest := []) rfl rk218 rfl rfl rfl rfl rfl)) h (fun y3 σ4 h => ?_)
        refine wi_istore (pc' := 62) (L' := [(46, o0), (0, x1), (0, x2), (0, x3), (0, y3)]) hm226 rfl rfl rfl ?_
        refine wi_iload (pc' := 64) hm226 rfl rfl rfl ?_
        refine wi_sipush (pc' := 67) (v := 1000) hm226 rfl rfl rfl ?_
        refine wi_ic_ne (pc' := 70) (t := 74) hm226 rfl rfl rfl (fun hc => ?_) (fun hc => ?_)
        · replace h := h.1 hc
          refine wi_iload (pc' := 76) hm226 rfl rfl rfl ?_
          exact wi_iret hm226 rfl h
        · replace h := h.2 hc
          refine wi_iconst (pc' := 71) (v := (-1)) hm226 rfl rfl rfl ?_
          refine wi_goto (t := 76) hm226 rfl rfl ?_
          exact wi_iret hm226 rfl h
      · replace h := h.2 hc
        refine wi_aload_n (pc' := 46) hm226 rfl rfl rfl (by decide) ?_
        refine wi_iload_n (pc' := 47) hm226 rfl rfl rfl ?_
        refine wc_I (pc' := 50) (by decide) rfl (by decide) ((fx_wE hm226 rfl).trans (fx_exV (mj := 225) (as := [(0, x2)]) (rest := []) rfl rk225 rfl rfl rfl rfl rfl)) h (fun y4 σ5 h => ?_)
        exact wi_iret hm226 rfl h
theorem hm227 : fx_code 227 = fx_c227 := rfl
theorem t227_0 {o0 x1 x2 : Int} {σ : fx_S} {Q : fx_V → fx_S → Prop} (h : fx_CI 154 [(0, x1)] σ Q (fun y1 σ1 => ((y1 = 0 → Q (0, 0) (fx_up σ1 46 o0 0 1)) ∧ (y1 ≠ 0 → fx_CI 155 [(0, x2)] σ1 Q (fun y2 σ2 => ((y2 = 0 → Q (0, 0) (fx_up σ2 46 o0 0 1)) ∧ (y2 ≠ 0 → fx_CV 166 [(46, o0), (0, x1), (59, 0)] (fx_up σ2 46 o0 0 0) Q (fun σ3 => fx_CI 218 [(46, o0), (59, 0), (0, x2)] σ3 Q (fun y3 σ4 => fx_CI 225 [(46, o0), (0, x2)] σ4 Q (fun y4 σ5 => (fx_rg (y3 - y4)) ∧ Q (0, (y3 - y4)) σ5)))))))))) : fx_Ca 227 [(46, o0), (0, x1), (0, x2)] σ Q := by
  show fx_Wp 227 0 [(46, o0), (0, x1), (0, x2)] [] σ Q
  refine wi_aload_n (pc' := 1) hm227 rfl rfl rfl (by decide) ?_
  refine wi_iload_n (pc' := 2) hm227 rfl rfl rfl ?_
  refine wc_I (pc' := 5) (by decide) rfl (by decide) ((fx_wE hm227 rfl).trans (fx_exS (mj := 154) (as := [(0, x1)]) (rest := [(46, o0)]) rfl rk154 rfl rfl rfl rfl)) h (fun y1 σ1 h => ?_)
  refine wi_if_eq (pc' := 8) (t := 19) hm227 rfl rfl rfl (fun hc => ?_) (fun hc => ?_)
  · replace h := h.1 hc
    refine wi_iconst (pc' := 20) (v := 1) hm227 rfl rfl rfl ?_
    refine wi_putI (pc' := 23) hm227 rfl rfl (P := 0) rfl ?_
    refine wi_aload_n (pc' := 24) hm227 rfl rfl rfl (by decide) ?_
    refine wi_getIe (pc' := 27) hm227 rfl rfl (P := 0) rfl (x := 1) fx_upS ?_
    refine wi_if_le (pc' := 30) (t := 32) hm227 rfl rfl rfl (fun hc => absurd hc (by decide)) (fun _ => ?_)
    refine wi_iconst (pc' := 31) (v := 0) hm227 rfl rfl rfl ?_
    exact wi_iret hm227 rfl h
  · replace h := h.2 hc
    refine wi_iload_n (pc' := 9) hm227 rfl rfl rfl ?_
    refine wc_I (pc' := 12) (by decide) rfl (by decide) ((fx_wE hm227 rfl).trans (fx_exS (mj := 155) (as := [(0, x2)]) (rest := [(46, o0)]) rfl rk155 rfl rfl rfl rfl)) h (fun y2 σ2 h => ?_)
    refine wi_if_eq (pc' := 15) (t := 19) hm227 rfl rfl rfl (fun hc => ?_) (fun hc => ?_)
    · replace h := h.1 hc
      refine wi_iconst (pc' := 20) (v := 1) hm227 rfl rfl rfl ?_
      refine wi_putI (pc' := 23) hm227 rfl rfl (P := 0) rfl ?_
      refine wi_aload_n (pc' := 24) hm227 rfl rfl rfl (by decide) ?_
      refine wi_getIe (pc' := 27) hm227 rfl rfl (P := 0) rfl (x := 1) fx_upS ?_
      refine wi_if_le (pc' := 30) (t := 32) hm227 rfl rfl rfl (fun hc => absurd hc (by decide)) (fun _ => ?_)
      refine wi_iconst (pc' := 31) (v := 0) hm227 rfl rfl rfl ?_
      exact wi_iret hm227 rfl h
    · replace h := h.2 hc
      refine wi_iconst (pc' := 16) (v := 0) hm227 rfl rfl rfl ?_
      refine wi_goto (t := 20) hm227 rfl rfl ?_
      refine wi_putI (pc' := 23) hm227 rfl rfl (P := 0) rfl ?_
      refine wi_aload_n (pc' := 24) hm227 rfl rfl rfl (by decide) ?_
      refine wi_getIe (pc' := 27) hm227 rfl rfl (P := 0) rfl (x := 0) fx_upS ?_
      refine wi_if_le (pc' := 30) (t := 32) hm227 rfl rfl rfl (fun _ => ?_) (fun hc => absurd hc (by decide))
      refine wi_aload_n (pc' := 33) hm227 rfl rfl rfl (by decide) ?_
      refine wi_iload_n (pc' := 34) hm227 rfl rfl rfl ?_
      refine wi_aload_n (pc' := 35) hm227 rfl rfl rfl (by decide) ?_
      refine wi_getR (pc' := 38) (x := 0) hm227 rfl rfl rfl (by omega) ?_
      refine wc_V (pc' := 41) (by decide) rfl (by decide) ((fx_wE hm227 rfl).trans (fx_exV (mj := 166) (as := [(0, x1), (59, 0)]) (rest := []) rfl rk166 rfl rfl rfl rfl rfl)) h (fun σ3 h => ?_)
      refine wi_aload_n (pc' := 42) hm227 rfl rfl rfl (by decide) ?_
      refine wi_aload_n (pc' := 43) hm227 rfl rfl rfl (by decide) ?_
      refine wi_getR (pc' := 46) (x := 0) hm227 rfl rfl rfl (by omega) ?_
      refine wi_iload_n (pc' := 47) hm227 rfl rfl rfl ?_
      refine wc_I (pc' := 50) (by decide) rfl (by decide) ((fx_wE hm227 rfl).trans (fx_exV (mj := 218) (as := [(59, 0), (0, x2)]) (rest := []) rfl rk218 rfl rfl rfl rfl rfl)) h (fun y3 σ4 h => ?_)
      refine wi_aload_n (pc' := 51) hm227 rfl rfl rfl (by decide) ?_
      refine wi_iload_n (pc' := 52) hm227 rfl rfl rfl ?_
      refine wc_I (pc' := 55) (by decide) rfl (by decide) ((fx_wE hm227 rfl).trans (fx_exV (mj := 225) (as := [(0, x2)]) (rest := [(0, y3)]) rfl rk225 rfl rfl rfl rfl rfl)) h (fun y4 σ5 h => ?_)
      obtain ⟨g1, h⟩ := h
      refine wi_isub (pc' := 56) hm227 rfl rfl g1 ?_
      exact wi_iret hm227 rfl h
theorem hm228 : fx_code 228 = fx_c228 := rfl
theorem t228_0 {o0 x1 x2 x3 : Int} {σ : fx_S} {Q : fx_V → fx_S → Prop} (h : fx_CI 154 [(0, x1)] σ Q (fun y1 σ1 => ((y1 = 0 → Q (0, 0) (fx_up σ1 46 o0 0 1)) ∧ (y1 ≠ 0 → fx_CI 155 [(0, x2)] σ1 Q (fun y2 σ2 => ((y2 ≠ 0 → fx_CI 149 [(0, x3), (0, 0), (0, 99)] σ2 Q (fun y3 σ3 => ((y3 ≠ 0 → fx_CV 166 [(46, o0), (0, x1), (59, 0)] (fx_up σ3 46 o0 0 0) Q (fun σ4 => fx_Wp 228 58 [(46, o0), (0, x1), (0, x2), (0, x3), (0, x2)] [] σ4 Q)) ∧ (y3 = 0 → Q (0, 0) (fx_up σ3 46 o0 0 2))))) ∧ (y2 = 0 → Q (0, 0) (fx_up σ2 46 o0 0 1)))))))) : fx_Ca 228 [(46, o0), (0, x1), (0, x2), (0, x3)] σ Q := by
  show fx_Wp 228 0 [(46, o0), (0, x1), (0, x2), (0, x3), (3, 0)] [] σ Q
  refine wi_aload_n (pc' := 1) hm228 rfl rfl rfl (by decide) ?_
  refine wi_iload_n (pc' := 2) hm228 rfl rfl rfl ?_
  refine wc_I (pc' := 5) (by decide) rfl (by decide) ((fx_wE hm228 rfl).trans (fx_exS (mj := 154) (as := [(0, x1)]) (rest := [(46, o0)]) rfl rk154 rfl rfl rfl rfl)) h (fun y1 σ1 h => ?_)
  refine wi_if_eq (pc' := 8) (t := 15) hm228 rfl rfl rfl (fun hc => ?_) (fun hc => ?_)
  · replace h := h.1 hc
    refine wi_iconst (pc' := 16) (v := 1) hm228 rfl rfl rfl ?_
    refine wi_goto (t := 34) hm228 rfl rfl ?_
    refine wi_putI (pc' := 37) hm228 rfl rfl (P := 0) rfl ?_
    refine wi_aload_n (pc' := 38) hm228 rfl rfl rfl (by decide) ?_
    refine wi_getIe (pc' := 41) hm228 rfl rfl (P := 0) rfl (x := 1) fx_upS ?_
    refine wi_if_le (pc' := 44) (t := 46) hm228 rfl rfl rfl (fun hc => absurd hc (by decide)) (fun _ => ?_)
    refine wi_iconst (pc' := 45) (v := 0) hm228 rfl rfl rfl ?_
    exact wi_iret hm228 rfl h
  · replace h := h.2 hc
    refine wi_iload_n (pc' := 9) hm228 rfl rfl rfl ?_
    refine wc_I (pc' := 12) (by decide) rfl (by decide) ((fx_wE hm228 rfl).trans (fx_exS (mj := 155) (as := [(0, x2)]) (rest := [(46, o0)]) rfl rk155 rfl rfl rfl rfl)) h (fun y2 σ2 h => ?_)
    refine wi_if_ne (pc' := 15) (t := 19) hm228 rfl rfl rfl (fun hc => ?_) (fun hc => ?_)
    · replace h := h.1 hc
      refine wi_iload_n (pc' := 20) hm228 rfl rfl rfl ?_
      refine wi_iconst (pc' := 21) (v := 0) hm228 rfl rfl rfl ?_
      refine wi_bipush (pc' := 23) (v := 99) hm228 rfl rfl rfl ?_
      refine wc_I (pc' := 26) (by decide) rfl (by decide) ((fx_wE hm228 rfl).trans (fx_exS (mj := 149) (as := [(0, x3), (0, 0), (0, 99)]) (rest := [(46, o0)]) rfl rk149 rfl rfl rfl rfl)) h (fun y3 σ3 h => ?_)
      refine wi_if_ne (pc' := 29) (t := 33) hm228 rfl rfl rfl (fun hc => ?_) (fun hc => ?_)
      · replace h := h.1 hc
        refine wi_iconst (pc' := 34) (v := 0) hm228 rfl rfl rfl ?_
        refine wi_putI (pc' := 37) hm228 rfl rfl (P := 0) rfl ?_
        refine wi_aload_n (pc' := 38) hm228 rfl rfl rfl (by decide) ?_
        refine wi_getIe (pc' := 41) hm228 rfl rfl (P := 0) rfl (x := 0) fx_upS ?_
        refine wi_if_le (pc' := 44) (t := 46) hm228 rfl rfl rfl (fun _ => ?_) (fun hc => absurd hc (by decide))
        refine wi_aload_n (pc' := 47) hm228 rfl rfl rfl (by decide) ?_
        refine wi_iload_n (pc' := 48) hm228 rfl rfl rfl ?_
        refine wi_aload_n (pc' := 49) hm228 rfl rfl rfl (by decide) ?_
        refine wi_getR (pc' := 52) (x := 0) hm228 rfl rfl rfl (by omega) ?_
        refine wc_V (pc' := 55) (by decide) rfl (by decide) ((fx_wE hm228 rfl).trans (fx_exV (mj := 166) (as := [(0, x1), (59, 0)]) (rest := []) rfl rk166 rfl rfl rfl rfl rfl)) h (fun σ4 h => ?_)
        refine wi_iload_n (pc' := 56) hm228 rfl rfl rfl ?_
        refine wi_istore (pc' := 58) (L' := [(46, o0), (0, x1), (0, x2), (0, x3), (0, x2)]) hm228 rfl rfl rfl ?_
        exact h
      · replace h := h.2 hc
        refine wi_iconst (pc' := 30) (v := 2) hm228 rfl rfl rfl ?_
        refine wi_goto (t := 34) hm228 rfl rfl ?_
        refine wi_putI (pc' := 37) hm228 rfl rfl (P := 0) rfl ?_
        refine wi_aload_n (pc' := 38) hm228 rfl rfl rfl (by decide) ?_
        refine wi_getIe (pc' := 41) hm228 rfl rfl (P := 0) rfl (x := 2) fx_upS ?_
        refine wi_if_le (pc' := 44) (t := 46) hm228 rfl rfl rfl (fun hc => absurd hc (by decide)) (fun _ => ?_)
        refine wi_iconst (pc' := 45) (v := 0) hm228 rfl rfl rfl ?_
        exact wi_iret hm228 rfl h
    · replace h := h.2 hc
      refine wi_iconst (pc' := 16) (v := 1) hm228 rfl rfl rfl ?_
      refine wi_goto (t := 34) hm228 rfl rfl ?_
      refine wi_putI (pc' := 37) hm228 rfl rfl (P := 0) rfl ?_
      refine wi_aload_n (pc' := 38) hm228 rfl rfl rfl (by decide) ?_
      refine wi_getIe (pc' := 41) hm228 rfl rfl (P := 0) rfl (x := 1) fx_upS ?_
      refine wi_if_le (pc' := 44) (t := 46) hm228 rfl rfl rfl (fun hc => absurd hc (by decide)) (fun _ => ?_)
      refine wi_iconst (pc' := 45) (v := 0) hm228 rfl rfl rfl ?_
      exact wi_iret hm228 rfl h
theorem t228_58 {o0 x3 x4 : Int} {w1 w2 : fx_V} {σ : fx_S} {Q : fx_V → fx_S → Prop} (h : ((1000 ≤ x4 → Q (0, (-1)) σ) ∧ (x4 < 1000 → (0 ≤ x4 ∧ x4 < 1000) ∧ (((σ 59 0 x4) ≠ x3 → (fx_rg (x4 + 1)) ∧ fx_Wp 228 58 [(46, o0), w1, w2, (0, x3), (0, (x4 + 1))] [] σ Q) ∧ ((σ 59 0 x4) = x3 → Q (0, x4) σ))))) : fx_Wp 228 58 [(46, o0), w1, w2, (0, x3), (0, x4)] [] σ Q := by
  refine wi_iload (pc' := 60) hm228 rfl rfl rfl ?_
  refine wi_sipush (pc' := 63) (v := 1000) hm228 rfl rfl rfl ?_
  refine wi_ic_ge (pc' := 66) (t := 86) hm228 rfl rfl rfl (fun hc => ?_) (fun hc => ?_)
  · replace h := h.1 hc
    refine wi_iconst (pc' := 87) (v := (-1)) hm228 rfl rfl rfl ?_
    exact wi_iret hm228 rfl h
  · replace h := h.2 hc
    refine wi_aload_n (pc' := 67) hm228 rfl rfl rfl (by decide) ?_
    refine wi_getR (pc' := 70) (x := 0) hm228 rfl rfl rfl (by omega) ?_
    refine wi_iload (pc' := 72) hm228 rfl rfl rfl ?_
    obtain ⟨g1, h⟩ := h
    refine wi_iaload (pc' := 73) hm228 rfl rfl rfl rfl (N := 1000) rfl g1 ?_
    refine wi_iload_n (pc' := 74) hm228 rfl rfl rfl ?_
    refine wi_ic_ne (pc' := 77) (t := 80) hm228 rfl rfl rfl (fun hc => ?_) (fun hc => ?_)
    · replace h := h.1 hc
      obtain ⟨g2, h⟩ := h
      refine wi_iinc (pc' := 83) (L' := [(46, o0), w1, w2, (0, x3), (0, (x4 + 1))]) hm228 rfl rfl rfl g2 rfl ?_
      refine wi_goto (t := 58) hm228 rfl rfl ?_
      exact h
    · replace h := h.2 hc
      refine wi_iload (pc' := 79) hm228 rfl rfl rfl ?_
      exact wi_iret hm228 rfl h
theorem hm229 : fx_code 229 = fx_c229 := rfl
theorem t229_0 {o0 x1 : Int} {σ : fx_S} {Q : fx_V → fx_S → Prop} (h : fx_Wp 229 4 [(46, o0), (0, x1), (0, 0), (0, 0), (3, 0)] [] σ Q) : fx_Ca 229 [(46, o0), (0, x1)] σ Q := by
  show fx_Wp 229 0 [(46, o0), (0, x1), (3, 0), (3, 0), (3, 0)] [] σ Q
  refine wi_iconst (pc' := 1) (v := 0) hm229 rfl rfl rfl ?_
  refine wi_istore_n (pc' := 2) (L' := [(46, o0), (0, x1), (0, 0), (3, 0), (3, 0)]) hm229 rfl rfl rfl ?_
  refine wi_iconst (pc' := 3) (v := 0) hm229 rfl rfl rfl ?_
  refine wi_istore_n (pc' := 4) (L' := [(46, o0), (0, x1), (0, 0), (0, 0), (3, 0)]) hm229 rfl rfl rfl ?_
  exact h
theorem t229_4 {o0 x1 x2 x3 : Int} {w4 : fx_V} {σ : fx_S} {Q : fx_V → fx_S → Prop} (h : ((1000 ≤ x3 → Q (0, x2) σ) ∧ (x3 < 1000 → fx_CV 165 [(46, o0), (0, x3)] σ Q (fun σ1 => fx_Wp 229 19 [(46, o0), (0, x1), (0, x2), (0, x3), (0, 0)] [] σ1 Q)))) : fx_Wp 229 4 [(46, o0), (0, x1), (0, x2), (0, x3), w4] [] σ Q := by
  refine wi_iload_n (pc' := 5) hm229 rfl rfl rfl ?_
  refine wi_sipush (pc' := 8) (v := 1000) hm229 rfl rfl rfl ?_
  refine wi_ic_ge (pc' := 11) (t := 128) hm229 rfl rfl rfl (fun hc => ?_) (fun hc => ?_)
  · replace h := h.1 hc
    refine wi_iload_n (pc' := 129) hm229 rfl rfl rfl ?_
    exact wi_iret hm229 rfl h
  · replace h := h.2 hc
    refine wi_aload_n (pc' := 12) hm229 rfl rfl rfl (by decide) ?_
    refine wi_iload_n (pc' := 13) hm229 rfl rfl rfl ?_
    refine wc_V (pc' := 16) (by decide) rfl (by decide) ((fx_wE hm229 rfl).trans (fx_exV (mj := 165) (as := [(0, x3)]) (rest := []) rfl rk165 rfl rfl rfl rfl rfl)) h (fun σ1 h => ?_)
    refine wi_iconst (pc' := 17) (v := 0) hm229 rfl rfl rfl ?_
    refine wi_istore (pc' := 19) (L' := [(46, o0), (0, x1), (0, x2), (0, x3), (0, 0)]) hm229 rfl rfl rfl ?_
    exact h
theorem t229_19 {o0 x1 x2 x3 x4 : Int} {σ : fx_S} {Q : fx_V → fx_S → Prop} (h : ((8 ≤ x4 → (fx_rg (6 * x1)) ∧ (fx_rg (18 + (6 * x1))) ∧ (fx_rg ((18 + (6 * x1)) + 5)) ∧ (0 ≤ ((18 + (6 * x1)) + 5) ∧ ((18 + (6 * x1)) + 5) < 1130) ∧ fx_CV 165 [(46, o0), (0, x3)] (fx_up σ 47 0 ((18 + (6 * x1)) + 5) 1) Q (fun σ1 => fx_Wp 229 84 [(46, o0), (0, x1), (0, x2), (0, x3), (0, 0)] [] (fx_up σ1 47 0 ((18 + (6 * x1)) + 5) 0) Q)) ∧ (x4 < 8 → (0 ≤ x4 ∧ x4 < 8) ∧ (fx_rg (x4 + 1)) ∧ fx_Wp 229 19 [(46, o0), (0, x1), (0, x2), (0, x3), (0, (x4 + 1))] [] (fx_up σ 60 0 x4 (σ 55 0 x4)) Q))) : fx_Wp 229 19 [(46, o0), (0, x1), (0, x2), (0, x3), (0, x4)] [] σ Q := by
  refine wi_iload (pc' := 21) hm229 rfl rfl rfl ?_
  refine wi_bipush (pc' := 23) (v := 8) hm229 rfl rfl rfl ?_
  refine wi_ic_ge (pc' := 26) (t := 46) hm229 rfl rfl rfl (fun hc => ?_) (fun hc => ?_)
  · replace h := h.1 hc
    refine wi_aload_n (pc' := 47) hm229 rfl rfl rfl (by decide) ?_
    refine wi_getR (pc' := 50) (x := 0) hm229 rfl rfl rfl (by omega) ?_
    refine wi_bipush (pc' := 52) (v := 18) hm229 rfl rfl rfl ?_
    refine wi_bipush (pc' := 54) (v := 6) hm229 rfl rfl rfl ?_
    refine wi_iload_n (pc' := 55) hm229 rfl rfl rfl ?_
    obtain ⟨g1, h⟩ := h
    refine wi_imul (pc' := 56) hm229 rfl rfl g1 ?_
    obtain ⟨g2, h⟩ := h
    refine wi_iadd (pc' := 57) hm229 rfl rfl g2 ?_
    refine wi_iconst (pc' := 58) (v := 5) hm229 rfl rfl rfl ?_
    obtain ⟨g3, h⟩ := h
    refine wi_iadd (pc' := 59) hm229 rfl rfl g3 ?_
    refine wi_iconst (pc' := 60) (v := 1) hm229 rfl rfl rfl ?_
    obtain ⟨g4, h⟩ := h
    refine wi_iastore (pc' := 61) hm229 rfl rfl rfl (N := 1130) rfl g4 ?_
    refine wi_aload_n (pc' := 62) hm229 rfl rfl rfl (by decide) ?_
    refine wi_iload_n (pc' := 63) hm229 rfl rfl rfl ?_
    refine wc_V (pc' := 66) (by decide) rfl (by decide) ((fx_wE hm229 rfl).trans (fx_exV (mj := 165) (as := [(0, x3)]) (rest := []) rfl rk165 rfl rfl rfl rfl rfl)) h (fun σ1 h => ?_)
    refine wi_aload_n (pc' := 67) hm229 rfl rfl rfl (by decide) ?_
    refine wi_getR (pc' := 70) (x := 0) hm229 rfl rfl rfl (by omega) ?_
    refine wi_bipush (pc' := 72) (v := 18) hm229 rfl rfl rfl ?_
    refine wi_bipush (pc' := 74) (v := 6) hm229 rfl rfl rfl ?_
    refine wi_iload_n (pc' := 75) hm229 rfl rfl rfl ?_
    refine wi_imul (pc' := 76) hm229 rfl rfl g1 ?_
    refine wi_iadd (pc' := 77) hm229 rfl rfl g2 ?_
    refine wi_iconst (pc' := 78) (v := 5) hm229 rfl rfl rfl ?_
    refine wi_iadd (pc' := 79) hm229 rfl rfl g3 ?_
    refine wi_iconst (pc' := 80) (v := 0) hm229 rfl rfl rfl ?_
    refine wi_iastore (pc' := 81) hm229 rfl rfl rfl (N := 1130) rfl g4 ?_
    refine wi_iconst (pc' := 82) (v := 0) hm229 rfl rfl rfl ?_
    refine wi_istore (pc' := 84) (L' := [(46, o0), (0, x1), (0, x2), (0, x3), (0, 0)]) hm229 rfl rfl rfl ?_
    exact h
  · replace h := h.2 hc
    refine wi_aload_n (pc' := 27) hm229 rfl rfl rfl (by decide) ?_
    refine wi_getR (pc' := 30) (x := 0) hm229 rfl rfl rfl (by omega) ?_
    refine wi_iload (pc' := 32) hm229 rfl rfl rfl ?_
    refine wi_aload_n (pc' := 33) hm229 rfl rfl rfl (by decide) ?_
    refine wi_getR (pc' := 36) (x := 0) hm229 rfl rfl rfl (by omega) ?_
    refine wi_iload (pc' := 38) hm229 rfl rfl rfl ?_
    obtain ⟨g1, h⟩ := h
    refine wi_iaload (pc' := 39) hm229 rfl rfl rfl rfl (N := 8) rfl g1 ?_
    refine wi_iastore (pc' := 40) hm229 rfl rfl rfl (N := 8) rfl g1 ?_
    obtain ⟨g2, h⟩ := h
    refine wi_iinc (pc' := 43) (L' := [(46, o0), (0, x1), (0, x2), (0, x3), (0, (x4 + 1))]) hm229 rfl rfl rfl g2 rfl ?_
    refine wi_goto (t := 19) hm229 rfl rfl ?_
    exact h
theorem t229_84 {o0 x1 x2 x3 x4 : Int} {σ : fx_S} {Q : fx_V → fx_S → Prop} (h : ((8 ≤ x4 → (fx_rg (x3 + 1)) ∧ fx_Wp 229 4 [(46, o0), (0, x1), (0, x2), (0, (x3 + 1)), (0, x4)] [] σ Q) ∧ (x4 < 8 → (0 ≤ x4 ∧ x4 < 8) ∧ (((σ 55 0 x4) = (σ 60 0 x4) → (fx_rg (x2 + 0)) ∧ (fx_rg (x4 + 1)) ∧ fx_Wp 229 84 [(46, o0), (0, x1), (0, (x2 + 0)), (0, x3), (0, (x4 + 1))] [] σ Q) ∧ ((σ 55 0 x4) ≠ (σ 60 0 x4) → (fx_rg (x2 + 1)) ∧ (fx_rg (x4 + 1)) ∧ fx_Wp 229 84 [(46, o0), (0, x1), (0, (x2 + 1)), (0, x3), (0, (x4 + 1))] [] σ Q))))) : fx_Wp 229 84 [(46, o0), (0, x1), (0, x2), (0, x3), (0, x4)] [] σ Q := by
  refine wi_iload (pc' := 86) hm229 rfl rfl rfl ?_
  refine wi_bipush (pc' := 88) (v := 8) hm229 rfl rfl rfl ?_
  refine wi_ic_ge (pc' := 91) (t := 122) hm229 rfl rfl rfl (fun hc => ?_) (fun hc => ?_)
  · replace h := h.1 hc
    obtain ⟨g1, h⟩ := h
    refine wi_iinc (pc' := 125) (L' := [(46, o0), (0, x1), (0, x2), (0, (x3 + 1)), (0, x4)]) hm229 rfl rfl rfl g1 rfl ?_
    refine wi_goto (t := 4) hm229 rfl rfl ?_
    exact h
  · replace h := h.2 hc
    refine wi_iload_n (pc' := 92) hm229 rfl rfl rfl ?_
    refine wi_aload_n (pc' := 93) hm229 rfl rfl rfl (by decide) ?_
    refine wi_getR (pc' := 96) (x := 0) hm229 rfl rfl rfl (by omega) ?_
    refine wi_iload (pc' := 98) hm229 rfl rfl rfl ?_
    obtain ⟨g1, h⟩ := h
    refine wi_iaload (pc' := 99) hm229 rfl rfl rfl rfl (N := 8) rfl g1 ?_
    refine wi_aload_n (pc' := 100) hm229 rfl rfl rfl (by decide) ?_
    refine wi_getR (pc' := 103) (x := 0) hm229 rfl rfl rfl (by omega) ?_
    refine wi_iload (pc' := 105) hm229 rfl rfl rfl ?_
    refine wi_iaload (pc' := 106) hm229 rfl rfl rfl rfl (N := 8) rfl g1 ?_
    refine wi_ic_eq (pc' := 109) (t := 113) hm229 rfl rfl rfl (fun hc => ?_) (fun hc => ?_)
    · replace h := h.1 hc
      refine wi_iconst (pc' := 114) (v := 0) hm229 rfl rfl rfl ?_
      obtain ⟨g2, h⟩ := h
      refine wi_iadd (pc' := 115) hm229 rfl rfl g2 ?_
      refine wi_istore_n (pc' := 116) (L' := [(46, o0), (0, x1), (0, (x2 + 0)), (0, x3), (0, x4)]) hm229 rfl rfl rfl ?_
      obtain ⟨g3, h⟩ := h
      refine wi_iinc (pc' := 119) (L' := [(46, o0), (0, x1), (0, (x2 + 0)), (0, x3), (0, (x4 + 1))]) hm229 rfl rfl rfl g3 rfl ?_
      refine wi_goto (t := 84) hm229 rfl rfl ?_
      exact h
    · replace h := h.2 hc
      refine wi_iconst (pc' := 110) (v := 1) hm229 rfl rfl rfl ?_
      refine wi_goto (t := 114) hm229 rfl rfl ?_
      obtain ⟨g2, h⟩ := h
      refine wi_iadd (pc' := 115) hm229 rfl rfl g2 ?_
      refine wi_istore_n (pc' := 116) (L' := [(46, o0), (0, x1), (0, (x2 + 1)), (0, x3), (0, x4)]) hm229 rfl rfl rfl ?_
      obtain ⟨g3, h⟩ := h
      refine wi_iinc (pc' := 119) (L' := [(46, o0), (0, x1), (0, (x2 + 1)), (0, x3), (0, (x4 + 1))]) hm229 rfl rfl rfl g3 rfl ?_
      refine wi_goto (t := 84) hm229 rfl rfl ?_
      exact h
theorem hm230 : fx_code 230 = fx_c230 := rfl
theorem t230_0 {o0 x1 x2 : Int} {σ : fx_S} {Q : fx_V → fx_S → Prop} (h : fx_CI 153 [(46, o0), (0, x1)] σ Q (fun y1 σ1 => ((y1 ≠ 0 → fx_CI 149 [(0, x2), (0, 0), (0, 7)] σ1 Q (fun y2 σ2 => ((y2 ≠ 0 → ((6 ≤ x2 → ((x2 ≠ 7 → fx_CV 167 [(46, o0)] (fx_up σ2 46 o0 0 0) Q (fun σ3 => (0 ≤ x1 ∧ x1 < 60) ∧ Q (0, (σ3 58 0 x1)) σ3)) ∧ (x2 = 7 → fx_CI 151 [(46, o0), (0, x1), (0, 5)] (fx_up σ2 46 o0 0 0) Q (fun y3 σ4 => ((y3 ≠ 1 → fx_CI 229 [(46, o0), (0, x1)] σ4 Q (fun y4 σ5 => Q (0, y4) σ5)) ∧ (y3 = 1 → Q (0, (-1)) σ4)))))) ∧ (x2 < 6 → fx_CI 151 [(46, o0), (0, x1), (0, x2)] (fx_up σ2 46 o0 0 0) Q (fun y5 σ6 => Q (0, y5) σ6)))) ∧ (y2 = 0 → Q (0, 0) (fx_up σ2 46 o0 0 2))))) ∧ (y1 = 0 → Q (0, 0) (fx_up σ1 46 o0 0 1))))) : fx_Ca 230 [(46, o0), (0, x1), (0, x2)] σ Q := by
  show fx_Wp 230 0 [(46, o0), (0, x1), (0, x2)] [] σ Q
  refine wi_aload_n (pc' := 1) hm230 rfl rfl rfl (by decide) ?_
  refine wi_aload_n (pc' := 2) hm230 rfl rfl rfl (by decide) ?_
  refine wi_iload_n (pc' := 3) hm230 rfl rfl rfl ?_
  refine wc_I (pc' := 6) (by decide) rfl (by decide) ((fx_wE hm230 rfl).trans (fx_exV (mj := 153) (as := [(0, x1)]) (rest := [(46, o0)]) rfl rk153 rfl rfl rfl rfl rfl)) h (fun y1 σ1 h => ?_)
  refine wi_if_ne (pc' := 9) (t := 13) hm230 rfl rfl rfl (fun hc => ?_) (fun hc => ?_)
  · replace h := h.1 hc
    refine wi_iload_n (pc' := 14) hm230 rfl rfl rfl ?_
    refine wi_iconst (pc' := 15) (v := 0) hm230 rfl rfl rfl ?_
    refine wi_bipush (pc' := 17) (v := 7) hm230 rfl rfl rfl ?_
    refine wc_I (pc' := 20) (by decide) rfl (by decide) ((fx_wE hm230 rfl).trans (fx_exS (mj := 149) (as := [(0, x2), (0, 0), (0, 7)]) (rest := [(46, o0)]) rfl rk149 rfl rfl rfl rfl)) h (fun y2 σ2 h => ?_)
    refine wi_if_ne (pc' := 23) (t := 27) hm230 rfl rfl rfl (fun hc => ?_) (fun hc => ?_)
    · replace h := h.1 hc
      refine wi_iconst (pc' := 28) (v := 0) hm230 rfl rfl rfl ?_
      refine wi_putI (pc' := 31) hm230 rfl rfl (P := 0) rfl ?_
      refine wi_aload_n (pc' := 32) hm230 rfl rfl rfl (by decide) ?_
      refine wi_getIe (pc' := 35) hm230 rfl rfl (P := 0) rfl (x := 0) fx_upS ?_
      refine wi_if_le (pc' := 38) (t := 40) hm230 rfl rfl rfl (fun _ => ?_) (fun hc => absurd hc (by decide))
      refine wi_iload_n (pc' := 41) hm230 rfl rfl rfl ?_
      refine wi_bipush (pc' := 43) (v := 6) hm230 rfl rfl rfl ?_
      refine wi_ic_ge (pc' := 46) (t := 53) hm230 rfl rfl rfl (fun hc => ?_) (fun hc => ?_)
      · replace h := h.1 hc
        refine wi_iload_n (pc' := 54) hm230 rfl rfl rfl ?_
        refine wi_bipush (pc' := 56) (v := 7) hm230 rfl rfl rfl ?_
        refine wi_ic_ne (pc' := 59) (t := 79) hm230 rfl rfl rfl (fun hc => ?_) (fun hc => ?_)
        · replace h := h.1 hc
          refine wi_aload_n (pc' := 80) hm230 rfl rfl rfl (by decide) ?_
          refine wc_V (pc' := 83) (by decide) rfl (by decide) ((fx_wE hm230 rfl).trans (fx_exV (mj := 167) (as := []) (rest := []) rfl rk167 rfl rfl rfl rfl rfl)) h (fun σ3 h => ?_)
          refine wi_aload_n (pc' := 84) hm230 rfl rfl rfl (by decide) ?_
          refine wi_getR (pc' := 87) (x := 0) hm230 rfl rfl rfl (by omega) ?_
          refine wi_iload_n (pc' := 88) hm230 rfl rfl rfl ?_
          obtain ⟨g1, h⟩ := h
          refine wi_iaload (pc' := 89) hm230 rfl rfl rfl rfl (N := 60) rfl g1 ?_
          exact wi_iret hm230 rfl h
        · replace h := h.2 hc
          refine wi_aload_n (pc' := 60) hm230 rfl rfl rfl (by decide) ?_
          refine wi_iload_n (pc' := 61) hm230 rfl rfl rfl ?_
          refine wi_iconst (pc' := 62) (v := 5) hm230 rfl rfl rfl ?_
          refine wc_I (pc' := 65) (by decide) rfl (by decide) ((fx_wE hm230 rfl).trans (fx_exV (mj := 151) (as := [(0, x1), (0, 5)]) (rest := []) rfl rk151 rfl rfl rfl rfl rfl)) h (fun y3 σ4 h => ?_)
          refine wi_iconst (pc' := 66) (v := 1) hm230 rfl rfl rfl ?_
          refine wi_ic_ne (pc' := 69) (t := 73) hm230 rfl rfl rfl (fun hc => ?_) (fun hc => ?_)
          · replace h := h.1 hc
            refine wi_aload_n (pc' := 74) hm230 rfl rfl rfl (by decide) ?_
            refine wi_iload_n (pc' := 75) hm230 rfl rfl rfl ?_
            refine wc_I (pc' := 78) (by decide) rfl (by decide) ((fx_wE hm230 rfl).trans (fx_exV (mj := 229) (as := [(0, x1)]) (rest := []) rfl rk229 rfl rfl rfl rfl rfl)) h (fun y4 σ5 h => ?_)
            exact wi_iret hm230 rfl h
          · replace h := h.2 hc
            refine wi_iconst (pc' := 70) (v := (-1)) hm230 rfl rfl rfl ?_
            refine wi_goto (t := 78) hm230 rfl rfl ?_
            exact wi_iret hm230 rfl h
      · replace h := h.2 hc
        refine wi_aload_n (pc' := 47) hm230 rfl rfl rfl (by decide) ?_
        refine wi_iload_n (pc' := 48) hm230 rfl rfl rfl ?_
        refine wi_iload_n (pc' := 49) hm230 rfl rfl rfl ?_
        refine wc_I (pc' := 52) (by decide) rfl (by decide) ((fx_wE hm230 rfl).trans (fx_exV (mj := 151) (as := [(0, x1), (0, x2)]) (rest := []) rfl rk151 rfl rfl rfl rfl rfl)) h (fun y5 σ6 h => ?_)
        exact wi_iret hm230 rfl h
    · replace h := h.2 hc
      refine wi_iconst (pc' := 24) (v := 2) hm230 rfl rfl rfl ?_
      refine wi_goto (t := 28) hm230 rfl rfl ?_
      refine wi_putI (pc' := 31) hm230 rfl rfl (P := 0) rfl ?_
      refine wi_aload_n (pc' := 32) hm230 rfl rfl rfl (by decide) ?_
      refine wi_getIe (pc' := 35) hm230 rfl rfl (P := 0) rfl (x := 2) fx_upS ?_
      refine wi_if_le (pc' := 38) (t := 40) hm230 rfl rfl rfl (fun hc => absurd hc (by decide)) (fun _ => ?_)
      refine wi_iconst (pc' := 39) (v := 0) hm230 rfl rfl rfl ?_
      exact wi_iret hm230 rfl h
  · replace h := h.2 hc
    refine wi_iconst (pc' := 10) (v := 1) hm230 rfl rfl rfl ?_
    refine wi_goto (t := 28) hm230 rfl rfl ?_
    refine wi_putI (pc' := 31) hm230 rfl rfl (P := 0) rfl ?_
    refine wi_aload_n (pc' := 32) hm230 rfl rfl rfl (by decide) ?_
    refine wi_getIe (pc' := 35) hm230 rfl rfl (P := 0) rfl (x := 1) fx_upS ?_
    refine wi_if_le (pc' := 38) (t := 40) hm230 rfl rfl rfl (fun hc => absurd hc (by decide)) (fun _ => ?_)
    refine wi_iconst (pc' := 39) (v := 0) hm230 rfl rfl rfl ?_
    exact wi_iret hm230 rfl h
theorem hm231 : fx_code 231 = fx_c231 := rfl
theorem t231_0 {x0 x1 x2 x3 : Int} {σ : fx_S} {Q : fx_V → fx_S → Prop} (h : ((x2 < x1 → ((x0 < x3 → ((x3 ≤ x1 → ((x1 ≠ x3 → ((x2 ≤ x0 → ((x0 ≠ x2 → (fx_rg (8 + 2)) ∧ Q (0, (8 + 2)) σ) ∧ (x0 = x2 → (fx_rg (5 + 2)) ∧ Q (0, (5 + 2)) σ))) ∧ (x0 < x2 → (fx_rg (2 + 2)) ∧ Q (0, (2 + 2)) σ))) ∧ (x1 = x3 → ((x2 ≤ x0 → ((x0 ≠ x2 → (fx_rg (8 + 1)) ∧ Q (0, (8 + 1)) σ) ∧ (x0 = x2 → (fx_rg (5 + 1)) ∧ Q (0, (5 + 1)) σ))) ∧ (x0 < x2 → (fx_rg (2 + 1)) ∧ Q (0, (2 + 1)) σ))))) ∧ (x1 < x3 → ((x2 ≤ x0 → ((x0 ≠ x2 → (fx_rg (8 + 0)) ∧ Q (0, (8 + 0)) σ) ∧ (x0 = x2 → (fx_rg (5 + 0)) ∧ Q (0, (5 + 0)) σ))) ∧ (x0 < x2 → (fx_rg (2 + 0)) ∧ Q (0, (2 + 0)) σ))))) ∧ (x3 ≤ x0 → ((x0 ≠ x3 → Q (0, 12) σ) ∧ (x0 = x3 → Q (0, 11) σ))))) ∧ (x1 ≤ x2 → ((x2 ≤ x1 → Q (0, 1) σ) ∧ (x1 < x2 → Q (0, 0) σ))))) : fx_Ca 231 [(0, x0), (0, x1), (0, x2), (0, x3)] σ Q := by
  show fx_Wp 231 0 [(0, x0), (0, x1), (0, x2), (0, x3), (3, 0)] [] σ Q
  refine wi_iload_n (pc' := 1) hm231 rfl rfl rfl ?_
  refine wi_iload_n (pc' := 2) hm231 rfl rfl rfl ?_
  refine wi_ic_gt (pc' := 5) (t := 16) hm231 rfl rfl rfl (fun hc => ?_) (fun hc => ?_)
  · replace h := h.1 hc
    refine wi_iload_n (pc' := 17) hm231 rfl rfl rfl ?_
    refine wi_iload_n (pc' := 18) hm231 rfl rfl rfl ?_
    refine wi_ic_lt (pc' := 21) (t := 34) hm231 rfl rfl rfl (fun hc => ?_) (fun hc => ?_)
    · replace h := h.1 hc
      refine wi_iload_n (pc' := 35) hm231 rfl rfl rfl ?_
      refine wi_iload_n (pc' := 36) hm231 rfl rfl rfl ?_
      refine wi_ic_ge (pc' := 39) (t := 43) hm231 rfl rfl rfl (fun hc => ?_) (fun hc => ?_)
      · replace h := h.1 hc
        refine wi_iload_n (pc' := 44) hm231 rfl rfl rfl ?_
        refine wi_iload_n (pc' := 45) hm231 rfl rfl rfl ?_
        refine wi_ic_ne (pc' := 48) (t := 52) hm231 rfl rfl rfl (fun hc => ?_) (fun hc => ?_)
        · replace h := h.1 hc
          refine wi_iconst (pc' := 53) (v := 2) hm231 rfl rfl rfl ?_
          refine wi_istore (pc' := 55) (L' := [(0, x0), (0, x1), (0, x2), (0, x3), (0, 2)]) hm231 rfl rfl rfl ?_
          refine wi_iload_n (pc' := 56) hm231 rfl rfl rfl ?_
          refine wi_iload_n (pc' := 57) hm231 rfl rfl rfl ?_
          refine wi_ic_ge (pc' := 60) (t := 64) hm231 rfl rfl rfl (fun hc => ?_) (fun hc => ?_)
          · replace h := h.1 hc
            refine wi_iload_n (pc' := 65) hm231 rfl rfl rfl ?_
            refine wi_iload_n (pc' := 66) hm231 rfl rfl rfl ?_
            refine wi_ic_ne (pc' := 69) (t := 73) hm231 rfl rfl rfl (fun hc => ?_) (fun hc => ?_)
            · replace h := h.1 hc
              refine wi_bipush (pc' := 75) (v := 8) hm231 rfl rfl rfl ?_
              refine wi_iload (pc' := 77) hm231 rfl rfl rfl ?_
              obtain ⟨g1, h⟩ := h
              refine wi_iadd (pc' := 78) hm231 rfl rfl g1 ?_
              exact wi_iret hm231 rfl h
            · replace h := h.2 hc
              refine wi_iconst (pc' := 70) (v := 5) hm231 rfl rfl rfl ?_
              refine wi_goto (t := 75) hm231 rfl rfl ?_
              refine wi_iload (pc' := 77) hm231 rfl rfl rfl ?_
              obtain ⟨g1, h⟩ := h
              refine wi_iadd (pc' := 78) hm231 rfl rfl g1 ?_
              exact wi_iret hm231 rfl h
          · replace h := h.2 hc
            refine wi_iconst (pc' := 61) (v := 2) hm231 rfl rfl rfl ?_
            refine wi_goto (t := 75) hm231 rfl rfl ?_
            refine wi_iload (pc' := 77) hm231 rfl rfl rfl ?_
            obtain ⟨g1, h⟩ := h
            refine wi_iadd (pc' := 78) hm231 rfl rfl g1 ?_
            exact wi_iret hm231 rfl h
        · replace h := h.2 hc
          refine wi_iconst (pc' := 49) (v := 1) hm231 rfl rfl rfl ?_
          refine wi_goto (t := 53) hm231 rfl rfl ?_
          refine wi_istore (pc' := 55) (L' := [(0, x0), (0, x1), (0, x2), (0, x3), (0, 1)]) hm231 rfl rfl rfl ?_
          refine wi_iload_n (pc' := 56) hm231 rfl rfl rfl ?_
          refine wi_iload_n (pc' := 57) hm231 rfl rfl rfl ?_
          refine wi_ic_ge (pc' := 60) (t := 64) hm231 rfl rfl rfl (fun hc => ?_) (fun hc => ?_)
          · replace h := h.1 hc
            refine wi_iload_n (pc' := 65) hm231 rfl rfl rfl ?_
            refine wi_iload_n (pc' := 66) hm231 rfl rfl rfl ?_
            refine wi_ic_ne (pc' := 69) (t := 73) hm231 rfl rfl rfl (fun hc => ?_) (fun hc => ?_)
            · replace h := h.1 hc
              refine wi_bipush (pc' := 75) (v := 8) hm231 rfl rfl rfl ?_
              refine wi_iload (pc' := 77) hm231 rfl rfl rfl ?_
              obtain ⟨g1, h⟩ := h
              refine wi_iadd (pc' := 78) hm231 rfl rfl g1 ?_
              exact wi_iret hm231 rfl h
            · replace h := h.2 hc
              refine wi_iconst (pc' := 70) (v := 5) hm231 rfl rfl rfl ?_
              refine wi_goto (t := 75) hm231 rfl rfl ?_
              refine wi_iload (pc' := 77) hm231 rfl rfl rfl ?_
              obtain ⟨g1, h⟩ := h
              refine wi_iadd (pc' := 78) hm231 rfl rfl g1 ?_
              exact wi_iret hm231 rfl h
          · replace h := h.2 hc
            refine wi_iconst (pc' := 61) (v := 2) hm231 rfl rfl rfl ?_
            refine wi_goto (t := 75) hm231 rfl rfl ?_
            refine wi_iload (pc' := 77) hm231 rfl rfl rfl ?_
            obtain ⟨g1, h⟩ := h
            refine wi_iadd (pc' := 78) hm231 rfl rfl g1 ?_
            exact wi_iret hm231 rfl h
      · replace h := h.2 hc
        refine wi_iconst (pc' := 40) (v := 0) hm231 rfl rfl rfl ?_
        refine wi_goto (t := 53) hm231 rfl rfl ?_
        refine wi_istore (pc' := 55) (L' := [(0, x0), (0, x1), (0, x2), (0, x3), (0, 0)]) hm231 rfl rfl rfl ?_
        refine wi_iload_n (pc' := 56) hm231 rfl rfl rfl ?_
        refine wi_iload_n (pc' := 57) hm231 rfl rfl rfl ?_
        refine wi_ic_ge (pc' := 60) (t := 64) hm231 rfl rfl rfl (fun hc => ?_) (fun hc => ?_)
        · replace h := h.1 hc
          refine wi_iload_n (pc' := 65) hm231 rfl rfl rfl ?_
          refine wi_iload_n (pc' := 66) hm231 rfl rfl rfl ?_
          refine wi_ic_ne (pc' := 69) (t := 73) hm231 rfl rfl rfl (fun hc => ?_) (fun hc => ?_)
          · replace h := h.1 hc
            refine wi_bipush (pc' := 75) (v := 8) hm231 rfl rfl rfl ?_
            refine wi_iload (pc' := 77) hm231 rfl rfl rfl ?_
            obtain ⟨g1, h⟩ := h
            refine wi_iadd (pc' := 78) hm231 rfl rfl g1 ?_
            exact wi_iret hm231 rfl h
          · replace h := h.2 hc
            refine wi_iconst (pc' := 70) (v := 5) hm231 rfl rfl rfl ?_
            refine wi_goto (t := 75) hm231 rfl rfl ?_
            refine wi_iload (pc' := 77) hm231 rfl rfl rfl ?_
            obtain ⟨g1, h⟩ := h
            refine wi_iadd (pc' := 78) hm231 rfl rfl g1 ?_
            exact wi_iret hm231 rfl h
        · replace h := h.2 hc
          refine wi_iconst (pc' := 61) (v := 2) hm231 rfl rfl rfl ?_
          refine wi_goto (t := 75) hm231 rfl rfl ?_
          refine wi_iload (pc' := 77) hm231 rfl rfl rfl ?_
          obtain ⟨g1, h⟩ := h
          refine wi_iadd (pc' := 78) hm231 rfl rfl g1 ?_
          exact wi_iret hm231 rfl h
    · replace h := h.2 hc
      refine wi_iload_n (pc' := 22) hm231 rfl rfl rfl ?_
      refine wi_iload_n (pc' := 23) hm231 rfl rfl rfl ?_
      refine wi_ic_ne (pc' := 26) (t := 31) hm231 rfl rfl rfl (fun hc => ?_) (fun hc => ?_)
      · replace h := h.1 hc
        refine wi_bipush (pc' := 33) (v := 12) hm231 rfl rfl rfl ?_
        exact wi_iret hm231 rfl h
      · replace h := h.2 hc
        refine wi_bipush (pc' := 28) (v := 11) hm231 rfl rfl rfl ?_
        refine wi_goto (t := 33) hm231 rfl rfl ?_
        exact wi_iret hm231 rfl h
  · replace h := h.2 hc
    refine wi_iload_n (pc' := 6) hm231 rfl rfl rfl ?_
    refine wi_iload_n (pc' := 7) hm231 rfl rfl rfl ?_
    refine wi_ic_ge (pc' := 10) (t := 14) hm231 rfl rfl rfl (fun hc => ?_) (fun hc => ?_)
    · replace h := h.1 hc
      refine wi_iconst (pc' := 15) (v := 1) hm231 rfl rfl rfl ?_
      exact wi_iret hm231 rfl h
    · replace h := h.2 hc
      refine wi_iconst (pc' := 11) (v := 0) hm231 rfl rfl rfl ?_
      refine wi_goto (t := 15) hm231 rfl rfl ?_
      exact wi_iret hm231 rfl h
theorem hm232 : fx_code 232 = fx_c232 := rfl
theorem t232_0 {o0 x1 x2 : Int} {σ : fx_S} {Q : fx_V → fx_S → Prop} (h : fx_CI 153 [(46, o0), (0, x1)] σ Q (fun y1 σ1 => ((y1 = 0 → Q (0, 0) (fx_up σ1 46 o0 0 1)) ∧ (y1 ≠ 0 → fx_CI 153 [(46, o0), (0, x2)] σ1 Q (fun y2 σ2 => ((y2 ≠ 0 → ((x1 ≠ x2 → fx_CI 151 [(46, o0), (0, x1), (0, 2)] (fx_up σ2 46 o0 0 0) Q (fun y3 σ3 => fx_CI 151 [(46, o0), (0, x1), (0, 3)] σ3 Q (fun y4 σ4 => fx_CI 151 [(46, o0), (0, x2), (0, 2)] σ4 Q (fun y5 σ5 => fx_CI 151 [(46, o0), (0, x2), (0, 3)] σ5 Q (fun y6 σ6 => fx_CI 231 [(0, y3), (0, y4), (0, y5), (0, y6)] σ6 Q (fun y7 σ7 => Q (0, y7) σ7)))))) ∧ (x1 = x2 → Q (0, 0) (fx_up σ2 46 o0 0 2)))) ∧ (y2 = 0 → Q (0, 0) (fx_up σ2 46 o0 0 1)))))))) : fx_Ca 232 [(46, o0), (0, x1), (0, x2)] σ Q := by
  show fx_Wp 232 0 [(46, o0), (0, x1), (0, x2)] [] σ Q
  refine wi_aload_n (pc' := 1) hm232 rfl rfl rfl (by decide) ?_
  refine wi_aload_n (pc' := 2) hm232 rfl rfl rfl (by decide) ?_
  refine wi_iload_n (pc' := 3) hm232 rfl rfl rfl ?_
  refine wc_I (pc' := 6) (by decide) rfl (by decide) ((fx_wE hm232 rfl).trans (fx_exV (mj := 153) (as := [(0, x1)]) (rest := [(46, o0)]) rfl rk153 rfl rfl rfl rfl rfl)) h (fun y1 σ1 h => ?_)
  refine wi_if_eq (pc' := 9) (t := 17) hm232 rfl rfl rfl (fun hc => ?_) (fun hc => ?_)
  · replace h := h.1 hc
    refine wi_iconst (pc' := 18) (v := 1) hm232 rfl rfl rfl ?_
    refine wi_goto (t := 31) hm232 rfl rfl ?_
    refine wi_putI (pc' := 34) hm232 rfl rfl (P := 0) rfl ?_
    refine wi_aload_n (pc' := 35) hm232 rfl rfl rfl (by decide) ?_
    refine wi_getIe (pc' := 38) hm232 rfl rfl (P := 0) rfl (x := 1) fx_upS ?_
    refine wi_if_le (pc' := 41) (t := 43) hm232 rfl rfl rfl (fun hc => absurd hc (by decide)) (fun _ => ?_)
    refine wi_iconst (pc' := 42) (v := 0) hm232 rfl rfl rfl ?_
    exact wi_iret hm232 rfl h
  · replace h := h.2 hc
    refine wi_aload_n (pc' := 10) hm232 rfl rfl rfl (by decide) ?_
    refine wi_iload_n (pc' := 11) hm232 rfl rfl rfl ?_
    refine wc_I (pc' := 14) (by decide) rfl (by decide) ((fx_wE hm232 rfl).trans (fx_exV (mj := 153) (as := [(0, x2)]) (rest := [(46, o0)]) rfl rk153 rfl rfl rfl rfl rfl)) h (fun y2 σ2 h => ?_)
    refine wi_if_ne (pc' := 17) (t := 21) hm232 rfl rfl rfl (fun hc => ?_) (fun hc => ?_)
    · replace h := h.1 hc
      refine wi_iload_n (pc' := 22) hm232 rfl rfl rfl ?_
      refine wi_iload_n (pc' := 23) hm232 rfl rfl rfl ?_
      refine wi_ic_ne (pc' := 26) (t := 30) hm232 rfl rfl rfl (fun hc => ?_) (fun hc => ?_)
      · replace h := h.1 hc
        refine wi_iconst (pc' := 31) (v := 0) hm232 rfl rfl rfl ?_
        refine wi_putI (pc' := 34) hm232 rfl rfl (P := 0) rfl ?_
        refine wi_aload_n (pc' := 35) hm232 rfl rfl rfl (by decide) ?_
        refine wi_getIe (pc' := 38) hm232 rfl rfl (P := 0) rfl (x := 0) fx_upS ?_
        refine wi_if_le (pc' := 41) (t := 43) hm232 rfl rfl rfl (fun _ => ?_) (fun hc => absurd hc (by decide))
        refine wi_aload_n (pc' := 44) hm232 rfl rfl rfl (by decide) ?_
        refine wi_iload_n (pc' := 45) hm232 rfl rfl rfl ?_
        refine wi_iconst (pc' := 46) (v := 2) hm232 rfl rfl rfl ?_
        refine wc_I (pc' := 49) (by decide) rfl (by decide) ((fx_wE hm232 rfl).trans (fx_exV (mj := 151) (as := [(0, x1), (0, 2)]) (rest := []) rfl rk151 rfl rfl rfl rfl rfl)) h (fun y3 σ3 h => ?_)
        refine wi_aload_n (pc' := 50) hm232 rfl rfl rfl (by decide) ?_
        refine wi_iload_n (pc' := 51) hm232 rfl rfl rfl ?_
        refine wi_iconst (pc' := 52) (v := 3) hm232 rfl rfl rfl ?_
        refine wc_I (pc' := 55) (by decide) rfl (by decide) ((fx_wE hm232 rfl).trans (fx_exV (mj := 151) (as := [(0, x1), (0, 3)]) (rest := [(0, y3)]) rfl rk151 rfl rfl rfl rfl rfl)) h (fun y4 σ4 h => ?_)
        refine wi_aload_n (pc' := 56) hm232 rfl rfl rfl (by decide) ?_
        refine wi_iload_n (pc' := 57) hm232 rfl rfl rfl ?_
        refine wi_iconst (pc' := 58) (v := 2) hm232 rfl rfl rfl ?_
        refine wc_I (pc' := 61) (by decide) rfl (by decide) ((fx_wE hm232 rfl).trans (fx_exV (mj := 151) (as := [(0, x2), (0, 2)]) (rest := [(0, y4), (0, y3)]) rfl rk151 rfl rfl rfl rfl rfl)) h (fun y5 σ5 h => ?_)
        refine wi_aload_n (pc' := 62) hm232 rfl rfl rfl (by decide) ?_
        refine wi_iload_n (pc' := 63) hm232 rfl rfl rfl ?_
        refine wi_iconst (pc' := 64) (v := 3) hm232 rfl rfl rfl ?_
        refine wc_I (pc' := 67) (by decide) rfl (by decide) ((fx_wE hm232 rfl).trans (fx_exV (mj := 151) (as := [(0, x2), (0, 3)]) (rest := [(0, y5), (0, y4), (0, y3)]) rfl rk151 rfl rfl rfl rfl rfl)) h (fun y6 σ6 h => ?_)
        refine wc_I (pc' := 70) (by decide) rfl (by decide) ((fx_wE hm232 rfl).trans (fx_exS (mj := 231) (as := [(0, y3), (0, y4), (0, y5), (0, y6)]) (rest := []) rfl rk231 rfl rfl rfl rfl)) h (fun y7 σ7 h => ?_)
        exact wi_iret hm232 rfl h
      · replace h := h.2 hc
        refine wi_iconst (pc' := 27) (v := 2) hm232 rfl rfl rfl ?_
        refine wi_goto (t := 31) hm232 rfl rfl ?_
        refine wi_putI (pc' := 34) hm232 rfl rfl (P := 0) rfl ?_
        refine wi_aload_n (pc' := 35) hm232 rfl rfl rfl (by decide) ?_
        refine wi_getIe (pc' := 38) hm232 rfl rfl (P := 0) rfl (x := 2) fx_upS ?_
        refine wi_if_le (pc' := 41) (t := 43) hm232 rfl rfl rfl (fun hc => absurd hc (by decide)) (fun _ => ?_)
        refine wi_iconst (pc' := 42) (v := 0) hm232 rfl rfl rfl ?_
        exact wi_iret hm232 rfl h
    · replace h := h.2 hc
      refine wi_iconst (pc' := 18) (v := 1) hm232 rfl rfl rfl ?_
      refine wi_goto (t := 31) hm232 rfl rfl ?_
      refine wi_putI (pc' := 34) hm232 rfl rfl (P := 0) rfl ?_
      refine wi_aload_n (pc' := 35) hm232 rfl rfl rfl (by decide) ?_
      refine wi_getIe (pc' := 38) hm232 rfl rfl (P := 0) rfl (x := 1) fx_upS ?_
      refine wi_if_le (pc' := 41) (t := 43) hm232 rfl rfl rfl (fun hc => absurd hc (by decide)) (fun _ => ?_)
      refine wi_iconst (pc' := 42) (v := 0) hm232 rfl rfl rfl ?_
      exact wi_iret hm232 rfl h
theorem hm233 : fx_code 233 = fx_c233 := rfl
theorem t233_0 {o0 x1 : Int} {σ : fx_S} {Q : fx_V → fx_S → Prop} (h : fx_CV 167 [(46, o0)] σ Q (fun σ1 => fx_Wp 233 8 [(46, o0), (0, x1), (0, 0), (0, 0)] [] σ1 Q)) : fx_Ca 233 [(46, o0), (0, x1)] σ Q := by
  show fx_Wp 233 0 [(46, o0), (0, x1), (3, 0), (3, 0)] [] σ Q
  refine wi_iconst (pc' := 1) (v := 0) hm233 rfl rfl rfl ?_
  refine wi_istore_n (pc' := 2) (L' := [(46, o0), (0, x1), (0, 0), (3, 0)]) hm233 rfl rfl rfl ?_
  refine wi_aload_n (pc' := 3) hm233 rfl rfl rfl (by decide) ?_
  refine wc_V (pc' := 6) (by decide) rfl (by decide) ((fx_wE hm233 rfl).trans (fx_exV (mj := 167) (as := []) (rest := []) rfl rk167 rfl rfl rfl rfl rfl)) h (fun σ1 h => ?_)
  refine wi_iconst (pc' := 7) (v := 0) hm233 rfl rfl rfl ?_
  refine wi_istore_n (pc' := 8) (L' := [(46, o0), (0, x1), (0, 0), (0, 0)]) hm233 rfl rfl rfl ?_
  exact h
theorem t233_8 {o0 x1 x2 x3 : Int} {σ : fx_S} {Q : fx_V → fx_S → Prop} (h : (((σ 47 0 1) ≤ x3 → Q (0, x2) σ) ∧ (x3 < (σ 47 0 1) → fx_CI 151 [(46, o0), (0, x3), (0, 1)] σ Q (fun y1 σ1 => ((y1 ≠ x1 → (fx_rg (x2 + 0)) ∧ (fx_rg (x3 + 1)) ∧ fx_Wp 233 8 [(46, o0), (0, x1), (0, (x2 + 0)), (0, (x3 + 1))] [] σ1 Q) ∧ (y1 = x1 → (0 ≤ x3 ∧ x3 < 60) ∧ (fx_rg (x2 + (σ1 58 0 x3))) ∧ (fx_rg (x3 + 1)) ∧ fx_Wp 233 8 [(46, o0), (0, x1), (0, (x2 + (σ1 58 0 x3))), (0, (x3 + 1))] [] σ1 Q)))))) : fx_Wp 233 8 [(46, o0), (0, x1), (0, x2), (0, x3)] [] σ Q := by
  refine wi_iload_n (pc' := 9) hm233 rfl rfl rfl ?_
  refine wi_aload_n (pc' := 10) hm233 rfl rfl rfl (by decide) ?_
  refine wi_getR (pc' := 13) (x := 0) hm233 rfl rfl rfl (by omega) ?_
  refine wi_iconst (pc' := 14) (v := 1) hm233 rfl rfl rfl ?_
  refine wi_iaload (pc' := 15) hm233 rfl rfl rfl rfl (N := 1130) rfl (by decide) ?_
  refine wi_ic_ge (pc' := 18) (t := 47) hm233 rfl rfl rfl (fun hc => ?_) (fun hc => ?_)
  · replace h := h.1 hc
    refine wi_iload_n (pc' := 48) hm233 rfl rfl rfl ?_
    exact wi_iret hm233 rfl h
  · replace h := h.2 hc
    refine wi_iload_n (pc' := 19) hm233 rfl rfl rfl ?_
    refine wi_aload_n (pc' := 20) hm233 rfl rfl rfl (by decide) ?_
    refine wi_iload_n (pc' := 21) hm233 rfl rfl rfl ?_
    refine wi_iconst (pc' := 22) (v := 1) hm233 rfl rfl rfl ?_
    refine wc_I (pc' := 25) (by decide) rfl (by decide) ((fx_wE hm233 rfl).trans (fx_exV (mj := 151) (as := [(0, x3), (0, 1)]) (rest := [(0, x2)]) rfl rk151 rfl rfl rfl rfl rfl)) h (fun y1 σ1 h => ?_)
    refine wi_iload_n (pc' := 26) hm233 rfl rfl rfl ?_
    refine wi_ic_ne (pc' := 29) (t := 38) hm233 rfl rfl rfl (fun hc => ?_) (fun hc => ?_)
    · replace h := h.1 hc
      refine wi_iconst (pc' := 39) (v := 0) hm233 rfl rfl rfl ?_
      obtain ⟨g1, h⟩ := h
      refine wi_iadd (pc' := 40) hm233 rfl rfl g1 ?_
      refine wi_istore_n (pc' := 41) (L' := [(46, o0), (0, x1), (0, (x2 + 0)), (0, x3)]) hm233 rfl rfl rfl ?_
      obtain ⟨g2, h⟩ := h
      refine wi_iinc (pc' := 44) (L' := [(46, o0), (0, x1), (0, (x2 + 0)), (0, (x3 + 1))]) hm233 rfl rfl rfl g2 rfl ?_
      refine wi_goto (t := 8) hm233 rfl rfl ?_
      exact h
    · replace h := h.2 hc
      refine wi_aload_n (pc' := 30) hm233 rfl rfl rfl (by decide) ?_
      refine wi_getR (pc' := 33) (x := 0) hm233 rfl rfl rfl (by omega) ?_
      refine wi_iload_n (pc' := 34) hm233 rfl rfl rfl ?_
      obtain ⟨g1, h⟩ := h
      refine wi_iaload (pc' := 35) hm233 rfl rfl rfl rfl (N := 60) rfl g1 ?_
      refine wi_goto (t := 39) hm233 rfl rfl ?_
      obtain ⟨g2, h⟩ := h
      refine wi_iadd (pc' := 40) hm233 rfl rfl g2 ?_
      refine wi_istore_n (pc' := 41) (L' := [(46, o0), (0, x1), (0, (x2 + (σ1 58 0 x3))), (0, x3)]) hm233 rfl rfl rfl ?_
      obtain ⟨g3, h⟩ := h
      refine wi_iinc (pc' := 44) (L' := [(46, o0), (0, x1), (0, (x2 + (σ1 58 0 x3))), (0, (x3 + 1))]) hm233 rfl rfl rfl g3 rfl ?_
      refine wi_goto (t := 8) hm233 rfl rfl ?_
      exact h
theorem hm234 : fx_code 234 = fx_c234 := rfl
theorem t234_0 {o0 x1 x2 : Int} {σ : fx_S} {Q : fx_V → fx_S → Prop} (h : fx_CI 152 [(46, o0), (0, x1)] σ Q (fun y1 σ1 => ((y1 ≠ 0 → fx_CI 149 [(0, x2), (0, 0), (0, 3)] σ1 Q (fun y2 σ2 => ((y2 ≠ 0 → ((x2 = 0 → (fx_rg (2 + x1)) ∧ (0 ≤ (2 + x1) ∧ (2 + x1) < 1130) ∧ Q (0, (σ2 47 0 (2 + x1))) (fx_up σ2 46 o0 0 0)) ∧ (x2 ≠ 0 → ((x2 = 1 → (fx_rg (10 + x1)) ∧ (0 ≤ (10 + x1) ∧ (10 + x1) < 1130) ∧ Q (0, (σ2 47 0 (10 + x1))) (fx_up σ2 46 o0 0 0)) ∧ (x2 ≠ 1 → ((x2 = 2 → fx_CI 209 [(46, o0), (0, 1), (0, x1)] (fx_up σ2 46 o0 0 0) Q (fun y3 σ3 => Q (0, y3) σ3)) ∧ (x2 ≠ 2 → fx_CI 233 [(46, o0), (0, x1)] (fx_up σ2 46 o0 0 0) Q (fun y4 σ4 => Q (0, y4) σ4)))))))) ∧ (y2 = 0 → Q (0, 0) (fx_up σ2 46 o0 0 2))))) ∧ (y1 = 0 → Q (0, 0) (fx_up σ1 46 o0 0 1))))) : fx_Ca 234 [(46, o0), (0, x1), (0, x2)] σ Q := by
  show fx_Wp 234 0 [(46, o0), (0, x1), (0, x2)] [] σ Q
  refine wi_aload_n (pc' := 1) hm234 rfl rfl rfl (by decide) ?_
  refine wi_aload_n (pc' := 2) hm234 rfl rfl rfl (by decide) ?_
  refine wi_iload_n (pc' := 3) hm234 rfl rfl rfl ?_
  refine wc_I (pc' := 6) (by decide) rfl (by decide) ((fx_wE hm234 rfl).trans (fx_exV (mj := 152) (as := [(0, x1)]) (rest := [(46, o0)]) rfl rk152 rfl rfl rfl rfl rfl)) h (fun y1 σ1 h => ?_)
  refine wi_if_ne (pc' := 9) (t := 13) hm234 rfl rfl rfl (fun hc => ?_) (fun hc => ?_)
  · replace h := h.1 hc
    refine wi_iload_n (pc' := 14) hm234 rfl rfl rfl ?_
    refine wi_iconst (pc' := 15) (v := 0) hm234 rfl rfl rfl ?_
    refine wi_iconst (pc' := 16) (v := 3) hm234 rfl rfl rfl ?_
    refine wc_I (pc' := 19) (by decide) rfl (by decide) ((fx_wE hm234 rfl).trans (fx_exS (mj := 149) (as := [(0, x2), (0, 0), (0, 3)]) (rest := [(46, o0)]) rfl rk149 rfl rfl rfl rfl)) h (fun y2 σ2 h => ?_)
    refine wi_if_ne (pc' := 22) (t := 26) hm234 rfl rfl rfl (fun hc => ?_) (fun hc => ?_)
    · replace h := h.1 hc
      refine wi_iconst (pc' := 27) (v := 0) hm234 rfl rfl rfl ?_
      refine wi_putI (pc' := 30) hm234 rfl rfl (P := 0) rfl ?_
      refine wi_aload_n (pc' := 31) hm234 rfl rfl rfl (by decide) ?_
      refine wi_getIe (pc' := 34) hm234 rfl rfl (P := 0) rfl (x := 0) fx_upS ?_
      refine wi_if_le (pc' := 37) (t := 39) hm234 rfl rfl rfl (fun _ => ?_) (fun hc => absurd hc (by decide))
      refine wi_iload_n (pc' := 40) hm234 rfl rfl rfl ?_
      refine wi_tsw hm234 rfl ?_
      refine fx_swc (fun hc => ?_) (fun hc => ?_)
      · replace h := h.1 hc
        refine wi_aload_n (pc' := 69) hm234 rfl rfl rfl (by decide) ?_
        refine wi_getR (pc' := 72) (x := 0) hm234 rfl rfl rfl (by omega) ?_
        refine wi_iconst (pc' := 73) (v := 2) hm234 rfl rfl rfl ?_
        refine wi_iload_n (pc' := 74) hm234 rfl rfl rfl ?_
        obtain ⟨g1, h⟩ := h
        refine wi_iadd (pc' := 75) hm234 rfl rfl g1 ?_
        obtain ⟨g2, h⟩ := h
        refine wi_ialoade (pc' := 76) hm234 rfl rfl rfl rfl (N := 1130) rfl g2 (x := (σ2 47 0 (2 + x1))) (Eq.trans (fx_upK rfl) rfl) ?_
        exact wi_iret hm234 rfl h
      · replace h := h.2 hc
        refine fx_swc (fun hc => ?_) (fun hc => ?_)
        · replace h := h.1 hc
          refine wi_aload_n (pc' := 78) hm234 rfl rfl rfl (by decide) ?_
          refine wi_getR (pc' := 81) (x := 0) hm234 rfl rfl rfl (by omega) ?_
          refine wi_bipush (pc' := 83) (v := 10) hm234 rfl rfl rfl ?_
          refine wi_iload_n (pc' := 84) hm234 rfl rfl rfl ?_
          obtain ⟨g1, h⟩ := h
          refine wi_iadd (pc' := 85) hm234 rfl rfl g1 ?_
          obtain ⟨g2, h⟩ := h
          refine wi_ialoade (pc' := 86) hm234 rfl rfl rfl rfl (N := 1130) rfl g2 (x := (σ2 47 0 (10 + x1))) (Eq.trans (fx_upK rfl) rfl) ?_
          exact wi_iret hm234 rfl h
        · replace h := h.2 hc
          refine fx_swc (fun hc => ?_) (fun hc => ?_)
          · replace h := h.1 hc
            refine wi_aload_n (pc' := 88) hm234 rfl rfl rfl (by decide) ?_
            refine wi_iconst (pc' := 89) (v := 1) hm234 rfl rfl rfl ?_
            refine wi_iload_n (pc' := 90) hm234 rfl rfl rfl ?_
            refine wc_I (pc' := 93) (by decide) rfl (by decide) ((fx_wE hm234 rfl).trans (fx_exV (mj := 209) (as := [(0, 1), (0, x1)]) (rest := []) rfl rk209 rfl rfl rfl rfl rfl)) h (fun y3 σ3 h => ?_)
            exact wi_iret hm234 rfl h
          · replace h := h.2 hc
            refine fx_swn ?_
            refine wi_aload_n (pc' := 95) hm234 rfl rfl rfl (by decide) ?_
            refine wi_iload_n (pc' := 96) hm234 rfl rfl rfl ?_
            refine wc_I (pc' := 99) (by decide) rfl (by decide) ((fx_wE hm234 rfl).trans (fx_exV (mj := 233) (as := [(0, x1)]) (rest := []) rfl rk233 rfl rfl rfl rfl rfl)) h (fun y4 σ4 h => ?_)
            exact wi_iret hm234 rfl h
    · replace h := h.2 hc
      refine wi_iconst (pc' := 23) (v := 2) hm234 rfl rfl rfl ?_
      refine wi_goto (t := 27) hm234 rfl rfl ?_
      refine wi_putI (pc' := 30) hm234 rfl rfl (P := 0) rfl ?_
      refine wi_aload_n (pc' := 31) hm234 rfl rfl rfl (by decide) ?_
      refine wi_getIe (pc' := 34) hm234 rfl rfl (P := 0) rfl (x := 2) fx_upS ?_
      refine wi_if_le (pc' := 37) (t := 39) hm234 rfl rfl rfl (fun hc => absurd hc (by decide)) (fun _ => ?_)
      refine wi_iconst (pc' := 38) (v := 0) hm234 rfl rfl rfl ?_
      exact wi_iret hm234 rfl h
  · replace h := h.2 hc
    refine wi_iconst (pc' := 10) (v := 1) hm234 rfl rfl rfl ?_
    refine wi_goto (t := 27) hm234 rfl rfl ?_
    refine wi_putI (pc' := 30) hm234 rfl rfl (P := 0) rfl ?_
    refine wi_aload_n (pc' := 31) hm234 rfl rfl rfl (by decide) ?_
    refine wi_getIe (pc' := 34) hm234 rfl rfl (P := 0) rfl (x := 1) fx_upS ?_
    refine wi_if_le (pc' := 37) (t := 39) hm234 rfl rfl rfl (fun hc => absurd hc (by decide)) (fun _ => ?_)
    refine wi_iconst (pc' := 38) (v := 0) hm234 rfl rfl rfl ?_
    exact wi_iret hm234 rfl h
theorem hm235 : fx_code 235 = fx_c235 := rfl
theorem t235_0 {o0 x1 x2 : Int} {σ : fx_S} {Q : fx_V → fx_S → Prop} (h : fx_CI 152 [(46, o0), (0, x1)] σ Q (fun y1 σ1 => ((y1 = 0 → Q (0, 0) (fx_up σ1 46 o0 0 1)) ∧ (y1 ≠ 0 → fx_CI 152 [(46, o0), (0, x2)] σ1 Q (fun y2 σ2 => ((y2 ≠ 0 → ((x1 ≠ x2 → fx_Wp 235 51 [(46, o0), (0, x1), (0, x2), (0, 0), (0, 0), (0, 0), (3, 0), (3, 0), (3, 0)] [] (fx_up σ2 46 o0 0 0) Q) ∧ (x1 = x2 → Q (0, 0) (fx_up σ2 46 o0 0 2)))) ∧ (y2 = 0 → Q (0, 0) (fx_up σ2 46 o0 0 1)))))))) : fx_Ca 235 [(46, o0), (0, x1), (0, x2)] σ Q := by
  show fx_Wp 235 0 [(46, o0), (0, x1), (0, x2), (3, 0), (3, 0), (3, 0), (3, 0), (3, 0), (3, 0)] [] σ Q
  refine wi_aload_n (pc' := 1) hm235 rfl rfl rfl (by decide) ?_
  refine wi_aload_n (pc' := 2) hm235 rfl rfl rfl (by decide) ?_
  refine wi_iload_n (pc' := 3) hm235 rfl rfl rfl ?_
  refine wc_I (pc' := 6) (by decide) rfl (by decide) ((fx_wE hm235 rfl).trans (fx_exV (mj := 152) (as := [(0, x1)]) (rest := [(46, o0)]) rfl rk152 rfl rfl rfl rfl rfl)) h (fun y1 σ1 h => ?_)
  refine wi_if_eq (pc' := 9) (t := 17) hm235 rfl rfl rfl (fun hc => ?_) (fun hc => ?_)
  · replace h := h.1 hc
    refine wi_iconst (pc' := 18) (v := 1) hm235 rfl rfl rfl ?_
    refine wi_goto (t := 31) hm235 rfl rfl ?_
    refine wi_putI (pc' := 34) hm235 rfl rfl (P := 0) rfl ?_
    refine wi_aload_n (pc' := 35) hm235 rfl rfl rfl (by decide) ?_
    refine wi_getIe (pc' := 38) hm235 rfl rfl (P := 0) rfl (x := 1) fx_upS ?_
    refine wi_if_le (pc' := 41) (t := 43) hm235 rfl rfl rfl (fun hc => absurd hc (by decide)) (fun _ => ?_)
    refine wi_iconst (pc' := 42) (v := 0) hm235 rfl rfl rfl ?_
    exact wi_iret hm235 rfl h
  · replace h := h.2 hc
    refine wi_aload_n (pc' := 10) hm235 rfl rfl rfl (by decide) ?_
    refine wi_iload_n (pc' := 11) hm235 rfl rfl rfl ?_
    refine wc_I (pc' := 14) (by decide) rfl (by decide) ((fx_wE hm235 rfl).trans (fx_exV (mj := 152) (as := [(0, x2)]) (rest := [(46, o0)]) rfl rk152 rfl rfl rfl rfl rfl)) h (fun y2 σ2 h => ?_)
    refine wi_if_ne (pc' := 17) (t := 21) hm235 rfl rfl rfl (fun hc => ?_) (fun hc => ?_)
    · replace h := h.1 hc
      refine wi_iload_n (pc' := 22) hm235 rfl rfl rfl ?_
      refine wi_iload_n (pc' := 23) hm235 rfl rfl rfl ?_
      refine wi_ic_ne (pc' := 26) (t := 30) hm235 rfl rfl rfl (fun hc => ?_) (fun hc => ?_)
      · replace h := h.1 hc
        refine wi_iconst (pc' := 31) (v := 0) hm235 rfl rfl rfl ?_
        refine wi_putI (pc' := 34) hm235 rfl rfl (P := 0) rfl ?_
        refine wi_aload_n (pc' := 35) hm235 rfl rfl rfl (by decide) ?_
        refine wi_getIe (pc' := 38) hm235 rfl rfl (P := 0) rfl (x := 0) fx_upS ?_
        refine wi_if_le (pc' := 41) (t := 43) hm235 rfl rfl rfl (fun _ => ?_) (fun hc => absurd hc (by decide))
        refine wi_iconst (pc' := 44) (v := 0) hm235 rfl rfl rfl ?_
        refine wi_istore_n (pc' := 45) (L' := [(46, o0), (0, x1), (0, x2), (0, 0), (3, 0), (3, 0), (3, 0), (3, 0), (3, 0)]) hm235 rfl rfl rfl ?_
        refine wi_iconst (pc' := 46) (v := 0) hm235 rfl rfl rfl ?_
        refine wi_istore (pc' := 48) (L' := [(46, o0), (0, x1), (0, x2), (0, 0), (0, 0), (3, 0), (3, 0), (3, 0), (3, 0)]) hm235 rfl rfl rfl ?_
        refine wi_iconst (pc' := 49) (v := 0) hm235 rfl rfl rfl ?_
        refine wi_istore (pc' := 51) (L' := [(46, o0), (0, x1), (0, x2), (0, 0), (0, 0), (0, 0), (3, 0), (3, 0), (3, 0)]) hm235 rfl rfl rfl ?_
        exact h
      · replace h := h.2 hc
        refine wi_iconst (pc' := 27) (v := 2) hm235 rfl rfl rfl ?_
        refine wi_goto (t := 31) hm235 rfl rfl ?_
        refine wi_putI (pc' := 34) hm235 rfl rfl (P := 0) rfl ?_
        refine wi_aload_n (pc' := 35) hm235 rfl rfl rfl (by decide) ?_
        refine wi_getIe (pc' := 38) hm235 rfl rfl (P := 0) rfl (x := 2) fx_upS ?_
        refine wi_if_le (pc' := 41) (t := 43) hm235 rfl rfl rfl (fun hc => absurd hc (by decide)) (fun _ => ?_)
        refine wi_iconst (pc' := 42) (v := 0) hm235 rfl rfl rfl ?_
        exact wi_iret hm235 rfl h
    · replace h := h.2 hc
      refine wi_iconst (pc' := 18) (v := 1) hm235 rfl rfl rfl ?_
      refine wi_goto (t := 31) hm235 rfl rfl ?_
      refine wi_putI (pc' := 34) hm235 rfl rfl (P := 0) rfl ?_
      refine wi_aload_n (pc' := 35) hm235 rfl rfl rfl (by decide) ?_
      refine wi_getIe (pc' := 38) hm235 rfl rfl (P := 0) rfl (x := 1) fx_upS ?_
      refine wi_if_le (pc' := 41) (t := 43) hm235 rfl rfl rfl (fun hc => absurd hc (by decide)) (fun _ => ?_)
      refine wi_iconst (pc' := 42) (v := 0) hm235 rfl rfl rfl ?_
      exact wi_iret hm235 rfl h
theorem t235_51 {o0 x1 x2 x3 x4 x5 : Int} {w6 w7 w8 : fx_V} {σ : fx_S} {Q : fx_V → fx_S → Prop} (h : ((1000 ≤ x5 → ((x3 ≠ 0 → (fx_rg (100 * x4)) ∧ (x3 ≠ 0) ∧ Q (0, (fx_div (100 * x4) x3)) σ) ∧ (x3 = 0 → Q (0, 100) σ))) ∧ (x5 < 1000 → fx_Wp 235 62 [(46, o0), (0, x1), (0, x2), (0, x3), (0, x4), (0, x5), (0, 0), w7, w8] [] σ Q))) : fx_Wp 235 51 [(46, o0), (0, x1), (0, x2), (0, x3), (0, x4), (0, x5), w6, w7, w8] [] σ Q := by
  refine wi_iload (pc' := 53) hm235 rfl rfl rfl ?_
  refine wi_sipush (pc' := 56) (v := 1000) hm235 rfl rfl rfl ?_
  refine wi_ic_ge (pc' := 59) (t := 152) hm235 rfl rfl rfl (fun hc => ?_) (fun hc => ?_)
  · replace h := h.1 hc
    refine wi_iload_n (pc' := 153) hm235 rfl rfl rfl ?_
    refine wi_if_ne (pc' := 156) (t := 161) hm235 rfl rfl rfl (fun hc => ?_) (fun hc => ?_)
    · replace h := h.1 hc
      refine wi_bipush (pc' := 163) (v := 100) hm235 rfl rfl rfl ?_
      refine wi_iload (pc' := 165) hm235 rfl rfl rfl ?_
      obtain ⟨g1, h⟩ := h
      refine wi_imul (pc' := 166) hm235 rfl rfl g1 ?_
      refine wi_iload_n (pc' := 167) hm235 rfl rfl rfl ?_
      obtain ⟨g2, h⟩ := h
      refine wi_idiv (pc' := 168) hm235 rfl rfl g2 ?_
      exact wi_iret hm235 rfl h
    · replace h := h.2 hc
      refine wi_bipush (pc' := 158) (v := 100) hm235 rfl rfl rfl ?_
      refine wi_goto (t := 168) hm235 rfl rfl ?_
      exact wi_iret hm235 rfl h
  · replace h := h.2 hc
    refine wi_iconst (pc' := 60) (v := 0) hm235 rfl rfl rfl ?_
    refine wi_istore (pc' := 62) (L' := [(46, o0), (0, x1), (0, x2), (0, x3), (0, x4), (0, x5), (0, 0), w7, w8]) hm235 rfl rfl rfl ?_
    exact h
theorem t235_62 {o0 x1 x2 x3 x4 x5 x6 : Int} {w7 w8 : fx_V} {σ : fx_S} {Q : fx_V → fx_S → Prop} (h : ((8 ≤ x6 → (fx_rg (x5 + 1)) ∧ fx_Wp 235 51 [(46, o0), (0, x1), (0, x2), (0, x3), (0, x4), (0, (x5 + 1)), (0, x6), w7, w8] [] σ Q) ∧ (x6 < 8 → fx_CI 159 [(46, o0), (0, x6), (0, x5), (0, x1)] σ Q (fun y1 σ1 => ((y1 ≠ (-1) → fx_CI 159 [(46, o0), (0, x6), (0, x5), (0, x2)] σ1 Q (fun y2 σ2 => ((y2 ≠ (-1) → (fx_rg (x3 + 1)) ∧ fx_CI 151 [(46, o0), (0, y1), (0, 4)] σ2 Q (fun y3 σ3 => fx_CI 151 [(46, o0), (0, y2), (0, 4)] σ3 Q (fun y4 σ4 => ((y3 ≠ y4 → (fx_rg (x4 + 0)) ∧ (fx_rg (x6 + 1)) ∧ fx_Wp 235 62 [(46, o0), (0, x1), (0, x2), (0, (x3 + 1)), (0, (x4 + 0)), (0, x5), (0, (x6 + 1)), (0, y1), (0, y2)] [] σ4 Q) ∧ (y3 = y4 → (fx_rg (x4 + 1)) ∧ (fx_rg (x6 + 1)) ∧ fx_Wp 235 62 [(46, o0), (0, x1), (0, x2), (0, (x3 + 1)), (0, (x4 + 1)), (0, x5), (0, (x6 + 1)), (0, y1), (0, y2)] [] σ4 Q))))) ∧ (y2 = (-1) → (fx_rg (x6 + 1)) ∧ fx_Wp 235 62 [(46, o0), (0, x1), (0, x2), (0, x3), (0, x4), (0, x5), (0, (x6 + 1)), (0, y1), (0, y2)] [] σ2 Q)))) ∧ (y1 = (-1) → (fx_rg (x6 + 1)) ∧ fx_Wp 235 62 [(46, o0), (0, x1), (0, x2), (0, x3), (0, x4), (0, x5), (0, (x6 + 1)), (0, y1), (0, (-1))] [] σ1 Q)))))) : fx_Wp 235 62 [(46, o0), (0, x1), (0, x2), (0, x3), (0, x4), (0, x5), (0, x6), w7, w8] [] σ Q := by
  refine wi_iload (pc' := 64) hm235 rfl rfl rfl ?_
  refine wi_bipush (pc' := 66) (v := 8) hm235 rfl rfl rfl ?_
  refine wi_ic_ge (pc' := 69) (t := 146) hm235 rfl rfl rfl (fun hc => ?_) (fun hc => ?_)
  · replace h := h.1 hc
    obtain ⟨g1, h⟩ := h
    refine wi_iinc (pc' := 149) (L' := [(46, o0), (0, x1), (0, x2), (0, x3), (0, x4), (0, (x5 + 1)), (0, x6), w7, w8]) hm235 rfl rfl rfl g1 rfl ?_
    refine wi_goto (t := 51) hm235 rfl rfl ?_
    exact h
  · replace h := h.2 hc
    refine wi_aload_n (pc' := 70) hm235 rfl rfl rfl (by decide) ?_
    refine wi_iload (pc' := 72) hm235 rfl rfl rfl ?_
    refine wi_iload (pc' := 74) hm235 rfl rfl rfl ?_
    refine wi_iload_n (pc' := 75) hm235 rfl rfl rfl ?_
    refine wc_I (pc' := 78) (by decide) rfl (by decide) ((fx_wE hm235 rfl).trans (fx_exV (mj := 159) (as := [(0, x6), (0, x5), (0, x1)]) (rest := []) rfl rk159 rfl rfl rfl rfl rfl)) h (fun y1 σ1 h => ?_)
    refine wi_istore (pc' := 80) (L' := [(46, o0), (0, x1), (0, x2), (0, x3), (0, x4), (0, x5), (0, x6), (0, y1), w8]) hm235 rfl rfl rfl ?_
    refine wi_iload (pc' := 82) hm235 rfl rfl rfl ?_
    refine wi_iconst (pc' := 83) (v := (-1)) hm235 rfl rfl rfl ?_
    refine wi_ic_ne (pc' := 86) (t := 90) hm235 rfl rfl rfl (fun hc => ?_) (fun hc => ?_)
    · replace h := h.1 hc
      refine wi_aload_n (pc' := 91) hm235 rfl rfl rfl (by decide) ?_
      refine wi_iload (pc' := 93) hm235 rfl rfl rfl ?_
      refine wi_iload (pc' := 95) hm235 rfl rfl rfl ?_
      refine wi_iload_n (pc' := 96) hm235 rfl rfl rfl ?_
      refine wc_I (pc' := 99) (by decide) rfl (by decide) ((fx_wE hm235 rfl).trans (fx_exV (mj := 159) (as := [(0, x6), (0, x5), (0, x2)]) (rest := []) rfl rk159 rfl rfl rfl rfl rfl)) h (fun y2 σ2 h => ?_)
      refine wi_istore (pc' := 101) (L' := [(46, o0), (0, x1), (0, x2), (0, x3), (0, x4), (0, x5), (0, x6), (0, y1), (0, y2)]) hm235 rfl rfl rfl ?_
      refine wi_iload (pc' := 103) hm235 rfl rfl rfl ?_
      refine wi_iconst (pc' := 104) (v := (-1)) hm235 rfl rfl rfl ?_
      refine wi_ic_ne (pc' := 107) (t := 110) hm235 rfl rfl rfl (fun hc => ?_) (fun hc => ?_)
      · replace h := h.1 hc
        obtain ⟨g1, h⟩ := h
        refine wi_iinc (pc' := 113) (L' := [(46, o0), (0, x1), (0, x2), (0, (x3 + 1)), (0, x4), (0, x5), (0, x6), (0, y1), (0, y2)]) hm235 rfl rfl rfl g1 rfl ?_
        refine wi_iload (pc' := 115) hm235 rfl rfl rfl ?_
        refine wi_aload_n (pc' := 116) hm235 rfl rfl rfl (by decide) ?_
        refine wi_iload (pc' := 118) hm235 rfl rfl rfl ?_
        refine wi_iconst (pc' := 119) (v := 4) hm235 rfl rfl rfl ?_
        refine wc_I (pc' := 122) (by decide) rfl (by decide) ((fx_wE hm235 rfl).trans (fx_exV (mj := 151) (as := [(0, y1), (0, 4)]) (rest := [(0, x4)]) rfl rk151 rfl rfl rfl rfl rfl)) h (fun y3 σ3 h => ?_)
        refine wi_aload_n (pc' := 123) hm235 rfl rfl rfl (by decide) ?_
        refine wi_iload (pc' := 125) hm235 rfl rfl rfl ?_
        refine wi_iconst (pc' := 126) (v := 4) hm235 rfl rfl rfl ?_
        refine wc_I (pc' := 129) (by decide) rfl (by decide) ((fx_wE hm235 rfl).trans (fx_exV (mj := 151) (as := [(0, y2), (0, 4)]) (rest := [(0, y3), (0, x4)]) rfl rk151 rfl rfl rfl rfl rfl)) h (fun y4 σ4 h => ?_)
        refine wi_ic_ne (pc' := 132) (t := 136) hm235 rfl rfl rfl (fun hc => ?_) (fun hc => ?_)
        · replace h := h.1 hc
          refine wi_iconst (pc' := 137) (v := 0) hm235 rfl rfl rfl ?_
          obtain ⟨g2, h⟩ := h
          refine wi_iadd (pc' := 138) hm235 rfl rfl g2 ?_
          refine wi_istore (pc' := 140) (L' := [(46, o0), (0, x1), (0, x2), (0, (x3 + 1)), (0, (x4 + 0)), (0, x5), (0, x6), (0, y1), (0, y2)]) hm235 rfl rfl rfl ?_
          obtain ⟨g3, h⟩ := h
          refine wi_iinc (pc' := 143) (L' := [(46, o0), (0, x1), (0, x2), (0, (x3 + 1)), (0, (x4 + 0)), (0, x5), (0, (x6 + 1)), (0, y1), (0, y2)]) hm235 rfl rfl rfl g3 rfl ?_
          refine wi_goto (t := 62) hm235 rfl rfl ?_
          exact h
        · replace h := h.2 hc
          refine wi_iconst (pc' := 133) (v := 1) hm235 rfl rfl rfl ?_
          refine wi_goto (t := 137) hm235 rfl rfl ?_
          obtain ⟨g2, h⟩ := h
          refine wi_iadd (pc' := 138) hm235 rfl rfl g2 ?_
          refine wi_istore (pc' := 140) (L' := [(46, o0), (0, x1), (0, x2), (0, (x3 + 1)), (0, (x4 + 1)), (0, x5), (0, x6), (0, y1), (0, y2)]) hm235 rfl rfl rfl ?_
          obtain ⟨g3, h⟩ := h
          refine wi_iinc (pc' := 143) (L' := [(46, o0), (0, x1), (0, x2), (0, (x3 + 1)), (0, (x4 + 1)), (0, x5), (0, (x6 + 1)), (0, y1), (0, y2)]) hm235 rfl rfl rfl g3 rfl ?_
          refine wi_goto (t := 62) hm235 rfl rfl ?_
          exact h
      · replace h := h.2 hc
        refine wi_goto (t := 140) hm235 rfl rfl ?_
        obtain ⟨g1, h⟩ := h
        refine wi_iinc (pc' := 143) (L' := [(46, o0), (0, x1), (0, x2), (0, x3), (0, x4), (0, x5), (0, (x6 + 1)), (0, y1), (0, y2)]) hm235 rfl rfl rfl g1 rfl ?_
        refine wi_goto (t := 62) hm235 rfl rfl ?_
        exact h
    · replace h := h.2 hc
      refine wi_iconst (pc' := 87) (v := (-1)) hm235 rfl rfl rfl ?_
      refine wi_goto (t := 99) hm235 rfl rfl ?_
      refine wi_istore (pc' := 101) (L' := [(46, o0), (0, x1), (0, x2), (0, x3), (0, x4), (0, x5), (0, x6), (0, y1), (0, (-1))]) hm235 rfl rfl rfl ?_
      refine wi_iload (pc' := 103) hm235 rfl rfl rfl ?_
      refine wi_iconst (pc' := 104) (v := (-1)) hm235 rfl rfl rfl ?_
      refine wi_ic_ne (pc' := 107) (t := 110) hm235 rfl rfl rfl (fun hc => absurd hc (by decide)) (fun _ => ?_)
      refine wi_goto (t := 140) hm235 rfl rfl ?_
      obtain ⟨g1, h⟩ := h
      refine wi_iinc (pc' := 143) (L' := [(46, o0), (0, x1), (0, x2), (0, x3), (0, x4), (0, x5), (0, (x6 + 1)), (0, y1), (0, (-1))]) hm235 rfl rfl rfl g1 rfl ?_
      refine wi_goto (t := 62) hm235 rfl rfl ?_
      exact h
theorem hm236 : fx_code 236 = fx_c236 := rfl
theorem t236_0 {o0 x1 x2 : Int} {σ : fx_S} {Q : fx_V → fx_S → Prop} (h : fx_CI 154 [(0, x1)] σ Q (fun y1 σ1 => ((y1 = 0 → Q (0, 0) (fx_up σ1 46 o0 0 1)) ∧ (y1 ≠ 0 → fx_CI 154 [(0, x2)] σ1 Q (fun y2 σ2 => ((y2 = 0 → Q (0, 0) (fx_up σ2 46 o0 0 1)) ∧ (y2 ≠ 0 → fx_Wp 236 37 [(46, o0), (0, x1), (0, x2), (0, 0), (0, 0)] [] (fx_up σ2 46 o0 0 0) Q))))))) : fx_Ca 236 [(46, o0), (0, x1), (0, x2)] σ Q := by
  show fx_Wp 236 0 [(46, o0), (0, x1), (0, x2), (3, 0), (3, 0)] [] σ Q
  refine wi_aload_n (pc' := 1) hm236 rfl rfl rfl (by decide) ?_
  refine wi_iload_n (pc' := 2) hm236 rfl rfl rfl ?_
  refine wc_I (pc' := 5) (by decide) rfl (by decide) ((fx_wE hm236 rfl).trans (fx_exS (mj := 154) (as := [(0, x1)]) (rest := [(46, o0)]) rfl rk154 rfl rfl rfl rfl)) h (fun y1 σ1 h => ?_)
  refine wi_if_eq (pc' := 8) (t := 19) hm236 rfl rfl rfl (fun hc => ?_) (fun hc => ?_)
  · replace h := h.1 hc
    refine wi_iconst (pc' := 20) (v := 1) hm236 rfl rfl rfl ?_
    refine wi_putI (pc' := 23) hm236 rfl rfl (P := 0) rfl ?_
    refine wi_aload_n (pc' := 24) hm236 rfl rfl rfl (by decide) ?_
    refine wi_getIe (pc' := 27) hm236 rfl rfl (P := 0) rfl (x := 1) fx_upS ?_
    refine wi_if_le (pc' := 30) (t := 32) hm236 rfl rfl rfl (fun hc => absurd hc (by decide)) (fun _ => ?_)
    refine wi_iconst (pc' := 31) (v := 0) hm236 rfl rfl rfl ?_
    exact wi_iret hm236 rfl h
  · replace h := h.2 hc
    refine wi_iload_n (pc' := 9) hm236 rfl rfl rfl ?_
    refine wc_I (pc' := 12) (by decide) rfl (by decide) ((fx_wE hm236 rfl).trans (fx_exS (mj := 154) (as := [(0, x2)]) (rest := [(46, o0)]) rfl rk154 rfl rfl rfl rfl)) h (fun y2 σ2 h => ?_)
    refine wi_if_eq (pc' := 15) (t := 19) hm236 rfl rfl rfl (fun hc => ?_) (fun hc => ?_)
    · replace h := h.1 hc
      refine wi_iconst (pc' := 20) (v := 1) hm236 rfl rfl rfl ?_
      refine wi_putI (pc' := 23) hm236 rfl rfl (P := 0) rfl ?_
      refine wi_aload_n (pc' := 24) hm236 rfl rfl rfl (by decide) ?_
      refine wi_getIe (pc' := 27) hm236 rfl rfl (P := 0) rfl (x := 1) fx_upS ?_
      refine wi_if_le (pc' := 30) (t := 32) hm236 rfl rfl rfl (fun hc => absurd hc (by decide)) (fun _ => ?_)
      refine wi_iconst (pc' := 31) (v := 0) hm236 rfl rfl rfl ?_
      exact wi_iret hm236 rfl h
    · replace h := h.2 hc
      refine wi_iconst (pc' := 16) (v := 0) hm236 rfl rfl rfl ?_
      refine wi_goto (t := 20) hm236 rfl rfl ?_
      refine wi_putI (pc' := 23) hm236 rfl rfl (P := 0) rfl ?_
      refine wi_aload_n (pc' := 24) hm236 rfl rfl rfl (by decide) ?_
      refine wi_getIe (pc' := 27) hm236 rfl rfl (P := 0) rfl (x := 0) fx_upS ?_
      refine wi_if_le (pc' := 30) (t := 32) hm236 rfl rfl rfl (fun _ => ?_) (fun hc => absurd hc (by decide))
      refine wi_iconst (pc' := 33) (v := 0) hm236 rfl rfl rfl ?_
      refine wi_istore_n (pc' := 34) (L' := [(46, o0), (0, x1), (0, x2), (0, 0), (3, 0)]) hm236 rfl rfl rfl ?_
      refine wi_iconst (pc' := 35) (v := 0) hm236 rfl rfl rfl ?_
      refine wi_istore (pc' := 37) (L' := [(46, o0), (0, x1), (0, x2), (0, 0), (0, 0)]) hm236 rfl rfl rfl ?_
      exact h
theorem t236_37 {o0 x1 x2 x3 x4 : Int} {σ : fx_S} {Q : fx_V → fx_S → Prop} (h : ((1000 ≤ x4 → Q (0, x3) σ) ∧ (x4 < 1000 → fx_CV 165 [(46, o0), (0, x4)] σ Q (fun σ1 => (0 ≤ x1 ∧ x1 < 8) ∧ (((σ1 55 0 x1) = (-1) → (fx_rg (x3 + 0)) ∧ (fx_rg (x4 + 1)) ∧ fx_Wp 236 37 [(46, o0), (0, x1), (0, x2), (0, (x3 + 0)), (0, (x4 + 1))] [] σ1 Q) ∧ ((σ1 55 0 x1) ≠ (-1) → (0 ≤ x2 ∧ x2 < 8) ∧ (((σ1 55 0 x2) = (-1) → (fx_rg (x3 + 0)) ∧ (fx_rg (x4 + 1)) ∧ fx_Wp 236 37 [(46, o0), (0, x1), (0, x2), (0, (x3 + 0)), (0, (x4 + 1))] [] σ1 Q) ∧ ((σ1 55 0 x2) ≠ (-1) → (fx_rg (x3 + 1)) ∧ (fx_rg (x4 + 1)) ∧ fx_Wp 236 37 [(46, o0), (0, x1), (0, x2), (0, (x3 + 1)), (0, (x4 + 1))] [] σ1 Q)))))))) : fx_Wp 236 37 [(46, o0), (0, x1), (0, x2), (0, x3), (0, x4)] [] σ Q := by
  refine wi_iload (pc' := 39) hm236 rfl rfl rfl ?_
  refine wi_sipush (pc' := 42) (v := 1000) hm236 rfl rfl rfl ?_
  refine wi_ic_ge (pc' := 45) (t := 85) hm236 rfl rfl rfl (fun hc => ?_) (fun hc => ?_)
  · replace h := h.1 hc
    refine wi_iload_n (pc' := 86) hm236 rfl rfl rfl ?_
    exact wi_iret hm236 rfl h
  · replace h := h.2 hc
    refine wi_aload_n (pc' := 46) hm236 rfl rfl rfl (by decide) ?_
    refine wi_iload (pc' := 48) hm236 rfl rfl rfl ?_
    refine wc_V (pc' := 51) (by decide) rfl (by decide) ((fx_wE hm236 rfl).trans (fx_exV (mj := 165) (as := [(0, x4)]) (rest := []) rfl rk165 rfl rfl rfl rfl rfl)) h (fun σ1 h => ?_)
    refine wi_iload_n (pc' := 52) hm236 rfl rfl rfl ?_
    refine wi_aload_n (pc' := 53) hm236 rfl rfl rfl (by decide) ?_
    refine wi_getR (pc' := 56) (x := 0) hm236 rfl rfl rfl (by omega) ?_
    refine wi_iload_n (pc' := 57) hm236 rfl rfl rfl ?_
    obtain ⟨g1, h⟩ := h
    refine wi_iaload (pc' := 58) hm236 rfl rfl rfl rfl (N := 8) rfl g1 ?_
    refine wi_iconst (pc' := 59) (v := (-1)) hm236 rfl rfl rfl ?_
    refine wi_ic_eq (pc' := 62) (t := 76) hm236 rfl rfl rfl (fun hc => ?_) (fun hc => ?_)
    · replace h := h.1 hc
      refine wi_iconst (pc' := 77) (v := 0) hm236 rfl rfl rfl ?_
      obtain ⟨g2, h⟩ := h
      refine wi_iadd (pc' := 78) hm236 rfl rfl g2 ?_
      refine wi_istore_n (pc' := 79) (L' := [(46, o0), (0, x1), (0, x2), (0, (x3 + 0)), (0, x4)]) hm236 rfl rfl rfl ?_
      obtain ⟨g3, h⟩ := h
      refine wi_iinc (pc' := 82) (L' := [(46, o0), (0, x1), (0, x2), (0, (x3 + 0)), (0, (x4 + 1))]) hm236 rfl rfl rfl g3 rfl ?_
      refine wi_goto (t := 37) hm236 rfl rfl ?_
      exact h
    · replace h := h.2 hc
      refine wi_aload_n (pc' := 63) hm236 rfl rfl rfl (by decide) ?_
      refine wi_getR (pc' := 66) (x := 0) hm236 rfl rfl rfl (by omega) ?_
      refine wi_iload_n (pc' := 67) hm236 rfl rfl rfl ?_
      obtain ⟨g2, h⟩ := h
      refine wi_iaload (pc' := 68) hm236 rfl rfl rfl rfl (N := 8) rfl g2 ?_
      refine wi_iconst (pc' := 69) (v := (-1)) hm236 rfl rfl rfl ?_
      refine wi_ic_eq (pc' := 72) (t := 76) hm236 rfl rfl rfl (fun hc => ?_) (fun hc => ?_)
      · replace h := h.1 hc
        refine wi_iconst (pc' := 77) (v := 0) hm236 rfl rfl rfl ?_
        obtain ⟨g3, h⟩ := h
        refine wi_iadd (pc' := 78) hm236 rfl rfl g3 ?_
        refine wi_istore_n (pc' := 79) (L' := [(46, o0), (0, x1), (0, x2), (0, (x3 + 0)), (0, x4)]) hm236 rfl rfl rfl ?_
        obtain ⟨g4, h⟩ := h
        refine wi_iinc (pc' := 82) (L' := [(46, o0), (0, x1), (0, x2), (0, (x3 + 0)), (0, (x4 + 1))]) hm236 rfl rfl rfl g4 rfl ?_
        refine wi_goto (t := 37) hm236 rfl rfl ?_
        exact h
      · replace h := h.2 hc
        refine wi_iconst (pc' := 73) (v := 1) hm236 rfl rfl rfl ?_
        refine wi_goto (t := 77) hm236 rfl rfl ?_
        obtain ⟨g3, h⟩ := h
        refine wi_iadd (pc' := 78) hm236 rfl rfl g3 ?_
        refine wi_istore_n (pc' := 79) (L' := [(46, o0), (0, x1), (0, x2), (0, (x3 + 1)), (0, x4)]) hm236 rfl rfl rfl ?_
        obtain ⟨g4, h⟩ := h
        refine wi_iinc (pc' := 82) (L' := [(46, o0), (0, x1), (0, x2), (0, (x3 + 1)), (0, (x4 + 1))]) hm236 rfl rfl rfl g4 rfl ?_
        refine wi_goto (t := 37) hm236 rfl rfl ?_
        exact h
theorem hm237 : fx_code 237 = fx_c237 := rfl
theorem t237_0 {o0 x1 x2 : Int} {σ : fx_S} {Q : fx_V → fx_S → Prop} (h : fx_Wp 237 2 [(46, o0), (0, x1), (0, x2), (0, 0), (3, 0)] [] σ Q) : fx_Ca 237 [(46, o0), (0, x1), (0, x2)] σ Q := by
  show fx_Wp 237 0 [(46, o0), (0, x1), (0, x2), (3, 0), (3, 0)] [] σ Q
  refine wi_iconst (pc' := 1) (v := 0) hm237 rfl rfl rfl ?_
  refine wi_istore_n (pc' := 2) (L' := [(46, o0), (0, x1), (0, x2), (0, 0), (3, 0)]) hm237 rfl rfl rfl ?_
  exact h
theorem t237_2 {o0 x1 x2 x3 : Int} {w4 : fx_V} {σ : fx_S} {Q : fx_V → fx_S → Prop} (h : (((σ 47 0 1) ≤ x3 → Q (0, 0) σ) ∧ (x3 < (σ 47 0 1) → fx_CI 151 [(46, o0), (0, x3), (0, 0)] σ Q (fun y1 σ1 => ((y1 ≠ x1 → (fx_rg (x3 + 1)) ∧ fx_Wp 237 2 [(46, o0), (0, x1), (0, x2), (0, (x3 + 1)), w4] [] σ1 Q) ∧ (y1 = x1 → fx_CI 156 [(46, o0), (0, x3), (0, x2)] σ1 Q (fun y2 σ2 => ((y2 ≠ 0 → fx_Wp 237 37 [(46, o0), (0, x1), (0, x2), (0, x3), (0, 0)] [] σ2 Q) ∧ (y2 = 0 → (fx_rg (x3 + 1)) ∧ fx_Wp 237 2 [(46, o0), (0, x1), (0, x2), (0, (x3 + 1)), w4] [] σ2 Q))))))))) : fx_Wp 237 2 [(46, o0), (0, x1), (0, x2), (0, x3), w4] [] σ Q := by
  refine wi_iload_n (pc' := 3) hm237 rfl rfl rfl ?_
  refine wi_aload_n (pc' := 4) hm237 rfl rfl rfl (by decide) ?_
  refine wi_getR (pc' := 7) (x := 0) hm237 rfl rfl rfl (by omega) ?_
  refine wi_iconst (pc' := 8) (v := 1) hm237 rfl rfl rfl ?_
  refine wi_iaload (pc' := 9) hm237 rfl rfl rfl rfl (N := 1130) rfl (by decide) ?_
  refine wi_ic_ge (pc' := 12) (t := 110) hm237 rfl rfl rfl (fun hc => ?_) (fun hc => ?_)
  · replace h := h.1 hc
    refine wi_iconst (pc' := 111) (v := 0) hm237 rfl rfl rfl ?_
    exact wi_zret hm237 rfl (by decide) h
  · replace h := h.2 hc
    refine wi_aload_n (pc' := 13) hm237 rfl rfl rfl (by decide) ?_
    refine wi_iload_n (pc' := 14) hm237 rfl rfl rfl ?_
    refine wi_iconst (pc' := 15) (v := 0) hm237 rfl rfl rfl ?_
    refine wc_I (pc' := 18) (by decide) rfl (by decide) ((fx_wE hm237 rfl).trans (fx_exV (mj := 151) (as := [(0, x3), (0, 0)]) (rest := []) rfl rk151 rfl rfl rfl rfl rfl)) h (fun y1 σ1 h => ?_)
    refine wi_iload_n (pc' := 19) hm237 rfl rfl rfl ?_
    refine wi_ic_ne (pc' := 22) (t := 104) hm237 rfl rfl rfl (fun hc => ?_) (fun hc => ?_)
    · replace h := h.1 hc
      obtain ⟨g1, h⟩ := h
      refine wi_iinc (pc' := 107) (L' := [(46, o0), (0, x1), (0, x2), (0, (x3 + 1)), w4]) hm237 rfl rfl rfl g1 rfl ?_
      refine wi_goto (t := 2) hm237 rfl rfl ?_
      exact h
    · replace h := h.2 hc
      refine wi_aload_n (pc' := 23) hm237 rfl rfl rfl (by decide) ?_
      refine wi_iload_n (pc' := 24) hm237 rfl rfl rfl ?_
      refine wi_iload_n (pc' := 25) hm237 rfl rfl rfl ?_
      refine wc_I (pc' := 28) (by decide) rfl (by decide) ((fx_wE hm237 rfl).trans (fx_exV (mj := 156) (as := [(0, x3), (0, x2)]) (rest := []) rfl rk156 rfl rfl rfl rfl rfl)) h (fun y2 σ2 h => ?_)
      refine wi_if_ne (pc' := 31) (t := 34) hm237 rfl rfl rfl (fun hc => ?_) (fun hc => ?_)
      · replace h := h.1 hc
        refine wi_iconst (pc' := 35) (v := 0) hm237 rfl rfl rfl ?_
        refine wi_istore (pc' := 37) (L' := [(46, o0), (0, x1), (0, x2), (0, x3), (0, 0)]) hm237 rfl rfl rfl ?_
        exact h
      · replace h := h.2 hc
        refine wi_goto (t := 104) hm237 rfl rfl ?_
        obtain ⟨g1, h⟩ := h
        refine wi_iinc (pc' := 107) (L' := [(46, o0), (0, x1), (0, x2), (0, (x3 + 1)), w4]) hm237 rfl rfl rfl g1 rfl ?_
        refine wi_goto (t := 2) hm237 rfl rfl ?_
        exact h
theorem t237_37 {o0 x1 x2 x3 x4 : Int} {σ : fx_S} {Q : fx_V → fx_S → Prop} (h : ((x3 ≤ x4 → (fx_rg (x3 + 1)) ∧ fx_Wp 237 2 [(46, o0), (0, x1), (0, x2), (0, (x3 + 1)), (0, x4)] [] σ Q) ∧ (x4 < x3 → fx_CI 151 [(46, o0), (0, x4), (0, 0)] σ Q (fun y1 σ1 => ((y1 ≠ x1 → (fx_rg (x4 + 1)) ∧ fx_Wp 237 37 [(46, o0), (0, x1), (0, x2), (0, x3), (0, (x4 + 1))] [] σ1 Q) ∧ (y1 = x1 → fx_CI 156 [(46, o0), (0, x4), (0, x2)] σ1 Q (fun y2 σ2 => ((y2 = 0 → (fx_rg (x4 + 1)) ∧ fx_Wp 237 37 [(46, o0), (0, x1), (0, x2), (0, x3), (0, (x4 + 1))] [] σ2 Q) ∧ (y2 ≠ 0 → fx_CI 151 [(46, o0), (0, x4), (0, 1)] σ2 Q (fun y3 σ3 => fx_CI 151 [(46, o0), (0, x3), (0, 1)] σ3 Q (fun y4 σ4 => ((y3 = y4 → (fx_rg (x4 + 1)) ∧ fx_Wp 237 37 [(46, o0), (0, x1), (0, x2), (0, x3), (0, (x4 + 1))] [] σ4 Q) ∧ (y3 ≠ y4 → fx_CI 151 [(46, o0), (0, x4), (0, 4)] σ4 Q (fun y5 σ5 => fx_CI 151 [(46, o0), (0, x3), (0, 4)] σ5 Q (fun y6 σ6 => ((y5 = y6 → (fx_rg (x4 + 1)) ∧ fx_Wp 237 37 [(46, o0), (0, x1), (0, x2), (0, x3), (0, (x4 + 1))] [] σ6 Q) ∧ (y5 ≠ y6 → Q (0, 1) σ6))))))))))))))))) : fx_Wp 237 37 [(46, o0), (0, x1), (0, x2), (0, x3), (0, x4)] [] σ Q := by
  refine wi_iload (pc' := 39) hm237 rfl rfl rfl ?_
  refine wi_iload_n (pc' := 40) hm237 rfl rfl rfl ?_
  refine wi_ic_ge (pc' := 43) (t := 104) hm237 rfl rfl rfl (fun hc => ?_) (fun hc => ?_)
  · replace h := h.1 hc
    obtain ⟨g1, h⟩ := h
    refine wi_iinc (pc' := 107) (L' := [(46, o0), (0, x1), (0, x2), (0, (x3 + 1)), (0, x4)]) hm237 rfl rfl rfl g1 rfl ?_
    refine wi_goto (t := 2) hm237 rfl rfl ?_
    exact h
  · replace h := h.2 hc
    refine wi_aload_n (pc' := 44) hm237 rfl rfl rfl (by decide) ?_
    refine wi_iload (pc' := 46) hm237 rfl rfl rfl ?_
    refine wi_iconst (pc' := 47) (v := 0) hm237 rfl rfl rfl ?_
    refine wc_I (pc' := 50) (by decide) rfl (by decide) ((fx_wE hm237 rfl).trans (fx_exV (mj := 151) (as := [(0, x4), (0, 0)]) (rest := []) rfl rk151 rfl rfl rfl rfl rfl)) h (fun y1 σ1 h => ?_)
    refine wi_iload_n (pc' := 51) hm237 rfl rfl rfl ?_
    refine wi_ic_ne (pc' := 54) (t := 98) hm237 rfl rfl rfl (fun hc => ?_) (fun hc => ?_)
    · replace h := h.1 hc
      obtain ⟨g1, h⟩ := h
      refine wi_iinc (pc' := 101) (L' := [(46, o0), (0, x1), (0, x2), (0, x3), (0, (x4 + 1))]) hm237 rfl rfl rfl g1 rfl ?_
      refine wi_goto (t := 37) hm237 rfl rfl ?_
      exact h
    · replace h := h.2 hc
      refine wi_aload_n (pc' := 55) hm237 rfl rfl rfl (by decide) ?_
      refine wi_iload (pc' := 57) hm237 rfl rfl rfl ?_
      refine wi_iload_n (pc' := 58) hm237 rfl rfl rfl ?_
      refine wc_I (pc' := 61) (by decide) rfl (by decide) ((fx_wE hm237 rfl).trans (fx_exV (mj := 156) (as := [(0, x4), (0, x2)]) (rest := []) rfl rk156 rfl rfl rfl rfl rfl)) h (fun y2 σ2 h => ?_)
      refine wi_if_eq (pc' := 64) (t := 98) hm237 rfl rfl rfl (fun hc => ?_) (fun hc => ?_)
      · replace h := h.1 hc
        obtain ⟨g1, h⟩ := h
        refine wi_iinc (pc' := 101) (L' := [(46, o0), (0, x1), (0, x2), (0, x3), (0, (x4 + 1))]) hm237 rfl rfl rfl g1 rfl ?_
        refine wi_goto (t := 37) hm237 rfl rfl ?_
        exact h
      · replace h := h.2 hc
        refine wi_aload_n (pc' := 65) hm237 rfl rfl rfl (by decide) ?_
        refine wi_iload (pc' := 67) hm237 rfl rfl rfl ?_
        refine wi_iconst (pc' := 68) (v := 1) hm237 rfl rfl rfl ?_
        refine wc_I (pc' := 71) (by decide) rfl (by decide) ((fx_wE hm237 rfl).trans (fx_exV (mj := 151) (as := [(0, x4), (0, 1)]) (rest := []) rfl rk151 rfl rfl rfl rfl rfl)) h (fun y3 σ3 h => ?_)
        refine wi_aload_n (pc' := 72) hm237 rfl rfl rfl (by decide) ?_
        refine wi_iload_n (pc' := 73) hm237 rfl rfl rfl ?_
        refine wi_iconst (pc' := 74) (v := 1) hm237 rfl rfl rfl ?_
        refine wc_I (pc' := 77) (by decide) rfl (by decide) ((fx_wE hm237 rfl).trans (fx_exV (mj := 151) (as := [(0, x3), (0, 1)]) (rest := [(0, y3)]) rfl rk151 rfl rfl rfl rfl rfl)) h (fun y4 σ4 h => ?_)
        refine wi_ic_eq (pc' := 80) (t := 98) hm237 rfl rfl rfl (fun hc => ?_) (fun hc => ?_)
        · replace h := h.1 hc
          obtain ⟨g1, h⟩ := h
          refine wi_iinc (pc' := 101) (L' := [(46, o0), (0, x1), (0, x2), (0, x3), (0, (x4 + 1))]) hm237 rfl rfl rfl g1 rfl ?_
          refine wi_goto (t := 37) hm237 rfl rfl ?_
          exact h
        · replace h := h.2 hc
          refine wi_aload_n (pc' := 81) hm237 rfl rfl rfl (by decide) ?_
          refine wi_iload (pc' := 83) hm237 rfl rfl rfl ?_
          refine wi_iconst (pc' := 84) (v := 4) hm237 rfl rfl rfl ?_
          refine wc_I (pc' := 87) (by decide) rfl (by decide) ((fx_wE hm237 rfl).trans (fx_exV (mj := 151) (as := [(0, x4), (0, 4)]) (rest := []) rfl rk151 rfl rfl rfl rfl rfl)) h (fun y5 σ5 h => ?_)
          refine wi_aload_n (pc' := 88) hm237 rfl rfl rfl (by decide) ?_
          refine wi_iload_n (pc' := 89) hm237 rfl rfl rfl ?_
          refine wi_iconst (pc' := 90) (v := 4) hm237 rfl rfl rfl ?_
          refine wc_I (pc' := 93) (by decide) rfl (by decide) ((fx_wE hm237 rfl).trans (fx_exV (mj := 151) (as := [(0, x3), (0, 4)]) (rest := [(0, y5)]) rfl rk151 rfl rfl rfl rfl rfl)) h (fun y6 σ6 h => ?_)
          refine wi_ic_eq (pc' := 96) (t := 98) hm237 rfl rfl rfl (fun hc => ?_) (fun hc => ?_)
          · replace h := h.1 hc
            obtain ⟨g1, h⟩ := h
            refine wi_iinc (pc' := 101) (L' := [(46, o0), (0, x1), (0, x2), (0, x3), (0, (x4 + 1))]) hm237 rfl rfl rfl g1 rfl ?_
            refine wi_goto (t := 37) hm237 rfl rfl ?_
            exact h
          · replace h := h.2 hc
            refine wi_iconst (pc' := 97) (v := 1) hm237 rfl rfl rfl ?_
            exact wi_zret hm237 rfl (by decide) h
theorem hm238 : fx_code 238 = fx_c238 := rfl
theorem t238_0 {o0 x1 : Int} {σ : fx_S} {Q : fx_V → fx_S → Prop} (h : fx_Wp 238 4 [(46, o0), (0, x1), (0, 0), (0, 0)] [] σ Q) : fx_Ca 238 [(46, o0), (0, x1)] σ Q := by
  show fx_Wp 238 0 [(46, o0), (0, x1), (3, 0), (3, 0)] [] σ Q
  refine wi_iconst (pc' := 1) (v := 0) hm238 rfl rfl rfl ?_
  refine wi_istore_n (pc' := 2) (L' := [(46, o0), (0, x1), (0, 0), (3, 0)]) hm238 rfl rfl rfl ?_
  refine wi_iconst (pc' := 3) (v := 0) hm238 rfl rfl rfl ?_
  refine wi_istore_n (pc' := 4) (L' := [(46, o0), (0, x1), (0, 0), (0, 0)]) hm238 rfl rfl rfl ?_
  exact h
theorem t238_4 {o0 x1 x2 x3 : Int} {σ : fx_S} {Q : fx_V → fx_S → Prop} (h : ((1000 ≤ x3 → Q (0, x2) σ) ∧ (x3 < 1000 → fx_CI 237 [(46, o0), (0, x1), (0, x3)] σ Q (fun y1 σ1 => ((y1 = 0 → (fx_rg (x2 + 0)) ∧ (fx_rg (x3 + 1)) ∧ fx_Wp 238 4 [(46, o0), (0, x1), (0, (x2 + 0)), (0, (x3 + 1))] [] σ1 Q) ∧ (y1 ≠ 0 → (fx_rg (x2 + 1)) ∧ (fx_rg (x3 + 1)) ∧ fx_Wp 238 4 [(46, o0), (0, x1), (0, (x2 + 1)), (0, (x3 + 1))] [] σ1 Q)))))) : fx_Wp 238 4 [(46, o0), (0, x1), (0, x2), (0, x3)] [] σ Q := by
  refine wi_iload_n (pc' := 5) hm238 rfl rfl rfl ?_
  refine wi_sipush (pc' := 8) (v := 1000) hm238 rfl rfl rfl ?_
  refine wi_ic_ge (pc' := 11) (t := 34) hm238 rfl rfl rfl (fun hc => ?_) (fun hc => ?_)
  · replace h := h.1 hc
    refine wi_iload_n (pc' := 35) hm238 rfl rfl rfl ?_
    exact wi_iret hm238 rfl h
  · replace h := h.2 hc
    refine wi_iload_n (pc' := 12) hm238 rfl rfl rfl ?_
    refine wi_aload_n (pc' := 13) hm238 rfl rfl rfl (by decide) ?_
    refine wi_iload_n (pc' := 14) hm238 rfl rfl rfl ?_
    refine wi_iload_n (pc' := 15) hm238 rfl rfl rfl ?_
    refine wc_I (pc' := 18) (by decide) rfl (by decide) ((fx_wE hm238 rfl).trans (fx_exV (mj := 237) (as := [(0, x1), (0, x3)]) (rest := [(0, x2)]) rfl rk237 rfl rfl rfl rfl rfl)) h (fun y1 σ1 h => ?_)
    refine wi_if_eq (pc' := 21) (t := 25) hm238 rfl rfl rfl (fun hc => ?_) (fun hc => ?_)
    · replace h := h.1 hc
      refine wi_iconst (pc' := 26) (v := 0) hm238 rfl rfl rfl ?_
      obtain ⟨g1, h⟩ := h
      refine wi_iadd (pc' := 27) hm238 rfl rfl g1 ?_
      refine wi_istore_n (pc' := 28) (L' := [(46, o0), (0, x1), (0, (x2 + 0)), (0, x3)]) hm238 rfl rfl rfl ?_
      obtain ⟨g2, h⟩ := h
      refine wi_iinc (pc' := 31) (L' := [(46, o0), (0, x1), (0, (x2 + 0)), (0, (x3 + 1))]) hm238 rfl rfl rfl g2 rfl ?_
      refine wi_goto (t := 4) hm238 rfl rfl ?_
      exact h
    · replace h := h.2 hc
      refine wi_iconst (pc' := 22) (v := 1) hm238 rfl rfl rfl ?_
      refine wi_goto (t := 26) hm238 rfl rfl ?_
      obtain ⟨g1, h⟩ := h
      refine wi_iadd (pc' := 27) hm238 rfl rfl g1 ?_
      refine wi_istore_n (pc' := 28) (L' := [(46, o0), (0, x1), (0, (x2 + 1)), (0, x3)]) hm238 rfl rfl rfl ?_
      obtain ⟨g2, h⟩ := h
      refine wi_iinc (pc' := 31) (L' := [(46, o0), (0, x1), (0, (x2 + 1)), (0, (x3 + 1))]) hm238 rfl rfl rfl g2 rfl ?_
      refine wi_goto (t := 4) hm238 rfl rfl ?_
      exact h
theorem hm239 : fx_code 239 = fx_c239 := rfl
theorem t239_0 {o0 x1 x2 : Int} {σ : fx_S} {Q : fx_V → fx_S → Prop} (h : fx_CV 166 [(46, o0), (0, x1), (59, 0)] σ Q (fun σ1 => fx_Wp 239 14 [(46, o0), (0, x1), (0, x2), (0, 0), (0, 0)] [] σ1 Q)) : fx_Ca 239 [(46, o0), (0, x1), (0, x2)] σ Q := by
  show fx_Wp 239 0 [(46, o0), (0, x1), (0, x2), (3, 0), (3, 0)] [] σ Q
  refine wi_aload_n (pc' := 1) hm239 rfl rfl rfl (by decide) ?_
  refine wi_iload_n (pc' := 2) hm239 rfl rfl rfl ?_
  refine wi_aload_n (pc' := 3) hm239 rfl rfl rfl (by decide) ?_
  refine wi_getR (pc' := 6) (x := 0) hm239 rfl rfl rfl (by omega) ?_
  refine wc_V (pc' := 9) (by decide) rfl (by decide) ((fx_wE hm239 rfl).trans (fx_exV (mj := 166) (as := [(0, x1), (59, 0)]) (rest := []) rfl rk166 rfl rfl rfl rfl rfl)) h (fun σ1 h => ?_)
  refine wi_iconst (pc' := 10) (v := 0) hm239 rfl rfl rfl ?_
  refine wi_istore_n (pc' := 11) (L' := [(46, o0), (0, x1), (0, x2), (0, 0), (3, 0)]) hm239 rfl rfl rfl ?_
  refine wi_iconst (pc' := 12) (v := 0) hm239 rfl rfl rfl ?_
  refine wi_istore (pc' := 14) (L' := [(46, o0), (0, x1), (0, x2), (0, 0), (0, 0)]) hm239 rfl rfl rfl ?_
  exact h
theorem t239_14 {o0 x2 x3 x4 : Int} {w1 : fx_V} {σ : fx_S} {Q : fx_V → fx_S → Prop} (h : ((1000 ≤ x4 → Q (0, x3) σ) ∧ (x4 < 1000 → (0 ≤ x4 ∧ x4 < 1000) ∧ (((σ 59 0 x4) ≠ (-1) → ((x2 = 0 → (fx_rg (x3 + (σ 59 0 x4))) ∧ (fx_rg (x4 + 1)) ∧ fx_Wp 239 14 [(46, o0), w1, (0, x2), (0, (x3 + (σ 59 0 x4))), (0, (x4 + 1))] [] σ Q) ∧ (x2 ≠ 0 → (fx_rg (x3 + 1)) ∧ (fx_rg (x4 + 1)) ∧ fx_Wp 239 14 [(46, o0), w1, (0, x2), (0, (x3 + 1)), (0, (x4 + 1))] [] σ Q))) ∧ ((σ 59 0 x4) = (-1) → (fx_rg (x3 + 0)) ∧ (fx_rg (x4 + 1)) ∧ fx_Wp 239 14 [(46, o0), w1, (0, x2), (0, (x3 + 0)), (0, (x4 + 1))] [] σ Q))))) : fx_Wp 239 14 [(46, o0), w1, (0, x2), (0, x3), (0, x4)] [] σ Q := by
  refine wi_iload (pc' := 16) hm239 rfl rfl rfl ?_
  refine wi_sipush (pc' := 19) (v := 1000) hm239 rfl rfl rfl ?_
  refine wi_ic_ge (pc' := 22) (t := 61) hm239 rfl rfl rfl (fun hc => ?_) (fun hc => ?_)
  · replace h := h.1 hc
    refine wi_iload_n (pc' := 62) hm239 rfl rfl rfl ?_
    exact wi_iret hm239 rfl h
  · replace h := h.2 hc
    refine wi_iload_n (pc' := 23) hm239 rfl rfl rfl ?_
    refine wi_aload_n (pc' := 24) hm239 rfl rfl rfl (by decide) ?_
    refine wi_getR (pc' := 27) (x := 0) hm239 rfl rfl rfl (by omega) ?_
    refine wi_iload (pc' := 29) hm239 rfl rfl rfl ?_
    obtain ⟨g1, h⟩ := h
    refine wi_iaload (pc' := 30) hm239 rfl rfl rfl rfl (N := 1000) rfl g1 ?_
    refine wi_iconst (pc' := 31) (v := (-1)) hm239 rfl rfl rfl ?_
    refine wi_ic_ne (pc' := 34) (t := 38) hm239 rfl rfl rfl (fun hc => ?_) (fun hc => ?_)
    · replace h := h.1 hc
      refine wi_iload_n (pc' := 39) hm239 rfl rfl rfl ?_
      refine wi_if_eq (pc' := 42) (t := 46) hm239 rfl rfl rfl (fun hc => ?_) (fun hc => ?_)
      · replace h := h.1 hc
        refine wi_aload_n (pc' := 47) hm239 rfl rfl rfl (by decide) ?_
        refine wi_getR (pc' := 50) (x := 0) hm239 rfl rfl rfl (by omega) ?_
        refine wi_iload (pc' := 52) hm239 rfl rfl rfl ?_
        refine wi_iaload (pc' := 53) hm239 rfl rfl rfl rfl (N := 1000) rfl g1 ?_
        obtain ⟨g2, h⟩ := h
        refine wi_iadd (pc' := 54) hm239 rfl rfl g2 ?_
        refine wi_istore_n (pc' := 55) (L' := [(46, o0), w1, (0, x2), (0, (x3 + (σ 59 0 x4))), (0, x4)]) hm239 rfl rfl rfl ?_
        obtain ⟨g3, h⟩ := h
        refine wi_iinc (pc' := 58) (L' := [(46, o0), w1, (0, x2), (0, (x3 + (σ 59 0 x4))), (0, (x4 + 1))]) hm239 rfl rfl rfl g3 rfl ?_
        refine wi_goto (t := 14) hm239 rfl rfl ?_
        exact h
      · replace h := h.2 hc
        refine wi_iconst (pc' := 43) (v := 1) hm239 rfl rfl rfl ?_
        refine wi_goto (t := 53) hm239 rfl rfl ?_
        obtain ⟨g2, h⟩ := h
        refine wi_iadd (pc' := 54) hm239 rfl rfl g2 ?_
        refine wi_istore_n (pc' := 55) (L' := [(46, o0), w1, (0, x2), (0, (x3 + 1)), (0, x4)]) hm239 rfl rfl rfl ?_
        obtain ⟨g3, h⟩ := h
        refine wi_iinc (pc' := 58) (L' := [(46, o0), w1, (0, x2), (0, (x3 + 1)), (0, (x4 + 1))]) hm239 rfl rfl rfl g3 rfl ?_
        refine wi_goto (t := 14) hm239 rfl rfl ?_
        exact h
    · replace h := h.2 hc
      refine wi_iconst (pc' := 35) (v := 0) hm239 rfl rfl rfl ?_
      refine wi_goto (t := 53) hm239 rfl rfl ?_
      obtain ⟨g2, h⟩ := h
      refine wi_iadd (pc' := 54) hm239 rfl rfl g2 ?_
      refine wi_istore_n (pc' := 55) (L' := [(46, o0), w1, (0, x2), (0, (x3 + 0)), (0, x4)]) hm239 rfl rfl rfl ?_
      obtain ⟨g3, h⟩ := h
      refine wi_iinc (pc' := 58) (L' := [(46, o0), w1, (0, x2), (0, (x3 + 0)), (0, (x4 + 1))]) hm239 rfl rfl rfl g3 rfl ?_
      refine wi_goto (t := 14) hm239 rfl rfl ?_
      exact h
theorem hm240 : fx_code 240 = fx_c240 := rfl
theorem t240_0 {o0 x1 : Int} {σ : fx_S} {Q : fx_V → fx_S → Prop} (h : fx_CV 166 [(46, o0), (0, x1), (59, 0)] σ Q (fun σ1 => fx_Wp 240 16 [(46, o0), (0, x1), (0, (-1)), (0, 0), (0, 0), (3, 0), (3, 0)] [] σ1 Q)) : fx_Ca 240 [(46, o0), (0, x1)] σ Q := by
  show fx_Wp 240 0 [(46, o0), (0, x1), (3, 0), (3, 0), (3, 0), (3, 0), (3, 0)] [] σ Q
  refine wi_aload_n (pc' := 1) hm240 rfl rfl rfl (by decide) ?_
  refine wi_iload_n (pc' := 2) hm240 rfl rfl rfl ?_
  refine wi_aload_n (pc' := 3) hm240 rfl rfl rfl (by decide) ?_
  refine wi_getR (pc' := 6) (x := 0) hm240 rfl rfl rfl (by omega) ?_
  refine wc_V (pc' := 9) (by decide) rfl (by decide) ((fx_wE hm240 rfl).trans (fx_exV (mj := 166) (as := [(0, x1), (59, 0)]) (rest := []) rfl rk166 rfl rfl rfl rfl rfl)) h (fun σ1 h => ?_)
  refine wi_iconst (pc' := 10) (v := (-1)) hm240 rfl rfl rfl ?_
  refine wi_istore_n (pc' := 11) (L' := [(46, o0), (0, x1), (0, (-1)), (3, 0), (3, 0), (3, 0), (3, 0)]) hm240 rfl rfl rfl ?_
  refine wi_iconst (pc' := 12) (v := 0) hm240 rfl rfl rfl ?_
  refine wi_istore_n (pc' := 13) (L' := [(46, o0), (0, x1), (0, (-1)), (0, 0), (3, 0), (3, 0), (3, 0)]) hm240 rfl rfl rfl ?_
  refine wi_iconst (pc' := 14) (v := 0) hm240 rfl rfl rfl ?_
  refine wi_istore (pc' := 16) (L' := [(46, o0), (0, x1), (0, (-1)), (0, 0), (0, 0), (3, 0), (3, 0)]) hm240 rfl rfl rfl ?_
  exact h
theorem t240_16 {o0 x2 x3 x4 : Int} {w1 w5 w6 : fx_V} {σ : fx_S} {Q : fx_V → fx_S → Prop} (h : ((100 ≤ x4 → Q (0, x2) σ) ∧ (x4 < 100 → fx_Wp 240 29 [(46, o0), w1, (0, x2), (0, x3), (0, x4), (0, 0), (0, 0)] [] σ Q))) : fx_Wp 240 16 [(46, o0), w1, (0, x2), (0, x3), (0, x4), w5, w6] [] σ Q := by
  refine wi_iload (pc' := 18) hm240 rfl rfl rfl ?_
  refine wi_bipush (pc' := 20) (v := 100) hm240 rfl rfl rfl ?_
  refine wi_ic_ge (pc' := 23) (t := 86) hm240 rfl rfl rfl (fun hc => ?_) (fun hc => ?_)
  · replace h := h.1 hc
    refine wi_iload_n (pc' := 87) hm240 rfl rfl rfl ?_
    exact wi_iret hm240 rfl h
  · replace h := h.2 hc
    refine wi_iconst (pc' := 24) (v := 0) hm240 rfl rfl rfl ?_
    refine wi_istore (pc' := 26) (L' := [(46, o0), w1, (0, x2), (0, x3), (0, x4), (0, 0), w6]) hm240 rfl rfl rfl ?_
    refine wi_iconst (pc' := 27) (v := 0) hm240 rfl rfl rfl ?_
    refine wi_istore (pc' := 29) (L' := [(46, o0), w1, (0, x2), (0, x3), (0, x4), (0, 0), (0, 0)]) hm240 rfl rfl rfl ?_
    exact h
theorem t240_29 {o0 x2 x3 x4 x5 x6 : Int} {w1 : fx_V} {σ : fx_S} {Q : fx_V → fx_S → Prop} (h : ((1000 ≤ x6 → ((x3 < x5 → (fx_rg (x4 + 1)) ∧ fx_Wp 240 16 [(46, o0), w1, (0, x4), (0, x5), (0, (x4 + 1)), (0, x5), (0, x6)] [] σ Q) ∧ (x5 ≤ x3 → (fx_rg (x4 + 1)) ∧ fx_Wp 240 16 [(46, o0), w1, (0, x2), (0, x3), (0, (x4 + 1)), (0, x5), (0, x6)] [] σ Q))) ∧ (x6 < 1000 → (0 ≤ x6 ∧ x6 < 1000) ∧ (((σ 59 0 x6) ≠ x4 → (fx_rg (x5 + 0)) ∧ (fx_rg (x6 + 1)) ∧ fx_Wp 240 29 [(46, o0), w1, (0, x2), (0, x3), (0, x4), (0, (x5 + 0)), (0, (x6 + 1))] [] σ Q) ∧ ((σ 59 0 x6) = x4 → (fx_rg (x5 + 1)) ∧ (fx_rg (x6 + 1)) ∧ fx_Wp 240 29 [(46, o0), w1, (0, x2), (0, x3), (0, x4), (0, (x5 + 1)), (0, (x6 + 1))] [] σ Q))))) : fx_Wp 240 29 [(46, o0), w1, (0, x2), (0, x3), (0, x4), (0, x5), (0, x6)] [] σ Q := by
  refine wi_iload (pc' := 31) hm240 rfl rfl rfl ?_
  refine wi_sipush (pc' := 34) (v := 1000) hm240 rfl rfl rfl ?_
  refine wi_ic_ge (pc' := 37) (t := 65) hm240 rfl rfl rfl (fun hc => ?_) (fun hc => ?_)
  · replace h := h.1 hc
    refine wi_iload (pc' := 67) hm240 rfl rfl rfl ?_
    refine wi_iload_n (pc' := 68) hm240 rfl rfl rfl ?_
    refine wi_ic_gt (pc' := 71) (t := 74) hm240 rfl rfl rfl (fun hc => ?_) (fun hc => ?_)
    · replace h := h.1 hc
      refine wi_iload (pc' := 76) hm240 rfl rfl rfl ?_
      refine wi_istore_n (pc' := 77) (L' := [(46, o0), w1, (0, x4), (0, x3), (0, x4), (0, x5), (0, x6)]) hm240 rfl rfl rfl ?_
      refine wi_iload (pc' := 79) hm240 rfl rfl rfl ?_
      refine wi_istore_n (pc' := 80) (L' := [(46, o0), w1, (0, x4), (0, x5), (0, x4), (0, x5), (0, x6)]) hm240 rfl rfl rfl ?_
      obtain ⟨g1, h⟩ := h
      refine wi_iinc (pc' := 83) (L' := [(46, o0), w1, (0, x4), (0, x5), (0, (x4 + 1)), (0, x5), (0, x6)]) hm240 rfl rfl rfl g1 rfl ?_
      refine wi_goto (t := 16) hm240 rfl rfl ?_
      exact h
    · replace h := h.2 hc
      refine wi_goto (t := 80) hm240 rfl rfl ?_
      obtain ⟨g1, h⟩ := h
      refine wi_iinc (pc' := 83) (L' := [(46, o0), w1, (0, x2), (0, x3), (0, (x4 + 1)), (0, x5), (0, x6)]) hm240 rfl rfl rfl g1 rfl ?_
      refine wi_goto (t := 16) hm240 rfl rfl ?_
      exact h
  · replace h := h.2 hc
    refine wi_iload (pc' := 39) hm240 rfl rfl rfl ?_
    refine wi_aload_n (pc' := 40) hm240 rfl rfl rfl (by decide) ?_
    refine wi_getR (pc' := 43) (x := 0) hm240 rfl rfl rfl (by omega) ?_
    refine wi_iload (pc' := 45) hm240 rfl rfl rfl ?_
    obtain ⟨g1, h⟩ := h
    refine wi_iaload (pc' := 46) hm240 rfl rfl rfl rfl (N := 1000) rfl g1 ?_
    refine wi_iload (pc' := 48) hm240 rfl rfl rfl ?_
    refine wi_ic_ne (pc' := 51) (t := 55) hm240 rfl rfl rfl (fun hc => ?_) (fun hc => ?_)
    · replace h := h.1 hc
      refine wi_iconst (pc' := 56) (v := 0) hm240 rfl rfl rfl ?_
      obtain ⟨g2, h⟩ := h
      refine wi_iadd (pc' := 57) hm240 rfl rfl g2 ?_
      refine wi_istore (pc' := 59) (L' := [(46, o0), w1, (0, x2), (0, x3), (0, x4), (0, (x5 + 0)), (0, x6)]) hm240 rfl rfl rfl ?_
      obtain ⟨g3, h⟩ := h
      refine wi_iinc (pc' := 62) (L' := [(46, o0), w1, (0, x2), (0, x3), (0, x4), (0, (x5 + 0)), (0, (x6 + 1))]) hm240 rfl rfl rfl g3 rfl ?_
      refine wi_goto (t := 29) hm240 rfl rfl ?_
      exact h
    · replace h := h.2 hc
      refine wi_iconst (pc' := 52) (v := 1) hm240 rfl rfl rfl ?_
      refine wi_goto (t := 56) hm240 rfl rfl ?_
      obtain ⟨g2, h⟩ := h
      refine wi_iadd (pc' := 57) hm240 rfl rfl g2 ?_
      refine wi_istore (pc' := 59) (L' := [(46, o0), w1, (0, x2), (0, x3), (0, x4), (0, (x5 + 1)), (0, x6)]) hm240 rfl rfl rfl ?_
      obtain ⟨g3, h⟩ := h
      refine wi_iinc (pc' := 62) (L' := [(46, o0), w1, (0, x2), (0, x3), (0, x4), (0, (x5 + 1)), (0, (x6 + 1))]) hm240 rfl rfl rfl g3 rfl ?_
      refine wi_goto (t := 29) hm240 rfl rfl ?_
      exact h
set_option maxRecDepth 10000 in
theorem hm241 : fx_code 241 = fx_c241 := rfl
theorem t241_0 {o0 x1 : Int} {σ : fx_S} {Q : fx_V → fx_S → Prop} (h : fx_Wp 241 4 [(46, o0), (0, x1), (0, 0), (0, 0)] [] σ Q) : fx_Ca 241 [(46, o0), (0, x1)] σ Q := by
  show fx_Wp 241 0 [(46, o0), (0, x1), (3, 0), (3, 0)] [] σ Q
  refine wi_iconst (pc' := 1) (v := 0) hm241 rfl rfl rfl ?_
  refine wi_istore_n (pc' := 2) (L' := [(46, o0), (0, x1), (0, 0), (3, 0)]) hm241 rfl rfl rfl ?_
  refine wi_iconst (pc' := 3) (v := 0) hm241 rfl rfl rfl ?_
  refine wi_istore_n (pc' := 4) (L' := [(46, o0), (0, x1), (0, 0), (0, 0)]) hm241 rfl rfl rfl ?_
  exact h
theorem t241_4 {o0 x1 x2 x3 : Int} {σ : fx_S} {Q : fx_V → fx_S → Prop} (h : fx_CI 160 [(46, o0), (0, x1), (0, 0)] σ Q (fun y1 σ1 => ((y1 ≤ x3 → Q (0, x2) σ1) ∧ (x3 < y1 → fx_CI 161 [(46, o0), (0, x1), (0, x3), (0, 0)] σ1 Q (fun y2 σ2 => ((y2 ≠ 0 → (fx_rg (x3 + 1)) ∧ fx_Wp 241 4 [(46, o0), (0, x1), (0, (fx_or x2 0)), (0, (x3 + 1))] [] σ2 Q) ∧ (y2 = 0 → fx_CI 161 [(46, o0), (0, x1), (0, x3), (0, 1)] σ2 Q (fun y3 σ3 => (fx_rg (x3 + 1)) ∧ fx_Wp 241 4 [(46, o0), (0, x1), (0, (fx_or x2 (fx_shl 1 y3))), (0, (x3 + 1))] [] σ3 Q)))))))) : fx_Wp 241 4 [(46, o0), (0, x1), (0, x2), (0, x3)] [] σ Q := by
  refine wi_iload_n (pc' := 5) hm241 rfl rfl rfl ?_
  refine wi_aload_n (pc' := 6) hm241 rfl rfl rfl (by decide) ?_
  refine wi_iload_n (pc' := 7) hm241 rfl rfl rfl ?_
  refine wi_iconst (pc' := 8) (v := 0) hm241 rfl rfl rfl ?_
  refine wc_I (pc' := 11) (by decide) rfl (by decide) ((fx_wE hm241 rfl).trans (fx_exV (mj := 160) (as := [(0, x1), (0, 0)]) (rest := [(0, x3)]) rfl rk160 rfl rfl rfl rfl rfl)) h (fun y1 σ1 h => ?_)
  refine wi_ic_ge (pc' := 14) (t := 46) hm241 rfl rfl rfl (fun hc => ?_) (fun hc => ?_)
  · replace h := h.1 hc
    refine wi_iload_n (pc' := 47) hm241 rfl rfl rfl ?_
    exact wi_iret hm241 rfl h
  · replace h := h.2 hc
    refine wi_iload_n (pc' := 15) hm241 rfl rfl rfl ?_
    refine wi_aload_n (pc' := 16) hm241 rfl rfl rfl (by decide) ?_
    refine wi_iload_n (pc' := 17) hm241 rfl rfl rfl ?_
    refine wi_iload_n (pc' := 18) hm241 rfl rfl rfl ?_
    refine wi_iconst (pc' := 19) (v := 0) hm241 rfl rfl rfl ?_
    refine wc_I (pc' := 22) (by decide) rfl (by decide) ((fx_wE hm241 rfl).trans (fx_exV (mj := 161) (as := [(0, x1), (0, x3), (0, 0)]) (rest := [(0, x2)]) rfl rk161 rfl rfl rfl rfl rfl)) h (fun y2 σ2 h => ?_)
    refine wi_if_ne (pc' := 25) (t := 37) hm241 rfl rfl rfl (fun hc => ?_) (fun hc => ?_)
    · replace h := h.1 hc
      refine wi_iconst (pc' := 38) (v := 0) hm241 rfl rfl rfl ?_
      refine wi_ior (pc' := 39) hm241 rfl rfl ?_
      refine wi_istore_n (pc' := 40) (L' := [(46, o0), (0, x1), (0, (fx_or x2 0)), (0, x3)]) hm241 rfl rfl rfl ?_
      obtain ⟨g1, h⟩ := h
      refine wi_iinc (pc' := 43) (L' := [(46, o0), (0, x1), (0, (fx_or x2 0)), (0, (x3 + 1))]) hm241 rfl rfl rfl g1 rfl ?_
      refine wi_goto (t := 4) hm241 rfl rfl ?_
      exact h
    · replace h := h.2 hc
      refine wi_iconst (pc' := 26) (v := 1) hm241 rfl rfl rfl ?_
      refine wi_aload_n (pc' := 27) hm241 rfl rfl rfl (by decide) ?_
      refine wi_iload_n (pc' := 28) hm241 rfl rfl rfl ?_
      refine wi_iload_n (pc' := 29) hm241 rfl rfl rfl ?_
      refine wi_iconst (pc' := 30) (v := 1) hm241 rfl rfl rfl ?_
      refine wc_I (pc' := 33) (by decide) rfl (by decide) ((fx_wE hm241 rfl).trans (fx_exV (mj := 161) (as := [(0, x1), (0, x3), (0, 1)]) (rest := [(0, 1), (0, x2)]) rfl rk161 rfl rfl rfl rfl rfl)) h (fun y3 σ3 h => ?_)
      refine wi_ishl (pc' := 34) hm241 rfl rfl ?_
      refine wi_goto (t := 38) hm241 rfl rfl ?_
      refine wi_ior (pc' := 39) hm241 rfl rfl ?_
      refine wi_istore_n (pc' := 40) (L' := [(46, o0), (0, x1), (0, (fx_or x2 (fx_shl 1 y3))), (0, x3)]) hm241 rfl rfl rfl ?_
      obtain ⟨g1, h⟩ := h
      refine wi_iinc (pc' := 43) (L' := [(46, o0), (0, x1), (0, (fx_or x2 (fx_shl 1 y3))), (0, (x3 + 1))]) hm241 rfl rfl rfl g1 rfl ?_
      refine wi_goto (t := 4) hm241 rfl rfl ?_
      exact h
set_option maxRecDepth 10000 in
theorem hm242 : fx_code 242 = fx_c242 := rfl
theorem t242_0 {o0 x1 x2 : Int} {σ : fx_S} {Q : fx_V → fx_S → Prop} (h : fx_CI 154 [(0, x1)] σ Q (fun y1 σ1 => ((y1 ≠ 0 → fx_CI 149 [(0, x2), (0, 0), (0, 6)] σ1 Q (fun y2 σ2 => ((y2 ≠ 0 → ((x2 = 0 → fx_CI 209 [(46, o0), (0, 0), (0, x1)] (fx_up σ2 46 o0 0 0) Q (fun y3 σ3 => Q (0, y3) σ3)) ∧ (x2 ≠ 0 → ((x2 = 1 → fx_CI 239 [(46, o0), (0, x1), (0, 1)] (fx_up σ2 46 o0 0 0) Q (fun y4 σ4 => Q (0, y4) σ4)) ∧ (x2 ≠ 1 → ((x2 = 2 → fx_CI 238 [(46, o0), (0, x1)] (fx_up σ2 46 o0 0 0) Q (fun y5 σ5 => Q (0, y5) σ5)) ∧ (x2 ≠ 2 → ((x2 = 3 → fx_CI 239 [(46, o0), (0, x1), (0, 0)] (fx_up σ2 46 o0 0 0) Q (fun y6 σ6 => Q (0, y6) σ6)) ∧ (x2 ≠ 3 → ((x2 = 4 → fx_CI 162 [(46, o0), (0, x1)] (fx_up σ2 46 o0 0 0) Q (fun y7 σ7 => ((y7 = 0 → Q (0, (-1)) σ7) ∧ (y7 ≠ 0 → fx_CI 160 [(46, o0), (0, x1), (0, 1)] σ7 Q (fun y8 σ8 => Q (0, y8) σ8))))) ∧ (x2 ≠ 4 → ((x2 = 5 → fx_CI 241 [(46, o0), (0, x1)] (fx_up σ2 46 o0 0 0) Q (fun y9 σ9 => Q (0, y9) σ9)) ∧ (x2 ≠ 5 → fx_CI 240 [(46, o0), (0, x1)] (fx_up σ2 46 o0 0 0) Q (fun y10 σ10 => Q (0, y10) σ10)))))))))))))) ∧ (y2 = 0 → Q (0, 0) (fx_up σ2 46 o0 0 2))))) ∧ (y1 = 0 → Q (0, 0) (fx_up σ1 46 o0 0 1))))) : fx_Ca 242 [(46, o0), (0, x1), (0, x2)] σ Q := by
  show fx_Wp 242 0 [(46, o0), (0, x1), (0, x2)] [] σ Q
  refine wi_aload_n (pc' := 1) hm242 rfl rfl rfl (by decide) ?_
  refine wi_iload_n (pc' := 2) hm242 rfl rfl rfl ?_
  refine wc_I (pc' := 5) (by decide) rfl (by decide) ((fx_wE hm242 rfl).trans (fx_exS (mj := 154) (as := [(0, x1)]) (rest := [(46, o0)]) rfl rk154 rfl rfl rfl rfl)) h (fun y1 σ1 h => ?_)
  refine wi_if_ne (pc' := 8) (t := 12) hm242 rfl rfl rfl (fun hc => ?_) (fun hc => ?_)
  · replace h := h.1 hc
    refine wi_iload_n (pc' := 13) hm242 rfl rfl rfl ?_
    refine wi_iconst (pc' := 14) (v := 0) hm242 rfl rfl rfl ?_
    refine wi_bipush (pc' := 16) (v := 6) hm242 rfl rfl rfl ?_
    refine wc_I (pc' := 19) (by decide) rfl (by decide) ((fx_wE hm242 rfl).trans (fx_exS (mj := 149) (as := [(0, x2), (0, 0), (0, 6)]) (rest := [(46, o0)]) rfl rk149 rfl rfl rfl rfl)) h (fun y2 σ2 h => ?_)
    refine wi_if_ne (pc' := 22) (t := 26) hm242 rfl rfl rfl (fun hc => ?_) (fun hc => ?_)
    · replace h := h.1 hc
      refine wi_iconst (pc' := 27) (v := 0) hm242 rfl rfl rfl ?_
      refine wi_putI (pc' := 30) hm242 rfl rfl (P := 0) rfl ?_
      refine wi_aload_n (pc' := 31) hm242 rfl rfl rfl (by decide) ?_
      refine wi_getIe (pc' := 34) hm242 rfl rfl (P := 0) rfl (x := 0) fx_upS ?_
      refine wi_if_le (pc' := 37) (t := 39) hm242 rfl rfl rfl (fun _ => ?_) (fun hc => absurd hc (by decide))
      refine wi_iload_n (pc' := 40) hm242 rfl rfl rfl ?_
      refine wi_tsw hm242 rfl ?_
      refine fx_swc (fun hc => ?_) (fun hc => ?_)
      · replace h := h.1 hc
        refine wi_aload_n (pc' := 81) hm242 rfl rfl rfl (by decide) ?_
        refine wi_iconst (pc' := 82) (v := 0) hm242 rfl rfl rfl ?_
        refine wi_iload_n (pc' := 83) hm242 rfl rfl rfl ?_
        refine wc_I (pc' := 86) (by decide) rfl (by decide) ((fx_wE hm242 rfl).trans (fx_exV (mj := 209) (as := [(0, 0), (0, x1)]) (rest := []) rfl rk209 rfl rfl rfl rfl rfl)) h (fun y3 σ3 h => ?_)
        exact wi_iret hm242 rfl h
      · replace h := h.2 hc
        refine fx_swc (fun hc => ?_) (fun hc => ?_)
        · replace h := h.1 hc
          refine wi_aload_n (pc' := 88) hm242 rfl rfl rfl (by decide) ?_
          refine wi_iload_n (pc' := 89) hm242 rfl rfl rfl ?_
          refine wi_iconst (pc' := 90) (v := 1) hm242 rfl rfl rfl ?_
          refine wc_I (pc' := 93) (by decide) rfl (by decide) ((fx_wE hm242 rfl).trans (fx_exV (mj := 239) (as := [(0, x1), (0, 1)]) (rest := []) rfl rk239 rfl rfl rfl rfl rfl)) h (fun y4 σ4 h => ?_)
          exact wi_iret hm242 rfl h
        · replace h := h.2 hc
          refine fx_swc (fun hc => ?_) (fun hc => ?_)
          · replace h := h.1 hc
            refine wi_aload_n (pc' := 95) hm242 rfl rfl rfl (by decide) ?_
            refine wi_iload_n (pc' := 96) hm242 rfl rfl rfl ?_
            refine wc_I (pc' := 99) (by decide) rfl (by decide) ((fx_wE hm242 rfl).trans (fx_exV (mj := 238) (as := [(0, x1)]) (rest := []) rfl rk238 rfl rfl rfl rfl rfl)) h (fun y5 σ5 h => ?_)
            exact wi_iret hm242 rfl h
          · replace h := h.2 hc
            refine fx_swc (fun hc => ?_) (fun hc => ?_)
            · replace h := h.1 hc
              refine wi_aload_n (pc' := 101) hm242 rfl rfl rfl (by decide) ?_
              refine wi_iload_n (pc' := 102) hm242 rfl rfl rfl ?_
              refine wi_iconst (pc' := 103) (v := 0) hm242 rfl rfl rfl ?_
              refine wc_I (pc' := 106) (by decide) rfl (by decide) ((fx_wE hm242 rfl).trans (fx_exV (mj := 239) (as := [(0, x1), (0, 0)]) (rest := []) rfl rk239 rfl rfl rfl rfl rfl)) h (fun y6 σ6 h => ?_)
              exact wi_iret hm242 rfl h
            · replace h := h.2 hc
              refine fx_swc (fun hc => ?_) (fun hc => ?_)
              · replace h := h.1 hc
                refine wi_aload_n (pc' := 108) hm242 rfl rfl rfl (by decide) ?_
                refine wi_iload_n (pc' := 109) hm242 rfl rfl rfl ?_
                refine wc_I (pc' := 112) (by decide) rfl (by decide) ((fx_wE hm242 rfl).trans (fx_exV (mj := 162) (as := [(0, x1)]) (rest := []) rfl rk162 rfl rfl rfl rfl rfl)) h (fun y7 σ7 h => ?_)
                refine wi_if_eq (pc' := 115) (t := 124) hm242 rfl rfl rfl (fun hc => ?_) (fun hc => ?_)
                · replace h := h.1 hc
                  refine wi_iconst (pc' := 125) (v := (-1)) hm242 rfl rfl rfl ?_
                  exact wi_iret hm242 rfl h
                · replace h := h.2 hc
                  refine wi_aload_n (pc' := 116) hm242 rfl rfl rfl (by decide) ?_
                  refine wi_iload_n (pc' := 117) hm242 rfl rfl rfl ?_
                  refine wi_iconst (pc' := 118) (v := 1) hm242 rfl rfl rfl ?_
                  refine wc_I (pc' := 121) (by decide) rfl (by decide) ((fx_wE hm242 rfl).trans (fx_exV (mj := 160) (as := [(0, x1), (0, 1)]) (rest := []) rfl rk160 rfl rfl rfl rfl rfl)) h (fun y8 σ8 h => ?_)
                  refine wi_goto (t := 125) hm242 rfl rfl ?_
                  exact wi_iret hm242 rfl h
              · replace h := h.2 hc
                refine fx_swc (fun hc => ?_) (fun hc => ?_)
                · replace h := h.1 hc
                  refine wi_aload_n (pc' := 127) hm242 rfl rfl rfl (by decide) ?_
                  refine wi_iload_n (pc' := 128) hm242 rfl rfl rfl ?_
                  refine wc_I (pc' := 131) (by decide) rfl (by decide) ((fx_wE hm242 rfl).trans (fx_exV (mj := 241) (as := [(0, x1)]) (rest := []) rfl rk241 rfl rfl rfl rfl rfl)) h (fun y9 σ9 h => ?_)
                  exact wi_iret hm242 rfl h
                · replace h := h.2 hc
                  refine fx_swn ?_
                  refine wi_aload_n (pc' := 133) hm242 rfl rfl rfl (by decide) ?_
                  refine wi_iload_n (pc' := 134) hm242 rfl rfl rfl ?_
                  refine wc_I (pc' := 137) (by decide) rfl (by decide) ((fx_wE hm242 rfl).trans (fx_exV (mj := 240) (as := [(0, x1)]) (rest := []) rfl rk240 rfl rfl rfl rfl rfl)) h (fun y10 σ10 h => ?_)
                  exact wi_iret hm242 rfl h
    · replace h := h.2 hc
      refine wi_iconst (pc' := 23) (v := 2) hm242 rfl rfl rfl ?_
      refine wi_goto (t := 27) hm242 rfl rfl ?_
      refine wi_putI (pc' := 30) hm242 rfl rfl (P := 0) rfl ?_
      refine wi_aload_n (pc' := 31) hm242 rfl rfl rfl (by decide) ?_
      refine wi_getIe (pc' := 34) hm242 rfl rfl (P := 0) rfl (x := 2) fx_upS ?_
      refine wi_if_le (pc' := 37) (t := 39) hm242 rfl rfl rfl (fun hc => absurd hc (by decide)) (fun _ => ?_)
      refine wi_iconst (pc' := 38) (v := 0) hm242 rfl rfl rfl ?_
      exact wi_iret hm242 rfl h
  · replace h := h.2 hc
    refine wi_iconst (pc' := 9) (v := 1) hm242 rfl rfl rfl ?_
    refine wi_goto (t := 27) hm242 rfl rfl ?_
    refine wi_putI (pc' := 30) hm242 rfl rfl (P := 0) rfl ?_
    refine wi_aload_n (pc' := 31) hm242 rfl rfl rfl (by decide) ?_
    refine wi_getIe (pc' := 34) hm242 rfl rfl (P := 0) rfl (x := 1) fx_upS ?_
    refine wi_if_le (pc' := 37) (t := 39) hm242 rfl rfl rfl (fun hc => absurd hc (by decide)) (fun _ => ?_)
    refine wi_iconst (pc' := 38) (v := 0) hm242 rfl rfl rfl ?_
    exact wi_iret hm242 rfl h
set_option maxRecDepth 10000 in
theorem hm243 : fx_code 243 = fx_c243 := rfl
theorem t243_0 {o0 x1 x2 : Int} {σ : fx_S} {Q : fx_V → fx_S → Prop} (h : fx_CI 154 [(0, x1)] σ Q (fun y1 σ1 => ((y1 ≠ 0 → fx_CI 149 [(0, x2), (0, 0), (0, 99)] σ1 Q (fun y2 σ2 => ((y2 ≠ 0 → fx_CV 166 [(46, o0), (0, x1), (59, 0)] (fx_up σ2 46 o0 0 0) Q (fun σ3 => fx_Wp 243 53 [(46, o0), (0, x1), (0, x2), (0, 0), (0, 0)] [] σ3 Q)) ∧ (y2 = 0 → Q (0, 0) (fx_up σ2 46 o0 0 2))))) ∧ (y1 = 0 → Q (0, 0) (fx_up σ1 46 o0 0 1))))) : fx_Ca 243 [(46, o0), (0, x1), (0, x2)] σ Q := by
  show fx_Wp 243 0 [(46, o0), (0, x1), (0, x2), (3, 0), (3, 0)] [] σ Q
  refine wi_aload_n (pc' := 1) hm243 rfl rfl rfl (by decide) ?_
  refine wi_iload_n (pc' := 2) hm243 rfl rfl rfl ?_
  refine wc_I (pc' := 5) (by decide) rfl (by decide) ((fx_wE hm243 rfl).trans (fx_exS (mj := 154) (as := [(0, x1)]) (rest := [(46, o0)]) rfl rk154 rfl rfl rfl rfl)) h (fun y1 σ1 h => ?_)
  refine wi_if_ne (pc' := 8) (t := 12) hm243 rfl rfl rfl (fun hc => ?_) (fun hc => ?_)
  · replace h := h.1 hc
    refine wi_iload_n (pc' := 13) hm243 rfl rfl rfl ?_
    refine wi_iconst (pc' := 14) (v := 0) hm243 rfl rfl rfl ?_
    refine wi_bipush (pc' := 16) (v := 99) hm243 rfl rfl rfl ?_
    refine wc_I (pc' := 19) (by decide) rfl (by decide) ((fx_wE hm243 rfl).trans (fx_exS (mj := 149) (as := [(0, x2), (0, 0), (0, 99)]) (rest := [(46, o0)]) rfl rk149 rfl rfl rfl rfl)) h (fun y2 σ2 h => ?_)
    refine wi_if_ne (pc' := 22) (t := 26) hm243 rfl rfl rfl (fun hc => ?_) (fun hc => ?_)
    · replace h := h.1 hc
      refine wi_iconst (pc' := 27) (v := 0) hm243 rfl rfl rfl ?_
      refine wi_putI (pc' := 30) hm243 rfl rfl (P := 0) rfl ?_
      refine wi_aload_n (pc' := 31) hm243 rfl rfl rfl (by decide) ?_
      refine wi_getIe (pc' := 34) hm243 rfl rfl (P := 0) rfl (x := 0) fx_upS ?_
      refine wi_if_le (pc' := 37) (t := 39) hm243 rfl rfl rfl (fun _ => ?_) (fun hc => absurd hc (by decide))
      refine wi_aload_n (pc' := 40) hm243 rfl rfl rfl (by decide) ?_
      refine wi_iload_n (pc' := 41) hm243 rfl rfl rfl ?_
      refine wi_aload_n (pc' := 42) hm243 rfl rfl rfl (by decide) ?_
      refine wi_getR (pc' := 45) (x := 0) hm243 rfl rfl rfl (by omega) ?_
      refine wc_V (pc' := 48) (by decide) rfl (by decide) ((fx_wE hm243 rfl).trans (fx_exV (mj := 166) (as := [(0, x1), (59, 0)]) (rest := []) rfl rk166 rfl rfl rfl rfl rfl)) h (fun σ3 h => ?_)
      refine wi_iconst (pc' := 49) (v := 0) hm243 rfl rfl rfl ?_
      refine wi_istore_n (pc' := 50) (L' := [(46, o0), (0, x1), (0, x2), (0, 0), (3, 0)]) hm243 rfl rfl rfl ?_
      refine wi_iconst (pc' := 51) (v := 0) hm243 rfl rfl rfl ?_
      refine wi_istore (pc' := 53) (L' := [(46, o0), (0, x1), (0, x2), (0, 0), (0, 0)]) hm243 rfl rfl rfl ?_
      exact h
    · replace h := h.2 hc
      refine wi_iconst (pc' := 23) (v := 2) hm243 rfl rfl rfl ?_
      refine wi_goto (t := 27) hm243 rfl rfl ?_
      refine wi_putI (pc' := 30) hm243 rfl rfl (P := 0) rfl ?_
      refine wi_aload_n (pc' := 31) hm243 rfl rfl rfl (by decide) ?_
      refine wi_getIe (pc' := 34) hm243 rfl rfl (P := 0) rfl (x := 2) fx_upS ?_
      refine wi_if_le (pc' := 37) (t := 39) hm243 rfl rfl rfl (fun hc => absurd hc (by decide)) (fun _ => ?_)
      refine wi_iconst (pc' := 38) (v := 0) hm243 rfl rfl rfl ?_
      exact wi_iret hm243 rfl h
  · replace h := h.2 hc
    refine wi_iconst (pc' := 9) (v := 1) hm243 rfl rfl rfl ?_
    refine wi_goto (t := 27) hm243 rfl rfl ?_
    refine wi_putI (pc' := 30) hm243 rfl rfl (P := 0) rfl ?_
    refine wi_aload_n (pc' := 31) hm243 rfl rfl rfl (by decide) ?_
    refine wi_getIe (pc' := 34) hm243 rfl rfl (P := 0) rfl (x := 1) fx_upS ?_
    refine wi_if_le (pc' := 37) (t := 39) hm243 rfl rfl rfl (fun hc => absurd hc (by decide)) (fun _ => ?_)
    refine wi_iconst (pc' := 38) (v := 0) hm243 rfl rfl rfl ?_
    exact wi_iret hm243 rfl h
theorem t243_53 {o0 x2 x3 x4 : Int} {w1 : fx_V} {σ : fx_S} {Q : fx_V → fx_S → Prop} (h : ((1000 ≤ x4 → Q (0, x3) σ) ∧ (x4 < 1000 → (0 ≤ x4 ∧ x4 < 1000) ∧ (((σ 59 0 x4) ≠ x2 → (fx_rg (x3 + 0)) ∧ (fx_rg (x4 + 1)) ∧ fx_Wp 243 53 [(46, o0), w1, (0, x2), (0, (x3 + 0)), (0, (x4 + 1))] [] σ Q) ∧ ((σ 59 0 x4) = x2 → (fx_rg (x3 + 1)) ∧ (fx_rg (x4 + 1)) ∧ fx_Wp 243 53 [(46, o0), w1, (0, x2), (0, (x3 + 1)), (0, (x4 + 1))] [] σ Q))))) : fx_Wp 243 53 [(46, o0), w1, (0, x2), (0, x3), (0, x4)] [] σ Q := by
  refine wi_iload (pc' := 55) hm243 rfl rfl rfl ?_
  refine wi_sipush (pc' := 58) (v := 1000) hm243 rfl rfl rfl ?_
  refine wi_ic_ge (pc' := 61) (t := 86) hm243 rfl rfl rfl (fun hc => ?_) (fun hc => ?_)
  · replace h := h.1 hc
    refine wi_iload_n (pc' := 87) hm243 rfl rfl rfl ?_
    exact wi_iret hm243 rfl h
  · replace h := h.2 hc
    refine wi_iload_n (pc' := 62) hm243 rfl rfl rfl ?_
    refine wi_aload_n (pc' := 63) hm243 rfl rfl rfl (by decide) ?_
    refine wi_getR (pc' := 66) (x := 0) hm243 rfl rfl rfl (by omega) ?_
    refine wi_iload (pc' := 68) hm243 rfl rfl rfl ?_
    obtain ⟨g1, h⟩ := h
    refine wi_iaload (pc' := 69) hm243 rfl rfl rfl rfl (N := 1000) rfl g1 ?_
    refine wi_iload_n (pc' := 70) hm243 rfl rfl rfl ?_
    refine wi_ic_ne (pc' := 73) (t := 77) hm243 rfl rfl rfl (fun hc => ?_) (fun hc => ?_)
    · replace h := h.1 hc
      refine wi_iconst (pc' := 78) (v := 0) hm243 rfl rfl rfl ?_
      obtain ⟨g2, h⟩ := h
      refine wi_iadd (pc' := 79) hm243 rfl rfl g2 ?_
      refine wi_istore_n (pc' := 80) (L' := [(46, o0), w1, (0, x2), (0, (x3 + 0)), (0, x4)]) hm243 rfl rfl rfl ?_
      obtain ⟨g3, h⟩ := h
      refine wi_iinc (pc' := 83) (L' := [(46, o0), w1, (0, x2), (0, (x3 + 0)), (0, (x4 + 1))]) hm243 rfl rfl rfl g3 rfl ?_
      refine wi_goto (t := 53) hm243 rfl rfl ?_
      exact h
    · replace h := h.2 hc
      refine wi_iconst (pc' := 74) (v := 1) hm243 rfl rfl rfl ?_
      refine wi_goto (t := 78) hm243 rfl rfl ?_
      obtain ⟨g2, h⟩ := h
      refine wi_iadd (pc' := 79) hm243 rfl rfl g2 ?_
      refine wi_istore_n (pc' := 80) (L' := [(46, o0), w1, (0, x2), (0, (x3 + 1)), (0, x4)]) hm243 rfl rfl rfl ?_
      obtain ⟨g3, h⟩ := h
      refine wi_iinc (pc' := 83) (L' := [(46, o0), w1, (0, x2), (0, (x3 + 1)), (0, (x4 + 1))]) hm243 rfl rfl rfl g3 rfl ?_
      refine wi_goto (t := 53) hm243 rfl rfl ?_
      exact h
set_option maxRecDepth 10000 in
theorem hm244 : fx_code 244 = fx_c244 := rfl
theorem t244_0 {o0 x1 x2 : Int} {σ : fx_S} {Q : fx_V → fx_S → Prop} (h : fx_CI 154 [(0, x1)] σ Q (fun y1 σ1 => ((y1 = 0 → Q (0, 0) (fx_up σ1 46 o0 0 1)) ∧ (y1 ≠ 0 → fx_CI 155 [(0, x2)] σ1 Q (fun y2 σ2 => ((y2 = 0 → Q (0, 0) (fx_up σ2 46 o0 0 1)) ∧ (y2 ≠ 0 → fx_CV 166 [(46, o0), (0, x1), (59, 0)] (fx_up σ2 46 o0 0 0) Q (fun σ3 => fx_Wp 244 43 [(46, o0), (0, x1), (0, x2), (0, 0)] [] σ3 Q)))))))) : fx_Ca 244 [(46, o0), (0, x1), (0, x2)] σ Q := by
  show fx_Wp 244 0 [(46, o0), (0, x1), (0, x2), (3, 0)] [] σ Q
  refine wi_aload_n (pc' := 1) hm244 rfl rfl rfl (by decide) ?_
  refine wi_iload_n (pc' := 2) hm244 rfl rfl rfl ?_
  refine wc_I (pc' := 5) (by decide) rfl (by decide) ((fx_wE hm244 rfl).trans (fx_exS (mj := 154) (as := [(0, x1)]) (rest := [(46, o0)]) rfl rk154 rfl rfl rfl rfl)) h (fun y1 σ1 h => ?_)
  refine wi_if_eq (pc' := 8) (t := 19) hm244 rfl rfl rfl (fun hc => ?_) (fun hc => ?_)
  · replace h := h.1 hc
    refine wi_iconst (pc' := 20) (v := 1) hm244 rfl rfl rfl ?_
    refine wi_putI (pc' := 23) hm244 rfl rfl (P := 0) rfl ?_
    refine wi_aload_n (pc' := 24) hm244 rfl rfl rfl (by decide) ?_
    refine wi_getIe (pc' := 27) hm244 rfl rfl (P := 0) rfl (x := 1) fx_upS ?_
    refine wi_if_le (pc' := 30) (t := 32) hm244 rfl rfl rfl (fun hc => absurd hc (by decide)) (fun _ => ?_)
    refine wi_iconst (pc' := 31) (v := 0) hm244 rfl rfl rfl ?_
    exact wi_iret hm244 rfl h
  · replace h := h.2 hc
    refine wi_iload_n (pc' := 9) hm244 rfl rfl rfl ?_
    refine wc_I (pc' := 12) (by decide) rfl (by decide) ((fx_wE hm244 rfl).trans (fx_exS (mj := 155) (as := [(0, x2)]) (rest := [(46, o0)]) rfl rk155 rfl rfl rfl rfl)) h (fun y2 σ2 h => ?_)
    refine wi_if_eq (pc' := 15) (t := 19) hm244 rfl rfl rfl (fun hc => ?_) (fun hc => ?_)
    · replace h := h.1 hc
      refine wi_iconst (pc' := 20) (v := 1) hm244 rfl rfl rfl ?_
      refine wi_putI (pc' := 23) hm244 rfl rfl (P := 0) rfl ?_
      refine wi_aload_n (pc' := 24) hm244 rfl rfl rfl (by decide) ?_
      refine wi_getIe (pc' := 27) hm244 rfl rfl (P := 0) rfl (x := 1) fx_upS ?_
      refine wi_if_le (pc' := 30) (t := 32) hm244 rfl rfl rfl (fun hc => absurd hc (by decide)) (fun _ => ?_)
      refine wi_iconst (pc' := 31) (v := 0) hm244 rfl rfl rfl ?_
      exact wi_iret hm244 rfl h
    · replace h := h.2 hc
      refine wi_iconst (pc' := 16) (v := 0) hm244 rfl rfl rfl ?_
      refine wi_goto (t := 20) hm244 rfl rfl ?_
      refine wi_putI (pc' := 23) hm244 rfl rfl (P := 0) rfl ?_
      refine wi_aload_n (pc' := 24) hm244 rfl rfl rfl (by decide) ?_
      refine wi_getIe (pc' := 27) hm244 rfl rfl (P := 0) rfl (x := 0) fx_upS ?_
      refine wi_if_le (pc' := 30) (t := 32) hm244 rfl rfl rfl (fun _ => ?_) (fun hc => absurd hc (by decide))
      refine wi_aload_n (pc' := 33) hm244 rfl rfl rfl (by decide) ?_
      refine wi_iload_n (pc' := 34) hm244 rfl rfl rfl ?_
      refine wi_aload_n (pc' := 35) hm244 rfl rfl rfl (by decide) ?_
      refine wi_getR (pc' := 38) (x := 0) hm244 rfl rfl rfl (by omega) ?_
      refine wc_V (pc' := 41) (by decide) rfl (by decide) ((fx_wE hm244 rfl).trans (fx_exV (mj := 166) (as := [(0, x1), (59, 0)]) (rest := []) rfl rk166 rfl rfl rfl rfl rfl)) h (fun σ3 h => ?_)
      refine wi_iconst (pc' := 42) (v := 0) hm244 rfl rfl rfl ?_
      refine wi_istore_n (pc' := 43) (L' := [(46, o0), (0, x1), (0, x2), (0, 0)]) hm244 rfl rfl rfl ?_
      exact h
theorem t244_43 {o0 x2 x3 : Int} {w1 : fx_V} {σ : fx_S} {Q : fx_V → fx_S → Prop} (h : ((1000 ≤ x3 → Q (0, (-1)) σ) ∧ (x3 < 1000 → (fx_rg (x2 - x3)) ∧ (((x2 - x3) < 0 → fx_Wp 244 72 [(46, o0), w1, (0, x2), (0, x3)] [] σ Q) ∧ (0 ≤ (x2 - x3) → (0 ≤ (x2 - x3) ∧ (x2 - x3) < 1000) ∧ (((σ 59 0 (x2 - x3)) = (-1) → fx_Wp 244 72 [(46, o0), w1, (0, x2), (0, x3)] [] σ Q) ∧ ((σ 59 0 (x2 - x3)) ≠ (-1) → Q (0, (x2 - x3)) σ))))))) : fx_Wp 244 43 [(46, o0), w1, (0, x2), (0, x3)] [] σ Q := by
  refine wi_iload_n (pc' := 44) hm244 rfl rfl rfl ?_
  refine wi_sipush (pc' := 47) (v := 1000) hm244 rfl rfl rfl ?_
  refine wi_ic_ge (pc' := 50) (t := 103) hm244 rfl rfl rfl (fun hc => ?_) (fun hc => ?_)
  · replace h := h.1 hc
    refine wi_iconst (pc' := 104) (v := (-1)) hm244 rfl rfl rfl ?_
    exact wi_iret hm244 rfl h
  · replace h := h.2 hc
    refine wi_iload_n (pc' := 51) hm244 rfl rfl rfl ?_
    refine wi_iload_n (pc' := 52) hm244 rfl rfl rfl ?_
    obtain ⟨g1, h⟩ := h
    refine wi_isub (pc' := 53) hm244 rfl rfl g1 ?_
    refine wi_if_lt (pc' := 56) (t := 72) hm244 rfl rfl rfl (fun hc => ?_) (fun hc => ?_)
    · replace h := h.1 hc
      exact h
    · replace h := h.2 hc
      refine wi_aload_n (pc' := 57) hm244 rfl rfl rfl (by decide) ?_
      refine wi_getR (pc' := 60) (x := 0) hm244 rfl rfl rfl (by omega) ?_
      refine wi_iload_n (pc' := 61) hm244 rfl rfl rfl ?_
      refine wi_iload_n (pc' := 62) hm244 rfl rfl rfl ?_
      refine wi_isub (pc' := 63) hm244 rfl rfl g1 ?_
      obtain ⟨g2, h⟩ := h
      refine wi_iaload (pc' := 64) hm244 rfl rfl rfl rfl (N := 1000) rfl g2 ?_
      refine wi_iconst (pc' := 65) (v := (-1)) hm244 rfl rfl rfl ?_
      refine wi_ic_eq (pc' := 68) (t := 72) hm244 rfl rfl rfl (fun hc => ?_) (fun hc => ?_)
      · replace h := h.1 hc
        exact h
      · replace h := h.2 hc
        refine wi_iload_n (pc' := 69) hm244 rfl rfl rfl ?_
        refine wi_iload_n (pc' := 70) hm244 rfl rfl rfl ?_
        refine wi_isub (pc' := 71) hm244 rfl rfl g1 ?_
        exact wi_iret hm244 rfl h
theorem t244_72 {o0 x2 x3 : Int} {w1 : fx_V} {σ : fx_S} {Q : fx_V → fx_S → Prop} (h : (fx_rg (x2 + x3)) ∧ ((1000 ≤ (x2 + x3) → (fx_rg (x3 + 1)) ∧ fx_Wp 244 43 [(46, o0), w1, (0, x2), (0, (x3 + 1))] [] σ Q) ∧ ((x2 + x3) < 1000 → (0 ≤ (x2 + x3) ∧ (x2 + x3) < 1000) ∧ (((σ 59 0 (x2 + x3)) = (-1) → (fx_rg (x3 + 1)) ∧ fx_Wp 244 43 [(46, o0), w1, (0, x2), (0, (x3 + 1))] [] σ Q) ∧ ((σ 59 0 (x2 + x3)) ≠ (-1) → Q (0, (x2 + x3)) σ))))) : fx_Wp 244 72 [(46, o0), w1, (0, x2), (0, x3)] [] σ Q := by
  refine wi_iload_n (pc' := 73) hm244 rfl rfl rfl ?_
  refine wi_iload_n (pc' := 74) hm244 rfl rfl rfl ?_
  obtain ⟨g1, h⟩ := h
  refine wi_iadd (pc' := 75) hm244 rfl rfl g1 ?_
  refine wi_sipush (pc' := 78) (v := 1000) hm244 rfl rfl rfl ?_
  refine wi_ic_ge (pc' := 81) (t := 97) hm244 rfl rfl rfl (fun hc => ?_) (fun hc => ?_)
  · replace h := h.1 hc
    obtain ⟨g2, h⟩ := h
    refine wi_iinc (pc' := 100) (L' := [(46, o0), w1, (0, x2), (0, (x3 + 1))]) hm244 rfl rfl rfl g2 rfl ?_
    refine wi_goto (t := 43) hm244 rfl rfl ?_
    exact h
  · replace h := h.2 hc
    refine wi_aload_n (pc' := 82) hm244 rfl rfl rfl (by decide) ?_
    refine wi_getR (pc' := 85) (x := 0) hm244 rfl rfl rfl (by omega) ?_
    refine wi_iload_n (pc' := 86) hm244 rfl rfl rfl ?_
    refine wi_iload_n (pc' := 87) hm244 rfl rfl rfl ?_
    refine wi_iadd (pc' := 88) hm244 rfl rfl g1 ?_
    obtain ⟨g2, h⟩ := h
    refine wi_iaload (pc' := 89) hm244 rfl rfl rfl rfl (N := 1000) rfl g2 ?_
    refine wi_iconst (pc' := 90) (v := (-1)) hm244 rfl rfl rfl ?_
    refine wi_ic_eq (pc' := 93) (t := 97) hm244 rfl rfl rfl (fun hc => ?_) (fun hc => ?_)
    · replace h := h.1 hc
      obtain ⟨g3, h⟩ := h
      refine wi_iinc (pc' := 100) (L' := [(46, o0), w1, (0, x2), (0, (x3 + 1))]) hm244 rfl rfl rfl g3 rfl ?_
      refine wi_goto (t := 43) hm244 rfl rfl ?_
      exact h
    · replace h := h.2 hc
      refine wi_iload_n (pc' := 94) hm244 rfl rfl rfl ?_
      refine wi_iload_n (pc' := 95) hm244 rfl rfl rfl ?_
      refine wi_iadd (pc' := 96) hm244 rfl rfl g1 ?_
      exact wi_iret hm244 rfl h
set_option maxRecDepth 10000 in
theorem hm245 : fx_code 245 = fx_c245 := rfl
theorem t245_0 {o0 x1 x2 : Int} {σ : fx_S} {Q : fx_V → fx_S → Prop} (h : fx_CI 153 [(46, o0), (0, x1)] σ Q (fun y1 σ1 => ((y1 = 0 → Q (0, 0) (fx_up σ1 46 o0 0 1)) ∧ (y1 ≠ 0 → fx_CI 153 [(46, o0), (0, x2)] σ1 Q (fun y2 σ2 => ((y2 = 0 → Q (0, 0) (fx_up σ2 46 o0 0 1)) ∧ (y2 ≠ 0 → fx_Wp 245 39 [(46, o0), (0, x1), (0, x2), (0, 0), (0, 0)] [] (fx_up σ2 46 o0 0 0) Q))))))) : fx_Ca 245 [(46, o0), (0, x1), (0, x2)] σ Q := by
  show fx_Wp 245 0 [(46, o0), (0, x1), (0, x2), (3, 0), (3, 0)] [] σ Q
  refine wi_aload_n (pc' := 1) hm245 rfl rfl rfl (by decide) ?_
  refine wi_aload_n (pc' := 2) hm245 rfl rfl rfl (by decide) ?_
  refine wi_iload_n (pc' := 3) hm245 rfl rfl rfl ?_
  refine wc_I (pc' := 6) (by decide) rfl (by decide) ((fx_wE hm245 rfl).trans (fx_exV (mj := 153) (as := [(0, x1)]) (rest := [(46, o0)]) rfl rk153 rfl rfl rfl rfl rfl)) h (fun y1 σ1 h => ?_)
  refine wi_if_eq (pc' := 9) (t := 21) hm245 rfl rfl rfl (fun hc => ?_) (fun hc => ?_)
  · replace h := h.1 hc
    refine wi_iconst (pc' := 22) (v := 1) hm245 rfl rfl rfl ?_
    refine wi_putI (pc' := 25) hm245 rfl rfl (P := 0) rfl ?_
    refine wi_aload_n (pc' := 26) hm245 rfl rfl rfl (by decide) ?_
    refine wi_getIe (pc' := 29) hm245 rfl rfl (P := 0) rfl (x := 1) fx_upS ?_
    refine wi_if_le (pc' := 32) (t := 34) hm245 rfl rfl rfl (fun hc => absurd hc (by decide)) (fun _ => ?_)
    refine wi_iconst (pc' := 33) (v := 0) hm245 rfl rfl rfl ?_
    exact wi_iret hm245 rfl h
  · replace h := h.2 hc
    refine wi_aload_n (pc' := 10) hm245 rfl rfl rfl (by decide) ?_
    refine wi_iload_n (pc' := 11) hm245 rfl rfl rfl ?_
    refine wc_I (pc' := 14) (by decide) rfl (by decide) ((fx_wE hm245 rfl).trans (fx_exV (mj := 153) (as := [(0, x2)]) (rest := [(46, o0)]) rfl rk153 rfl rfl rfl rfl rfl)) h (fun y2 σ2 h => ?_)
    refine wi_if_eq (pc' := 17) (t := 21) hm245 rfl rfl rfl (fun hc => ?_) (fun hc => ?_)
    · replace h := h.1 hc
      refine wi_iconst (pc' := 22) (v := 1) hm245 rfl rfl rfl ?_
      refine wi_putI (pc' := 25) hm245 rfl rfl (P := 0) rfl ?_
      refine wi_aload_n (pc' := 26) hm245 rfl rfl rfl (by decide) ?_
      refine wi_getIe (pc' := 29) hm245 rfl rfl (P := 0) rfl (x := 1) fx_upS ?_
      refine wi_if_le (pc' := 32) (t := 34) hm245 rfl rfl rfl (fun hc => absurd hc (by decide)) (fun _ => ?_)
      refine wi_iconst (pc' := 33) (v := 0) hm245 rfl rfl rfl ?_
      exact wi_iret hm245 rfl h
    · replace h := h.2 hc
      refine wi_iconst (pc' := 18) (v := 0) hm245 rfl rfl rfl ?_
      refine wi_goto (t := 22) hm245 rfl rfl ?_
      refine wi_putI (pc' := 25) hm245 rfl rfl (P := 0) rfl ?_
      refine wi_aload_n (pc' := 26) hm245 rfl rfl rfl (by decide) ?_
      refine wi_getIe (pc' := 29) hm245 rfl rfl (P := 0) rfl (x := 0) fx_upS ?_
      refine wi_if_le (pc' := 32) (t := 34) hm245 rfl rfl rfl (fun _ => ?_) (fun hc => absurd hc (by decide))
      refine wi_iconst (pc' := 35) (v := 0) hm245 rfl rfl rfl ?_
      refine wi_istore_n (pc' := 36) (L' := [(46, o0), (0, x1), (0, x2), (0, 0), (3, 0)]) hm245 rfl rfl rfl ?_
      refine wi_iconst (pc' := 37) (v := 0) hm245 rfl rfl rfl ?_
      refine wi_istore (pc' := 39) (L' := [(46, o0), (0, x1), (0, x2), (0, 0), (0, 0)]) hm245 rfl rfl rfl ?_
      exact h
theorem t245_39 {o0 x1 x2 x3 x4 : Int} {σ : fx_S} {Q : fx_V → fx_S → Prop} (h : ((1000 ≤ x4 → Q (0, x3) σ) ∧ (x4 < 1000 → fx_CI 151 [(46, o0), (0, x1), (0, 2)] σ Q (fun y1 σ1 => fx_CI 151 [(46, o0), (0, x1), (0, 3)] σ1 Q (fun y2 σ2 => (fx_rg (y2 - 1)) ∧ fx_CI 149 [(0, x4), (0, y1), (0, (y2 - 1))] σ2 Q (fun y3 σ3 => ((y3 = 0 → (fx_rg (x3 + 0)) ∧ (fx_rg (x4 + 1)) ∧ fx_Wp 245 39 [(46, o0), (0, x1), (0, x2), (0, (x3 + 0)), (0, (x4 + 1))] [] σ3 Q) ∧ (y3 ≠ 0 → fx_CI 151 [(46, o0), (0, x2), (0, 2)] σ3 Q (fun y4 σ4 => fx_CI 151 [(46, o0), (0, x2), (0, 3)] σ4 Q (fun y5 σ5 => (fx_rg (y5 - 1)) ∧ fx_CI 149 [(0, x4), (0, y4), (0, (y5 - 1))] σ5 Q (fun y6 σ6 => ((y6 = 0 → (fx_rg (x3 + 0)) ∧ (fx_rg (x4 + 1)) ∧ fx_Wp 245 39 [(46, o0), (0, x1), (0, x2), (0, (x3 + 0)), (0, (x4 + 1))] [] σ6 Q) ∧ (y6 ≠ 0 → (fx_rg (x3 + 1)) ∧ (fx_rg (x4 + 1)) ∧ fx_Wp 245 39 [(46, o0), (0, x1), (0, x2), (0, (x3 + 1)), (0, (x4 + 1))] [] σ6 Q))))))))))))) : fx_Wp 245 39 [(46, o0), (0, x1), (0, x2), (0, x3), (0, x4)] [] σ Q := by
  refine wi_iload (pc' := 41) hm245 rfl rfl rfl ?_
  refine wi_sipush (pc' := 44) (v := 1000) hm245 rfl rfl rfl ?_
  refine wi_ic_ge (pc' := 47) (t := 105) hm245 rfl rfl rfl (fun hc => ?_) (fun hc => ?_)
  · replace h := h.1 hc
    refine wi_iload_n (pc' := 106) hm245 rfl rfl rfl ?_
    exact wi_iret hm245 rfl h
  · replace h := h.2 hc
    refine wi_iload_n (pc' := 48) hm245 rfl rfl rfl ?_
    refine wi_iload (pc' := 50) hm245 rfl rfl rfl ?_
    refine wi_aload_n (pc' := 51) hm245 rfl rfl rfl (by decide) ?_
    refine wi_iload_n (pc' := 52) hm245 rfl rfl rfl ?_
    refine wi_iconst (pc' := 53) (v := 2) hm245 rfl rfl rfl ?_
    refine wc_I (pc' := 56) (by decide) rfl (by decide) ((fx_wE hm245 rfl).trans (fx_exV (mj := 151) (as := [(0, x1), (0, 2)]) (rest := [(0, x4), (0, x3)]) rfl rk151 rfl rfl rfl rfl rfl)) h (fun y1 σ1 h => ?_)
    refine wi_aload_n (pc' := 57) hm245 rfl rfl rfl (by decide) ?_
    refine wi_iload_n (pc' := 58) hm245 rfl rfl rfl ?_
    refine wi_iconst (pc' := 59) (v := 3) hm245 rfl rfl rfl ?_
    refine wc_I (pc' := 62) (by decide) rfl (by decide) ((fx_wE hm245 rfl).trans (fx_exV (mj := 151) (as := [(0, x1), (0, 3)]) (rest := [(0, y1), (0, x4), (0, x3)]) rfl rk151 rfl rfl rfl rfl rfl)) h (fun y2 σ2 h => ?_)
    refine wi_iconst (pc' := 63) (v := 1) hm245 rfl rfl rfl ?_
    obtain ⟨g1, h⟩ := h
    refine wi_isub (pc' := 64) hm245 rfl rfl g1 ?_
    refine wc_I (pc' := 67) (by decide) rfl (by decide) ((fx_wE hm245 rfl).trans (fx_exS (mj := 149) (as := [(0, x4), (0, y1), (0, (y2 - 1))]) (rest := [(0, x3)]) rfl rk149 rfl rfl rfl rfl)) h (fun y3 σ3 h => ?_)
    refine wi_if_eq (pc' := 70) (t := 96) hm245 rfl rfl rfl (fun hc => ?_) (fun hc => ?_)
    · replace h := h.1 hc
      refine wi_iconst (pc' := 97) (v := 0) hm245 rfl rfl rfl ?_
      obtain ⟨g2, h⟩ := h
      refine wi_iadd (pc' := 98) hm245 rfl rfl g2 ?_
      refine wi_istore_n (pc' := 99) (L' := [(46, o0), (0, x1), (0, x2), (0, (x3 + 0)), (0, x4)]) hm245 rfl rfl rfl ?_
      obtain ⟨g3, h⟩ := h
      refine wi_iinc (pc' := 102) (L' := [(46, o0), (0, x1), (0, x2), (0, (x3 + 0)), (0, (x4 + 1))]) hm245 rfl rfl rfl g3 rfl ?_
      refine wi_goto (t := 39) hm245 rfl rfl ?_
      exact h
    · replace h := h.2 hc
      refine wi_iload (pc' := 72) hm245 rfl rfl rfl ?_
      refine wi_aload_n (pc' := 73) hm245 rfl rfl rfl (by decide) ?_
      refine wi_iload_n (pc' := 74) hm245 rfl rfl rfl ?_
      refine wi_iconst (pc' := 75) (v := 2) hm245 rfl rfl rfl ?_
      refine wc_I (pc' := 78) (by decide) rfl (by decide) ((fx_wE hm245 rfl).trans (fx_exV (mj := 151) (as := [(0, x2), (0, 2)]) (rest := [(0, x4), (0, x3)]) rfl rk151 rfl rfl rfl rfl rfl)) h (fun y4 σ4 h => ?_)
      refine wi_aload_n (pc' := 79) hm245 rfl rfl rfl (by decide) ?_
      refine wi_iload_n (pc' := 80) hm245 rfl rfl rfl ?_
      refine wi_iconst (pc' := 81) (v := 3) hm245 rfl rfl rfl ?_
      refine wc_I (pc' := 84) (by decide) rfl (by decide) ((fx_wE hm245 rfl).trans (fx_exV (mj := 151) (as := [(0, x2), (0, 3)]) (rest := [(0, y4), (0, x4), (0, x3)]) rfl rk151 rfl rfl rfl rfl rfl)) h (fun y5 σ5 h => ?_)
      refine wi_iconst (pc' := 85) (v := 1) hm245 rfl rfl rfl ?_
      obtain ⟨g2, h⟩ := h
      refine wi_isub (pc' := 86) hm245 rfl rfl g2 ?_
      refine wc_I (pc' := 89) (by decide) rfl (by decide) ((fx_wE hm245 rfl).trans (fx_exS (mj := 149) (as := [(0, x4), (0, y4), (0, (y5 - 1))]) (rest := [(0, x3)]) rfl rk149 rfl rfl rfl rfl)) h (fun y6 σ6 h => ?_)
      refine wi_if_eq (pc' := 92) (t := 96) hm245 rfl rfl rfl (fun hc => ?_) (fun hc => ?_)
      · replace h := h.1 hc
        refine wi_iconst (pc' := 97) (v := 0) hm245 rfl rfl rfl ?_
        obtain ⟨g3, h⟩ := h
        refine wi_iadd (pc' := 98) hm245 rfl rfl g3 ?_
        refine wi_istore_n (pc' := 99) (L' := [(46, o0), (0, x1), (0, x2), (0, (x3 + 0)), (0, x4)]) hm245 rfl rfl rfl ?_
        obtain ⟨g4, h⟩ := h
        refine wi_iinc (pc' := 102) (L' := [(46, o0), (0, x1), (0, x2), (0, (x3 + 0)), (0, (x4 + 1))]) hm245 rfl rfl rfl g4 rfl ?_
        refine wi_goto (t := 39) hm245 rfl rfl ?_
        exact h
      · replace h := h.2 hc
        refine wi_iconst (pc' := 93) (v := 1) hm245 rfl rfl rfl ?_
        refine wi_goto (t := 97) hm245 rfl rfl ?_
        obtain ⟨g3, h⟩ := h
        refine wi_iadd (pc' := 98) hm245 rfl rfl g3 ?_
        refine wi_istore_n (pc' := 99) (L' := [(46, o0), (0, x1), (0, x2), (0, (x3 + 1)), (0, x4)]) hm245 rfl rfl rfl ?_
        obtain ⟨g4, h⟩ := h
        refine wi_iinc (pc' := 102) (L' := [(46, o0), (0, x1), (0, x2), (0, (x3 + 1)), (0, (x4 + 1))]) hm245 rfl rfl rfl g4 rfl ?_
        refine wi_goto (t := 39) hm245 rfl rfl ?_
        exact h
set_option maxRecDepth 10000 in
theorem hm246 : fx_code 246 = fx_c246 := rfl
theorem t246_0 {o0 x1 x2 : Int} {σ : fx_S} {Q : fx_V → fx_S → Prop} (h : fx_CI 154 [(0, x1)] σ Q (fun y1 σ1 => ((y1 = 0 → Q (0, 0) (fx_up σ1 46 o0 0 1)) ∧ (y1 ≠ 0 → fx_CI 155 [(0, x2)] σ1 Q (fun y2 σ2 => ((y2 = 0 → Q (0, 0) (fx_up σ2 46 o0 0 1)) ∧ (y2 ≠ 0 → fx_CV 166 [(46, o0), (0, x1), (59, 0)] (fx_up σ2 46 o0 0 0) Q (fun σ3 => (fx_rg (x2 + 1)) ∧ fx_Wp 246 45 [(46, o0), (0, x1), (0, x2), (0, (x2 + 1))] [] σ3 Q)))))))) : fx_Ca 246 [(46, o0), (0, x1), (0, x2)] σ Q := by
  show fx_Wp 246 0 [(46, o0), (0, x1), (0, x2), (3, 0)] [] σ Q
  refine wi_aload_n (pc' := 1) hm246 rfl rfl rfl (by decide) ?_
  refine wi_iload_n (pc' := 2) hm246 rfl rfl rfl ?_
  refine wc_I (pc' := 5) (by decide) rfl (by decide) ((fx_wE hm246 rfl).trans (fx_exS (mj := 154) (as := [(0, x1)]) (rest := [(46, o0)]) rfl rk154 rfl rfl rfl rfl)) h (fun y1 σ1 h => ?_)
  refine wi_if_eq (pc' := 8) (t := 19) hm246 rfl rfl rfl (fun hc => ?_) (fun hc => ?_)
  · replace h := h.1 hc
    refine wi_iconst (pc' := 20) (v := 1) hm246 rfl rfl rfl ?_
    refine wi_putI (pc' := 23) hm246 rfl rfl (P := 0) rfl ?_
    refine wi_aload_n (pc' := 24) hm246 rfl rfl rfl (by decide) ?_
    refine wi_getIe (pc' := 27) hm246 rfl rfl (P := 0) rfl (x := 1) fx_upS ?_
    refine wi_if_le (pc' := 30) (t := 32) hm246 rfl rfl rfl (fun hc => absurd hc (by decide)) (fun _ => ?_)
    refine wi_iconst (pc' := 31) (v := 0) hm246 rfl rfl rfl ?_
    exact wi_iret hm246 rfl h
  · replace h := h.2 hc
    refine wi_iload_n (pc' := 9) hm246 rfl rfl rfl ?_
    refine wc_I (pc' := 12) (by decide) rfl (by decide) ((fx_wE hm246 rfl).trans (fx_exS (mj := 155) (as := [(0, x2)]) (rest := [(46, o0)]) rfl rk155 rfl rfl rfl rfl)) h (fun y2 σ2 h => ?_)
    refine wi_if_eq (pc' := 15) (t := 19) hm246 rfl rfl rfl (fun hc => ?_) (fun hc => ?_)
    · replace h := h.1 hc
      refine wi_iconst (pc' := 20) (v := 1) hm246 rfl rfl rfl ?_
      refine wi_putI (pc' := 23) hm246 rfl rfl (P := 0) rfl ?_
      refine wi_aload_n (pc' := 24) hm246 rfl rfl rfl (by decide) ?_
      refine wi_getIe (pc' := 27) hm246 rfl rfl (P := 0) rfl (x := 1) fx_upS ?_
      refine wi_if_le (pc' := 30) (t := 32) hm246 rfl rfl rfl (fun hc => absurd hc (by decide)) (fun _ => ?_)
      refine wi_iconst (pc' := 31) (v := 0) hm246 rfl rfl rfl ?_
      exact wi_iret hm246 rfl h
    · replace h := h.2 hc
      refine wi_iconst (pc' := 16) (v := 0) hm246 rfl rfl rfl ?_
      refine wi_goto (t := 20) hm246 rfl rfl ?_
      refine wi_putI (pc' := 23) hm246 rfl rfl (P := 0) rfl ?_
      refine wi_aload_n (pc' := 24) hm246 rfl rfl rfl (by decide) ?_
      refine wi_getIe (pc' := 27) hm246 rfl rfl (P := 0) rfl (x := 0) fx_upS ?_
      refine wi_if_le (pc' := 30) (t := 32) hm246 rfl rfl rfl (fun _ => ?_) (fun hc => absurd hc (by decide))
      refine wi_aload_n (pc' := 33) hm246 rfl rfl rfl (by decide) ?_
      refine wi_iload_n (pc' := 34) hm246 rfl rfl rfl ?_
      refine wi_aload_n (pc' := 35) hm246 rfl rfl rfl (by decide) ?_
      refine wi_getR (pc' := 38) (x := 0) hm246 rfl rfl rfl (by omega) ?_
      refine wc_V (pc' := 41) (by decide) rfl (by decide) ((fx_wE hm246 rfl).trans (fx_exV (mj := 166) (as := [(0, x1), (59, 0)]) (rest := []) rfl rk166 rfl rfl rfl rfl rfl)) h (fun σ3 h => ?_)
      refine wi_iload_n (pc' := 42) hm246 rfl rfl rfl ?_
      refine wi_iconst (pc' := 43) (v := 1) hm246 rfl rfl rfl ?_
      obtain ⟨g1, h⟩ := h
      refine wi_iadd (pc' := 44) hm246 rfl rfl g1 ?_
      refine wi_istore_n (pc' := 45) (L' := [(46, o0), (0, x1), (0, x2), (0, (x2 + 1))]) hm246 rfl rfl rfl ?_
      exact h
theorem t246_45 {o0 x2 x3 : Int} {w1 : fx_V} {σ : fx_S} {Q : fx_V → fx_S → Prop} (h : ((1000 ≤ x3 → Q (0, (-1)) σ) ∧ (x3 < 1000 → (0 ≤ x3 ∧ x3 < 1000) ∧ (((σ 59 0 x3) = (-1) → (fx_rg (x3 + 1)) ∧ fx_Wp 246 45 [(46, o0), w1, (0, x2), (0, (x3 + 1))] [] σ Q) ∧ ((σ 59 0 x3) ≠ (-1) → (fx_rg (x3 - 1)) ∧ (0 ≤ (x3 - 1) ∧ (x3 - 1) < 1000) ∧ (((σ 59 0 x3) = (σ 59 0 (x3 - 1)) → (fx_rg (x3 + 1)) ∧ fx_Wp 246 45 [(46, o0), w1, (0, x2), (0, (x3 + 1))] [] σ Q) ∧ ((σ 59 0 x3) ≠ (σ 59 0 (x3 - 1)) → (fx_rg (x3 - x2)) ∧ Q (0, (x3 - x2)) σ))))))) : fx_Wp 246 45 [(46, o0), w1, (0, x2), (0, x3)] [] σ Q := by
  refine wi_iload_n (pc' := 46) hm246 rfl rfl rfl ?_
  refine wi_sipush (pc' := 49) (v := 1000) hm246 rfl rfl rfl ?_
  refine wi_ic_ge (pc' := 52) (t := 89) hm246 rfl rfl rfl (fun hc => ?_) (fun hc => ?_)
  · replace h := h.1 hc
    refine wi_iconst (pc' := 90) (v := (-1)) hm246 rfl rfl rfl ?_
    exact wi_iret hm246 rfl h
  · replace h := h.2 hc
    refine wi_aload_n (pc' := 53) hm246 rfl rfl rfl (by decide) ?_
    refine wi_getR (pc' := 56) (x := 0) hm246 rfl rfl rfl (by omega) ?_
    refine wi_iload_n (pc' := 57) hm246 rfl rfl rfl ?_
    obtain ⟨g1, h⟩ := h
    refine wi_iaload (pc' := 58) hm246 rfl rfl rfl rfl (N := 1000) rfl g1 ?_
    refine wi_iconst (pc' := 59) (v := (-1)) hm246 rfl rfl rfl ?_
    refine wi_ic_eq (pc' := 62) (t := 83) hm246 rfl rfl rfl (fun hc => ?_) (fun hc => ?_)
    · replace h := h.1 hc
      obtain ⟨g2, h⟩ := h
      refine wi_iinc (pc' := 86) (L' := [(46, o0), w1, (0, x2), (0, (x3 + 1))]) hm246 rfl rfl rfl g2 rfl ?_
      refine wi_goto (t := 45) hm246 rfl rfl ?_
      exact h
    · replace h := h.2 hc
      refine wi_aload_n (pc' := 63) hm246 rfl rfl rfl (by decide) ?_
      refine wi_getR (pc' := 66) (x := 0) hm246 rfl rfl rfl (by omega) ?_
      refine wi_iload_n (pc' := 67) hm246 rfl rfl rfl ?_
      refine wi_iaload (pc' := 68) hm246 rfl rfl rfl rfl (N := 1000) rfl g1 ?_
      refine wi_aload_n (pc' := 69) hm246 rfl rfl rfl (by decide) ?_
      refine wi_getR (pc' := 72) (x := 0) hm246 rfl rfl rfl (by omega) ?_
      refine wi_iload_n (pc' := 73) hm246 rfl rfl rfl ?_
      refine wi_iconst (pc' := 74) (v := 1) hm246 rfl rfl rfl ?_
      obtain ⟨g2, h⟩ := h
      refine wi_isub (pc' := 75) hm246 rfl rfl g2 ?_
      obtain ⟨g3, h⟩ := h
      refine wi_iaload (pc' := 76) hm246 rfl rfl rfl rfl (N := 1000) rfl g3 ?_
      refine wi_ic_eq (pc' := 79) (t := 83) hm246 rfl rfl rfl (fun hc => ?_) (fun hc => ?_)
      · replace h := h.1 hc
        obtain ⟨g4, h⟩ := h
        refine wi_iinc (pc' := 86) (L' := [(46, o0), w1, (0, x2), (0, (x3 + 1))]) hm246 rfl rfl rfl g4 rfl ?_
        refine wi_goto (t := 45) hm246 rfl rfl ?_
        exact h
      · replace h := h.2 hc
        refine wi_iload_n (pc' := 80) hm246 rfl rfl rfl ?_
        refine wi_iload_n (pc' := 81) hm246 rfl rfl rfl ?_
        obtain ⟨g4, h⟩ := h
        refine wi_isub (pc' := 82) hm246 rfl rfl g4 ?_
        exact wi_iret hm246 rfl h
set_option maxRecDepth 10000 in
theorem hm247 : fx_code 247 = fx_c247 := rfl
theorem t247_0 {o0 x1 x2 : Int} {σ : fx_S} {Q : fx_V → fx_S → Prop} (h : fx_CI 153 [(46, o0), (0, x1)] σ Q (fun y1 σ1 => ((y1 = 0 → Q (0, 0) (fx_up σ1 46 o0 0 1)) ∧ (y1 ≠ 0 → fx_CI 153 [(46, o0), (0, x2)] σ1 Q (fun y2 σ2 => ((y2 = 0 → Q (0, 0) (fx_up σ2 46 o0 0 1)) ∧ (y2 ≠ 0 → fx_CI 158 [(46, o0), (0, x1), (0, x2)] (fx_up σ2 46 o0 0 0) Q (fun y3 σ3 => ((y3 = 0 → Q (0, 0) σ3) ∧ (y3 ≠ 0 → Q (0, 1) σ3)))))))))) : fx_Ca 247 [(46, o0), (0, x1), (0, x2)] σ Q := by
  show fx_Wp 247 0 [(46, o0), (0, x1), (0, x2)] [] σ Q
  refine wi_aload_n (pc' := 1) hm247 rfl rfl rfl (by decide) ?_
  refine wi_aload_n (pc' := 2) hm247 rfl rfl rfl (by decide) ?_
  refine wi_iload_n (pc' := 3) hm247 rfl rfl rfl ?_
  refine wc_I (pc' := 6) (by decide) rfl (by decide) ((fx_wE hm247 rfl).trans (fx_exV (mj := 153) (as := [(0, x1)]) (rest := [(46, o0)]) rfl rk153 rfl rfl rfl rfl rfl)) h (fun y1 σ1 h => ?_)
  refine wi_if_eq (pc' := 9) (t := 21) hm247 rfl rfl rfl (fun hc => ?_) (fun hc => ?_)
  · replace h := h.1 hc
    refine wi_iconst (pc' := 22) (v := 1) hm247 rfl rfl rfl ?_
    refine wi_putI (pc' := 25) hm247 rfl rfl (P := 0) rfl ?_
    refine wi_aload_n (pc' := 26) hm247 rfl rfl rfl (by decide) ?_
    refine wi_getIe (pc' := 29) hm247 rfl rfl (P := 0) rfl (x := 1) fx_upS ?_
    refine wi_if_ne (pc' := 32) (t := 45) hm247 rfl rfl rfl (fun _ => ?_) (fun hc => absurd hc (by decide))
    refine wi_iconst (pc' := 46) (v := 0) hm247 rfl rfl rfl ?_
    exact wi_zret hm247 rfl (by decide) h
  · replace h := h.2 hc
    refine wi_aload_n (pc' := 10) hm247 rfl rfl rfl (by decide) ?_
    refine wi_iload_n (pc' := 11) hm247 rfl rfl rfl ?_
    refine wc_I (pc' := 14) (by decide) rfl (by decide) ((fx_wE hm247 rfl).trans (fx_exV (mj := 153) (as := [(0, x2)]) (rest := [(46, o0)]) rfl rk153 rfl rfl rfl rfl rfl)) h (fun y2 σ2 h => ?_)
    refine wi_if_eq (pc' := 17) (t := 21) hm247 rfl rfl rfl (fun hc => ?_) (fun hc => ?_)
    · replace h := h.1 hc
      refine wi_iconst (pc' := 22) (v := 1) hm247 rfl rfl rfl ?_
      refine wi_putI (pc' := 25) hm247 rfl rfl (P := 0) rfl ?_
      refine wi_aload_n (pc' := 26) hm247 rfl rfl rfl (by decide) ?_
      refine wi_getIe (pc' := 29) hm247 rfl rfl (P := 0) rfl (x := 1) fx_upS ?_
      refine wi_if_ne (pc' := 32) (t := 45) hm247 rfl rfl rfl (fun _ => ?_) (fun hc => absurd hc (by decide))
      refine wi_iconst (pc' := 46) (v := 0) hm247 rfl rfl rfl ?_
      exact wi_zret hm247 rfl (by decide) h
    · replace h := h.2 hc
      refine wi_iconst (pc' := 18) (v := 0) hm247 rfl rfl rfl ?_
      refine wi_goto (t := 22) hm247 rfl rfl ?_
      refine wi_putI (pc' := 25) hm247 rfl rfl (P := 0) rfl ?_
      refine wi_aload_n (pc' := 26) hm247 rfl rfl rfl (by decide) ?_
      refine wi_getIe (pc' := 29) hm247 rfl rfl (P := 0) rfl (x := 0) fx_upS ?_
      refine wi_if_ne (pc' := 32) (t := 45) hm247 rfl rfl rfl (fun hc => absurd hc (by decide)) (fun _ => ?_)
      refine wi_aload_n (pc' := 33) hm247 rfl rfl rfl (by decide) ?_
      refine wi_iload_n (pc' := 34) hm247 rfl rfl rfl ?_
      refine wi_iload_n (pc' := 35) hm247 rfl rfl rfl ?_
      refine wc_I (pc' := 38) (by decide) rfl (by decide) ((fx_wE hm247 rfl).trans (fx_exV (mj := 158) (as := [(0, x1), (0, x2)]) (rest := []) rfl rk158 rfl rfl rfl rfl rfl)) h (fun y3 σ3 h => ?_)
      refine wi_if_eq (pc' := 41) (t := 45) hm247 rfl rfl rfl (fun hc => ?_) (fun hc => ?_)
      · replace h := h.1 hc
        refine wi_iconst (pc' := 46) (v := 0) hm247 rfl rfl rfl ?_
        exact wi_zret hm247 rfl (by decide) h
      · replace h := h.2 hc
        refine wi_iconst (pc' := 42) (v := 1) hm247 rfl rfl rfl ?_
        refine wi_goto (t := 46) hm247 rfl rfl ?_
        exact wi_zret hm247 rfl (by decide) h
set_option maxRecDepth 10000 in
theorem hm248 : fx_code 248 = fx_c248 := rfl
theorem t248_0 {o0 x1 x2 : Int} {σ : fx_S} {Q : fx_V → fx_S → Prop} (h : fx_CI 154 [(0, x1)] σ Q (fun y1 σ1 => ((y1 = 0 → Q (0, 0) (fx_up σ1 46 o0 0 1)) ∧ (y1 ≠ 0 → fx_CV 166 [(46, o0), (0, x1), (59, 0)] (fx_up σ1 46 o0 0 0) Q (fun σ2 => fx_Wp 248 45 [(46, o0), (0, x1), (0, x2), (0, (-1)), (0, 0), (0, 0), (0, 0)] [] σ2 Q))))) : fx_Ca 248 [(46, o0), (0, x1), (0, x2)] σ Q := by
  show fx_Wp 248 0 [(46, o0), (0, x1), (0, x2), (3, 0), (3, 0), (3, 0), (3, 0)] [] σ Q
  refine wi_aload_n (pc' := 1) hm248 rfl rfl rfl (by decide) ?_
  refine wi_iload_n (pc' := 2) hm248 rfl rfl rfl ?_
  refine wc_I (pc' := 5) (by decide) rfl (by decide) ((fx_wE hm248 rfl).trans (fx_exS (mj := 154) (as := [(0, x1)]) (rest := [(46, o0)]) rfl rk154 rfl rfl rfl rfl)) h (fun y1 σ1 h => ?_)
  refine wi_if_eq (pc' := 8) (t := 12) hm248 rfl rfl rfl (fun hc => ?_) (fun hc => ?_)
  · replace h := h.1 hc
    refine wi_iconst (pc' := 13) (v := 1) hm248 rfl rfl rfl ?_
    refine wi_putI (pc' := 16) hm248 rfl rfl (P := 0) rfl ?_
    refine wi_aload_n (pc' := 17) hm248 rfl rfl rfl (by decide) ?_
    refine wi_getIe (pc' := 20) hm248 rfl rfl (P := 0) rfl (x := 1) fx_upS ?_
    refine wi_if_le (pc' := 23) (t := 25) hm248 rfl rfl rfl (fun hc => absurd hc (by decide)) (fun _ => ?_)
    refine wi_iconst (pc' := 24) (v := 0) hm248 rfl rfl rfl ?_
    exact wi_iret hm248 rfl h
  · replace h := h.2 hc
    refine wi_iconst (pc' := 9) (v := 0) hm248 rfl rfl rfl ?_
    refine wi_goto (t := 13) hm248 rfl rfl ?_
    refine wi_putI (pc' := 16) hm248 rfl rfl (P := 0) rfl ?_
    refine wi_aload_n (pc' := 17) hm248 rfl rfl rfl (by decide) ?_
    refine wi_getIe (pc' := 20) hm248 rfl rfl (P := 0) rfl (x := 0) fx_upS ?_
    refine wi_if_le (pc' := 23) (t := 25) hm248 rfl rfl rfl (fun _ => ?_) (fun hc => absurd hc (by decide))
    refine wi_aload_n (pc' := 26) hm248 rfl rfl rfl (by decide) ?_
    refine wi_iload_n (pc' := 27) hm248 rfl rfl rfl ?_
    refine wi_aload_n (pc' := 28) hm248 rfl rfl rfl (by decide) ?_
    refine wi_getR (pc' := 31) (x := 0) hm248 rfl rfl rfl (by omega) ?_
    refine wc_V (pc' := 34) (by decide) rfl (by decide) ((fx_wE hm248 rfl).trans (fx_exV (mj := 166) (as := [(0, x1), (59, 0)]) (rest := []) rfl rk166 rfl rfl rfl rfl rfl)) h (fun σ2 h => ?_)
    refine wi_iconst (pc' := 35) (v := (-1)) hm248 rfl rfl rfl ?_
    refine wi_istore_n (pc' := 36) (L' := [(46, o0), (0, x1), (0, x2), (0, (-1)), (3, 0), (3, 0), (3, 0)]) hm248 rfl rfl rfl ?_
    refine wi_iconst (pc' := 37) (v := 0) hm248 rfl rfl rfl ?_
    refine wi_istore (pc' := 39) (L' := [(46, o0), (0, x1), (0, x2), (0, (-1)), (0, 0), (3, 0), (3, 0)]) hm248 rfl rfl rfl ?_
    refine wi_iconst (pc' := 40) (v := 0) hm248 rfl rfl rfl ?_
    refine wi_istore (pc' := 42) (L' := [(46, o0), (0, x1), (0, x2), (0, (-1)), (0, 0), (0, 0), (3, 0)]) hm248 rfl rfl rfl ?_
    refine wi_iconst (pc' := 43) (v := 0) hm248 rfl rfl rfl ?_
    refine wi_istore (pc' := 45) (L' := [(46, o0), (0, x1), (0, x2), (0, (-1)), (0, 0), (0, 0), (0, 0)]) hm248 rfl rfl rfl ?_
    exact h
theorem t248_45 {o0 x2 x3 x4 x5 x6 : Int} {w1 : fx_V} {σ : fx_S} {Q : fx_V → fx_S → Prop} (h : ((1000 ≤ x6 → Q (0, x3) σ) ∧ (x6 < 1000 → (0 ≤ x6 ∧ x6 < 1000) ∧ (((σ 59 0 x6) ≠ (-1) → ((x2 = 0 → fx_CI 218 [(46, o0), (59, 0), (0, x6)] σ Q (fun y1 σ1 => (fx_rg (y1 - x6)) ∧ (((y1 - x6) ≤ x4 → (fx_rg (x5 + 1)) ∧ fx_CI 218 [(46, o0), (59, 0), (0, x6)] σ1 Q (fun y2 σ2 => fx_Wp 248 45 [(46, o0), w1, (0, x2), (0, x3), (0, x4), (0, (x5 + 1)), (0, y2)] [] σ2 Q)) ∧ (x4 < (y1 - x6) → fx_CI 218 [(46, o0), (59, 0), (0, x6)] σ1 Q (fun y3 σ3 => (fx_rg (y3 - x6)) ∧ (fx_rg (x5 + 1)) ∧ fx_CI 218 [(46, o0), (59, 0), (0, x6)] σ3 Q (fun y4 σ4 => fx_Wp 248 45 [(46, o0), w1, (0, x2), (0, x5), (0, (y3 - x6)), (0, (x5 + 1)), (0, y4)] [] σ4 Q)))))) ∧ (x2 ≠ 0 → fx_CI 218 [(46, o0), (59, 0), (0, x6)] σ Q (fun y5 σ5 => fx_Wp 248 45 [(46, o0), w1, (0, x2), (0, x3), (0, x4), (0, x5), (0, y5)] [] σ5 Q)))) ∧ ((σ 59 0 x6) = (-1) → ((x2 = 1 → fx_CI 218 [(46, o0), (59, 0), (0, x6)] σ Q (fun y6 σ6 => (fx_rg (y6 - x6)) ∧ (((y6 - x6) ≤ x4 → (fx_rg (x5 + 1)) ∧ fx_CI 218 [(46, o0), (59, 0), (0, x6)] σ6 Q (fun y7 σ7 => fx_Wp 248 45 [(46, o0), w1, (0, x2), (0, x3), (0, x4), (0, (x5 + 1)), (0, y7)] [] σ7 Q)) ∧ (x4 < (y6 - x6) → fx_CI 218 [(46, o0), (59, 0), (0, x6)] σ6 Q (fun y8 σ8 => (fx_rg (y8 - x6)) ∧ (fx_rg (x5 + 1)) ∧ fx_CI 218 [(46, o0), (59, 0), (0, x6)] σ8 Q (fun y9 σ9 => fx_Wp 248 45 [(46, o0), w1, (0, x2), (0, x5), (0, (y8 - x6)), (0, (x5 + 1)), (0, y9)] [] σ9 Q)))))) ∧ (x2 ≠ 1 → fx_CI 218 [(46, o0), (59, 0), (0, x6)] σ Q (fun y10 σ10 => fx_Wp 248 45 [(46, o0), w1, (0, x2), (0, x3), (0, x4), (0, x5), (0, y10)] [] σ10 Q)))))))) : fx_Wp 248 45 [(46, o0), w1, (0, x2), (0, x3), (0, x4), (0, x5), (0, x6)] [] σ Q := by
  refine wi_iload (pc' := 47) hm248 rfl rfl rfl ?_
  refine wi_sipush (pc' := 50) (v := 1000) hm248 rfl rfl rfl ?_
  refine wi_ic_ge (pc' := 53) (t := 130) hm248 rfl rfl rfl (fun hc => ?_) (fun hc => ?_)
  · replace h := h.1 hc
    refine wi_iload_n (pc' := 131) hm248 rfl rfl rfl ?_
    exact wi_iret hm248 rfl h
  · replace h := h.2 hc
    refine wi_iload_n (pc' := 54) hm248 rfl rfl rfl ?_
    refine wi_aload_n (pc' := 55) hm248 rfl rfl rfl (by decide) ?_
    refine wi_getR (pc' := 58) (x := 0) hm248 rfl rfl rfl (by omega) ?_
    refine wi_iload (pc' := 60) hm248 rfl rfl rfl ?_
    obtain ⟨g1, h⟩ := h
    refine wi_iaload (pc' := 61) hm248 rfl rfl rfl rfl (N := 1000) rfl g1 ?_
    refine wi_iconst (pc' := 62) (v := (-1)) hm248 rfl rfl rfl ?_
    refine wi_ic_ne (pc' := 65) (t := 69) hm248 rfl rfl rfl (fun hc => ?_) (fun hc => ?_)
    · replace h := h.1 hc
      refine wi_iconst (pc' := 70) (v := 0) hm248 rfl rfl rfl ?_
      refine wi_ic_eq (pc' := 73) (t := 76) hm248 rfl rfl rfl (fun hc => ?_) (fun hc => ?_)
      · replace h := h.1 hc
        refine wi_aload_n (pc' := 77) hm248 rfl rfl rfl (by decide) ?_
        refine wi_aload_n (pc' := 78) hm248 rfl rfl rfl (by decide) ?_
        refine wi_getR (pc' := 81) (x := 0) hm248 rfl rfl rfl (by omega) ?_
        refine wi_iload (pc' := 83) hm248 rfl rfl rfl ?_
        refine wc_I (pc' := 86) (by decide) rfl (by decide) ((fx_wE hm248 rfl).trans (fx_exV (mj := 218) (as := [(59, 0), (0, x6)]) (rest := []) rfl rk218 rfl rfl rfl rfl rfl)) h (fun y1 σ1 h => ?_)
        refine wi_iload (pc' := 88) hm248 rfl rfl rfl ?_
        obtain ⟨g2, h⟩ := h
        refine wi_isub (pc' := 89) hm248 rfl rfl g2 ?_
        refine wi_iload (pc' := 91) hm248 rfl rfl rfl ?_
        refine wi_ic_le (pc' := 94) (t := 112) hm248 rfl rfl rfl (fun hc => ?_) (fun hc => ?_)
        · replace h := h.1 hc
          obtain ⟨g3, h⟩ := h
          refine wi_iinc (pc' := 115) (L' := [(46, o0), w1, (0, x2), (0, x3), (0, x4), (0, (x5 + 1)), (0, x6)]) hm248 rfl rfl rfl g3 rfl ?_
          refine wi_aload_n (pc' := 116) hm248 rfl rfl rfl (by decide) ?_
          refine wi_aload_n (pc' := 117) hm248 rfl rfl rfl (by decide) ?_
          refine wi_getR (pc' := 120) (x := 0) hm248 rfl rfl rfl (by omega) ?_
          refine wi_iload (pc' := 122) hm248 rfl rfl rfl ?_
          refine wc_I (pc' := 125) (by decide) rfl (by decide) ((fx_wE hm248 rfl).trans (fx_exV (mj := 218) (as := [(59, 0), (0, x6)]) (rest := []) rfl rk218 rfl rfl rfl rfl rfl)) h (fun y2 σ2 h => ?_)
          refine wi_istore (pc' := 127) (L' := [(46, o0), w1, (0, x2), (0, x3), (0, x4), (0, (x5 + 1)), (0, y2)]) hm248 rfl rfl rfl ?_
          refine wi_goto (t := 45) hm248 rfl rfl ?_
          exact h
        · replace h := h.2 hc
          refine wi_aload_n (pc' := 95) hm248 rfl rfl rfl (by decide) ?_
          refine wi_aload_n (pc' := 96) hm248 rfl rfl rfl (by decide) ?_
          refine wi_getR (pc' := 99) (x := 0) hm248 rfl rfl rfl (by omega) ?_
          refine wi_iload (pc' := 101) hm248 rfl rfl rfl ?_
          refine wc_I (pc' := 104) (by decide) rfl (by decide) ((fx_wE hm248 rfl).trans (fx_exV (mj := 218) (as := [(59, 0), (0, x6)]) (rest := []) rfl rk218 rfl rfl rfl rfl rfl)) h (fun y3 σ3 h => ?_)
          refine wi_iload (pc' := 106) hm248 rfl rfl rfl ?_
          obtain ⟨g3, h⟩ := h
          refine wi_isub (pc' := 107) hm248 rfl rfl g3 ?_
          refine wi_istore (pc' := 109) (L' := [(46, o0), w1, (0, x2), (0, x3), (0, (y3 - x6)), (0, x5), (0, x6)]) hm248 rfl rfl rfl ?_
          refine wi_iload (pc' := 111) hm248 rfl rfl rfl ?_
          refine wi_istore_n (pc' := 112) (L' := [(46, o0), w1, (0, x2), (0, x5), (0, (y3 - x6)), (0, x5), (0, x6)]) hm248 rfl rfl rfl ?_
          obtain ⟨g4, h⟩ := h
          refine wi_iinc (pc' := 115) (L' := [(46, o0), w1, (0, x2), (0, x5), (0, (y3 - x6)), (0, (x5 + 1)), (0, x6)]) hm248 rfl rfl rfl g4 rfl ?_
          refine wi_aload_n (pc' := 116) hm248 rfl rfl rfl (by decide) ?_
          refine wi_aload_n (pc' := 117) hm248 rfl rfl rfl (by decide) ?_
          refine wi_getR (pc' := 120) (x := 0) hm248 rfl rfl rfl (by omega) ?_
          refine wi_iload (pc' := 122) hm248 rfl rfl rfl ?_
          refine wc_I (pc' := 125) (by decide) rfl (by decide) ((fx_wE hm248 rfl).trans (fx_exV (mj := 218) (as := [(59, 0), (0, x6)]) (rest := []) rfl rk218 rfl rfl rfl rfl rfl)) h (fun y4 σ4 h => ?_)
          refine wi_istore (pc' := 127) (L' := [(46, o0), w1, (0, x2), (0, x5), (0, (y3 - x6)), (0, (x5 + 1)), (0, y4)]) hm248 rfl rfl rfl ?_
          refine wi_goto (t := 45) hm248 rfl rfl ?_
          exact h
      · replace h := h.2 hc
        refine wi_goto (t := 115) hm248 rfl rfl ?_
        refine wi_aload_n (pc' := 116) hm248 rfl rfl rfl (by decide) ?_
        refine wi_aload_n (pc' := 117) hm248 rfl rfl rfl (by decide) ?_
        refine wi_getR (pc' := 120) (x := 0) hm248 rfl rfl rfl (by omega) ?_
        refine wi_iload (pc' := 122) hm248 rfl rfl rfl ?_
        refine wc_I (pc' := 125) (by decide) rfl (by decide) ((fx_wE hm248 rfl).trans (fx_exV (mj := 218) (as := [(59, 0), (0, x6)]) (rest := []) rfl rk218 rfl rfl rfl rfl rfl)) h (fun y5 σ5 h => ?_)
        refine wi_istore (pc' := 127) (L' := [(46, o0), w1, (0, x2), (0, x3), (0, x4), (0, x5), (0, y5)]) hm248 rfl rfl rfl ?_
        refine wi_goto (t := 45) hm248 rfl rfl ?_
        exact h
    · replace h := h.2 hc
      refine wi_iconst (pc' := 66) (v := 1) hm248 rfl rfl rfl ?_
      refine wi_goto (t := 70) hm248 rfl rfl ?_
      refine wi_ic_eq (pc' := 73) (t := 76) hm248 rfl rfl rfl (fun hc => ?_) (fun hc => ?_)
      · replace h := h.1 hc
        refine wi_aload_n (pc' := 77) hm248 rfl rfl rfl (by decide) ?_
        refine wi_aload_n (pc' := 78) hm248 rfl rfl rfl (by decide) ?_
        refine wi_getR (pc' := 81) (x := 0) hm248 rfl rfl rfl (by omega) ?_
        refine wi_iload (pc' := 83) hm248 rfl rfl rfl ?_
        refine wc_I (pc' := 86) (by decide) rfl (by decide) ((fx_wE hm248 rfl).trans (fx_exV (mj := 218) (as := [(59, 0), (0, x6)]) (rest := []) rfl rk218 rfl rfl rfl rfl rfl)) h (fun y6 σ6 h => ?_)
        refine wi_iload (pc' := 88) hm248 rfl rfl rfl ?_
        obtain ⟨g2, h⟩ := h
        refine wi_isub (pc' := 89) hm248 rfl rfl g2 ?_
        refine wi_iload (pc' := 91) hm248 rfl rfl rfl ?_
        refine wi_ic_le (pc' := 94) (t := 112) hm248 rfl rfl rfl (fun hc => ?_) (fun hc => ?_)
        · replace h := h.1 hc
          obtain ⟨g3, h⟩ := h
          refine wi_iinc (pc' := 115) (L' := [(46, o0), w1, (0, x2), (0, x3), (0, x4), (0, (x5 + 1)), (0, x6)]) hm248 rfl rfl rfl g3 rfl ?_
          refine wi_aload_n (pc' := 116) hm248 rfl rfl rfl (by decide) ?_
          refine wi_aload_n (pc' := 117) hm248 rfl rfl rfl (by decide) ?_
          refine wi_getR (pc' := 120) (x := 0) hm248 rfl rfl rfl (by omega) ?_
          refine wi_iload (pc' := 122) hm248 rfl rfl rfl ?_
          refine wc_I (pc' := 125) (by decide) rfl (by decide) ((fx_wE hm248 rfl).trans (fx_exV (mj := 218) (as := [(59, 0), (0, x6)]) (rest := []) rfl rk218 rfl rfl rfl rfl rfl)) h (fun y7 σ7 h => ?_)
          refine wi_istore (pc' := 127) (L' := [(46, o0), w1, (0, x2), (0, x3), (0, x4), (0, (x5 + 1)), (0, y7)]) hm248 rfl rfl rfl ?_
          refine wi_goto (t := 45) hm248 rfl rfl ?_
          exact h
        · replace h := h.2 hc
          refine wi_aload_n (pc' := 95) hm248 rfl rfl rfl (by decide) ?_
          refine wi_aload_n (pc' := 96) hm248 rfl rfl rfl (by decide) ?_
          refine wi_getR (pc' := 99) (x := 0) hm248 rfl rfl rfl (by omega) ?_
          refine wi_iload (pc' := 101) hm248 rfl rfl rfl ?_
          refine wc_I (pc' := 104) (by decide) rfl (by decide) ((fx_wE hm248 rfl).trans (fx_exV (mj := 218) (as := [(59, 0), (0, x6)]) (rest := []) rfl rk218 rfl rfl rfl rfl rfl)) h (fun y8 σ8 h => ?_)
          refine wi_iload (pc' := 106) hm248 rfl rfl rfl ?_
          obtain ⟨g3, h⟩ := h
          refine wi_isub (pc' := 107) hm248 rfl rfl g3 ?_
          refine wi_istore (pc' := 109) (L' := [(46, o0), w1, (0, x2), (0, x3), (0, (y8 - x6)), (0, x5), (0, x6)]) hm248 rfl rfl rfl ?_
          refine wi_iload (pc' := 111) hm248 rfl rfl rfl ?_
          refine wi_istore_n (pc' := 112) (L' := [(46, o0), w1, (0, x2), (0, x5), (0, (y8 - x6)), (0, x5), (0, x6)]) hm248 rfl rfl rfl ?_
          obtain ⟨g4, h⟩ := h
          refine wi_iinc (pc' := 115) (L' := [(46, o0), w1, (0, x2), (0, x5), (0, (y8 - x6)), (0, (x5 + 1)), (0, x6)]) hm248 rfl rfl rfl g4 rfl ?_
          refine wi_aload_n (pc' := 116) hm248 rfl rfl rfl (by decide) ?_
          refine wi_aload_n (pc' := 117) hm248 rfl rfl rfl (by decide) ?_
          refine wi_getR (pc' := 120) (x := 0) hm248 rfl rfl rfl (by omega) ?_
          refine wi_iload (pc' := 122) hm248 rfl rfl rfl ?_
          refine wc_I (pc' := 125) (by decide) rfl (by decide) ((fx_wE hm248 rfl).trans (fx_exV (mj := 218) (as := [(59, 0), (0, x6)]) (rest := []) rfl rk218 rfl rfl rfl rfl rfl)) h (fun y9 σ9 h => ?_)
          refine wi_istore (pc' := 127) (L' := [(46, o0), w1, (0, x2), (0, x5), (0, (y8 - x6)), (0, (x5 + 1)), (0, y9)]) hm248 rfl rfl rfl ?_
          refine wi_goto (t := 45) hm248 rfl rfl ?_
          exact h
      · replace h := h.2 hc
        refine wi_goto (t := 115) hm248 rfl rfl ?_
        refine wi_aload_n (pc' := 116) hm248 rfl rfl rfl (by decide) ?_
        refine wi_aload_n (pc' := 117) hm248 rfl rfl rfl (by decide) ?_
        refine wi_getR (pc' := 120) (x := 0) hm248 rfl rfl rfl (by omega) ?_
        refine wi_iload (pc' := 122) hm248 rfl rfl rfl ?_
        refine wc_I (pc' := 125) (by decide) rfl (by decide) ((fx_wE hm248 rfl).trans (fx_exV (mj := 218) (as := [(59, 0), (0, x6)]) (rest := []) rfl rk218 rfl rfl rfl rfl rfl)) h (fun y10 σ10 h => ?_)
        refine wi_istore (pc' := 127) (L' := [(46, o0), w1, (0, x2), (0, x3), (0, x4), (0, x5), (0, y10)]) hm248 rfl rfl rfl ?_
        refine wi_goto (t := 45) hm248 rfl rfl ?_
        exact h
