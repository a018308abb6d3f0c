theorem hm163 : fx_code 163 = fx_c163 := rfl
theorem t163_0 {x0 x1 x2 : Int} {σ : fx_S} {Q : fx_V → fx_S → Prop} (h : ((x0 ≠ 6 → ((x0 ≠ 7 → ((x0 ≠ 8 → ((x1 = (-1) → Q (0, (-1)) σ) ∧ (x1 ≠ (-1) → ((x2 ≠ (-1) → ((x0 ≠ 2 → ((x0 ≠ 3 → ((x0 ≠ 4 → ((x1 ≤ x2 → fx_CI 149 [(0, x2), (0, 0), (0, 99)] σ Q (fun y1 σ1 => ((y1 = 0 → Q (0, (-1)) σ1) ∧ (y1 ≠ 0 → Q (0, x2) σ1)))) ∧ (x2 < x1 → fx_CI 149 [(0, x1), (0, 0), (0, 99)] σ Q (fun y2 σ2 => ((y2 = 0 → Q (0, (-1)) σ2) ∧ (y2 ≠ 0 → Q (0, x1) σ2)))))) ∧ (x0 = 4 → ((x2 ≤ x1 → fx_CI 149 [(0, x2), (0, 0), (0, 99)] σ Q (fun y3 σ3 => ((y3 = 0 → Q (0, (-1)) σ3) ∧ (y3 ≠ 0 → Q (0, x2) σ3)))) ∧ (x1 < x2 → fx_CI 149 [(0, x1), (0, 0), (0, 99)] σ Q (fun y4 σ4 => ((y4 = 0 → Q (0, (-1)) σ4) ∧ (y4 ≠ 0 → Q (0, x1) σ4)))))))) ∧ (x0 = 3 → (fx_rg (x1 - x2)) ∧ fx_CI 149 [(0, (x1 - x2)), (0, 0), (0, 99)] σ Q (fun y5 σ5 => ((y5 = 0 → Q (0, (-1)) σ5) ∧ (y5 ≠ 0 → Q (0, (x1 - x2)) σ5)))))) ∧ (x0 = 2 → (fx_rg (x1 + x2)) ∧ fx_CI 149 [(0, (x1 + x2)), (0, 0), (0, 99)] σ Q (fun y6 σ6 => ((y6 = 0 → Q (0, (-1)) σ6) ∧ (y6 ≠ 0 → Q (0, (x1 + x2)) σ6)))))) ∧ (x2 = (-1) → Q (0, (-1)) σ))))) ∧ (x0 = 8 → ((x2 ≠ (-1) → Q (0, (-1)) σ) ∧ (x2 = (-1) → Q (0, x1) σ))))) ∧ (x0 = 7 → ((x2 = (-1) → Q (0, (-1)) σ) ∧ (x2 ≠ (-1) → Q (0, x1) σ))))) ∧ (x0 = 6 → ((x1 = (-1) → Q (0, x2) σ) ∧ (x1 ≠ (-1) → Q (0, x1) σ))))) : fx_Ca 163 [(0, x0), (0, x1), (0, x2)] σ Q := by
  show fx_Wp 163 0 [(0, x0), (0, x1), (0, x2), (3, 0)] [] σ Q
  refine wi_iload_n (pc' := 1) hm163 rfl rfl rfl ?_
  refine wi_bipush (pc' := 3) (v := 6) hm163 rfl rfl rfl ?_
  refine wi_ic_ne (pc' := 6) (t := 17) hm163 rfl rfl rfl (fun hc => ?_) (fun hc => ?_)
  · replace h := h.1 hc
    refine wi_iload_n (pc' := 18) hm163 rfl rfl rfl ?_
    refine wi_bipush (pc' := 20) (v := 7) hm163 rfl rfl rfl ?_
    refine wi_ic_ne (pc' := 23) (t := 34) hm163 rfl rfl rfl (fun hc => ?_) (fun hc => ?_)
    · replace h := h.1 hc
      refine wi_iload_n (pc' := 35) hm163 rfl rfl rfl ?_
      refine wi_bipush (pc' := 37) (v := 8) hm163 rfl rfl rfl ?_
      refine wi_ic_ne (pc' := 40) (t := 51) hm163 rfl rfl rfl (fun hc => ?_) (fun hc => ?_)
      · replace h := h.1 hc
        refine wi_iload_n (pc' := 52) hm163 rfl rfl rfl ?_
        refine wi_iconst (pc' := 53) (v := (-1)) hm163 rfl rfl rfl ?_
        refine wi_ic_eq (pc' := 56) (t := 61) hm163 rfl rfl rfl (fun hc => ?_) (fun hc => ?_)
        · replace h := h.1 hc
          refine wi_iconst (pc' := 62) (v := (-1)) hm163 rfl rfl rfl ?_
          exact wi_iret hm163 rfl h
        · replace h := h.2 hc
          refine wi_iload_n (pc' := 57) hm163 rfl rfl rfl ?_
          refine wi_iconst (pc' := 58) (v := (-1)) hm163 rfl rfl rfl ?_
          refine wi_ic_ne (pc' := 61) (t := 63) hm163 rfl rfl rfl (fun hc => ?_) (fun hc => ?_)
          · replace h := h.1 hc
            refine wi_iload_n (pc' := 64) hm163 rfl rfl rfl ?_
            refine wi_iconst (pc' := 65) (v := 2) hm163 rfl rfl rfl ?_
            refine wi_ic_ne (pc' := 68) (t := 74) hm163 rfl rfl rfl (fun hc => ?_) (fun hc => ?_)
            · replace h := h.1 hc
              refine wi_iload_n (pc' := 75) hm163 rfl rfl rfl ?_
              refine wi_iconst (pc' := 76) (v := 3) hm163 rfl rfl rfl ?_
              refine wi_ic_ne (pc' := 79) (t := 85) hm163 rfl rfl rfl (fun hc => ?_) (fun hc => ?_)
              · replace h := h.1 hc
                refine wi_iload_n (pc' := 86) hm163 rfl rfl rfl ?_
                refine wi_iconst (pc' := 87) (v := 4) hm163 rfl rfl rfl ?_
                refine wi_ic_ne (pc' := 90) (t := 103) hm163 rfl rfl rfl (fun hc => ?_) (fun hc => ?_)
                · replace h := h.1 hc
                  refine wi_iload_n (pc' := 104) hm163 rfl rfl rfl ?_
                  refine wi_iload_n (pc' := 105) hm163 rfl rfl rfl ?_
                  refine wi_ic_le (pc' := 108) (t := 112) hm163 rfl rfl rfl (fun hc => ?_) (fun hc => ?_)
                  · replace h := h.1 hc
                    refine wi_iload_n (pc' := 113) hm163 rfl rfl rfl ?_
                    refine wi_istore_n (pc' := 114) (L' := [(0, x0), (0, x1), (0, x2), (0, x2)]) hm163 rfl rfl rfl ?_
                    refine wi_iload_n (pc' := 115) hm163 rfl rfl rfl ?_
                    refine wi_iconst (pc' := 116) (v := 0) hm163 rfl rfl rfl ?_
                    refine wi_bipush (pc' := 118) (v := 99) hm163 rfl rfl rfl ?_
                    refine wc_I (pc' := 121) (by decide) rfl (by decide) ((fx_wE hm163 rfl).trans (fx_exS (mj := 149) (as := [(0, x2), (0, 0), (0, 99)]) (rest := []) rfl rk149 rfl rfl rfl rfl)) h (fun y1 σ1 h => ?_)
                    refine wi_if_eq (pc' := 124) (t := 128) hm163 rfl rfl rfl (fun hc => ?_) (fun hc => ?_)
                    · replace h := h.1 hc
                      refine wi_iconst (pc' := 129) (v := (-1)) hm163 rfl rfl rfl ?_
                      exact wi_iret hm163 rfl h
                    · replace h := h.2 hc
                      refine wi_iload_n (pc' := 125) hm163 rfl rfl rfl ?_
                      refine wi_goto (t := 129) hm163 rfl rfl ?_
                      exact wi_iret hm163 rfl h
                  · replace h := h.2 hc
                    refine wi_iload_n (pc' := 109) hm163 rfl rfl rfl ?_
                    refine wi_goto (t := 113) hm163 rfl rfl ?_
                    refine wi_istore_n (pc' := 114) (L' := [(0, x0), (0, x1), (0, x2), (0, x1)]) hm163 rfl rfl rfl ?_
                    refine wi_iload_n (pc' := 115) hm163 rfl rfl rfl ?_
                    refine wi_iconst (pc' := 116) (v := 0) hm163 rfl rfl rfl ?_
                    refine wi_bipush (pc' := 118) (v := 99) hm163 rfl rfl rfl ?_
                    refine wc_I (pc' := 121) (by decide) rfl (by decide) ((fx_wE hm163 rfl).trans (fx_exS (mj := 149) (as := [(0, x1), (0, 0), (0, 99)]) (rest := []) rfl rk149 rfl rfl rfl rfl)) h (fun y2 σ2 h => ?_)
                    refine wi_if_eq (pc' := 124) (t := 128) hm163 rfl rfl rfl (fun hc => ?_) (fun hc => ?_)
                    · replace h := h.1 hc
                      refine wi_iconst (pc' := 129) (v := (-1)) hm163 rfl rfl rfl ?_
                      exact wi_iret hm163 rfl h
                    · replace h := h.2 hc
                      refine wi_iload_n (pc' := 125) hm163 rfl rfl rfl ?_
                      refine wi_goto (t := 129) hm163 rfl rfl ?_
                      exact wi_iret hm163 rfl h
                · replace h := h.2 hc
                  refine wi_iload_n (pc' := 91) hm163 rfl rfl rfl ?_
                  refine wi_iload_n (pc' := 92) hm163 rfl rfl rfl ?_
                  refine wi_ic_ge (pc' := 95) (t := 99) hm163 rfl rfl rfl (fun hc => ?_) (fun hc => ?_)
                  · replace h := h.1 hc
                    refine wi_iload_n (pc' := 100) hm163 rfl rfl rfl ?_
                    refine wi_goto (t := 113) hm163 rfl rfl ?_
                    refine wi_istore_n (pc' := 114) (L' := [(0, x0), (0, x1), (0, x2), (0, x2)]) hm163 rfl rfl rfl ?_
                    refine wi_iload_n (pc' := 115) hm163 rfl rfl rfl ?_
                    refine wi_iconst (pc' := 116) (v := 0) hm163 rfl rfl rfl ?_
                    refine wi_bipush (pc' := 118) (v := 99) hm163 rfl rfl rfl ?_
                    refine wc_I (pc' := 121) (by decide) rfl (by decide) ((fx_wE hm163 rfl).trans (fx_exS (mj := 149) (as := [(0, x2), (0, 0), (0, 99)]) (rest := []) rfl rk149 rfl rfl rfl rfl)) h (fun y3 σ3 h => ?_)
                    refine wi_if_eq (pc' := 124) (t := 128) hm163 rfl rfl rfl (fun hc => ?_) (fun hc => ?_)
                    · replace h := h.1 hc
                      refine wi_iconst (pc' := 129) (v := (-1)) hm163 rfl rfl rfl ?_
                      exact wi_iret hm163 rfl h
                    · replace h := h.2 hc
                      refine wi_iload_n (pc' := 125) hm163 rfl rfl rfl ?_
                      refine wi_goto (t := 129) hm163 rfl rfl ?_
                      exact wi_iret hm163 rfl h
                  · replace h := h.2 hc
                    refine wi_iload_n (pc' := 96) hm163 rfl rfl rfl ?_
                    refine wi_goto (t := 113) hm163 rfl rfl ?_
                    refine wi_istore_n (pc' := 114) (L' := [(0, x0), (0, x1), (0, x2), (0, x1)]) hm163 rfl rfl rfl ?_
                    refine wi_iload_n (pc' := 115) hm163 rfl rfl rfl ?_
                    refine wi_iconst (pc' := 116) (v := 0) hm163 rfl rfl rfl ?_
                    refine wi_bipush (pc' := 118) (v := 99) hm163 rfl rfl rfl ?_
                    refine wc_I (pc' := 121) (by decide) rfl (by decide) ((fx_wE hm163 rfl).trans (fx_exS (mj := 149) (as := [(0, x1), (0, 0), (0, 99)]) (rest := []) rfl rk149 rfl rfl rfl rfl)) h (fun y4 σ4 h => ?_)
                    refine wi_if_eq (pc' := 124) (t := 128) hm163 rfl rfl rfl (fun hc => ?_) (fun hc => ?_)
                    · replace h := h.1 hc
                      refine wi_iconst (pc' := 129) (v := (-1)) hm163 rfl rfl rfl ?_
                      exact wi_iret hm163 rfl h
                    · replace h := h.2 hc
                      refine wi_iload_n (pc' := 125) hm163 rfl rfl rfl ?_
                      refine wi_goto (t := 129) hm163 rfl rfl ?_
                      exact wi_iret hm163 rfl h
              · replace h := h.2 hc
                refine wi_iload_n (pc' := 80) hm163 rfl rfl rfl ?_
                refine wi_iload_n (pc' := 81) hm163 rfl rfl rfl ?_
                obtain ⟨g1, h⟩ := h
                refine wi_isub (pc' := 82) hm163 rfl rfl g1 ?_
                refine wi_goto (t := 113) hm163 rfl rfl ?_
                refine wi_istore_n (pc' := 114) (L' := [(0, x0), (0, x1), (0, x2), (0, (x1 - x2))]) hm163 rfl rfl rfl ?_
                refine wi_iload_n (pc' := 115) hm163 rfl rfl rfl ?_
                refine wi_iconst (pc' := 116) (v := 0) hm163 rfl rfl rfl ?_
                refine wi_bipush (pc' := 118) (v := 99) hm163 rfl rfl rfl ?_
                refine wc_I (pc' := 121) (by decide) rfl (by decide) ((fx_wE hm163 rfl).trans (fx_exS (mj := 149) (as := [(0, (x1 - x2)), (0, 0), (0, 99)]) (rest := []) rfl rk149 rfl rfl rfl rfl)) h (fun y5 σ5 h => ?_)
                refine wi_if_eq (pc' := 124) (t := 128) hm163 rfl rfl rfl (fun hc => ?_) (fun hc => ?_)
                · replace h := h.1 hc
                  refine wi_iconst (pc' := 129) (v := (-1)) hm163 rfl rfl rfl ?_
                  exact wi_iret hm163 rfl h
                · replace h := h.2 hc
                  refine wi_iload_n (pc' := 125) hm163 rfl rfl rfl ?_
                  refine wi_goto (t := 129) hm163 rfl rfl ?_
                  exact wi_iret hm163 rfl h
            · replace h := h.2 hc
              refine wi_iload_n (pc' := 69) hm163 rfl rfl rfl ?_
              refine wi_iload_n (pc' := 70) hm163 rfl rfl rfl ?_
              obtain ⟨g1, h⟩ := h
              refine wi_iadd (pc' := 71) hm163 rfl rfl g1 ?_
              refine wi_goto (t := 113) hm163 rfl rfl ?_
              refine wi_istore_n (pc' := 114) (L' := [(0, x0), (0, x1), (0, x2), (0, (x1 + x2))]) hm163 rfl rfl rfl ?_
              refine wi_iload_n (pc' := 115) hm163 rfl rfl rfl ?_
              refine wi_iconst (pc' := 116) (v := 0) hm163 rfl rfl rfl ?_
              refine wi_bipush (pc' := 118) (v := 99) hm163 rfl rfl rfl ?_
              refine wc_I (pc' := 121) (by decide) rfl (by decide) ((fx_wE hm163 rfl).trans (fx_exS (mj := 149) (as := [(0, (x1 + x2)), (0, 0), (0, 99)]) (rest := []) rfl rk149 rfl rfl rfl rfl)) h (fun y6 σ6 h => ?_)
              refine wi_if_eq (pc' := 124) (t := 128) hm163 rfl rfl rfl (fun hc => ?_) (fun hc => ?_)
              · replace h := h.1 hc
                refine wi_iconst (pc' := 129) (v := (-1)) hm163 rfl rfl rfl ?_
                exact wi_iret hm163 rfl h
              · replace h := h.2 hc
                refine wi_iload_n (pc' := 125) hm163 rfl rfl rfl ?_
                refine wi_goto (t := 129) hm163 rfl rfl ?_
                exact wi_iret hm163 rfl h
          · replace h := h.2 hc
            refine wi_iconst (pc' := 62) (v := (-1)) hm163 rfl rfl rfl ?_
            exact wi_iret hm163 rfl h
      · replace h := h.2 hc
        refine wi_iload_n (pc' := 41) hm163 rfl rfl rfl ?_
        refine wi_iconst (pc' := 42) (v := (-1)) hm163 rfl rfl rfl ?_
        refine wi_ic_ne (pc' := 45) (t := 49) hm163 rfl rfl rfl (fun hc => ?_) (fun hc => ?_)
        · replace h := h.1 hc
          refine wi_iconst (pc' := 50) (v := (-1)) hm163 rfl rfl rfl ?_
          exact wi_iret hm163 rfl h
        · replace h := h.2 hc
          refine wi_iload_n (pc' := 46) hm163 rfl rfl rfl ?_
          refine wi_goto (t := 50) hm163 rfl rfl ?_
          exact wi_iret hm163 rfl h
    · replace h := h.2 hc
      refine wi_iload_n (pc' := 24) hm163 rfl rfl rfl ?_
      refine wi_iconst (pc' := 25) (v := (-1)) hm163 rfl rfl rfl ?_
      refine wi_ic_eq (pc' := 28) (t := 32) hm163 rfl rfl rfl (fun hc => ?_) (fun hc => ?_)
      · replace h := h.1 hc
        refine wi_iconst (pc' := 33) (v := (-1)) hm163 rfl rfl rfl ?_
        exact wi_iret hm163 rfl h
      · replace h := h.2 hc
        refine wi_iload_n (pc' := 29) hm163 rfl rfl rfl ?_
        refine wi_goto (t := 33) hm163 rfl rfl ?_
        exact wi_iret hm163 rfl h
  · replace h := h.2 hc
    refine wi_iload_n (pc' := 7) hm163 rfl rfl rfl ?_
    refine wi_iconst (pc' := 8) (v := (-1)) hm163 rfl rfl rfl ?_
    refine wi_ic_eq (pc' := 11) (t := 15) hm163 rfl rfl rfl (fun hc => ?_) (fun hc => ?_)
    · replace h := h.1 hc
      refine wi_iload_n (pc' := 16) hm163 rfl rfl rfl ?_
      exact wi_iret hm163 rfl h
    · replace h := h.2 hc
      refine wi_iload_n (pc' := 12) hm163 rfl rfl rfl ?_
      refine wi_goto (t := 16) hm163 rfl rfl ?_
      exact wi_iret hm163 rfl h
theorem hm164 : fx_code 164 = fx_c164 := rfl
theorem t164_0 {o0 x1 : Int} {σ : fx_S} {Q : fx_V → fx_S → Prop} (h : fx_CI 160 [(46, o0), (0, x1), (0, 0)] σ Q (fun y1 σ1 => fx_Wp 164 9 [(46, o0), (0, x1), (0, y1), (0, 0), (3, 0), (3, 0)] [] σ1 Q)) : fx_Ca 164 [(46, o0), (0, x1)] σ Q := by
  show fx_Wp 164 0 [(46, o0), (0, x1), (3, 0), (3, 0), (3, 0), (3, 0)] [] σ Q
  refine wi_aload_n (pc' := 1) hm164 rfl rfl rfl (by decide) ?_
  refine wi_iload_n (pc' := 2) hm164 rfl rfl rfl ?_
  refine wi_iconst (pc' := 3) (v := 0) hm164 rfl rfl rfl ?_
  refine wc_I (pc' := 6) (by decide) rfl (by decide) ((fx_wE hm164 rfl).trans (fx_exV (mj := 160) (as := [(0, x1), (0, 0)]) (rest := []) rfl rk160 rfl rfl rfl rfl rfl)) h (fun y1 σ1 h => ?_)
  refine wi_istore_n (pc' := 7) (L' := [(46, o0), (0, x1), (0, y1), (3, 0), (3, 0), (3, 0)]) hm164 rfl rfl rfl ?_
  refine wi_iconst (pc' := 8) (v := 0) hm164 rfl rfl rfl ?_
  refine wi_istore_n (pc' := 9) (L' := [(46, o0), (0, x1), (0, y1), (0, 0), (3, 0), (3, 0)]) hm164 rfl rfl rfl ?_
  exact h
theorem t164_9 {o0 x1 x2 x3 : Int} {w4 w5 : fx_V} {σ : fx_S} {Q : fx_V → fx_S → Prop} (h : ((x2 ≤ x3 → ((x2 ≠ 0 → (fx_rg (x2 - 1)) ∧ (0 ≤ (x2 - 1) ∧ (x2 - 1) < 23) ∧ Q (0, (σ 57 0 (x2 - 1))) σ) ∧ (x2 = 0 → Q (0, (-1)) σ))) ∧ (x3 < x2 → fx_CI 161 [(46, o0), (0, x1), (0, x3), (0, 0)] σ Q (fun y1 σ1 => fx_CI 161 [(46, o0), (0, x1), (0, x3), (0, 1)] σ1 Q (fun y2 σ2 => ((y1 ≠ 0 → ((y1 ≠ 1 → fx_CI 161 [(46, o0), (0, x1), (0, x3), (0, 2)] σ2 Q (fun y3 σ3 => (0 ≤ y3 ∧ y3 < 23) ∧ fx_CI 161 [(46, o0), (0, x1), (0, x3), (0, 3)] σ3 Q (fun y4 σ4 => (0 ≤ y4 ∧ y4 < 23) ∧ fx_CI 163 [(0, y1), (0, (σ3 57 0 y3)), (0, (σ4 57 0 y4))] σ4 Q (fun y5 σ5 => (0 ≤ x3 ∧ x3 < 23) ∧ (fx_rg (x3 + 1)) ∧ fx_Wp 164 9 [(46, o0), (0, x1), (0, x2), (0, (x3 + 1)), (0, y1), (0, y2)] [] (fx_up σ5 57 0 x3 y5) Q)))) ∧ (y1 = 1 → (0 ≤ x3 ∧ x3 < 23) ∧ (fx_rg (x3 + 1)) ∧ fx_Wp 164 9 [(46, o0), (0, x1), (0, x2), (0, (x3 + 1)), (0, y1), (0, y2)] [] (fx_up σ2 57 0 x3 y2) Q))) ∧ (y1 = 0 → (0 ≤ y2 ∧ y2 < 8) ∧ (0 ≤ x3 ∧ x3 < 23) ∧ (fx_rg (x3 + 1)) ∧ fx_Wp 164 9 [(46, o0), (0, x1), (0, x2), (0, (x3 + 1)), (0, y1), (0, y2)] [] (fx_up σ2 57 0 x3 (σ2 55 0 y2)) Q))))))) : fx_Wp 164 9 [(46, o0), (0, x1), (0, x2), (0, x3), w4, w5] [] σ Q := by
  refine wi_iload_n (pc' := 10) hm164 rfl rfl rfl ?_
  refine wi_iload_n (pc' := 11) hm164 rfl rfl rfl ?_
  refine wi_ic_ge (pc' := 14) (t := 99) hm164 rfl rfl rfl (fun hc => ?_) (fun hc => ?_)
  · replace h := h.1 hc
    refine wi_iload_n (pc' := 100) hm164 rfl rfl rfl ?_
    refine wi_if_ne (pc' := 103) (t := 107) hm164 rfl rfl rfl (fun hc => ?_) (fun hc => ?_)
    · replace h := h.1 hc
      refine wi_aload_n (pc' := 108) hm164 rfl rfl rfl (by decide) ?_
      refine wi_getR (pc' := 111) (x := 0) hm164 rfl rfl rfl (by omega) ?_
      refine wi_iload_n (pc' := 112) hm164 rfl rfl rfl ?_
      refine wi_iconst (pc' := 113) (v := 1) hm164 rfl rfl rfl ?_
      obtain ⟨g1, h⟩ := h
      refine wi_isub (pc' := 114) hm164 rfl rfl g1 ?_
      obtain ⟨g2, h⟩ := h
      refine wi_iaload (pc' := 115) hm164 rfl rfl rfl rfl (N := 23) rfl g2 ?_
      exact wi_iret hm164 rfl h
    · replace h := h.2 hc
      refine wi_iconst (pc' := 104) (v := (-1)) hm164 rfl rfl rfl ?_
      refine wi_goto (t := 115) hm164 rfl rfl ?_
      exact wi_iret hm164 rfl h
  · replace h := h.2 hc
    refine wi_aload_n (pc' := 15) hm164 rfl rfl rfl (by decide) ?_
    refine wi_iload_n (pc' := 16) hm164 rfl rfl rfl ?_
    refine wi_iload_n (pc' := 17) hm164 rfl rfl rfl ?_
    refine wi_iconst (pc' := 18) (v := 0) hm164 rfl rfl rfl ?_
    refine wc_I (pc' := 21) (by decide) rfl (by decide) ((fx_wE hm164 rfl).trans (fx_exV (mj := 161) (as := [(0, x1), (0, x3), (0, 0)]) (rest := []) rfl rk161 rfl rfl rfl rfl rfl)) h (fun y1 σ1 h => ?_)
    refine wi_istore (pc' := 23) (L' := [(46, o0), (0, x1), (0, x2), (0, x3), (0, y1), w5]) hm164 rfl rfl rfl ?_
    refine wi_aload_n (pc' := 24) hm164 rfl rfl rfl (by decide) ?_
    refine wi_iload_n (pc' := 25) hm164 rfl rfl rfl ?_
    refine wi_iload_n (pc' := 26) hm164 rfl rfl rfl ?_
    refine wi_iconst (pc' := 27) (v := 1) hm164 rfl rfl rfl ?_
    refine wc_I (pc' := 30) (by decide) rfl (by decide) ((fx_wE hm164 rfl).trans (fx_exV (mj := 161) (as := [(0, x1), (0, x3), (0, 1)]) (rest := []) rfl rk161 rfl rfl rfl rfl rfl)) h (fun y2 σ2 h => ?_)
    refine wi_istore (pc' := 32) (L' := [(46, o0), (0, x1), (0, x2), (0, x3), (0, y1), (0, y2)]) hm164 rfl rfl rfl ?_
    refine wi_aload_n (pc' := 33) hm164 rfl rfl rfl (by decide) ?_
    refine wi_getR (pc' := 36) (x := 0) hm164 rfl rfl rfl (by omega) ?_
    refine wi_iload_n (pc' := 37) hm164 rfl rfl rfl ?_
    refine wi_iload (pc' := 39) hm164 rfl rfl rfl ?_
    refine wi_if_ne (pc' := 42) (t := 52) hm164 rfl rfl rfl (fun hc => ?_) (fun hc => ?_)
    · replace h := h.1 hc
      refine wi_iload (pc' := 54) hm164 rfl rfl rfl ?_
      refine wi_iconst (pc' := 55) (v := 1) hm164 rfl rfl rfl ?_
      refine wi_ic_ne (pc' := 58) (t := 63) hm164 rfl rfl rfl (fun hc => ?_) (fun hc => ?_)
      · replace h := h.1 hc
        refine wi_iload (pc' := 65) hm164 rfl rfl rfl ?_
        refine wi_aload_n (pc' := 66) hm164 rfl rfl rfl (by decide) ?_
        refine wi_getR (pc' := 69) (x := 0) hm164 rfl rfl rfl (by omega) ?_
        refine wi_aload_n (pc' := 70) hm164 rfl rfl rfl (by decide) ?_
        refine wi_iload_n (pc' := 71) hm164 rfl rfl rfl ?_
        refine wi_iload_n (pc' := 72) hm164 rfl rfl rfl ?_
        refine wi_iconst (pc' := 73) (v := 2) hm164 rfl rfl rfl ?_
        refine wc_I (pc' := 76) (by decide) rfl (by decide) ((fx_wE hm164 rfl).trans (fx_exV (mj := 161) (as := [(0, x1), (0, x3), (0, 2)]) (rest := [(57, 0), (0, y1), (0, x3), (57, 0)]) rfl rk161 rfl rfl rfl rfl rfl)) h (fun y3 σ3 h => ?_)
        obtain ⟨g1, h⟩ := h
        refine wi_iaload (pc' := 77) hm164 rfl rfl rfl rfl (N := 23) rfl g1 ?_
        refine wi_aload_n (pc' := 78) hm164 rfl rfl rfl (by decide) ?_
        refine wi_getR (pc' := 81) (x := 0) hm164 rfl rfl rfl (by omega) ?_
        refine wi_aload_n (pc' := 82) hm164 rfl rfl rfl (by decide) ?_
        refine wi_iload_n (pc' := 83) hm164 rfl rfl rfl ?_
        refine wi_iload_n (pc' := 84) hm164 rfl rfl rfl ?_
        refine wi_iconst (pc' := 85) (v := 3) hm164 rfl rfl rfl ?_
        refine wc_I (pc' := 88) (by decide) rfl (by decide) ((fx_wE hm164 rfl).trans (fx_exV (mj := 161) (as := [(0, x1), (0, x3), (0, 3)]) (rest := [(57, 0), (0, (σ3 57 0 y3)), (0, y1), (0, x3), (57, 0)]) rfl rk161 rfl rfl rfl rfl rfl)) h (fun y4 σ4 h => ?_)
        obtain ⟨g2, h⟩ := h
        refine wi_iaload (pc' := 89) hm164 rfl rfl rfl rfl (N := 23) rfl g2 ?_
        refine wc_I (pc' := 92) (by decide) rfl (by decide) ((fx_wE hm164 rfl).trans (fx_exS (mj := 163) (as := [(0, y1), (0, (σ3 57 0 y3)), (0, (σ4 57 0 y4))]) (rest := [(0, x3), (57, 0)]) rfl rk163 rfl rfl rfl rfl)) h (fun y5 σ5 h => ?_)
        obtain ⟨g3, h⟩ := h
        refine wi_iastore (pc' := 93) hm164 rfl rfl rfl (N := 23) rfl g3 ?_
        obtain ⟨g4, h⟩ := h
        refine wi_iinc (pc' := 96) (L' := [(46, o0), (0, x1), (0, x2), (0, (x3 + 1)), (0, y1), (0, y2)]) hm164 rfl rfl rfl g4 rfl ?_
        refine wi_goto (t := 9) hm164 rfl rfl ?_
        exact h
      · replace h := h.2 hc
        refine wi_iload (pc' := 60) hm164 rfl rfl rfl ?_
        refine wi_goto (t := 92) hm164 rfl rfl ?_
        obtain ⟨g1, h⟩ := h
        refine wi_iastore (pc' := 93) hm164 rfl rfl rfl (N := 23) rfl g1 ?_
        obtain ⟨g2, h⟩ := h
        refine wi_iinc (pc' := 96) (L' := [(46, o0), (0, x1), (0, x2), (0, (x3 + 1)), (0, y1), (0, y2)]) hm164 rfl rfl rfl g2 rfl ?_
        refine wi_goto (t := 9) hm164 rfl rfl ?_
        exact h
    · replace h := h.2 hc
      refine wi_aload_n (pc' := 43) hm164 rfl rfl rfl (by decide) ?_
      refine wi_getR (pc' := 46) (x := 0) hm164 rfl rfl rfl (by omega) ?_
      refine wi_iload (pc' := 48) hm164 rfl rfl rfl ?_
      obtain ⟨g1, h⟩ := h
      refine wi_iaload (pc' := 49) hm164 rfl rfl rfl rfl (N := 8) rfl g1 ?_
      refine wi_goto (t := 92) hm164 rfl rfl ?_
      obtain ⟨g2, h⟩ := h
      refine wi_iastore (pc' := 93) hm164 rfl rfl rfl (N := 23) rfl g2 ?_
      obtain ⟨g3, h⟩ := h
      refine wi_iinc (pc' := 96) (L' := [(46, o0), (0, x1), (0, x2), (0, (x3 + 1)), (0, y1), (0, y2)]) hm164 rfl rfl rfl g3 rfl ?_
      refine wi_goto (t := 9) hm164 rfl rfl ?_
      exact h
theorem hm165 : fx_code 165 = fx_c165 := rfl
theorem t165_0 {o0 x1 : Int} {σ : fx_S} {Q : fx_V → fx_S → Prop} (h : fx_Wp 165 2 [(46, o0), (0, x1), (0, 0)] [] σ Q) : fx_Ca 165 [(46, o0), (0, x1)] σ Q := by
  show fx_Wp 165 0 [(46, o0), (0, x1), (3, 0)] [] σ Q
  refine wi_iconst (pc' := 1) (v := 0) hm165 rfl rfl rfl ?_
  refine wi_istore_n (pc' := 2) (L' := [(46, o0), (0, x1), (0, 0)]) hm165 rfl rfl rfl ?_
  exact h
theorem t165_2 {o0 x1 x2 : Int} {σ : fx_S} {Q : fx_V → fx_S → Prop} (h : ((8 ≤ x2 → Q (4, 0) σ) ∧ (x2 < 8 → fx_CI 159 [(46, o0), (0, x2), (0, x1), (0, (-1))] σ Q (fun y1 σ1 => (0 ≤ x2 ∧ x2 < 8) ∧ ((y1 = (-1) → fx_CI 164 [(46, o0), (0, x2)] (fx_up σ1 56 0 x2 y1) Q (fun y2 σ2 => (fx_rg (x2 + 1)) ∧ fx_Wp 165 2 [(46, o0), (0, x1), (0, (x2 + 1))] [] (fx_up σ2 55 0 x2 y2) Q)) ∧ (y1 ≠ (-1) → fx_CI 151 [(46, o0), (0, y1), (0, 4)] (fx_up σ1 56 0 x2 y1) Q (fun y3 σ3 => (fx_rg (x2 + 1)) ∧ fx_Wp 165 2 [(46, o0), (0, x1), (0, (x2 + 1))] [] (fx_up σ3 55 0 x2 y3) Q))))))) : fx_Wp 165 2 [(46, o0), (0, x1), (0, x2)] [] σ Q := by
  refine wi_iload_n (pc' := 3) hm165 rfl rfl rfl ?_
  refine wi_bipush (pc' := 5) (v := 8) hm165 rfl rfl rfl ?_
  refine wi_ic_ge (pc' := 8) (t := 62) hm165 rfl rfl rfl (fun hc => ?_) (fun hc => ?_)
  · replace h := h.1 hc
    exact wi_vret hm165 rfl h
  · replace h := h.2 hc
    refine wi_aload_n (pc' := 9) hm165 rfl rfl rfl (by decide) ?_
    refine wi_getR (pc' := 12) (x := 0) hm165 rfl rfl rfl (by omega) ?_
    refine wi_iload_n (pc' := 13) hm165 rfl rfl rfl ?_
    refine wi_aload_n (pc' := 14) hm165 rfl rfl rfl (by decide) ?_
    refine wi_iload_n (pc' := 15) hm165 rfl rfl rfl ?_
    refine wi_iload_n (pc' := 16) hm165 rfl rfl rfl ?_
    refine wi_iconst (pc' := 17) (v := (-1)) hm165 rfl rfl rfl ?_
    refine wc_I (pc' := 20) (by decide) rfl (by decide) ((fx_wE hm165 rfl).trans (fx_exV (mj := 159) (as := [(0, x2), (0, x1), (0, (-1))]) (rest := [(0, x2), (56, 0)]) rfl rk159 rfl rfl rfl rfl rfl)) h (fun y1 σ1 h => ?_)
    obtain ⟨g1, h⟩ := h
    refine wi_iastore (pc' := 21) hm165 rfl rfl rfl (N := 8) rfl g1 ?_
    refine wi_aload_n (pc' := 22) hm165 rfl rfl rfl (by decide) ?_
    refine wi_getR (pc' := 25) (x := 0) hm165 rfl rfl rfl (by omega) ?_
    refine wi_iload_n (pc' := 26) hm165 rfl rfl rfl ?_
    refine wi_aload_n (pc' := 27) hm165 rfl rfl rfl (by decide) ?_
    refine wi_getR (pc' := 30) (x := 0) hm165 rfl rfl rfl (by omega) ?_
    refine wi_iload_n (pc' := 31) hm165 rfl rfl rfl ?_
    refine wi_ialoade (pc' := 32) hm165 rfl rfl rfl rfl (N := 8) rfl g1 (x := y1) fx_upS ?_
    refine wi_iconst (pc' := 33) (v := (-1)) hm165 rfl rfl rfl ?_
    refine wi_ic_eq (pc' := 36) (t := 50) hm165 rfl rfl rfl (fun hc => ?_) (fun hc => ?_)
    · replace h := h.1 hc
      refine wi_aload_n (pc' := 51) hm165 rfl rfl rfl (by decide) ?_
      refine wi_iload_n (pc' := 52) hm165 rfl rfl rfl ?_
      refine wc_I (pc' := 55) (by decide) rfl (by decide) ((fx_wE hm165 rfl).trans (fx_exV (mj := 164) (as := [(0, x2)]) (rest := [(0, x2), (55, 0)]) rfl rk164 rfl rfl rfl rfl rfl)) h (fun y2 σ2 h => ?_)
      refine wi_iastore (pc' := 56) hm165 rfl rfl rfl (N := 8) rfl g1 ?_
      obtain ⟨g2, h⟩ := h
      refine wi_iinc (pc' := 59) (L' := [(46, o0), (0, x1), (0, (x2 + 1))]) hm165 rfl rfl rfl g2 rfl ?_
      refine wi_goto (t := 2) hm165 rfl rfl ?_
      exact h
    · replace h := h.2 hc
      refine wi_aload_n (pc' := 37) hm165 rfl rfl rfl (by decide) ?_
      refine wi_aload_n (pc' := 38) hm165 rfl rfl rfl (by decide) ?_
      refine wi_getR (pc' := 41) (x := 0) hm165 rfl rfl rfl (by omega) ?_
      refine wi_iload_n (pc' := 42) hm165 rfl rfl rfl ?_
      refine wi_ialoade (pc' := 43) hm165 rfl rfl rfl rfl (N := 8) rfl g1 (x := y1) fx_upS ?_
      refine wi_iconst (pc' := 44) (v := 4) hm165 rfl rfl rfl ?_
      refine wc_I (pc' := 47) (by decide) rfl (by decide) ((fx_wE hm165 rfl).trans (fx_exV (mj := 151) (as := [(0, y1), (0, 4)]) (rest := [(0, x2), (55, 0)]) rfl rk151 rfl rfl rfl rfl rfl)) h (fun y3 σ3 h => ?_)
      refine wi_goto (t := 55) hm165 rfl rfl ?_
      refine wi_iastore (pc' := 56) hm165 rfl rfl rfl (N := 8) rfl g1 ?_
      obtain ⟨g2, h⟩ := h
      refine wi_iinc (pc' := 59) (L' := [(46, o0), (0, x1), (0, (x2 + 1))]) hm165 rfl rfl rfl g2 rfl ?_
      refine wi_goto (t := 2) hm165 rfl rfl ?_
      exact h
theorem hm166 : fx_code 166 = fx_c166 := rfl
theorem t166_0 {o0 x1 o2 : Int} {σ : fx_S} {Q : fx_V → fx_S → Prop} (h : fx_Wp 166 2 [(46, o0), (0, x1), (59, o2), (0, 0)] [] σ Q) : fx_Ca 166 [(46, o0), (0, x1), (59, o2)] σ Q := by
  show fx_Wp 166 0 [(46, o0), (0, x1), (59, o2), (3, 0)] [] σ Q
  refine wi_iconst (pc' := 1) (v := 0) hm166 rfl rfl rfl ?_
  refine wi_istore_n (pc' := 2) (L' := [(46, o0), (0, x1), (59, o2), (0, 0)]) hm166 rfl rfl rfl ?_
  exact h
theorem t166_2 {o0 x1 o2 x3 : Int} {σ : fx_S} {Q : fx_V → fx_S → Prop} (h : ((1000 ≤ x3 → Q (4, 0) σ) ∧ (x3 < 1000 → fx_CV 165 [(46, o0), (0, x3)] σ Q (fun σ1 => (0 ≤ x1 ∧ x1 < 8) ∧ (0 ≤ x3 ∧ x3 < 1000) ∧ (fx_rg (x3 + 1)) ∧ fx_Wp 166 2 [(46, o0), (0, x1), (59, o2), (0, (x3 + 1))] [] (fx_up σ1 59 o2 x3 (σ1 55 0 x1)) Q)))) : fx_Wp 166 2 [(46, o0), (0, x1), (59, o2), (0, x3)] [] σ Q := by
  refine wi_iload_n (pc' := 3) hm166 rfl rfl rfl ?_
  refine wi_sipush (pc' := 6) (v := 1000) hm166 rfl rfl rfl ?_
  refine wi_ic_ge (pc' := 9) (t := 29) hm166 rfl rfl rfl (fun hc => ?_) (fun hc => ?_)
  · replace h := h.1 hc
    exact wi_vret hm166 rfl h
  · replace h := h.2 hc
    refine wi_aload_n (pc' := 10) hm166 rfl rfl rfl (by decide) ?_
    refine wi_iload_n (pc' := 11) hm166 rfl rfl rfl ?_
    refine wc_V (pc' := 14) (by decide) rfl (by decide) ((fx_wE hm166 rfl).trans (fx_exV (mj := 165) (as := [(0, x3)]) (rest := []) rfl rk165 rfl rfl rfl rfl rfl)) h (fun σ1 h => ?_)
    refine wi_aload_n (pc' := 15) hm166 rfl rfl rfl (by decide) ?_
    refine wi_iload_n (pc' := 16) hm166 rfl rfl rfl ?_
    refine wi_aload_n (pc' := 17) hm166 rfl rfl rfl (by decide) ?_
    refine wi_getR (pc' := 20) (x := 0) hm166 rfl rfl rfl (by omega) ?_
    refine wi_iload_n (pc' := 21) hm166 rfl rfl rfl ?_
    obtain ⟨g1, h⟩ := h
    refine wi_iaload (pc' := 22) hm166 rfl rfl rfl rfl (N := 8) rfl g1 ?_
    obtain ⟨g2, h⟩ := h
    refine wi_iastore (pc' := 23) hm166 rfl rfl rfl (N := 1000) rfl g2 ?_
    obtain ⟨g3, h⟩ := h
    refine wi_iinc (pc' := 26) (L' := [(46, o0), (0, x1), (59, o2), (0, (x3 + 1))]) hm166 rfl rfl rfl g3 rfl ?_
    refine wi_goto (t := 2) hm166 rfl rfl ?_
    exact h
theorem hm167 : fx_code 167 = fx_c167 := rfl
theorem t167_0 {o0 : Int} {σ : fx_S} {Q : fx_V → fx_S → Prop} (h : fx_Wp 167 2 [(46, o0), (0, 0), (3, 0), (3, 0)] [] σ Q) : fx_Ca 167 [(46, o0)] σ Q := by
  show fx_Wp 167 0 [(46, o0), (3, 0), (3, 0), (3, 0)] [] σ Q
  refine wi_iconst (pc' := 1) (v := 0) hm167 rfl rfl rfl ?_
  refine wi_istore_n (pc' := 2) (L' := [(46, o0), (0, 0), (3, 0), (3, 0)]) hm167 rfl rfl rfl ?_
  exact h
theorem t167_2 {o0 x1 : Int} {w2 w3 : fx_V} {σ : fx_S} {Q : fx_V → fx_S → Prop} (h : ((60 ≤ x1 → fx_Wp 167 23 [(46, o0), (0, 0), w2, w3] [] σ Q) ∧ (x1 < 60 → (0 ≤ x1 ∧ x1 < 60) ∧ (fx_rg (x1 + 1)) ∧ fx_Wp 167 2 [(46, o0), (0, (x1 + 1)), w2, w3] [] (fx_up σ 58 0 x1 0) Q))) : fx_Wp 167 2 [(46, o0), (0, x1), w2, w3] [] σ Q := by
  refine wi_iload_n (pc' := 3) hm167 rfl rfl rfl ?_
  refine wi_bipush (pc' := 5) (v := 60) hm167 rfl rfl rfl ?_
  refine wi_ic_ge (pc' := 8) (t := 21) hm167 rfl rfl rfl (fun hc => ?_) (fun hc => ?_)
  · replace h := h.1 hc
    refine wi_iconst (pc' := 22) (v := 0) hm167 rfl rfl rfl ?_
    refine wi_istore_n (pc' := 23) (L' := [(46, o0), (0, 0), w2, w3]) hm167 rfl rfl rfl ?_
    exact h
  · replace h := h.2 hc
    refine wi_aload_n (pc' := 9) hm167 rfl rfl rfl (by decide) ?_
    refine wi_getR (pc' := 12) (x := 0) hm167 rfl rfl rfl (by omega) ?_
    refine wi_iload_n (pc' := 13) hm167 rfl rfl rfl ?_
    refine wi_iconst (pc' := 14) (v := 0) hm167 rfl rfl rfl ?_
    obtain ⟨g1, h⟩ := h
    refine wi_iastore (pc' := 15) hm167 rfl rfl rfl (N := 60) rfl g1 ?_
    obtain ⟨g2, h⟩ := h
    refine wi_iinc (pc' := 18) (L' := [(46, o0), (0, (x1 + 1)), w2, w3]) hm167 rfl rfl rfl g2 rfl ?_
    refine wi_goto (t := 2) hm167 rfl rfl ?_
    exact h
theorem t167_23 {o0 x1 : Int} {w2 w3 : fx_V} {σ : fx_S} {Q : fx_V → fx_S → Prop} (h : ((1000 ≤ x1 → Q (4, 0) σ) ∧ (x1 < 1000 → fx_Wp 167 32 [(46, o0), (0, x1), (0, 0), w3] [] σ Q))) : fx_Wp 167 23 [(46, o0), (0, x1), w2, w3] [] σ Q := by
  refine wi_iload_n (pc' := 24) hm167 rfl rfl rfl ?_
  refine wi_sipush (pc' := 27) (v := 1000) hm167 rfl rfl rfl ?_
  refine wi_ic_ge (pc' := 30) (t := 73) hm167 rfl rfl rfl (fun hc => ?_) (fun hc => ?_)
  · replace h := h.1 hc
    exact wi_vret hm167 rfl h
  · replace h := h.2 hc
    refine wi_iconst (pc' := 31) (v := 0) hm167 rfl rfl rfl ?_
    refine wi_istore_n (pc' := 32) (L' := [(46, o0), (0, x1), (0, 0), w3]) hm167 rfl rfl rfl ?_
    exact h
theorem t167_32 {o0 x1 x2 : Int} {w3 : fx_V} {σ : fx_S} {Q : fx_V → fx_S → Prop} (h : ((8 ≤ x2 → (fx_rg (x1 + 1)) ∧ fx_Wp 167 23 [(46, o0), (0, (x1 + 1)), (0, x2), w3] [] σ Q) ∧ (x2 < 8 → fx_CI 159 [(46, o0), (0, x2), (0, x1), (0, (-1))] σ Q (fun y1 σ1 => ((y1 = (-1) → (fx_rg (x2 + 1)) ∧ fx_Wp 167 32 [(46, o0), (0, x1), (0, (x2 + 1)), (0, y1)] [] σ1 Q) ∧ (y1 ≠ (-1) → (0 ≤ y1 ∧ y1 < 60) ∧ (fx_rg ((σ1 58 0 y1) + 1)) ∧ (fx_rg (x2 + 1)) ∧ fx_Wp 167 32 [(46, o0), (0, x1), (0, (x2 + 1)), (0, y1)] [] (fx_up σ1 58 0 y1 ((σ1 58 0 y1) + 1)) Q)))))) : fx_Wp 167 32 [(46, o0), (0, x1), (0, x2), w3] [] σ Q := by
  refine wi_iload_n (pc' := 33) hm167 rfl rfl rfl ?_
  refine wi_bipush (pc' := 35) (v := 8) hm167 rfl rfl rfl ?_
  refine wi_ic_ge (pc' := 38) (t := 67) hm167 rfl rfl rfl (fun hc => ?_) (fun hc => ?_)
  · replace h := h.1 hc
    obtain ⟨g1, h⟩ := h
    refine wi_iinc (pc' := 70) (L' := [(46, o0), (0, (x1 + 1)), (0, x2), w3]) hm167 rfl rfl rfl g1 rfl ?_
    refine wi_goto (t := 23) hm167 rfl rfl ?_
    exact h
  · replace h := h.2 hc
    refine wi_aload_n (pc' := 39) hm167 rfl rfl rfl (by decide) ?_
    refine wi_iload_n (pc' := 40) hm167 rfl rfl rfl ?_
    refine wi_iload_n (pc' := 41) hm167 rfl rfl rfl ?_
    refine wi_iconst (pc' := 42) (v := (-1)) hm167 rfl rfl rfl ?_
    refine wc_I (pc' := 45) (by decide) rfl (by decide) ((fx_wE hm167 rfl).trans (fx_exV (mj := 159) (as := [(0, x2), (0, x1), (0, (-1))]) (rest := []) rfl rk159 rfl rfl rfl rfl rfl)) h (fun y1 σ1 h => ?_)
    refine wi_istore_n (pc' := 46) (L' := [(46, o0), (0, x1), (0, x2), (0, y1)]) hm167 rfl rfl rfl ?_
    refine wi_iload_n (pc' := 47) hm167 rfl rfl rfl ?_
    refine wi_iconst (pc' := 48) (v := (-1)) hm167 rfl rfl rfl ?_
    refine wi_ic_eq (pc' := 51) (t := 61) hm167 rfl rfl rfl (fun hc => ?_) (fun hc => ?_)
    · replace h := h.1 hc
      obtain ⟨g1, h⟩ := h
      refine wi_iinc (pc' := 64) (L' := [(46, o0), (0, x1), (0, (x2 + 1)), (0, y1)]) hm167 rfl rfl rfl g1 rfl ?_
      refine wi_goto (t := 32) hm167 rfl rfl ?_
      exact h
    · replace h := h.2 hc
      refine wi_aload_n (pc' := 52) hm167 rfl rfl rfl (by decide) ?_
      refine wi_getR (pc' := 55) (x := 0) hm167 rfl rfl rfl (by omega) ?_
      refine wi_iload_n (pc' := 56) hm167 rfl rfl rfl ?_
      refine wi_dup2 (pc' := 57) hm167 rfl rfl rfl ?_
      obtain ⟨g1, h⟩ := h
      refine wi_iaload (pc' := 58) hm167 rfl rfl rfl rfl (N := 60) rfl g1 ?_
      refine wi_iconst (pc' := 59) (v := 1) hm167 rfl rfl rfl ?_
      obtain ⟨g2, h⟩ := h
      refine wi_iadd (pc' := 60) hm167 rfl rfl g2 ?_
      refine wi_iastore (pc' := 61) hm167 rfl rfl rfl (N := 60) rfl g1 ?_
      obtain ⟨g3, h⟩ := h
      refine wi_iinc (pc' := 64) (L' := [(46, o0), (0, x1), (0, (x2 + 1)), (0, y1)]) hm167 rfl rfl rfl g3 rfl ?_
      refine wi_goto (t := 32) hm167 rfl rfl ?_
      exact h
theorem hm168 : fx_code 168 = fx_c168 := rfl
theorem t168_0 {o0 x1 : Int} {σ : fx_S} {Q : fx_V → fx_S → Prop} (h : (((σ 47 0 0) ≠ 8 → (fx_rg (2 + (σ 47 0 0))) ∧ (0 ≤ (2 + (σ 47 0 0)) ∧ (2 + (σ 47 0 0)) < 1130) ∧ (fx_rg (10 + ((fx_up σ 47 0 (2 + (σ 47 0 0)) x1) 47 0 0))) ∧ (0 ≤ (10 + ((fx_up σ 47 0 (2 + (σ 47 0 0)) x1) 47 0 0)) ∧ (10 + ((fx_up σ 47 0 (2 + (σ 47 0 0)) x1) 47 0 0)) < 1130) ∧ (fx_rg (((fx_up (fx_up σ 47 0 (2 + (σ 47 0 0)) x1) 47 0 (10 + ((fx_up σ 47 0 (2 + (σ 47 0 0)) x1) 47 0 0)) 0) 47 0 0) + 1)) ∧ Q (0, 0) (fx_up (fx_up (fx_up σ 47 0 (2 + (σ 47 0 0)) x1) 47 0 (10 + ((fx_up σ 47 0 (2 + (σ 47 0 0)) x1) 47 0 0)) 0) 47 0 0 (((fx_up (fx_up σ 47 0 (2 + (σ 47 0 0)) x1) 47 0 (10 + ((fx_up σ 47 0 (2 + (σ 47 0 0)) x1) 47 0 0)) 0) 47 0 0) + 1))) ∧ ((σ 47 0 0) = 8 → Q (0, 1) σ))) : fx_Ca 168 [(46, o0), (0, x1)] σ Q := by
  show fx_Wp 168 0 [(46, o0), (0, x1)] [] σ Q
  refine wi_aload_n (pc' := 1) hm168 rfl rfl rfl (by decide) ?_
  refine wi_getR (pc' := 4) (x := 0) hm168 rfl rfl rfl (by omega) ?_
  refine wi_iconst (pc' := 5) (v := 0) hm168 rfl rfl rfl ?_
  refine wi_iaload (pc' := 6) hm168 rfl rfl rfl rfl (N := 1130) rfl (by decide) ?_
  refine wi_bipush (pc' := 8) (v := 8) hm168 rfl rfl rfl ?_
  refine wi_ic_ne (pc' := 11) (t := 13) hm168 rfl rfl rfl (fun hc => ?_) (fun hc => ?_)
  · replace h := h.1 hc
    refine wi_aload_n (pc' := 14) hm168 rfl rfl rfl (by decide) ?_
    refine wi_getR (pc' := 17) (x := 0) hm168 rfl rfl rfl (by omega) ?_
    refine wi_iconst (pc' := 18) (v := 2) hm168 rfl rfl rfl ?_
    refine wi_aload_n (pc' := 19) hm168 rfl rfl rfl (by decide) ?_
    refine wi_getR (pc' := 22) (x := 0) hm168 rfl rfl rfl (by omega) ?_
    refine wi_iconst (pc' := 23) (v := 0) hm168 rfl rfl rfl ?_
    refine wi_iaload (pc' := 24) hm168 rfl rfl rfl rfl (N := 1130) rfl (by decide) ?_
    obtain ⟨g1, h⟩ := h
    refine wi_iadd (pc' := 25) hm168 rfl rfl g1 ?_
    refine wi_iload_n (pc' := 26) hm168 rfl rfl rfl ?_
    obtain ⟨g2, h⟩ := h
    refine wi_iastore (pc' := 27) hm168 rfl rfl rfl (N := 1130) rfl g2 ?_
    refine wi_aload_n (pc' := 28) hm168 rfl rfl rfl (by decide) ?_
    refine wi_getR (pc' := 31) (x := 0) hm168 rfl rfl rfl (by omega) ?_
    refine wi_bipush (pc' := 33) (v := 10) hm168 rfl rfl rfl ?_
    refine wi_aload_n (pc' := 34) hm168 rfl rfl rfl (by decide) ?_
    refine wi_getR (pc' := 37) (x := 0) hm168 rfl rfl rfl (by omega) ?_
    refine wi_iconst (pc' := 38) (v := 0) hm168 rfl rfl rfl ?_
    refine wi_iaload (pc' := 39) hm168 rfl rfl rfl rfl (N := 1130) rfl (by decide) ?_
    obtain ⟨g3, h⟩ := h
    refine wi_iadd (pc' := 40) hm168 rfl rfl g3 ?_
    refine wi_iconst (pc' := 41) (v := 0) hm168 rfl rfl rfl ?_
    obtain ⟨g4, h⟩ := h
    refine wi_iastore (pc' := 42) hm168 rfl rfl rfl (N := 1130) rfl g4 ?_
    refine wi_aload_n (pc' := 43) hm168 rfl rfl rfl (by decide) ?_
    refine wi_getR (pc' := 46) (x := 0) hm168 rfl rfl rfl (by omega) ?_
    refine wi_iconst (pc' := 47) (v := 0) hm168 rfl rfl rfl ?_
    refine wi_dup2 (pc' := 48) hm168 rfl rfl rfl ?_
    refine wi_iaload (pc' := 49) hm168 rfl rfl rfl rfl (N := 1130) rfl (by decide) ?_
    refine wi_iconst (pc' := 50) (v := 1) hm168 rfl rfl rfl ?_
    obtain ⟨g5, h⟩ := h
    refine wi_iadd (pc' := 51) hm168 rfl rfl g5 ?_
    refine wi_iastore (pc' := 52) hm168 rfl rfl rfl (N := 1130) rfl (by decide) ?_
    refine wi_iconst (pc' := 53) (v := 0) hm168 rfl rfl rfl ?_
    exact wi_iret hm168 rfl h
  · replace h := h.2 hc
    refine wi_iconst (pc' := 12) (v := 1) hm168 rfl rfl rfl ?_
    exact wi_iret hm168 rfl h
theorem hm169 : fx_code 169 = fx_c169 := rfl
theorem t169_0 {o0 x1 x2 x3 x4 x5 : Int} {σ : fx_S} {Q : fx_V → fx_S → Prop} (h : fx_CI 152 [(46, o0), (0, x2)] σ Q (fun y1 σ1 => ((y1 ≠ 0 → ((x3 < x4 → (((σ1 47 0 1) ≠ 60 → (fx_rg (6 * (σ1 47 0 1))) ∧ (fx_rg (18 + (6 * (σ1 47 0 1)))) ∧ (fx_rg ((18 + (6 * (σ1 47 0 1))) + 0)) ∧ (0 ≤ ((18 + (6 * (σ1 47 0 1))) + 0) ∧ ((18 + (6 * (σ1 47 0 1))) + 0) < 1130) ∧ (fx_rg ((18 + (6 * (σ1 47 0 1))) + 1)) ∧ (0 ≤ ((18 + (6 * (σ1 47 0 1))) + 1) ∧ ((18 + (6 * (σ1 47 0 1))) + 1) < 1130) ∧ (fx_rg ((18 + (6 * (σ1 47 0 1))) + 2)) ∧ (0 ≤ ((18 + (6 * (σ1 47 0 1))) + 2) ∧ ((18 + (6 * (σ1 47 0 1))) + 2) < 1130) ∧ (fx_rg ((18 + (6 * (σ1 47 0 1))) + 3)) ∧ (0 ≤ ((18 + (6 * (σ1 47 0 1))) + 3) ∧ ((18 + (6 * (σ1 47 0 1))) + 3) < 1130) ∧ (fx_rg ((18 + (6 * (σ1 47 0 1))) + 4)) ∧ (0 ≤ ((18 + (6 * (σ1 47 0 1))) + 4) ∧ ((18 + (6 * (σ1 47 0 1))) + 4) < 1130) ∧ (fx_rg ((18 + (6 * (σ1 47 0 1))) + 5)) ∧ (0 ≤ ((18 + (6 * (σ1 47 0 1))) + 5) ∧ ((18 + (6 * (σ1 47 0 1))) + 5) < 1130) ∧ (fx_rg (((fx_up (fx_up (fx_up (fx_up (fx_up (fx_up σ1 47 0 ((18 + (6 * (σ1 47 0 1))) + 0) x1) 47 0 ((18 + (6 * (σ1 47 0 1))) + 1) x2) 47 0 ((18 + (6 * (σ1 47 0 1))) + 2) x3) 47 0 ((18 + (6 * (σ1 47 0 1))) + 3) x4) 47 0 ((18 + (6 * (σ1 47 0 1))) + 4) x5) 47 0 ((18 + (6 * (σ1 47 0 1))) + 5) 0) 47 0 1) + 1)) ∧ Q (0, 0) (fx_up (fx_up (fx_up (fx_up (fx_up (fx_up (fx_up σ1 47 0 ((18 + (6 * (σ1 47 0 1))) + 0) x1) 47 0 ((18 + (6 * (σ1 47 0 1))) + 1) x2) 47 0 ((18 + (6 * (σ1 47 0 1))) + 2) x3) 47 0 ((18 + (6 * (σ1 47 0 1))) + 3) x4) 47 0 ((18 + (6 * (σ1 47 0 1))) + 4) x5) 47 0 ((18 + (6 * (σ1 47 0 1))) + 5) 0) 47 0 1 (((fx_up (fx_up (fx_up (fx_up (fx_up (fx_up σ1 47 0 ((18 + (6 * (σ1 47 0 1))) + 0) x1) 47 0 ((18 + (6 * (σ1 47 0 1))) + 1) x2) 47 0 ((18 + (6 * (σ1 47 0 1))) + 2) x3) 47 0 ((18 + (6 * (σ1 47 0 1))) + 3) x4) 47 0 ((18 + (6 * (σ1 47 0 1))) + 4) x5) 47 0 ((18 + (6 * (σ1 47 0 1))) + 5) 0) 47 0 1) + 1))) ∧ ((σ1 47 0 1) = 60 → Q (0, 4) σ1))) ∧ (x4 ≤ x3 → Q (0, 3) σ1))) ∧ (y1 = 0 → Q (0, 2) σ1)))) : fx_Ca 169 [(46, o0), (0, x1), (0, x2), (0, x3), (0, x4), (0, x5)] σ Q := by
  show fx_Wp 169 0 [(46, o0), (0, x1), (0, x2), (0, x3), (0, x4), (0, x5), (3, 0)] [] σ Q
  refine wi_aload_n (pc' := 1) hm169 rfl rfl rfl (by decide) ?_
  refine wi_iload_n (pc' := 2) hm169 rfl rfl rfl ?_
  refine wc_I (pc' := 5) (by decide) rfl (by decide) ((fx_wE hm169 rfl).trans (fx_exV (mj := 152) (as := [(0, x2)]) (rest := []) rfl rk152 rfl rfl rfl rfl rfl)) h (fun y1 σ1 h => ?_)
  refine wi_if_ne (pc' := 8) (t := 10) hm169 rfl rfl rfl (fun hc => ?_) (fun hc => ?_)
  · replace h := h.1 hc
    refine wi_iload_n (pc' := 11) hm169 rfl rfl rfl ?_
    refine wi_iload (pc' := 13) hm169 rfl rfl rfl ?_
    refine wi_ic_lt (pc' := 16) (t := 18) hm169 rfl rfl rfl (fun hc => ?_) (fun hc => ?_)
    · replace h := h.1 hc
      refine wi_aload_n (pc' := 19) hm169 rfl rfl rfl (by decide) ?_
      refine wi_getR (pc' := 22) (x := 0) hm169 rfl rfl rfl (by omega) ?_
      refine wi_iconst (pc' := 23) (v := 1) hm169 rfl rfl rfl ?_
      refine wi_iaload (pc' := 24) hm169 rfl rfl rfl rfl (N := 1130) rfl (by decide) ?_
      refine wi_bipush (pc' := 26) (v := 60) hm169 rfl rfl rfl ?_
      refine wi_ic_ne (pc' := 29) (t := 31) hm169 rfl rfl rfl (fun hc => ?_) (fun hc => ?_)
      · replace h := h.1 hc
        refine wi_bipush (pc' := 33) (v := 18) hm169 rfl rfl rfl ?_
        refine wi_bipush (pc' := 35) (v := 6) hm169 rfl rfl rfl ?_
        refine wi_aload_n (pc' := 36) hm169 rfl rfl rfl (by decide) ?_
        refine wi_getR (pc' := 39) (x := 0) hm169 rfl rfl rfl (by omega) ?_
        refine wi_iconst (pc' := 40) (v := 1) hm169 rfl rfl rfl ?_
        refine wi_iaload (pc' := 41) hm169 rfl rfl rfl rfl (N := 1130) rfl (by decide) ?_
        obtain ⟨g1, h⟩ := h
        refine wi_imul (pc' := 42) hm169 rfl rfl g1 ?_
        obtain ⟨g2, h⟩ := h
        refine wi_iadd (pc' := 43) hm169 rfl rfl g2 ?_
        refine wi_istore (pc' := 45) (L' := [(46, o0), (0, x1), (0, x2), (0, x3), (0, x4), (0, x5), (0, (18 + (6 * (σ1 47 0 1))))]) hm169 rfl rfl rfl ?_
        refine wi_aload_n (pc' := 46) hm169 rfl rfl rfl (by decide) ?_
        refine wi_getR (pc' := 49) (x := 0) hm169 rfl rfl rfl (by omega) ?_
        refine wi_iload (pc' := 51) hm169 rfl rfl rfl ?_
        refine wi_iconst (pc' := 52) (v := 0) hm169 rfl rfl rfl ?_
        obtain ⟨g3, h⟩ := h
        refine wi_iadd (pc' := 53) hm169 rfl rfl g3 ?_
        refine wi_iload_n (pc' := 54) hm169 rfl rfl rfl ?_
        obtain ⟨g4, h⟩ := h
        refine wi_iastore (pc' := 55) hm169 rfl rfl rfl (N := 1130) rfl g4 ?_
        refine wi_aload_n (pc' := 56) hm169 rfl rfl rfl (by decide) ?_
        refine wi_getR (pc' := 59) (x := 0) hm169 rfl rfl rfl (by omega) ?_
        refine wi_iload (pc' := 61) hm169 rfl rfl rfl ?_
        refine wi_iconst (pc' := 62) (v := 1) hm169 rfl rfl rfl ?_
        obtain ⟨g5, h⟩ := h
        refine wi_iadd (pc' := 63) hm169 rfl rfl g5 ?_
        refine wi_iload_n (pc' := 64) hm169 rfl rfl rfl ?_
        obtain ⟨g6, h⟩ := h
        refine wi_iastore (pc' := 65) hm169 rfl rfl rfl (N := 1130) rfl g6 ?_
        refine wi_aload_n (pc' := 66) hm169 rfl rfl rfl (by decide) ?_
        refine wi_getR (pc' := 69) (x := 0) hm169 rfl rfl rfl (by omega) ?_
        refine wi_iload (pc' := 71) hm169 rfl rfl rfl ?_
        refine wi_iconst (pc' := 72) (v := 2) hm169 rfl rfl rfl ?_
        obtain ⟨g7, h⟩ := h
        refine wi_iadd (pc' := 73) hm169 rfl rfl g7 ?_
        refine wi_iload_n (pc' := 74) hm169 rfl rfl rfl ?_
        obtain ⟨g8, h⟩ := h
        refine wi_iastore (pc' := 75) hm169 rfl rfl rfl (N := 1130) rfl g8 ?_
        refine wi_aload_n (pc' := 76) hm169 rfl rfl rfl (by decide) ?_
        refine wi_getR (pc' := 79) (x := 0) hm169 rfl rfl rfl (by omega) ?_
        refine wi_iload (pc' := 81) hm169 rfl rfl rfl ?_
        refine wi_iconst (pc' := 82) (v := 3) hm169 rfl rfl rfl ?_
        obtain ⟨g9, h⟩ := h
        refine wi_iadd (pc' := 83) hm169 rfl rfl g9 ?_
        refine wi_iload (pc' := 85) hm169 rfl rfl rfl ?_
        obtain ⟨g10, h⟩ := h
        refine wi_iastore (pc' := 86) hm169 rfl rfl rfl (N := 1130) rfl g10 ?_
        refine wi_aload_n (pc' := 87) hm169 rfl rfl rfl (by decide) ?_
        refine wi_getR (pc' := 90) (x := 0) hm169 rfl rfl rfl (by omega) ?_
        refine wi_iload (pc' := 92) hm169 rfl rfl rfl ?_
        refine wi_iconst (pc' := 93) (v := 4) hm169 rfl rfl rfl ?_
        obtain ⟨g11, h⟩ := h
        refine wi_iadd (pc' := 94) hm169 rfl rfl g11 ?_
        refine wi_iload (pc' := 96) hm169 rfl rfl rfl ?_
        obtain ⟨g12, h⟩ := h
        refine wi_iastore (pc' := 97) hm169 rfl rfl rfl (N := 1130) rfl g12 ?_
        refine wi_aload_n (pc' := 98) hm169 rfl rfl rfl (by decide) ?_
        refine wi_getR (pc' := 101) (x := 0) hm169 rfl rfl rfl (by omega) ?_
        refine wi_iload (pc' := 103) hm169 rfl rfl rfl ?_
        refine wi_iconst (pc' := 104) (v := 5) hm169 rfl rfl rfl ?_
        obtain ⟨g13, h⟩ := h
        refine wi_iadd (pc' := 105) hm169 rfl rfl g13 ?_
        refine wi_iconst (pc' := 106) (v := 0) hm169 rfl rfl rfl ?_
        obtain ⟨g14, h⟩ := h
        refine wi_iastore (pc' := 107) hm169 rfl rfl rfl (N := 1130) rfl g14 ?_
        refine wi_aload_n (pc' := 108) hm169 rfl rfl rfl (by decide) ?_
        refine wi_getR (pc' := 111) (x := 0) hm169 rfl rfl rfl (by omega) ?_
        refine wi_iconst (pc' := 112) (v := 1) hm169 rfl rfl rfl ?_
        refine wi_dup2 (pc' := 113) hm169 rfl rfl rfl ?_
        refine wi_iaload (pc' := 114) hm169 rfl rfl rfl rfl (N := 1130) rfl (by decide) ?_
        refine wi_iconst (pc' := 115) (v := 1) hm169 rfl rfl rfl ?_
        obtain ⟨g15, h⟩ := h
        refine wi_iadd (pc' := 116) hm169 rfl rfl g15 ?_
        refine wi_iastore (pc' := 117) hm169 rfl rfl rfl (N := 1130) rfl (by decide) ?_
        refine wi_iconst (pc' := 118) (v := 0) hm169 rfl rfl rfl ?_
        exact wi_iret hm169 rfl h
      · replace h := h.2 hc
        refine wi_iconst (pc' := 30) (v := 4) hm169 rfl rfl rfl ?_
        exact wi_iret hm169 rfl h
    · replace h := h.2 hc
      refine wi_iconst (pc' := 17) (v := 3) hm169 rfl rfl rfl ?_
      exact wi_iret hm169 rfl h
  · replace h := h.2 hc
    refine wi_iconst (pc' := 9) (v := 2) hm169 rfl rfl rfl ?_
    exact wi_iret hm169 rfl h
theorem hm170 : fx_code 170 = fx_c170 := rfl
theorem t170_0 {o0 x1 : Int} {σ : fx_S} {Q : fx_V → fx_S → Prop} (h : fx_CI 153 [(46, o0), (0, x1)] σ Q (fun y1 σ1 => ((y1 = 0 → Q (0, 5) σ1) ∧ (y1 ≠ 0 → fx_CI 151 [(46, o0), (0, x1), (0, 5)] σ1 Q (fun y2 σ2 => ((y2 ≠ 1 → (fx_rg (6 * x1)) ∧ (fx_rg (18 + (6 * x1))) ∧ (fx_rg ((18 + (6 * x1)) + 5)) ∧ (0 ≤ ((18 + (6 * x1)) + 5) ∧ ((18 + (6 * x1)) + 5) < 1130) ∧ Q (0, 0) (fx_up σ2 47 0 ((18 + (6 * x1)) + 5) 1)) ∧ (y2 = 1 → Q (0, 5) σ2))))))) : fx_Ca 170 [(46, o0), (0, x1)] σ Q := by
  show fx_Wp 170 0 [(46, o0), (0, x1)] [] σ Q
  refine wi_aload_n (pc' := 1) hm170 rfl rfl rfl (by decide) ?_
  refine wi_iload_n (pc' := 2) hm170 rfl rfl rfl ?_
  refine wc_I (pc' := 5) (by decide) rfl (by decide) ((fx_wE hm170 rfl).trans (fx_exV (mj := 153) (as := [(0, x1)]) (rest := []) rfl rk153 rfl rfl rfl rfl rfl)) h (fun y1 σ1 h => ?_)
  refine wi_if_eq (pc' := 8) (t := 18) hm170 rfl rfl rfl (fun hc => ?_) (fun hc => ?_)
  · replace h := h.1 hc
    refine wi_iconst (pc' := 19) (v := 5) hm170 rfl rfl rfl ?_
    exact wi_iret hm170 rfl h
  · replace h := h.2 hc
    refine wi_aload_n (pc' := 9) hm170 rfl rfl rfl (by decide) ?_
    refine wi_iload_n (pc' := 10) hm170 rfl rfl rfl ?_
    refine wi_iconst (pc' := 11) (v := 5) hm170 rfl rfl rfl ?_
    refine wc_I (pc' := 14) (by decide) rfl (by decide) ((fx_wE hm170 rfl).trans (fx_exV (mj := 151) (as := [(0, x1), (0, 5)]) (rest := []) rfl rk151 rfl rfl rfl rfl rfl)) h (fun y2 σ2 h => ?_)
    refine wi_iconst (pc' := 15) (v := 1) hm170 rfl rfl rfl ?_
    refine wi_ic_ne (pc' := 18) (t := 20) hm170 rfl rfl rfl (fun hc => ?_) (fun hc => ?_)
    · replace h := h.1 hc
      refine wi_aload_n (pc' := 21) hm170 rfl rfl rfl (by decide) ?_
      refine wi_getR (pc' := 24) (x := 0) hm170 rfl rfl rfl (by omega) ?_
      refine wi_bipush (pc' := 26) (v := 18) hm170 rfl rfl rfl ?_
      refine wi_bipush (pc' := 28) (v := 6) hm170 rfl rfl rfl ?_
      refine wi_iload_n (pc' := 29) hm170 rfl rfl rfl ?_
      obtain ⟨g1, h⟩ := h
      refine wi_imul (pc' := 30) hm170 rfl rfl g1 ?_
      obtain ⟨g2, h⟩ := h
      refine wi_iadd (pc' := 31) hm170 rfl rfl g2 ?_
      refine wi_iconst (pc' := 32) (v := 5) hm170 rfl rfl rfl ?_
      obtain ⟨g3, h⟩ := h
      refine wi_iadd (pc' := 33) hm170 rfl rfl g3 ?_
      refine wi_iconst (pc' := 34) (v := 1) hm170 rfl rfl rfl ?_
      obtain ⟨g4, h⟩ := h
      refine wi_iastore (pc' := 35) hm170 rfl rfl rfl (N := 1130) rfl g4 ?_
      refine wi_iconst (pc' := 36) (v := 0) hm170 rfl rfl rfl ?_
      exact wi_iret hm170 rfl h
    · replace h := h.2 hc
      refine wi_iconst (pc' := 19) (v := 5) hm170 rfl rfl rfl ?_
      exact wi_iret hm170 rfl h
theorem hm171 : fx_code 171 = fx_c171 := rfl
theorem t171_0 {o0 x1 x2 : Int} {σ : fx_S} {Q : fx_V → fx_S → Prop} (h : fx_CI 152 [(46, o0), (0, x1)] σ Q (fun y1 σ1 => ((y1 ≠ 0 → (fx_rg (10 + x1)) ∧ (0 ≤ (10 + x1) ∧ (10 + x1) < 1130) ∧ (((σ1 47 0 (10 + x1)) ≠ x2 → Q (0, 0) (fx_up σ1 47 0 (10 + x1) x2)) ∧ ((σ1 47 0 (10 + x1)) = x2 → Q (0, 6) σ1))) ∧ (y1 = 0 → Q (0, 2) σ1)))) : fx_Ca 171 [(46, o0), (0, x1), (0, x2)] σ Q := by
  show fx_Wp 171 0 [(46, o0), (0, x1), (0, x2)] [] σ Q
  refine wi_aload_n (pc' := 1) hm171 rfl rfl rfl (by decide) ?_
  refine wi_iload_n (pc' := 2) hm171 rfl rfl rfl ?_
  refine wc_I (pc' := 5) (by decide) rfl (by decide) ((fx_wE hm171 rfl).trans (fx_exV (mj := 152) (as := [(0, x1)]) (rest := []) rfl rk152 rfl rfl rfl rfl rfl)) h (fun y1 σ1 h => ?_)
  refine wi_if_ne (pc' := 8) (t := 10) hm171 rfl rfl rfl (fun hc => ?_) (fun hc => ?_)
  · replace h := h.1 hc
    refine wi_aload_n (pc' := 11) hm171 rfl rfl rfl (by decide) ?_
    refine wi_getR (pc' := 14) (x := 0) hm171 rfl rfl rfl (by omega) ?_
    refine wi_bipush (pc' := 16) (v := 10) hm171 rfl rfl rfl ?_
    refine wi_iload_n (pc' := 17) hm171 rfl rfl rfl ?_
    obtain ⟨g1, h⟩ := h
    refine wi_iadd (pc' := 18) hm171 rfl rfl g1 ?_
    obtain ⟨g2, h⟩ := h
    refine wi_iaload (pc' := 19) hm171 rfl rfl rfl rfl (N := 1130) rfl g2 ?_
    refine wi_iload_n (pc' := 20) hm171 rfl rfl rfl ?_
    refine wi_ic_ne (pc' := 23) (t := 26) hm171 rfl rfl rfl (fun hc => ?_) (fun hc => ?_)
    · replace h := h.1 hc
      refine wi_aload_n (pc' := 27) hm171 rfl rfl rfl (by decide) ?_
      refine wi_getR (pc' := 30) (x := 0) hm171 rfl rfl rfl (by omega) ?_
      refine wi_bipush (pc' := 32) (v := 10) hm171 rfl rfl rfl ?_
      refine wi_iload_n (pc' := 33) hm171 rfl rfl rfl ?_
      refine wi_iadd (pc' := 34) hm171 rfl rfl g1 ?_
      refine wi_iload_n (pc' := 35) hm171 rfl rfl rfl ?_
      refine wi_iastore (pc' := 36) hm171 rfl rfl rfl (N := 1130) rfl g2 ?_
      refine wi_iconst (pc' := 37) (v := 0) hm171 rfl rfl rfl ?_
      exact wi_iret hm171 rfl h
    · replace h := h.2 hc
      refine wi_bipush (pc' := 25) (v := 6) hm171 rfl rfl rfl ?_
      exact wi_iret hm171 rfl h
  · replace h := h.2 hc
    refine wi_iconst (pc' := 9) (v := 2) hm171 rfl rfl rfl ?_
    exact wi_iret hm171 rfl h
theorem hm172 : fx_code 172 = fx_c172 := rfl
theorem t172_0 {o0 x1 x2 : Int} {σ : fx_S} {Q : fx_V → fx_S → Prop} (h : fx_CI 152 [(46, o0), (0, x1)] σ Q (fun y1 σ1 => ((y1 ≠ 0 → (fx_rg (2 + x1)) ∧ (0 ≤ (2 + x1) ∧ (2 + x1) < 1130) ∧ Q (0, 0) (fx_up σ1 47 0 (2 + x1) x2)) ∧ (y1 = 0 → Q (0, 2) σ1)))) : fx_Ca 172 [(46, o0), (0, x1), (0, x2)] σ Q := by
  show fx_Wp 172 0 [(46, o0), (0, x1), (0, x2)] [] σ Q
  refine wi_aload_n (pc' := 1) hm172 rfl rfl rfl (by decide) ?_
  refine wi_iload_n (pc' := 2) hm172 rfl rfl rfl ?_
  refine wc_I (pc' := 5) (by decide) rfl (by decide) ((fx_wE hm172 rfl).trans (fx_exV (mj := 152) (as := [(0, x1)]) (rest := []) rfl rk152 rfl rfl rfl rfl rfl)) h (fun y1 σ1 h => ?_)
  refine wi_if_ne (pc' := 8) (t := 10) hm172 rfl rfl rfl (fun hc => ?_) (fun hc => ?_)
  · replace h := h.1 hc
    refine wi_aload_n (pc' := 11) hm172 rfl rfl rfl (by decide) ?_
    refine wi_getR (pc' := 14) (x := 0) hm172 rfl rfl rfl (by omega) ?_
    refine wi_iconst (pc' := 15) (v := 2) hm172 rfl rfl rfl ?_
    refine wi_iload_n (pc' := 16) hm172 rfl rfl rfl ?_
    obtain ⟨g1, h⟩ := h
    refine wi_iadd (pc' := 17) hm172 rfl rfl g1 ?_
    refine wi_iload_n (pc' := 18) hm172 rfl rfl rfl ?_
    obtain ⟨g2, h⟩ := h
    refine wi_iastore (pc' := 19) hm172 rfl rfl rfl (N := 1130) rfl g2 ?_
    refine wi_iconst (pc' := 20) (v := 0) hm172 rfl rfl rfl ?_
    exact wi_iret hm172 rfl h
  · replace h := h.2 hc
    refine wi_iconst (pc' := 9) (v := 2) hm172 rfl rfl rfl ?_
    exact wi_iret hm172 rfl h
theorem hm173 : fx_code 173 = fx_c173 := rfl
theorem t173_0 {o0 x1 x2 x3 : Int} {σ : fx_S} {Q : fx_V → fx_S → Prop} (h : fx_CI 151 [(46, o0), (0, x1), (0, 0)] σ Q (fun y1 σ1 => ((y1 ≠ x2 → Q (0, 0) σ1) ∧ (y1 = x2 → fx_CI 151 [(46, o0), (0, x1), (0, 5)] σ1 Q (fun y2 σ2 => ((y2 ≠ 0 → Q (0, 0) σ2) ∧ (y2 = 0 → fx_CI 151 [(46, o0), (0, x1), (0, 2)] σ2 Q (fun y3 σ3 => ((x3 ≤ y3 → Q (0, 0) σ3) ∧ (y3 < x3 → fx_CI 151 [(46, o0), (0, x1), (0, 3)] σ3 Q (fun y4 σ4 => ((y4 ≤ x3 → Q (0, 0) σ4) ∧ (x3 < y4 → Q (0, 1) σ4))))))))))))) : fx_Ca 173 [(46, o0), (0, x1), (0, x2), (0, x3)] σ Q := by
  show fx_Wp 173 0 [(46, o0), (0, x1), (0, x2), (0, x3)] [] σ Q
  refine wi_aload_n (pc' := 1) hm173 rfl rfl rfl (by decide) ?_
  refine wi_iload_n (pc' := 2) hm173 rfl rfl rfl ?_
  refine wi_iconst (pc' := 3) (v := 0) hm173 rfl rfl rfl ?_
  refine wc_I (pc' := 6) (by decide) rfl (by decide) ((fx_wE hm173 rfl).trans (fx_exV (mj := 151) (as := [(0, x1), (0, 0)]) (rest := []) rfl rk151 rfl rfl rfl rfl rfl)) h (fun y1 σ1 h => ?_)
  refine wi_iload_n (pc' := 7) hm173 rfl rfl rfl ?_
  refine wi_ic_ne (pc' := 10) (t := 43) hm173 rfl rfl rfl (fun hc => ?_) (fun hc => ?_)
  · replace h := h.1 hc
    refine wi_iconst (pc' := 44) (v := 0) hm173 rfl rfl rfl ?_
    exact wi_zret hm173 rfl (by decide) h
  · replace h := h.2 hc
    refine wi_aload_n (pc' := 11) hm173 rfl rfl rfl (by decide) ?_
    refine wi_iload_n (pc' := 12) hm173 rfl rfl rfl ?_
    refine wi_iconst (pc' := 13) (v := 5) hm173 rfl rfl rfl ?_
    refine wc_I (pc' := 16) (by decide) rfl (by decide) ((fx_wE hm173 rfl).trans (fx_exV (mj := 151) (as := [(0, x1), (0, 5)]) (rest := []) rfl rk151 rfl rfl rfl rfl rfl)) h (fun y2 σ2 h => ?_)
    refine wi_if_ne (pc' := 19) (t := 43) hm173 rfl rfl rfl (fun hc => ?_) (fun hc => ?_)
    · replace h := h.1 hc
      refine wi_iconst (pc' := 44) (v := 0) hm173 rfl rfl rfl ?_
      exact wi_zret hm173 rfl (by decide) h
    · replace h := h.2 hc
      refine wi_aload_n (pc' := 20) hm173 rfl rfl rfl (by decide) ?_
      refine wi_iload_n (pc' := 21) hm173 rfl rfl rfl ?_
      refine wi_iconst (pc' := 22) (v := 2) hm173 rfl rfl rfl ?_
      refine wc_I (pc' := 25) (by decide) rfl (by decide) ((fx_wE hm173 rfl).trans (fx_exV (mj := 151) (as := [(0, x1), (0, 2)]) (rest := []) rfl rk151 rfl rfl rfl rfl rfl)) h (fun y3 σ3 h => ?_)
      refine wi_iload_n (pc' := 26) hm173 rfl rfl rfl ?_
      refine wi_ic_ge (pc' := 29) (t := 43) hm173 rfl rfl rfl (fun hc => ?_) (fun hc => ?_)
      · replace h := h.1 hc
        refine wi_iconst (pc' := 44) (v := 0) hm173 rfl rfl rfl ?_
        exact wi_zret hm173 rfl (by decide) h
      · replace h := h.2 hc
        refine wi_aload_n (pc' := 30) hm173 rfl rfl rfl (by decide) ?_
        refine wi_iload_n (pc' := 31) hm173 rfl rfl rfl ?_
        refine wi_iconst (pc' := 32) (v := 3) hm173 rfl rfl rfl ?_
        refine wc_I (pc' := 35) (by decide) rfl (by decide) ((fx_wE hm173 rfl).trans (fx_exV (mj := 151) (as := [(0, x1), (0, 3)]) (rest := []) rfl rk151 rfl rfl rfl rfl rfl)) h (fun y4 σ4 h => ?_)
        refine wi_iload_n (pc' := 36) hm173 rfl rfl rfl ?_
        refine wi_ic_le (pc' := 39) (t := 43) hm173 rfl rfl rfl (fun hc => ?_) (fun hc => ?_)
        · replace h := h.1 hc
          refine wi_iconst (pc' := 44) (v := 0) hm173 rfl rfl rfl ?_
          exact wi_zret hm173 rfl (by decide) h
        · replace h := h.2 hc
          refine wi_iconst (pc' := 40) (v := 1) hm173 rfl rfl rfl ?_
          refine wi_goto (t := 44) hm173 rfl rfl ?_
          exact wi_zret hm173 rfl (by decide) h
theorem hm174 : fx_code 174 = fx_c174 := rfl
theorem t174_0 {o0 x1 x2 : Int} {σ : fx_S} {Q : fx_V → fx_S → Prop} (h : fx_Wp 174 15 [(46, o0), (0, x1), (0, x2), (0, (σ 47 0 1)), (0, 0), (3, 0)] [] (fx_up σ 46 o0 29 0) Q) : fx_Ca 174 [(46, o0), (0, x1), (0, x2)] σ Q := by
  show fx_Wp 174 0 [(46, o0), (0, x1), (0, x2), (3, 0), (3, 0), (3, 0)] [] σ Q
  refine wi_aload_n (pc' := 1) hm174 rfl rfl rfl (by decide) ?_
  refine wi_getR (pc' := 4) (x := 0) hm174 rfl rfl rfl (by omega) ?_
  refine wi_iconst (pc' := 5) (v := 1) hm174 rfl rfl rfl ?_
  refine wi_iaload (pc' := 6) hm174 rfl rfl rfl rfl (N := 1130) rfl (by decide) ?_
  refine wi_istore_n (pc' := 7) (L' := [(46, o0), (0, x1), (0, x2), (0, (σ 47 0 1)), (3, 0), (3, 0)]) hm174 rfl rfl rfl ?_
  refine wi_aload_n (pc' := 8) hm174 rfl rfl rfl (by decide) ?_
  refine wi_iconst (pc' := 9) (v := 0) hm174 rfl rfl rfl ?_
  refine wi_putI (pc' := 12) hm174 rfl rfl (P := 29) rfl ?_
  refine wi_iconst (pc' := 13) (v := 0) hm174 rfl rfl rfl ?_
  refine wi_istore (pc' := 15) (L' := [(46, o0), (0, x1), (0, x2), (0, (σ 47 0 1)), (0, 0), (3, 0)]) hm174 rfl rfl rfl ?_
  exact h
theorem t174_15 {o0 x1 x2 x3 x4 : Int} {w5 : fx_V} {σ : fx_S} {Q : fx_V → fx_S → Prop} (h : ((x3 ≤ x4 → (((σ 46 o0 29) ≠ 0 → (fx_rg (x3 + (σ 46 o0 29))) ∧ (((x3 + (σ 46 o0 29)) ≤ 60 → fx_Wp 174 78 [(46, o0), (0, x1), (0, x2), (0, x3), (0, 0), w5] [] σ Q) ∧ (60 < (x3 + (σ 46 o0 29)) → Q (0, 4) σ))) ∧ ((σ 46 o0 29) = 0 → Q (0, 6) σ))) ∧ (x4 < x3 → fx_CI 173 [(46, o0), (0, x4), (0, x1), (0, x2)] σ Q (fun y1 σ1 => ((y1 = 0 → (fx_rg ((σ 46 o0 29) + 0)) ∧ (fx_rg (x4 + 1)) ∧ fx_Wp 174 15 [(46, o0), (0, x1), (0, x2), (0, x3), (0, (x4 + 1)), w5] [] (fx_up σ1 46 o0 29 ((σ 46 o0 29) + 0)) Q) ∧ (y1 ≠ 0 → (fx_rg ((σ 46 o0 29) + 1)) ∧ (fx_rg (x4 + 1)) ∧ fx_Wp 174 15 [(46, o0), (0, x1), (0, x2), (0, x3), (0, (x4 + 1)), w5] [] (fx_up σ1 46 o0 29 ((σ 46 o0 29) + 1)) Q)))))) : fx_Wp 174 15 [(46, o0), (0, x1), (0, x2), (0, x3), (0, x4), w5] [] σ Q := by
  refine wi_iload (pc' := 17) hm174 rfl rfl rfl ?_
  refine wi_iload_n (pc' := 18) hm174 rfl rfl rfl ?_
  refine wi_ic_ge (pc' := 21) (t := 52) hm174 rfl rfl rfl (fun hc => ?_) (fun hc => ?_)
  · replace h := h.1 hc
    refine wi_aload_n (pc' := 53) hm174 rfl rfl rfl (by decide) ?_
    refine wi_getI (pc' := 56) hm174 rfl rfl (P := 29) rfl ?_
    refine wi_if_ne (pc' := 59) (t := 62) hm174 rfl rfl rfl (fun hc => ?_) (fun hc => ?_)
    · replace h := h.1 hc
      refine wi_iload_n (pc' := 63) hm174 rfl rfl rfl ?_
      refine wi_aload_n (pc' := 64) hm174 rfl rfl rfl (by decide) ?_
      refine wi_getI (pc' := 67) hm174 rfl rfl (P := 29) rfl ?_
      obtain ⟨g1, h⟩ := h
      refine wi_iadd (pc' := 68) hm174 rfl rfl g1 ?_
      refine wi_bipush (pc' := 70) (v := 60) hm174 rfl rfl rfl ?_
      refine wi_ic_le (pc' := 73) (t := 75) hm174 rfl rfl rfl (fun hc => ?_) (fun hc => ?_)
      · replace h := h.1 hc
        refine wi_iconst (pc' := 76) (v := 0) hm174 rfl rfl rfl ?_
        refine wi_istore (pc' := 78) (L' := [(46, o0), (0, x1), (0, x2), (0, x3), (0, 0), w5]) hm174 rfl rfl rfl ?_
        exact h
      · replace h := h.2 hc
        refine wi_iconst (pc' := 74) (v := 4) hm174 rfl rfl rfl ?_
        exact wi_iret hm174 rfl h
    · replace h := h.2 hc
      refine wi_bipush (pc' := 61) (v := 6) hm174 rfl rfl rfl ?_
      exact wi_iret hm174 rfl h
  · replace h := h.2 hc
    refine wi_aload_n (pc' := 22) hm174 rfl rfl rfl (by decide) ?_
    refine wi_dup (pc' := 23) hm174 rfl rfl rfl ?_
    refine wi_getI (pc' := 26) hm174 rfl rfl (P := 29) rfl ?_
    refine wi_aload_n (pc' := 27) hm174 rfl rfl rfl (by decide) ?_
    refine wi_iload (pc' := 29) hm174 rfl rfl rfl ?_
    refine wi_iload_n (pc' := 30) hm174 rfl rfl rfl ?_
    refine wi_iload_n (pc' := 31) hm174 rfl rfl rfl ?_
    refine wc_I (pc' := 34) (by decide) rfl (by decide) ((fx_wE hm174 rfl).trans (fx_exV (mj := 173) (as := [(0, x4), (0, x1), (0, x2)]) (rest := [(0, (σ 46 o0 29)), (46, o0)]) rfl rk173 rfl rfl rfl rfl rfl)) h (fun y1 σ1 h => ?_)
    refine wi_if_eq (pc' := 37) (t := 41) hm174 rfl rfl rfl (fun hc => ?_) (fun hc => ?_)
    · replace h := h.1 hc
      refine wi_iconst (pc' := 42) (v := 0) hm174 rfl rfl rfl ?_
      obtain ⟨g1, h⟩ := h
      refine wi_iadd (pc' := 43) hm174 rfl rfl g1 ?_
      refine wi_putI (pc' := 46) hm174 rfl rfl (P := 29) rfl ?_
      obtain ⟨g2, h⟩ := h
      refine wi_iinc (pc' := 49) (L' := [(46, o0), (0, x1), (0, x2), (0, x3), (0, (x4 + 1)), w5]) hm174 rfl rfl rfl g2 rfl ?_
      refine wi_goto (t := 15) hm174 rfl rfl ?_
      exact h
    · replace h := h.2 hc
      refine wi_iconst (pc' := 38) (v := 1) hm174 rfl rfl rfl ?_
      refine wi_goto (t := 42) hm174 rfl rfl ?_
      obtain ⟨g1, h⟩ := h
      refine wi_iadd (pc' := 43) hm174 rfl rfl g1 ?_
      refine wi_putI (pc' := 46) hm174 rfl rfl (P := 29) rfl ?_
      obtain ⟨g2, h⟩ := h
      refine wi_iinc (pc' := 49) (L' := [(46, o0), (0, x1), (0, x2), (0, x3), (0, (x4 + 1)), w5]) hm174 rfl rfl rfl g2 rfl ?_
      refine wi_goto (t := 15) hm174 rfl rfl ?_
      exact h
theorem t174_78 {o0 x1 x2 x3 x4 : Int} {w5 : fx_V} {σ : fx_S} {Q : fx_V → fx_S → Prop} (h : ((x3 ≤ x4 → Q (0, 0) σ) ∧ (x4 < x3 → fx_CI 173 [(46, o0), (0, x4), (0, x1), (0, x2)] σ Q (fun y1 σ1 => ((y1 ≠ 0 → fx_CI 151 [(46, o0), (0, x4), (0, 1)] σ1 Q (fun y2 σ2 => fx_CI 151 [(46, o0), (0, x4), (0, 3)] σ2 Q (fun y3 σ3 => fx_CI 151 [(46, o0), (0, x4), (0, 4)] σ3 Q (fun y4 σ4 => fx_CI 169 [(46, o0), (0, x1), (0, y2), (0, x2), (0, y3), (0, y4)] σ4 Q (fun y5 σ5 => (fx_rg (6 * x4)) ∧ (fx_rg (18 + (6 * x4))) ∧ (fx_rg ((18 + (6 * x4)) + 3)) ∧ (0 ≤ ((18 + (6 * x4)) + 3) ∧ ((18 + (6 * x4)) + 3) < 1130) ∧ (fx_rg (x4 + 1)) ∧ fx_Wp 174 78 [(46, o0), (0, x1), (0, x2), (0, x3), (0, (x4 + 1)), (0, y5)] [] (fx_up σ5 47 0 ((18 + (6 * x4)) + 3) x2) Q))))) ∧ (y1 = 0 → (fx_rg (x4 + 1)) ∧ fx_Wp 174 78 [(46, o0), (0, x1), (0, x2), (0, x3), (0, (x4 + 1)), w5] [] σ1 Q)))))) : fx_Wp 174 78 [(46, o0), (0, x1), (0, x2), (0, x3), (0, x4), w5] [] σ Q := by
  refine wi_iload (pc' := 80) hm174 rfl rfl rfl ?_
  refine wi_iload_n (pc' := 81) hm174 rfl rfl rfl ?_
  refine wi_ic_ge (pc' := 84) (t := 149) hm174 rfl rfl rfl (fun hc => ?_) (fun hc => ?_)
  · replace h := h.1 hc
    refine wi_iconst (pc' := 150) (v := 0) hm174 rfl rfl rfl ?_
    exact wi_iret hm174 rfl h
  · replace h := h.2 hc
    refine wi_aload_n (pc' := 85) hm174 rfl rfl rfl (by decide) ?_
    refine wi_iload (pc' := 87) hm174 rfl rfl rfl ?_
    refine wi_iload_n (pc' := 88) hm174 rfl rfl rfl ?_
    refine wi_iload_n (pc' := 89) hm174 rfl rfl rfl ?_
    refine wc_I (pc' := 92) (by decide) rfl (by decide) ((fx_wE hm174 rfl).trans (fx_exV (mj := 173) (as := [(0, x4), (0, x1), (0, x2)]) (rest := []) rfl rk173 rfl rfl rfl rfl rfl)) h (fun y1 σ1 h => ?_)
    refine wi_if_ne (pc' := 95) (t := 98) hm174 rfl rfl rfl (fun hc => ?_) (fun hc => ?_)
    · replace h := h.1 hc
      refine wi_aload_n (pc' := 99) hm174 rfl rfl rfl (by decide) ?_
      refine wi_iload_n (pc' := 100) hm174 rfl rfl rfl ?_
      refine wi_aload_n (pc' := 101) hm174 rfl rfl rfl (by decide) ?_
      refine wi_iload (pc' := 103) hm174 rfl rfl rfl ?_
      refine wi_iconst (pc' := 104) (v := 1) hm174 rfl rfl rfl ?_
      refine wc_I (pc' := 107) (by decide) rfl (by decide) ((fx_wE hm174 rfl).trans (fx_exV (mj := 151) (as := [(0, x4), (0, 1)]) (rest := [(0, x1), (46, o0)]) rfl rk151 rfl rfl rfl rfl rfl)) h (fun y2 σ2 h => ?_)
      refine wi_iload_n (pc' := 108) hm174 rfl rfl rfl ?_
      refine wi_aload_n (pc' := 109) hm174 rfl rfl rfl (by decide) ?_
      refine wi_iload (pc' := 111) hm174 rfl rfl rfl ?_
      refine wi_iconst (pc' := 112) (v := 3) hm174 rfl rfl rfl ?_
      refine wc_I (pc' := 115) (by decide) rfl (by decide) ((fx_wE hm174 rfl).trans (fx_exV (mj := 151) (as := [(0, x4), (0, 3)]) (rest := [(0, x2), (0, y2), (0, x1), (46, o0)]) rfl rk151 rfl rfl rfl rfl rfl)) h (fun y3 σ3 h => ?_)
      refine wi_aload_n (pc' := 116) hm174 rfl rfl rfl (by decide) ?_
      refine wi_iload (pc' := 118) hm174 rfl rfl rfl ?_
      refine wi_iconst (pc' := 119) (v := 4) hm174 rfl rfl rfl ?_
      refine wc_I (pc' := 122) (by decide) rfl (by decide) ((fx_wE hm174 rfl).trans (fx_exV (mj := 151) (as := [(0, x4), (0, 4)]) (rest := [(0, y3), (0, x2), (0, y2), (0, x1), (46, o0)]) rfl rk151 rfl rfl rfl rfl rfl)) h (fun y4 σ4 h => ?_)
      refine wc_I (pc' := 125) (by decide) rfl (by decide) ((fx_wE hm174 rfl).trans (fx_exV (mj := 169) (as := [(0, x1), (0, y2), (0, x2), (0, y3), (0, y4)]) (rest := []) rfl rk169 rfl rfl rfl rfl rfl)) h (fun y5 σ5 h => ?_)
      refine wi_istore (pc' := 127) (L' := [(46, o0), (0, x1), (0, x2), (0, x3), (0, x4), (0, y5)]) hm174 rfl rfl rfl ?_
      refine wi_aload_n (pc' := 128) hm174 rfl rfl rfl (by decide) ?_
      refine wi_getR (pc' := 131) (x := 0) hm174 rfl rfl rfl (by omega) ?_
      refine wi_bipush (pc' := 133) (v := 18) hm174 rfl rfl rfl ?_
      refine wi_bipush (pc' := 135) (v := 6) hm174 rfl rfl rfl ?_
      refine wi_iload (pc' := 137) hm174 rfl rfl rfl ?_
      obtain ⟨g1, h⟩ := h
      refine wi_imul (pc' := 138) hm174 rfl rfl g1 ?_
      obtain ⟨g2, h⟩ := h
      refine wi_iadd (pc' := 139) hm174 rfl rfl g2 ?_
      refine wi_iconst (pc' := 140) (v := 3) hm174 rfl rfl rfl ?_
      obtain ⟨g3, h⟩ := h
      refine wi_iadd (pc' := 141) hm174 rfl rfl g3 ?_
      refine wi_iload_n (pc' := 142) hm174 rfl rfl rfl ?_
      obtain ⟨g4, h⟩ := h
      refine wi_iastore (pc' := 143) hm174 rfl rfl rfl (N := 1130) rfl g4 ?_
      obtain ⟨g5, h⟩ := h
      refine wi_iinc (pc' := 146) (L' := [(46, o0), (0, x1), (0, x2), (0, x3), (0, (x4 + 1)), (0, y5)]) hm174 rfl rfl rfl g5 rfl ?_
      refine wi_goto (t := 78) hm174 rfl rfl ?_
      exact h
    · replace h := h.2 hc
      refine wi_goto (t := 143) hm174 rfl rfl ?_
      obtain ⟨g1, h⟩ := h
      refine wi_iinc (pc' := 146) (L' := [(46, o0), (0, x1), (0, x2), (0, x3), (0, (x4 + 1)), w5]) hm174 rfl rfl rfl g1 rfl ?_
      refine wi_goto (t := 78) hm174 rfl rfl ?_
      exact h
theorem hm175 : fx_code 175 = fx_c175 := rfl
theorem t175_0 {o0 x1 : Int} {σ : fx_S} {Q : fx_V → fx_S → Prop} (h : fx_CI 162 [(46, o0), (0, x1)] σ Q (fun y1 σ1 => ((y1 ≠ 0 → (fx_rg (94 * x1)) ∧ (fx_rg (378 + (94 * x1))) ∧ (0 ≤ (378 + (94 * x1)) ∧ (378 + (94 * x1)) < 1130) ∧ (fx_rg ((378 + (94 * x1)) + 1)) ∧ (0 ≤ ((378 + (94 * x1)) + 1) ∧ ((378 + (94 * x1)) + 1) < 1130) ∧ Q (0, 0) (fx_up (fx_up σ1 47 0 (378 + (94 * x1)) 0) 47 0 ((378 + (94 * x1)) + 1) 0)) ∧ (y1 = 0 → Q (0, 6) σ1)))) : fx_Ca 175 [(46, o0), (0, x1)] σ Q := by
  show fx_Wp 175 0 [(46, o0), (0, x1)] [] σ Q
  refine wi_aload_n (pc' := 1) hm175 rfl rfl rfl (by decide) ?_
  refine wi_iload_n (pc' := 2) hm175 rfl rfl rfl ?_
  refine wc_I (pc' := 5) (by decide) rfl (by decide) ((fx_wE hm175 rfl).trans (fx_exV (mj := 162) (as := [(0, x1)]) (rest := []) rfl rk162 rfl rfl rfl rfl rfl)) h (fun y1 σ1 h => ?_)
  refine wi_if_ne (pc' := 8) (t := 11) hm175 rfl rfl rfl (fun hc => ?_) (fun hc => ?_)
  · replace h := h.1 hc
    refine wi_aload_n (pc' := 12) hm175 rfl rfl rfl (by decide) ?_
    refine wi_getR (pc' := 15) (x := 0) hm175 rfl rfl rfl (by omega) ?_
    refine wi_sipush (pc' := 18) (v := 378) hm175 rfl rfl rfl ?_
    refine wi_bipush (pc' := 20) (v := 94) hm175 rfl rfl rfl ?_
    refine wi_iload_n (pc' := 21) hm175 rfl rfl rfl ?_
    obtain ⟨g1, h⟩ := h
    refine wi_imul (pc' := 22) hm175 rfl rfl g1 ?_
    obtain ⟨g2, h⟩ := h
    refine wi_iadd (pc' := 23) hm175 rfl rfl g2 ?_
    refine wi_iconst (pc' := 24) (v := 0) hm175 rfl rfl rfl ?_
    obtain ⟨g3, h⟩ := h
    refine wi_iastore (pc' := 25) hm175 rfl rfl rfl (N := 1130) rfl g3 ?_
    refine wi_aload_n (pc' := 26) hm175 rfl rfl rfl (by decide) ?_
    refine wi_getR (pc' := 29) (x := 0) hm175 rfl rfl rfl (by omega) ?_
    refine wi_sipush (pc' := 32) (v := 378) hm175 rfl rfl rfl ?_
    refine wi_bipush (pc' := 34) (v := 94) hm175 rfl rfl rfl ?_
    refine wi_iload_n (pc' := 35) hm175 rfl rfl rfl ?_
    refine wi_imul (pc' := 36) hm175 rfl rfl g1 ?_
    refine wi_iadd (pc' := 37) hm175 rfl rfl g2 ?_
    refine wi_iconst (pc' := 38) (v := 1) hm175 rfl rfl rfl ?_
    obtain ⟨g4, h⟩ := h
    refine wi_iadd (pc' := 39) hm175 rfl rfl g4 ?_
    refine wi_iconst (pc' := 40) (v := 0) hm175 rfl rfl rfl ?_
    obtain ⟨g5, h⟩ := h
    refine wi_iastore (pc' := 41) hm175 rfl rfl rfl (N := 1130) rfl g5 ?_
    refine wi_iconst (pc' := 42) (v := 0) hm175 rfl rfl rfl ?_
    exact wi_iret hm175 rfl h
  · replace h := h.2 hc
    refine wi_bipush (pc' := 10) (v := 6) hm175 rfl rfl rfl ?_
    exact wi_iret hm175 rfl h
theorem hm176 : fx_code 176 = fx_c176 := rfl
theorem t176_0 {o0 : Int} {σ : fx_S} {Q : fx_V → fx_S → Prop} (h : fx_Wp 176 2 [(46, o0), (0, 0)] [] σ Q) : fx_Ca 176 [(46, o0)] σ Q := by
  show fx_Wp 176 0 [(46, o0), (3, 0)] [] σ Q
  refine wi_iconst (pc' := 1) (v := 0) hm176 rfl rfl rfl ?_
  refine wi_istore_n (pc' := 2) (L' := [(46, o0), (0, 0)]) hm176 rfl rfl rfl ?_
  exact h
theorem t176_2 {o0 x1 : Int} {σ : fx_S} {Q : fx_V → fx_S → Prop} (h : ((1130 ≤ x1 → Q (4, 0) σ) ∧ (x1 < 1130 → (0 ≤ x1 ∧ x1 < 1130) ∧ (fx_rg (x1 + 1)) ∧ fx_Wp 176 2 [(46, o0), (0, (x1 + 1))] [] (fx_up σ 48 0 x1 (σ 47 0 x1)) Q))) : fx_Wp 176 2 [(46, o0), (0, x1)] [] σ Q := by
  refine wi_iload_n (pc' := 3) hm176 rfl rfl rfl ?_
  refine wi_sipush (pc' := 6) (v := 1130) hm176 rfl rfl rfl ?_
  refine wi_ic_ge (pc' := 9) (t := 27) hm176 rfl rfl rfl (fun hc => ?_) (fun hc => ?_)
  · replace h := h.1 hc
    exact wi_vret hm176 rfl h
  · replace h := h.2 hc
    refine wi_aload_n (pc' := 10) hm176 rfl rfl rfl (by decide) ?_
    refine wi_getR (pc' := 13) (x := 0) hm176 rfl rfl rfl (by omega) ?_
    refine wi_iload_n (pc' := 14) hm176 rfl rfl rfl ?_
    refine wi_aload_n (pc' := 15) hm176 rfl rfl rfl (by decide) ?_
    refine wi_getR (pc' := 18) (x := 0) hm176 rfl rfl rfl (by omega) ?_
    refine wi_iload_n (pc' := 19) hm176 rfl rfl rfl ?_
    obtain ⟨g1, h⟩ := h
    refine wi_iaload (pc' := 20) hm176 rfl rfl rfl rfl (N := 1130) rfl g1 ?_
    refine wi_iastore (pc' := 21) hm176 rfl rfl rfl (N := 1130) rfl g1 ?_
    obtain ⟨g2, h⟩ := h
    refine wi_iinc (pc' := 24) (L' := [(46, o0), (0, (x1 + 1))]) hm176 rfl rfl rfl g2 rfl ?_
    refine wi_goto (t := 2) hm176 rfl rfl ?_
    exact h
theorem hm177 : fx_code 177 = fx_c177 := rfl
theorem t177_0 {o0 : Int} {σ : fx_S} {Q : fx_V → fx_S → Prop} (h : (((σ 46 o0 5) ≠ 8 → fx_Wp 177 52 [(46, o0), (0, 0)] [] σ Q) ∧ ((σ 46 o0 5) = 8 → fx_Wp 177 11 [(46, o0), (0, 0)] [] σ Q))) : fx_Ca 177 [(46, o0)] σ Q := by
  show fx_Wp 177 0 [(46, o0), (3, 0)] [] σ Q
  refine wi_aload_n (pc' := 1) hm177 rfl rfl rfl (by decide) ?_
  refine wi_getI (pc' := 4) hm177 rfl rfl (P := 5) rfl ?_
  refine wi_bipush (pc' := 6) (v := 8) hm177 rfl rfl rfl ?_
  refine wi_ic_ne (pc' := 9) (t := 50) hm177 rfl rfl rfl (fun hc => ?_) (fun hc => ?_)
  · replace h := h.1 hc
    refine wi_iconst (pc' := 51) (v := 0) hm177 rfl rfl rfl ?_
    refine wi_istore_n (pc' := 52) (L' := [(46, o0), (0, 0)]) hm177 rfl rfl rfl ?_
    exact h
  · replace h := h.2 hc
    refine wi_iconst (pc' := 10) (v := 0) hm177 rfl rfl rfl ?_
    refine wi_istore_n (pc' := 11) (L' := [(46, o0), (0, 0)]) hm177 rfl rfl rfl ?_
    exact h
theorem t177_11 {o0 x1 : Int} {σ : fx_S} {Q : fx_V → fx_S → Prop} (h : ((7910 ≤ x1 → (fx_rg ((σ 46 o0 5) - 1)) ∧ fx_Wp 177 52 [(46, o0), (0, 0)] [] (fx_up σ 46 o0 5 ((σ 46 o0 5) - 1)) Q) ∧ (x1 < 7910 → (fx_rg (x1 + 1130)) ∧ (0 ≤ (x1 + 1130) ∧ (x1 + 1130) < 9040) ∧ (0 ≤ x1 ∧ x1 < 9040) ∧ (fx_rg (x1 + 1)) ∧ fx_Wp 177 11 [(46, o0), (0, (x1 + 1))] [] (fx_up σ 50 0 x1 (σ 50 0 (x1 + 1130))) Q))) : fx_Wp 177 11 [(46, o0), (0, x1)] [] σ Q := by
  refine wi_iload_n (pc' := 12) hm177 rfl rfl rfl ?_
  refine wi_sipush (pc' := 15) (v := 7910) hm177 rfl rfl rfl ?_
  refine wi_ic_ge (pc' := 18) (t := 40) hm177 rfl rfl rfl (fun hc => ?_) (fun hc => ?_)
  · replace h := h.1 hc
    refine wi_aload_n (pc' := 41) hm177 rfl rfl rfl (by decide) ?_
    refine wi_dup (pc' := 42) hm177 rfl rfl rfl ?_
    refine wi_getI (pc' := 45) hm177 rfl rfl (P := 5) rfl ?_
    refine wi_iconst (pc' := 46) (v := 1) hm177 rfl rfl rfl ?_
    obtain ⟨g1, h⟩ := h
    refine wi_isub (pc' := 47) hm177 rfl rfl g1 ?_
    refine wi_putI (pc' := 50) hm177 rfl rfl (P := 5) rfl ?_
    refine wi_iconst (pc' := 51) (v := 0) hm177 rfl rfl rfl ?_
    refine wi_istore_n (pc' := 52) (L' := [(46, o0), (0, 0)]) hm177 rfl rfl rfl ?_
    exact h
  · replace h := h.2 hc
    refine wi_aload_n (pc' := 19) hm177 rfl rfl rfl (by decide) ?_
    refine wi_getR (pc' := 22) (x := 0) hm177 rfl rfl rfl (by omega) ?_
    refine wi_iload_n (pc' := 23) hm177 rfl rfl rfl ?_
    refine wi_aload_n (pc' := 24) hm177 rfl rfl rfl (by decide) ?_
    refine wi_getR (pc' := 27) (x := 0) hm177 rfl rfl rfl (by omega) ?_
    refine wi_iload_n (pc' := 28) hm177 rfl rfl rfl ?_
    refine wi_sipush (pc' := 31) (v := 1130) hm177 rfl rfl rfl ?_
    obtain ⟨g1, h⟩ := h
    refine wi_iadd (pc' := 32) hm177 rfl rfl g1 ?_
    obtain ⟨g2, h⟩ := h
    refine wi_iaload (pc' := 33) hm177 rfl rfl rfl rfl (N := 9040) rfl g2 ?_
    obtain ⟨g3, h⟩ := h
    refine wi_iastore (pc' := 34) hm177 rfl rfl rfl (N := 9040) rfl g3 ?_
    obtain ⟨g4, h⟩ := h
    refine wi_iinc (pc' := 37) (L' := [(46, o0), (0, (x1 + 1))]) hm177 rfl rfl rfl g4 rfl ?_
    refine wi_goto (t := 11) hm177 rfl rfl ?_
    exact h
theorem t177_52 {o0 x1 : Int} {σ : fx_S} {Q : fx_V → fx_S → Prop} (h : ((1130 ≤ x1 → (fx_rg ((σ 46 o0 5) + 1)) ∧ Q (4, 0) (fx_up σ 46 o0 5 ((σ 46 o0 5) + 1))) ∧ (x1 < 1130 → (fx_rg (1130 * (σ 46 o0 5))) ∧ (fx_rg ((1130 * (σ 46 o0 5)) + x1)) ∧ (0 ≤ x1 ∧ x1 < 1130) ∧ (0 ≤ ((1130 * (σ 46 o0 5)) + x1) ∧ ((1130 * (σ 46 o0 5)) + x1) < 9040) ∧ (fx_rg (x1 + 1)) ∧ fx_Wp 177 52 [(46, o0), (0, (x1 + 1))] [] (fx_up σ 50 0 ((1130 * (σ 46 o0 5)) + x1) (σ 48 0 x1)) Q))) : fx_Wp 177 52 [(46, o0), (0, x1)] [] σ Q := by
  refine wi_iload_n (pc' := 53) hm177 rfl rfl rfl ?_
  refine wi_sipush (pc' := 56) (v := 1130) hm177 rfl rfl rfl ?_
  refine wi_ic_ge (pc' := 59) (t := 86) hm177 rfl rfl rfl (fun hc => ?_) (fun hc => ?_)
  · replace h := h.1 hc
    refine wi_aload_n (pc' := 87) hm177 rfl rfl rfl (by decide) ?_
    refine wi_dup (pc' := 88) hm177 rfl rfl rfl ?_
    refine wi_getI (pc' := 91) hm177 rfl rfl (P := 5) rfl ?_
    refine wi_iconst (pc' := 92) (v := 1) hm177 rfl rfl rfl ?_
    obtain ⟨g1, h⟩ := h
    refine wi_iadd (pc' := 93) hm177 rfl rfl g1 ?_
    refine wi_putI (pc' := 96) hm177 rfl rfl (P := 5) rfl ?_
    exact wi_vret hm177 rfl h
  · replace h := h.2 hc
    refine wi_aload_n (pc' := 60) hm177 rfl rfl rfl (by decide) ?_
    refine wi_getR (pc' := 63) (x := 0) hm177 rfl rfl rfl (by omega) ?_
    refine wi_sipush (pc' := 66) (v := 1130) hm177 rfl rfl rfl ?_
    refine wi_aload_n (pc' := 67) hm177 rfl rfl rfl (by decide) ?_
    refine wi_getI (pc' := 70) hm177 rfl rfl (P := 5) rfl ?_
    obtain ⟨g1, h⟩ := h
    refine wi_imul (pc' := 71) hm177 rfl rfl g1 ?_
    refine wi_iload_n (pc' := 72) hm177 rfl rfl rfl ?_
    obtain ⟨g2, h⟩ := h
    refine wi_iadd (pc' := 73) hm177 rfl rfl g2 ?_
    refine wi_aload_n (pc' := 74) hm177 rfl rfl rfl (by decide) ?_
    refine wi_getR (pc' := 77) (x := 0) hm177 rfl rfl rfl (by omega) ?_
    refine wi_iload_n (pc' := 78) hm177 rfl rfl rfl ?_
    obtain ⟨g3, h⟩ := h
    refine wi_iaload (pc' := 79) hm177 rfl rfl rfl rfl (N := 1130) rfl g3 ?_
    obtain ⟨g4, h⟩ := h
    refine wi_iastore (pc' := 80) hm177 rfl rfl rfl (N := 9040) rfl g4 ?_
    obtain ⟨g5, h⟩ := h
    refine wi_iinc (pc' := 83) (L' := [(46, o0), (0, (x1 + 1))]) hm177 rfl rfl rfl g5 rfl ?_
    refine wi_goto (t := 52) hm177 rfl rfl ?_
    exact h
theorem hm178 : fx_code 178 = fx_c178 := rfl
theorem t178_0 {o0 x1 x2 : Int} {σ : fx_S} {Q : fx_V → fx_S → Prop} (h : ((x1 ≤ 0 → ((x1 ≠ 0 → ((x1 ≠ 0 → Q (0, 0) (fx_up (fx_up σ 46 o0 7 x1) 46 o0 0 0)) ∧ (x1 = 0 → Q (0, 1) (fx_up (fx_up σ 46 o0 7 x1) 46 o0 0 0)))) ∧ (x1 = 0 → fx_CV 177 [(46, o0)] (fx_up (fx_up σ 46 o0 7 x1) 46 o0 0 0) Q (fun σ1 => ((x1 ≠ 0 → Q (0, 0) σ1) ∧ (x1 = 0 → Q (0, 1) σ1)))))) ∧ (0 < x1 → ((x1 ≠ 0 → ((x1 ≠ 0 → Q (0, 0) (fx_up (fx_up σ 46 o0 7 x1) 46 o0 0 x2)) ∧ (x1 = 0 → Q (0, 1) (fx_up (fx_up σ 46 o0 7 x1) 46 o0 0 x2)))) ∧ (x1 = 0 → fx_CV 177 [(46, o0)] (fx_up (fx_up σ 46 o0 7 x1) 46 o0 0 x2) Q (fun σ2 => ((x1 ≠ 0 → Q (0, 0) σ2) ∧ (x1 = 0 → Q (0, 1) σ2)))))))) : fx_Ca 178 [(46, o0), (0, x1), (0, x2)] σ Q := by
  show fx_Wp 178 0 [(46, o0), (0, x1), (0, x2)] [] σ Q
  refine wi_aload_n (pc' := 1) hm178 rfl rfl rfl (by decide) ?_
  refine wi_iload_n (pc' := 2) hm178 rfl rfl rfl ?_
  refine wi_putI (pc' := 5) hm178 rfl rfl (P := 7) rfl ?_
  refine wi_aload_n (pc' := 6) hm178 rfl rfl rfl (by decide) ?_
  refine wi_iload_n (pc' := 7) hm178 rfl rfl rfl ?_
  refine wi_if_le (pc' := 10) (t := 14) hm178 rfl rfl rfl (fun hc => ?_) (fun hc => ?_)
  · replace h := h.1 hc
    refine wi_iconst (pc' := 15) (v := 0) hm178 rfl rfl rfl ?_
    refine wi_putI (pc' := 18) hm178 rfl rfl (P := 0) rfl ?_
    refine wi_iload_n (pc' := 19) hm178 rfl rfl rfl ?_
    refine wi_if_ne (pc' := 22) (t := 26) hm178 rfl rfl rfl (fun hc => ?_) (fun hc => ?_)
    · replace h := h.1 hc
      refine wi_iload_n (pc' := 27) hm178 rfl rfl rfl ?_
      refine wi_if_ne (pc' := 30) (t := 34) hm178 rfl rfl rfl (fun hc => ?_) (fun hc => ?_)
      · replace h := h.1 hc
        refine wi_iconst (pc' := 35) (v := 0) hm178 rfl rfl rfl ?_
        exact wi_zret hm178 rfl (by decide) h
      · replace h := h.2 hc
        refine wi_iconst (pc' := 31) (v := 1) hm178 rfl rfl rfl ?_
        refine wi_goto (t := 35) hm178 rfl rfl ?_
        exact wi_zret hm178 rfl (by decide) h
    · replace h := h.2 hc
      refine wi_aload_n (pc' := 23) hm178 rfl rfl rfl (by decide) ?_
      refine wc_V (pc' := 26) (by decide) rfl (by decide) ((fx_wE hm178 rfl).trans (fx_exV (mj := 177) (as := []) (rest := []) rfl rk177 rfl rfl rfl rfl rfl)) h (fun σ1 h => ?_)
      refine wi_iload_n (pc' := 27) hm178 rfl rfl rfl ?_
      refine wi_if_ne (pc' := 30) (t := 34) hm178 rfl rfl rfl (fun hc => ?_) (fun hc => ?_)
      · replace h := h.1 hc
        refine wi_iconst (pc' := 35) (v := 0) hm178 rfl rfl rfl ?_
        exact wi_zret hm178 rfl (by decide) h
      · replace h := h.2 hc
        refine wi_iconst (pc' := 31) (v := 1) hm178 rfl rfl rfl ?_
        refine wi_goto (t := 35) hm178 rfl rfl ?_
        exact wi_zret hm178 rfl (by decide) h
  · replace h := h.2 hc
    refine wi_iload_n (pc' := 11) hm178 rfl rfl rfl ?_
    refine wi_goto (t := 15) hm178 rfl rfl ?_
    refine wi_putI (pc' := 18) hm178 rfl rfl (P := 0) rfl ?_
    refine wi_iload_n (pc' := 19) hm178 rfl rfl rfl ?_
    refine wi_if_ne (pc' := 22) (t := 26) hm178 rfl rfl rfl (fun hc => ?_) (fun hc => ?_)
    · replace h := h.1 hc
      refine wi_iload_n (pc' := 27) hm178 rfl rfl rfl ?_
      refine wi_if_ne (pc' := 30) (t := 34) hm178 rfl rfl rfl (fun hc => ?_) (fun hc => ?_)
      · replace h := h.1 hc
        refine wi_iconst (pc' := 35) (v := 0) hm178 rfl rfl rfl ?_
        exact wi_zret hm178 rfl (by decide) h
      · replace h := h.2 hc
        refine wi_iconst (pc' := 31) (v := 1) hm178 rfl rfl rfl ?_
        refine wi_goto (t := 35) hm178 rfl rfl ?_
        exact wi_zret hm178 rfl (by decide) h
    · replace h := h.2 hc
      refine wi_aload_n (pc' := 23) hm178 rfl rfl rfl (by decide) ?_
      refine wc_V (pc' := 26) (by decide) rfl (by decide) ((fx_wE hm178 rfl).trans (fx_exV (mj := 177) (as := []) (rest := []) rfl rk177 rfl rfl rfl rfl rfl)) h (fun σ2 h => ?_)
      refine wi_iload_n (pc' := 27) hm178 rfl rfl rfl ?_
      refine wi_if_ne (pc' := 30) (t := 34) hm178 rfl rfl rfl (fun hc => ?_) (fun hc => ?_)
      · replace h := h.1 hc
        refine wi_iconst (pc' := 35) (v := 0) hm178 rfl rfl rfl ?_
        exact wi_zret hm178 rfl (by decide) h
      · replace h := h.2 hc
        refine wi_iconst (pc' := 31) (v := 1) hm178 rfl rfl rfl ?_
        refine wi_goto (t := 35) hm178 rfl rfl ?_
        exact wi_zret hm178 rfl (by decide) h
theorem hm179 : fx_code 179 = fx_c179 := rfl
theorem t179_0 {o0 x1 x2 x3 x4 x5 : Int} {σ : fx_S} {Q : fx_V → fx_S → Prop} (h : (fx_rg ((σ 46 o0 9) + 20)) ∧ ((((σ 46 o0 9) + 20) ≤ 400 → fx_Wp 179 23 [(46, o0), (0, x1), (0, x2), (0, x3), (0, x4), (0, x5), (0, 0), (3, 0)] [] (fx_up σ 46 o0 0 0) Q) ∧ (400 < ((σ 46 o0 9) + 20) → Q (0, (-1)) (fx_up σ 46 o0 0 0)))) : fx_Ca 179 [(46, o0), (0, x1), (0, x2), (0, x3), (0, x4), (0, x5)] σ Q := by
  show fx_Wp 179 0 [(46, o0), (0, x1), (0, x2), (0, x3), (0, x4), (0, x5), (3, 0), (3, 0)] [] σ Q
  refine wi_aload_n (pc' := 1) hm179 rfl rfl rfl (by decide) ?_
  refine wi_iconst (pc' := 2) (v := 0) hm179 rfl rfl rfl ?_
  refine wi_putI (pc' := 5) hm179 rfl rfl (P := 0) rfl ?_
  refine wi_aload_n (pc' := 6) hm179 rfl rfl rfl (by decide) ?_
  refine wi_getIe (pc' := 9) hm179 rfl rfl (P := 9) rfl (x := (σ 46 o0 9)) (Eq.trans (fx_upJ (by decide)) rfl) ?_
  refine wi_bipush (pc' := 11) (v := 20) hm179 rfl rfl rfl ?_
  obtain ⟨g1, h⟩ := h
  refine wi_iadd (pc' := 12) hm179 rfl rfl g1 ?_
  refine wi_sipush (pc' := 15) (v := 400) hm179 rfl rfl rfl ?_
  refine wi_ic_le (pc' := 18) (t := 20) hm179 rfl rfl rfl (fun hc => ?_) (fun hc => ?_)
  · replace h := h.1 hc
    refine wi_iconst (pc' := 21) (v := 0) hm179 rfl rfl rfl ?_
    refine wi_istore (pc' := 23) (L' := [(46, o0), (0, x1), (0, x2), (0, x3), (0, x4), (0, x5), (0, 0), (3, 0)]) hm179 rfl rfl rfl ?_
    exact h
  · replace h := h.2 hc
    refine wi_iconst (pc' := 19) (v := (-1)) hm179 rfl rfl rfl ?_
    exact wi_iret hm179 rfl h
theorem t179_23 {o0 x1 x2 x3 x4 x5 x6 : Int} {w7 : fx_V} {σ : fx_S} {Q : fx_V → fx_S → Prop} (h : ((20 ≤ x6 → Q (0, (σ 46 o0 9)) σ) ∧ (x6 < 20 → ((4 ≤ x6 → ((8 ≤ x6 → ((12 ≤ x6 → ((16 ≤ x6 → (fx_rg (8 * (fx_rem x6 4))) ∧ (fx_rg (24 - (8 * (fx_rem x6 4)))) ∧ (0 ≤ (σ 46 o0 9) ∧ (σ 46 o0 9) < 400) ∧ (fx_rg ((σ 46 o0 9) + 1)) ∧ (fx_rg (x6 + 1)) ∧ fx_Wp 179 23 [(46, o0), (0, x1), (0, x2), (0, x3), (0, x4), (0, x5), (0, (x6 + 1)), (0, x5)] [] (fx_up (fx_up σ 51 0 (σ 46 o0 9) (fx_and (fx_ushr x5 (24 - (8 * (fx_rem x6 4)))) 255)) 46 o0 9 ((σ 46 o0 9) + 1)) Q) ∧ (x6 < 16 → (fx_rg (8 * (fx_rem x6 4))) ∧ (fx_rg (24 - (8 * (fx_rem x6 4)))) ∧ (0 ≤ (σ 46 o0 9) ∧ (σ 46 o0 9) < 400) ∧ (fx_rg ((σ 46 o0 9) + 1)) ∧ (fx_rg (x6 + 1)) ∧ fx_Wp 179 23 [(46, o0), (0, x1), (0, x2), (0, x3), (0, x4), (0, x5), (0, (x6 + 1)), (0, x4)] [] (fx_up (fx_up σ 51 0 (σ 46 o0 9) (fx_and (fx_ushr x4 (24 - (8 * (fx_rem x6 4)))) 255)) 46 o0 9 ((σ 46 o0 9) + 1)) Q))) ∧ (x6 < 12 → (fx_rg (8 * (fx_rem x6 4))) ∧ (fx_rg (24 - (8 * (fx_rem x6 4)))) ∧ (0 ≤ (σ 46 o0 9) ∧ (σ 46 o0 9) < 400) ∧ (fx_rg ((σ 46 o0 9) + 1)) ∧ (fx_rg (x6 + 1)) ∧ fx_Wp 179 23 [(46, o0), (0, x1), (0, x2), (0, x3), (0, x4), (0, x5), (0, (x6 + 1)), (0, x3)] [] (fx_up (fx_up σ 51 0 (σ 46 o0 9) (fx_and (fx_ushr x3 (24 - (8 * (fx_rem x6 4)))) 255)) 46 o0 9 ((σ 46 o0 9) + 1)) Q))) ∧ (x6 < 8 → (fx_rg (8 * (fx_rem x6 4))) ∧ (fx_rg (24 - (8 * (fx_rem x6 4)))) ∧ (0 ≤ (σ 46 o0 9) ∧ (σ 46 o0 9) < 400) ∧ (fx_rg ((σ 46 o0 9) + 1)) ∧ (fx_rg (x6 + 1)) ∧ fx_Wp 179 23 [(46, o0), (0, x1), (0, x2), (0, x3), (0, x4), (0, x5), (0, (x6 + 1)), (0, x2)] [] (fx_up (fx_up σ 51 0 (σ 46 o0 9) (fx_and (fx_ushr x2 (24 - (8 * (fx_rem x6 4)))) 255)) 46 o0 9 ((σ 46 o0 9) + 1)) Q))) ∧ (x6 < 4 → (fx_rg (8 * (fx_rem x6 4))) ∧ (fx_rg (24 - (8 * (fx_rem x6 4)))) ∧ (0 ≤ (σ 46 o0 9) ∧ (σ 46 o0 9) < 400) ∧ (fx_rg ((σ 46 o0 9) + 1)) ∧ (fx_rg (x6 + 1)) ∧ fx_Wp 179 23 [(46, o0), (0, x1), (0, x2), (0, x3), (0, x4), (0, x5), (0, (x6 + 1)), (0, x1)] [] (fx_up (fx_up σ 51 0 (σ 46 o0 9) (fx_and (fx_ushr x1 (24 - (8 * (fx_rem x6 4)))) 255)) 46 o0 9 ((σ 46 o0 9) + 1)) Q))))) : fx_Wp 179 23 [(46, o0), (0, x1), (0, x2), (0, x3), (0, x4), (0, x5), (0, x6), w7] [] σ Q := by
  refine wi_iload (pc' := 25) hm179 rfl rfl rfl ?_
  refine wi_bipush (pc' := 27) (v := 20) hm179 rfl rfl rfl ?_
  refine wi_ic_ge (pc' := 30) (t := 120) hm179 rfl rfl rfl (fun hc => ?_) (fun hc => ?_)
  · replace h := h.1 hc
    refine wi_aload_n (pc' := 121) hm179 rfl rfl rfl (by decide) ?_
    refine wi_getI (pc' := 124) hm179 rfl rfl (P := 9) rfl ?_
    exact wi_iret hm179 rfl h
  · replace h := h.2 hc
    refine wi_iload (pc' := 32) hm179 rfl rfl rfl ?_
    refine wi_iconst (pc' := 33) (v := 4) hm179 rfl rfl rfl ?_
    refine wi_ic_ge (pc' := 36) (t := 40) hm179 rfl rfl rfl (fun hc => ?_) (fun hc => ?_)
    · replace h := h.1 hc
      refine wi_iload (pc' := 42) hm179 rfl rfl rfl ?_
      refine wi_bipush (pc' := 44) (v := 8) hm179 rfl rfl rfl ?_
      refine wi_ic_ge (pc' := 47) (t := 51) hm179 rfl rfl rfl (fun hc => ?_) (fun hc => ?_)
      · replace h := h.1 hc
        refine wi_iload (pc' := 53) hm179 rfl rfl rfl ?_
        refine wi_bipush (pc' := 55) (v := 12) hm179 rfl rfl rfl ?_
        refine wi_ic_ge (pc' := 58) (t := 62) hm179 rfl rfl rfl (fun hc => ?_) (fun hc => ?_)
        · replace h := h.1 hc
          refine wi_iload (pc' := 64) hm179 rfl rfl rfl ?_
          refine wi_bipush (pc' := 66) (v := 16) hm179 rfl rfl rfl ?_
          refine wi_ic_ge (pc' := 69) (t := 74) hm179 rfl rfl rfl (fun hc => ?_) (fun hc => ?_)
          · replace h := h.1 hc
            refine wi_iload (pc' := 76) hm179 rfl rfl rfl ?_
            refine wi_istore (pc' := 78) (L' := [(46, o0), (0, x1), (0, x2), (0, x3), (0, x4), (0, x5), (0, x6), (0, x5)]) hm179 rfl rfl rfl ?_
            refine wi_aload_n (pc' := 79) hm179 rfl rfl rfl (by decide) ?_
            refine wi_getR (pc' := 82) (x := 0) hm179 rfl rfl rfl (by omega) ?_
            refine wi_aload_n (pc' := 83) hm179 rfl rfl rfl (by decide) ?_
            refine wi_getI (pc' := 86) hm179 rfl rfl (P := 9) rfl ?_
            refine wi_iload (pc' := 88) hm179 rfl rfl rfl ?_
            refine wi_bipush (pc' := 90) (v := 24) hm179 rfl rfl rfl ?_
            refine wi_bipush (pc' := 92) (v := 8) hm179 rfl rfl rfl ?_
            refine wi_iload (pc' := 94) hm179 rfl rfl rfl ?_
            refine wi_iconst (pc' := 95) (v := 4) hm179 rfl rfl rfl ?_
            refine wi_irem (pc' := 96) hm179 rfl rfl (by decide) ?_
            obtain ⟨g1, h⟩ := h
            refine wi_imul (pc' := 97) hm179 rfl rfl g1 ?_
            obtain ⟨g2, h⟩ := h
            refine wi_isub (pc' := 98) hm179 rfl rfl g2 ?_
            refine wi_iushr (pc' := 99) hm179 rfl rfl ?_
            refine wi_sipush (pc' := 102) (v := 255) hm179 rfl rfl rfl ?_
            refine wi_iand (pc' := 103) hm179 rfl rfl ?_
            obtain ⟨g3, h⟩ := h
            refine wi_iastore (pc' := 104) hm179 rfl rfl rfl (N := 400) rfl g3 ?_
            refine wi_aload_n (pc' := 105) hm179 rfl rfl rfl (by decide) ?_
            refine wi_dup (pc' := 106) hm179 rfl rfl rfl ?_
            refine wi_getIe (pc' := 109) hm179 rfl rfl (P := 9) rfl (x := (σ 46 o0 9)) (Eq.trans (fx_upK rfl) rfl) ?_
            refine wi_iconst (pc' := 110) (v := 1) hm179 rfl rfl rfl ?_
            obtain ⟨g4, h⟩ := h
            refine wi_iadd (pc' := 111) hm179 rfl rfl g4 ?_
            refine wi_putI (pc' := 114) hm179 rfl rfl (P := 9) rfl ?_
            obtain ⟨g5, h⟩ := h
            refine wi_iinc (pc' := 117) (L' := [(46, o0), (0, x1), (0, x2), (0, x3), (0, x4), (0, x5), (0, (x6 + 1)), (0, x5)]) hm179 rfl rfl rfl g5 rfl ?_
            refine wi_goto (t := 23) hm179 rfl rfl ?_
            exact h
          · replace h := h.2 hc
            refine wi_iload (pc' := 71) hm179 rfl rfl rfl ?_
            refine wi_goto (t := 76) hm179 rfl rfl ?_
            refine wi_istore (pc' := 78) (L' := [(46, o0), (0, x1), (0, x2), (0, x3), (0, x4), (0, x5), (0, x6), (0, x4)]) hm179 rfl rfl rfl ?_
            refine wi_aload_n (pc' := 79) hm179 rfl rfl rfl (by decide) ?_
            refine wi_getR (pc' := 82) (x := 0) hm179 rfl rfl rfl (by omega) ?_
            refine wi_aload_n (pc' := 83) hm179 rfl rfl rfl (by decide) ?_
            refine wi_getI (pc' := 86) hm179 rfl rfl (P := 9) rfl ?_
            refine wi_iload (pc' := 88) hm179 rfl rfl rfl ?_
            refine wi_bipush (pc' := 90) (v := 24) hm179 rfl rfl rfl ?_
            refine wi_bipush (pc' := 92) (v := 8) hm179 rfl rfl rfl ?_
            refine wi_iload (pc' := 94) hm179 rfl rfl rfl ?_
            refine wi_iconst (pc' := 95) (v := 4) hm179 rfl rfl rfl ?_
            refine wi_irem (pc' := 96) hm179 rfl rfl (by decide) ?_
            obtain ⟨g1, h⟩ := h
            refine wi_imul (pc' := 97) hm179 rfl rfl g1 ?_
            obtain ⟨g2, h⟩ := h
            refine wi_isub (pc' := 98) hm179 rfl rfl g2 ?_
            refine wi_iushr (pc' := 99) hm179 rfl rfl ?_
            refine wi_sipush (pc' := 102) (v := 255) hm179 rfl rfl rfl ?_
            refine wi_iand (pc' := 103) hm179 rfl rfl ?_
            obtain ⟨g3, h⟩ := h
            refine wi_iastore (pc' := 104) hm179 rfl rfl rfl (N := 400) rfl g3 ?_
            refine wi_aload_n (pc' := 105) hm179 rfl rfl rfl (by decide) ?_
            refine wi_dup (pc' := 106) hm179 rfl rfl rfl ?_
            refine wi_getIe (pc' := 109) hm179 rfl rfl (P := 9) rfl (x := (σ 46 o0 9)) (Eq.trans (fx_upK rfl) rfl) ?_
            refine wi_iconst (pc' := 110) (v := 1) hm179 rfl rfl rfl ?_
            obtain ⟨g4, h⟩ := h
            refine wi_iadd (pc' := 111) hm179 rfl rfl g4 ?_
            refine wi_putI (pc' := 114) hm179 rfl rfl (P := 9) rfl ?_
            obtain ⟨g5, h⟩ := h
            refine wi_iinc (pc' := 117) (L' := [(46, o0), (0, x1), (0, x2), (0, x3), (0, x4), (0, x5), (0, (x6 + 1)), (0, x4)]) hm179 rfl rfl rfl g5 rfl ?_
            refine wi_goto (t := 23) hm179 rfl rfl ?_
            exact h
        · replace h := h.2 hc
          refine wi_iload_n (pc' := 59) hm179 rfl rfl rfl ?_
          refine wi_goto (t := 76) hm179 rfl rfl ?_
          refine wi_istore (pc' := 78) (L' := [(46, o0), (0, x1), (0, x2), (0, x3), (0, x4), (0, x5), (0, x6), (0, x3)]) hm179 rfl rfl rfl ?_
          refine wi_aload_n (pc' := 79) hm179 rfl rfl rfl (by decide) ?_
          refine wi_getR (pc' := 82) (x := 0) hm179 rfl rfl rfl (by omega) ?_
          refine wi_aload_n (pc' := 83) hm179 rfl rfl rfl (by decide) ?_
          refine wi_getI (pc' := 86) hm179 rfl rfl (P := 9) rfl ?_
          refine wi_iload (pc' := 88) hm179 rfl rfl rfl ?_
          refine wi_bipush (pc' := 90) (v := 24) hm179 rfl rfl rfl ?_
          refine wi_bipush (pc' := 92) (v := 8) hm179 rfl rfl rfl ?_
          refine wi_iload (pc' := 94) hm179 rfl rfl rfl ?_
          refine wi_iconst (pc' := 95) (v := 4) hm179 rfl rfl rfl ?_
          refine wi_irem (pc' := 96) hm179 rfl rfl (by decide) ?_
          obtain ⟨g1, h⟩ := h
          refine wi_imul (pc' := 97) hm179 rfl rfl g1 ?_
          obtain ⟨g2, h⟩ := h
          refine wi_isub (pc' := 98) hm179 rfl rfl g2 ?_
          refine wi_iushr (pc' := 99) hm179 rfl rfl ?_
          refine wi_sipush (pc' := 102) (v := 255) hm179 rfl rfl rfl ?_
          refine wi_iand (pc' := 103) hm179 rfl rfl ?_
          obtain ⟨g3, h⟩ := h
          refine wi_iastore (pc' := 104) hm179 rfl rfl rfl (N := 400) rfl g3 ?_
          refine wi_aload_n (pc' := 105) hm179 rfl rfl rfl (by decide) ?_
          refine wi_dup (pc' := 106) hm179 rfl rfl rfl ?_
          refine wi_getIe (pc' := 109) hm179 rfl rfl (P := 9) rfl (x := (σ 46 o0 9)) (Eq.trans (fx_upK rfl) rfl) ?_
          refine wi_iconst (pc' := 110) (v := 1) hm179 rfl rfl rfl ?_
          obtain ⟨g4, h⟩ := h
          refine wi_iadd (pc' := 111) hm179 rfl rfl g4 ?_
          refine wi_putI (pc' := 114) hm179 rfl rfl (P := 9) rfl ?_
          obtain ⟨g5, h⟩ := h
          refine wi_iinc (pc' := 117) (L' := [(46, o0), (0, x1), (0, x2), (0, x3), (0, x4), (0, x5), (0, (x6 + 1)), (0, x3)]) hm179 rfl rfl rfl g5 rfl ?_
          refine wi_goto (t := 23) hm179 rfl rfl ?_
          exact h
      · replace h := h.2 hc
        refine wi_iload_n (pc' := 48) hm179 rfl rfl rfl ?_
        refine wi_goto (t := 76) hm179 rfl rfl ?_
        refine wi_istore (pc' := 78) (L' := [(46, o0), (0, x1), (0, x2), (0, x3), (0, x4), (0, x5), (0, x6), (0, x2)]) hm179 rfl rfl rfl ?_
        refine wi_aload_n (pc' := 79) hm179 rfl rfl rfl (by decide) ?_
        refine wi_getR (pc' := 82) (x := 0) hm179 rfl rfl rfl (by omega) ?_
        refine wi_aload_n (pc' := 83) hm179 rfl rfl rfl (by decide) ?_
        refine wi_getI (pc' := 86) hm179 rfl rfl (P := 9) rfl ?_
        refine wi_iload (pc' := 88) hm179 rfl rfl rfl ?_
        refine wi_bipush (pc' := 90) (v := 24) hm179 rfl rfl rfl ?_
        refine wi_bipush (pc' := 92) (v := 8) hm179 rfl rfl rfl ?_
        refine wi_iload (pc' := 94) hm179 rfl rfl rfl ?_
        refine wi_iconst (pc' := 95) (v := 4) hm179 rfl rfl rfl ?_
        refine wi_irem (pc' := 96) hm179 rfl rfl (by decide) ?_
        obtain ⟨g1, h⟩ := h
        refine wi_imul (pc' := 97) hm179 rfl rfl g1 ?_
        obtain ⟨g2, h⟩ := h
        refine wi_isub (pc' := 98) hm179 rfl rfl g2 ?_
        refine wi_iushr (pc' := 99) hm179 rfl rfl ?_
        refine wi_sipush (pc' := 102) (v := 255) hm179 rfl rfl rfl ?_
        refine wi_iand (pc' := 103) hm179 rfl rfl ?_
        obtain ⟨g3, h⟩ := h
        refine wi_iastore (pc' := 104) hm179 rfl rfl rfl (N := 400) rfl g3 ?_
        refine wi_aload_n (pc' := 105) hm179 rfl rfl rfl (by decide) ?_
        refine wi_dup (pc' := 106) hm179 rfl rfl rfl ?_
        refine wi_getIe (pc' := 109) hm179 rfl rfl (P := 9) rfl (x := (σ 46 o0 9)) (Eq.trans (fx_upK rfl) rfl) ?_
        refine wi_iconst (pc' := 110) (v := 1) hm179 rfl rfl rfl ?_
        obtain ⟨g4, h⟩ := h
        refine wi_iadd (pc' := 111) hm179 rfl rfl g4 ?_
        refine wi_putI (pc' := 114) hm179 rfl rfl (P := 9) rfl ?_
        obtain ⟨g5, h⟩ := h
        refine wi_iinc (pc' := 117) (L' := [(46, o0), (0, x1), (0, x2), (0, x3), (0, x4), (0, x5), (0, (x6 + 1)), (0, x2)]) hm179 rfl rfl rfl g5 rfl ?_
        refine wi_goto (t := 23) hm179 rfl rfl ?_
        exact h
    · replace h := h.2 hc
      refine wi_iload_n (pc' := 37) hm179 rfl rfl rfl ?_
      refine wi_goto (t := 76) hm179 rfl rfl ?_
      refine wi_istore (pc' := 78) (L' := [(46, o0), (0, x1), (0, x2), (0, x3), (0, x4), (0, x5), (0, x6), (0, x1)]) hm179 rfl rfl rfl ?_
      refine wi_aload_n (pc' := 79) hm179 rfl rfl rfl (by decide) ?_
      refine wi_getR (pc' := 82) (x := 0) hm179 rfl rfl rfl (by omega) ?_
      refine wi_aload_n (pc' := 83) hm179 rfl rfl rfl (by decide) ?_
      refine wi_getI (pc' := 86) hm179 rfl rfl (P := 9) rfl ?_
      refine wi_iload (pc' := 88) hm179 rfl rfl rfl ?_
      refine wi_bipush (pc' := 90) (v := 24) hm179 rfl rfl rfl ?_
      refine wi_bipush (pc' := 92) (v := 8) hm179 rfl rfl rfl ?_
      refine wi_iload (pc' := 94) hm179 rfl rfl rfl ?_
      refine wi_iconst (pc' := 95) (v := 4) hm179 rfl rfl rfl ?_
      refine wi_irem (pc' := 96) hm179 rfl rfl (by decide) ?_
      obtain ⟨g1, h⟩ := h
      refine wi_imul (pc' := 97) hm179 rfl rfl g1 ?_
      obtain ⟨g2, h⟩ := h
      refine wi_isub (pc' := 98) hm179 rfl rfl g2 ?_
      refine wi_iushr (pc' := 99) hm179 rfl rfl ?_
      refine wi_sipush (pc' := 102) (v := 255) hm179 rfl rfl rfl ?_
      refine wi_iand (pc' := 103) hm179 rfl rfl ?_
      obtain ⟨g3, h⟩ := h
      refine wi_iastore (pc' := 104) hm179 rfl rfl rfl (N := 400) rfl g3 ?_
      refine wi_aload_n (pc' := 105) hm179 rfl rfl rfl (by decide) ?_
      refine wi_dup (pc' := 106) hm179 rfl rfl rfl ?_
      refine wi_getIe (pc' := 109) hm179 rfl rfl (P := 9) rfl (x := (σ 46 o0 9)) (Eq.trans (fx_upK rfl) rfl) ?_
      refine wi_iconst (pc' := 110) (v := 1) hm179 rfl rfl rfl ?_
      obtain ⟨g4, h⟩ := h
      refine wi_iadd (pc' := 111) hm179 rfl rfl g4 ?_
      refine wi_putI (pc' := 114) hm179 rfl rfl (P := 9) rfl ?_
      obtain ⟨g5, h⟩ := h
      refine wi_iinc (pc' := 117) (L' := [(46, o0), (0, x1), (0, x2), (0, x3), (0, x4), (0, x5), (0, (x6 + 1)), (0, x1)]) hm179 rfl rfl rfl g5 rfl ?_
      refine wi_goto (t := 23) hm179 rfl rfl ?_
      exact h
theorem hm180 : fx_code 180 = fx_c180 := rfl
theorem t180_0 {o0 x1 : Int} {σ : fx_S} {Q : fx_V → fx_S → Prop} (h : fx_CI 149 [(0, x1), (0, 0), (0, (σ 46 o0 9))] (fx_up σ 46 o0 0 0) Q (fun y1 σ1 => ((y1 ≠ 0 → Q (0, 1) (fx_up σ1 46 o0 9 x1)) ∧ (y1 = 0 → Q (0, 0) σ1)))) : fx_Ca 180 [(46, o0), (0, x1)] σ Q := by
  show fx_Wp 180 0 [(46, o0), (0, x1)] [] σ Q
  refine wi_aload_n (pc' := 1) hm180 rfl rfl rfl (by decide) ?_
  refine wi_iconst (pc' := 2) (v := 0) hm180 rfl rfl rfl ?_
  refine wi_putI (pc' := 5) hm180 rfl rfl (P := 0) rfl ?_
  refine wi_iload_n (pc' := 6) hm180 rfl rfl rfl ?_
  refine wi_iconst (pc' := 7) (v := 0) hm180 rfl rfl rfl ?_
  refine wi_aload_n (pc' := 8) hm180 rfl rfl rfl (by decide) ?_
  refine wi_getIe (pc' := 11) hm180 rfl rfl (P := 9) rfl (x := (σ 46 o0 9)) (Eq.trans (fx_upJ (by decide)) rfl) ?_
  refine wc_I (pc' := 14) (by decide) rfl (by decide) ((fx_wE hm180 rfl).trans (fx_exS (mj := 149) (as := [(0, x1), (0, 0), (0, (σ 46 o0 9))]) (rest := []) rfl rk149 rfl rfl rfl rfl)) h (fun y1 σ1 h => ?_)
  refine wi_if_ne (pc' := 17) (t := 19) hm180 rfl rfl rfl (fun hc => ?_) (fun hc => ?_)
  · replace h := h.1 hc
    refine wi_aload_n (pc' := 20) hm180 rfl rfl rfl (by decide) ?_
    refine wi_iload_n (pc' := 21) hm180 rfl rfl rfl ?_
    refine wi_putI (pc' := 24) hm180 rfl rfl (P := 9) rfl ?_
    refine wi_iconst (pc' := 25) (v := 1) hm180 rfl rfl rfl ?_
    exact wi_zret hm180 rfl (by decide) h
  · replace h := h.2 hc
    refine wi_iconst (pc' := 18) (v := 0) hm180 rfl rfl rfl ?_
    exact wi_zret hm180 rfl (by decide) h
theorem hm181 : fx_code 181 = fx_c181 := rfl
theorem t181_0 {o0 : Int} {σ : fx_S} {Q : fx_V → fx_S → Prop} (h : (((σ 46 o0 10) ≤ (σ 46 o0 11) → Q (0, (σ 46 o0 11)) σ) ∧ ((σ 46 o0 11) < (σ 46 o0 10) → (0 ≤ (σ 46 o0 11) ∧ (σ 46 o0 11) < 400) ∧ (((σ 51 0 (σ 46 o0 11)) ≠ 32 → Q (0, (σ 46 o0 11)) σ) ∧ ((σ 51 0 (σ 46 o0 11)) = 32 → (fx_rg ((σ 46 o0 11) + 1)) ∧ fx_Wp 181 0 [(46, o0)] [] (fx_up σ 46 o0 11 ((σ 46 o0 11) + 1)) Q))))) : fx_Wp 181 0 [(46, o0)] [] σ Q := by
  refine wi_aload_n (pc' := 1) hm181 rfl rfl rfl (by decide) ?_
  refine wi_getI (pc' := 4) hm181 rfl rfl (P := 11) rfl ?_
  refine wi_aload_n (pc' := 5) hm181 rfl rfl rfl (by decide) ?_
  refine wi_getI (pc' := 8) hm181 rfl rfl (P := 10) rfl ?_
  refine wi_ic_ge (pc' := 11) (t := 38) hm181 rfl rfl rfl (fun hc => ?_) (fun hc => ?_)
  · replace h := h.1 hc
    refine wi_aload_n (pc' := 39) hm181 rfl rfl rfl (by decide) ?_
    refine wi_getI (pc' := 42) hm181 rfl rfl (P := 11) rfl ?_
    exact wi_iret hm181 rfl h
  · replace h := h.2 hc
    refine wi_aload_n (pc' := 12) hm181 rfl rfl rfl (by decide) ?_
    refine wi_getR (pc' := 15) (x := 0) hm181 rfl rfl rfl (by omega) ?_
    refine wi_aload_n (pc' := 16) hm181 rfl rfl rfl (by decide) ?_
    refine wi_getI (pc' := 19) hm181 rfl rfl (P := 11) rfl ?_
    obtain ⟨g1, h⟩ := h
    refine wi_iaload (pc' := 20) hm181 rfl rfl rfl rfl (N := 400) rfl g1 ?_
    refine wi_bipush (pc' := 22) (v := 32) hm181 rfl rfl rfl ?_
    refine wi_ic_ne (pc' := 25) (t := 38) hm181 rfl rfl rfl (fun hc => ?_) (fun hc => ?_)
    · replace h := h.1 hc
      refine wi_aload_n (pc' := 39) hm181 rfl rfl rfl (by decide) ?_
      refine wi_getI (pc' := 42) hm181 rfl rfl (P := 11) rfl ?_
      exact wi_iret hm181 rfl h
    · replace h := h.2 hc
      refine wi_aload_n (pc' := 26) hm181 rfl rfl rfl (by decide) ?_
      refine wi_dup (pc' := 27) hm181 rfl rfl rfl ?_
      refine wi_getI (pc' := 30) hm181 rfl rfl (P := 11) rfl ?_
      refine wi_iconst (pc' := 31) (v := 1) hm181 rfl rfl rfl ?_
      obtain ⟨g2, h⟩ := h
      refine wi_iadd (pc' := 32) hm181 rfl rfl g2 ?_
      refine wi_putI (pc' := 35) hm181 rfl rfl (P := 11) rfl ?_
      refine wi_goto (t := 0) hm181 rfl rfl ?_
      exact h
theorem t181_e {o0 : Int} {σ : fx_S} {Q : fx_V → fx_S → Prop} (h : fx_Wp 181 0 [(46, o0)] [] σ Q) : fx_Ca 181 [(46, o0)] σ Q := h
theorem hm182 : fx_code 182 = fx_c182 := rfl
theorem t182_0 {o0 x1 : Int} {σ : fx_S} {Q : fx_V → fx_S → Prop} (h : (((σ 46 o0 12) ≠ (-1) → Q (4, 0) σ) ∧ ((σ 46 o0 12) = (-1) → Q (4, 0) (fx_up σ 46 o0 12 x1)))) : fx_Ca 182 [(46, o0), (0, x1)] σ Q := by
  show fx_Wp 182 0 [(46, o0), (0, x1)] [] σ Q
  refine wi_aload_n (pc' := 1) hm182 rfl rfl rfl (by decide) ?_
  refine wi_getI (pc' := 4) hm182 rfl rfl (P := 12) rfl ?_
  refine wi_iconst (pc' := 5) (v := (-1)) hm182 rfl rfl rfl ?_
  refine wi_ic_ne (pc' := 8) (t := 13) hm182 rfl rfl rfl (fun hc => ?_) (fun hc => ?_)
  · replace h := h.1 hc
    exact wi_vret hm182 rfl h
  · replace h := h.2 hc
    refine wi_aload_n (pc' := 9) hm182 rfl rfl rfl (by decide) ?_
    refine wi_iload_n (pc' := 10) hm182 rfl rfl rfl ?_
    refine wi_putI (pc' := 13) hm182 rfl rfl (P := 12) rfl ?_
    exact wi_vret hm182 rfl h
theorem hm183 : fx_code 183 = fx_c183 := rfl
theorem t183_0 {o0 o1 : Int} {σ : fx_S} {Q : fx_V → fx_S → Prop} (h : fx_CI 181 [(46, o0)] σ Q (fun y1 σ1 => fx_Wp 183 5 [(46, o0), (62, o1), (0, y1), (3, 0)] [] σ1 Q)) : fx_Ca 183 [(46, o0), (62, o1)] σ Q := by
  show fx_Wp 183 0 [(46, o0), (62, o1), (3, 0), (3, 0)] [] σ Q
  refine wi_aload_n (pc' := 1) hm183 rfl rfl rfl (by decide) ?_
  refine wc_I (pc' := 4) (by decide) rfl (by decide) ((fx_wE hm183 rfl).trans (fx_exV (mj := 181) (as := []) (rest := []) rfl rk181 rfl rfl rfl rfl rfl)) h (fun y1 σ1 h => ?_)
  refine wi_istore_n (pc' := 5) (L' := [(46, o0), (62, o1), (0, y1), (3, 0)]) hm183 rfl rfl rfl ?_
  exact h
theorem t183_5 {o0 o1 x2 : Int} {w3 : fx_V} {σ : fx_S} {Q : fx_V → fx_S → Prop} (h : (((σ 46 o0 10) ≤ x2 → fx_Wp 183 35 [(46, o0), (62, o1), (0, x2), w3] [] σ Q) ∧ (x2 < (σ 46 o0 10) → (0 ≤ x2 ∧ x2 < 400) ∧ fx_CI 149 [(0, (σ 51 0 x2)), (0, 97), (0, 122)] σ Q (fun y1 σ1 => ((y1 = 0 → fx_Wp 183 35 [(46, o0), (62, o1), (0, x2), w3] [] σ1 Q) ∧ (y1 ≠ 0 → (fx_rg (x2 + 1)) ∧ fx_Wp 183 5 [(46, o0), (62, o1), (0, (x2 + 1)), w3] [] σ1 Q)))))) : fx_Wp 183 5 [(46, o0), (62, o1), (0, x2), w3] [] σ Q := by
  refine wi_iload_n (pc' := 6) hm183 rfl rfl rfl ?_
  refine wi_aload_n (pc' := 7) hm183 rfl rfl rfl (by decide) ?_
  refine wi_getI (pc' := 10) hm183 rfl rfl (P := 10) rfl ?_
  refine wi_ic_ge (pc' := 13) (t := 35) hm183 rfl rfl rfl (fun hc => ?_) (fun hc => ?_)
  · replace h := h.1 hc
    exact h
  · replace h := h.2 hc
    refine wi_aload_n (pc' := 14) hm183 rfl rfl rfl (by decide) ?_
    refine wi_getR (pc' := 17) (x := 0) hm183 rfl rfl rfl (by omega) ?_
    refine wi_iload_n (pc' := 18) hm183 rfl rfl rfl ?_
    obtain ⟨g1, h⟩ := h
    refine wi_iaload (pc' := 19) hm183 rfl rfl rfl rfl (N := 400) rfl g1 ?_
    refine wi_bipush (pc' := 21) (v := 97) hm183 rfl rfl rfl ?_
    refine wi_bipush (pc' := 23) (v := 122) hm183 rfl rfl rfl ?_
    refine wc_I (pc' := 26) (by decide) rfl (by decide) ((fx_wE hm183 rfl).trans (fx_exS (mj := 149) (as := [(0, (σ 51 0 x2)), (0, 97), (0, 122)]) (rest := []) rfl rk149 rfl rfl rfl rfl)) h (fun y1 σ1 h => ?_)
    refine wi_if_eq (pc' := 29) (t := 35) hm183 rfl rfl rfl (fun hc => ?_) (fun hc => ?_)
    · replace h := h.1 hc
      exact h
    · replace h := h.2 hc
      obtain ⟨g2, h⟩ := h
      refine wi_iinc (pc' := 32) (L' := [(46, o0), (62, o1), (0, (x2 + 1)), w3]) hm183 rfl rfl rfl g2 rfl ?_
      refine wi_goto (t := 5) hm183 rfl rfl ?_
      exact h
theorem t183_35 {o0 o1 x2 : Int} {w3 : fx_V} {σ : fx_S} {Q : fx_V → fx_S → Prop} (h : (((σ 46 o0 12) ≠ (-1) → Q (0, 0) σ) ∧ ((σ 46 o0 12) = (-1) → (fx_rg (x2 - (σ 46 o0 11))) ∧ (∃ y1, fx_prim 500 [(62, o1)] = some (0, y1) ∧ (((x2 - (σ 46 o0 11)) = y1 → fx_Wp 183 60 [(46, o0), (62, o1), (0, x2), (0, 0)] [] σ Q) ∧ ((x2 - (σ 46 o0 11)) ≠ y1 → Q (0, 0) σ)))))) : fx_Wp 183 35 [(46, o0), (62, o1), (0, x2), w3] [] σ Q := by
  refine wi_aload_n (pc' := 36) hm183 rfl rfl rfl (by decide) ?_
  refine wi_getI (pc' := 39) hm183 rfl rfl (P := 12) rfl ?_
  refine wi_iconst (pc' := 40) (v := (-1)) hm183 rfl rfl rfl ?_
  refine wi_ic_ne (pc' := 43) (t := 56) hm183 rfl rfl rfl (fun hc => ?_) (fun hc => ?_)
  · replace h := h.1 hc
    refine wi_iconst (pc' := 57) (v := 0) hm183 rfl rfl rfl ?_
    exact wi_zret hm183 rfl (by decide) h
  · replace h := h.2 hc
    refine wi_iload_n (pc' := 44) hm183 rfl rfl rfl ?_
    refine wi_aload_n (pc' := 45) hm183 rfl rfl rfl (by decide) ?_
    refine wi_getI (pc' := 48) hm183 rfl rfl (P := 11) rfl ?_
    obtain ⟨g1, h⟩ := h
    refine wi_isub (pc' := 49) hm183 rfl rfl g1 ?_
    refine wi_aload_n (pc' := 50) hm183 rfl rfl rfl (by decide) ?_
    obtain ⟨y1, g, h⟩ := h
    refine fx_w4 (x := y1) (by decide) ((fx_wE hm183 rfl).trans (fx_exV (mj := 500) (as := []) (rest := [(0, (x2 - (σ 46 o0 11)))]) rfl rk500 rfl rfl rfl rfl rfl)) g ?_
    refine wi_ic_eq (pc' := 56) (t := 58) hm183 rfl rfl rfl (fun hc => ?_) (fun hc => ?_)
    · replace h := h.1 hc
      refine wi_iconst (pc' := 59) (v := 0) hm183 rfl rfl rfl ?_
      refine wi_istore_n (pc' := 60) (L' := [(46, o0), (62, o1), (0, x2), (0, 0)]) hm183 rfl rfl rfl ?_
      exact h
    · replace h := h.2 hc
      refine wi_iconst (pc' := 57) (v := 0) hm183 rfl rfl rfl ?_
      exact wi_zret hm183 rfl (by decide) h
theorem t183_60 {o0 o1 x2 x3 : Int} {σ : fx_S} {Q : fx_V → fx_S → Prop} (h : (∃ y1, fx_prim 500 [(62, o1)] = some (0, y1) ∧ ((y1 ≤ x3 → Q (0, 1) (fx_up σ 46 o0 11 x2)) ∧ (x3 < y1 → (fx_rg ((σ 46 o0 11) + x3)) ∧ (0 ≤ ((σ 46 o0 11) + x3) ∧ ((σ 46 o0 11) + x3) < 400) ∧ (∃ y2, fx_prim 501 [(62, o1), (0, x3)] = some (0, y2) ∧ (((σ 51 0 ((σ 46 o0 11) + x3)) = y2 → (fx_rg (x3 + 1)) ∧ fx_Wp 183 60 [(46, o0), (62, o1), (0, x2), (0, (x3 + 1))] [] σ Q) ∧ ((σ 51 0 ((σ 46 o0 11) + x3)) ≠ y2 → Q (0, 0) σ))))))) : fx_Wp 183 60 [(46, o0), (62, o1), (0, x2), (0, x3)] [] σ Q := by
  refine wi_iload_n (pc' := 61) hm183 rfl rfl rfl ?_
  refine wi_aload_n (pc' := 62) hm183 rfl rfl rfl (by decide) ?_
  obtain ⟨y1, g, h⟩ := h
  refine fx_w4 (x := y1) (by decide) ((fx_wE hm183 rfl).trans (fx_exV (mj := 500) (as := []) (rest := [(0, x3)]) rfl rk500 rfl rfl rfl rfl rfl)) g ?_
  refine wi_ic_ge (pc' := 68) (t := 95) hm183 rfl rfl rfl (fun hc => ?_) (fun hc => ?_)
  · replace h := h.1 hc
    refine wi_aload_n (pc' := 96) hm183 rfl rfl rfl (by decide) ?_
    refine wi_iload_n (pc' := 97) hm183 rfl rfl rfl ?_
    refine wi_putI (pc' := 100) hm183 rfl rfl (P := 11) rfl ?_
    refine wi_iconst (pc' := 101) (v := 1) hm183 rfl rfl rfl ?_
    exact wi_zret hm183 rfl (by decide) h
  · replace h := h.2 hc
    refine wi_aload_n (pc' := 69) hm183 rfl rfl rfl (by decide) ?_
    refine wi_getR (pc' := 72) (x := 0) hm183 rfl rfl rfl (by omega) ?_
    refine wi_aload_n (pc' := 73) hm183 rfl rfl rfl (by decide) ?_
    refine wi_getI (pc' := 76) hm183 rfl rfl (P := 11) rfl ?_
    refine wi_iload_n (pc' := 77) hm183 rfl rfl rfl ?_
    obtain ⟨g1, h⟩ := h
    refine wi_iadd (pc' := 78) hm183 rfl rfl g1 ?_
    obtain ⟨g2, h⟩ := h
    refine wi_iaload (pc' := 79) hm183 rfl rfl rfl rfl (N := 400) rfl g2 ?_
    refine wi_aload_n (pc' := 80) hm183 rfl rfl rfl (by decide) ?_
    refine wi_iload_n (pc' := 81) hm183 rfl rfl rfl ?_
    obtain ⟨y2, g, h⟩ := h
    refine fx_w4 (x := y2) (by decide) ((fx_wE hm183 rfl).trans (fx_exV (mj := 501) (as := [(0, x3)]) (rest := [(0, (σ 51 0 ((σ 46 o0 11) + x3)))]) rfl rk501 rfl rfl rfl rfl rfl)) g ?_
    refine wi_ic_eq (pc' := 87) (t := 89) hm183 rfl rfl rfl (fun hc => ?_) (fun hc => ?_)
    · replace h := h.1 hc
      obtain ⟨g3, h⟩ := h
      refine wi_iinc (pc' := 92) (L' := [(46, o0), (62, o1), (0, x2), (0, (x3 + 1))]) hm183 rfl rfl rfl g3 rfl ?_
      refine wi_goto (t := 60) hm183 rfl rfl ?_
      exact h
    · replace h := h.2 hc
      refine wi_iconst (pc' := 88) (v := 0) hm183 rfl rfl rfl ?_
      exact wi_zret hm183 rfl (by decide) h
theorem hm184 : fx_code 184 = fx_c184 := rfl
theorem t184_0 {o0 o1 : Int} {σ : fx_S} {Q : fx_V → fx_S → Prop} (h : (((σ 46 o0 12) ≠ (-1) → Q (4, 0) σ) ∧ ((σ 46 o0 12) = (-1) → fx_CI 183 [(46, o0), (62, o1)] σ Q (fun y1 σ1 => ((y1 ≠ 0 → Q (4, 0) σ1) ∧ (y1 = 0 → fx_CV 182 [(46, o0), (0, (σ1 46 o0 11))] σ1 Q (fun σ2 => Q (4, 0) σ2))))))) : fx_Ca 184 [(46, o0), (62, o1)] σ Q := by
  show fx_Wp 184 0 [(46, o0), (62, o1)] [] σ Q
  refine wi_aload_n (pc' := 1) hm184 rfl rfl rfl (by decide) ?_
  refine wi_getI (pc' := 4) hm184 rfl rfl (P := 12) rfl ?_
  refine wi_iconst (pc' := 5) (v := (-1)) hm184 rfl rfl rfl ?_
  refine wi_ic_ne (pc' := 8) (t := 24) hm184 rfl rfl rfl (fun hc => ?_) (fun hc => ?_)
  · replace h := h.1 hc
    exact wi_vret hm184 rfl h
  · replace h := h.2 hc
    refine wi_aload_n (pc' := 9) hm184 rfl rfl rfl (by decide) ?_
    refine wi_aload_n (pc' := 10) hm184 rfl rfl rfl (by decide) ?_
    refine wc_I (pc' := 13) (by decide) rfl (by decide) ((fx_wE hm184 rfl).trans (fx_exV (mj := 183) (as := [(62, o1)]) (rest := []) rfl rk183 rfl rfl rfl rfl rfl)) h (fun y1 σ1 h => ?_)
    refine wi_if_ne (pc' := 16) (t := 24) hm184 rfl rfl rfl (fun hc => ?_) (fun hc => ?_)
    · replace h := h.1 hc
      exact wi_vret hm184 rfl h
    · replace h := h.2 hc
      refine wi_aload_n (pc' := 17) hm184 rfl rfl rfl (by decide) ?_
      refine wi_aload_n (pc' := 18) hm184 rfl rfl rfl (by decide) ?_
      refine wi_getI (pc' := 21) hm184 rfl rfl (P := 11) rfl ?_
      refine wc_V (pc' := 24) (by decide) rfl (by decide) ((fx_wE hm184 rfl).trans (fx_exV (mj := 182) (as := [(0, (σ1 46 o0 11))]) (rest := []) rfl rk182 rfl rfl rfl rfl rfl)) h (fun σ2 h => ?_)
      exact wi_vret hm184 rfl h
theorem hm185 : fx_code 185 = fx_c185 := rfl
theorem t185_0 {o0 x1 : Int} {σ : fx_S} {Q : fx_V → fx_S → Prop} (h : (((σ 46 o0 12) ≠ (-1) → Q (0, 0) σ) ∧ ((σ 46 o0 12) = (-1) → fx_CI 181 [(46, o0)] σ Q (fun y1 σ1 => ((y1 = (σ1 46 o0 10) → Q (0, 0) σ1) ∧ (y1 ≠ (σ1 46 o0 10) → (0 ≤ (σ1 46 o0 11) ∧ (σ1 46 o0 11) < 400) ∧ (((σ1 51 0 (σ1 46 o0 11)) = x1 → (fx_rg ((σ1 46 o0 11) + 1)) ∧ Q (0, 1) (fx_up σ1 46 o0 11 ((σ1 46 o0 11) + 1))) ∧ ((σ1 51 0 (σ1 46 o0 11)) ≠ x1 → Q (0, 0) σ1)))))))) : fx_Ca 185 [(46, o0), (0, x1)] σ Q := by
  show fx_Wp 185 0 [(46, o0), (0, x1)] [] σ Q
  refine wi_aload_n (pc' := 1) hm185 rfl rfl rfl (by decide) ?_
  refine wi_getI (pc' := 4) hm185 rfl rfl (P := 12) rfl ?_
  refine wi_iconst (pc' := 5) (v := (-1)) hm185 rfl rfl rfl ?_
  refine wi_ic_ne (pc' := 8) (t := 32) hm185 rfl rfl rfl (fun hc => ?_) (fun hc => ?_)
  · replace h := h.1 hc
    refine wi_iconst (pc' := 33) (v := 0) hm185 rfl rfl rfl ?_
    exact wi_zret hm185 rfl (by decide) h
  · replace h := h.2 hc
    refine wi_aload_n (pc' := 9) hm185 rfl rfl rfl (by decide) ?_
    refine wc_I (pc' := 12) (by decide) rfl (by decide) ((fx_wE hm185 rfl).trans (fx_exV (mj := 181) (as := []) (rest := []) rfl rk181 rfl rfl rfl rfl rfl)) h (fun y1 σ1 h => ?_)
    refine wi_aload_n (pc' := 13) hm185 rfl rfl rfl (by decide) ?_
    refine wi_getI (pc' := 16) hm185 rfl rfl (P := 10) rfl ?_
    refine wi_ic_eq (pc' := 19) (t := 32) hm185 rfl rfl rfl (fun hc => ?_) (fun hc => ?_)
    · replace h := h.1 hc
      refine wi_iconst (pc' := 33) (v := 0) hm185 rfl rfl rfl ?_
      exact wi_zret hm185 rfl (by decide) h
    · replace h := h.2 hc
      refine wi_aload_n (pc' := 20) hm185 rfl rfl rfl (by decide) ?_
      refine wi_getR (pc' := 23) (x := 0) hm185 rfl rfl rfl (by omega) ?_
      refine wi_aload_n (pc' := 24) hm185 rfl rfl rfl (by decide) ?_
      refine wi_getI (pc' := 27) hm185 rfl rfl (P := 11) rfl ?_
      obtain ⟨g1, h⟩ := h
      refine wi_iaload (pc' := 28) hm185 rfl rfl rfl rfl (N := 400) rfl g1 ?_
      refine wi_iload_n (pc' := 29) hm185 rfl rfl rfl ?_
      refine wi_ic_eq (pc' := 32) (t := 34) hm185 rfl rfl rfl (fun hc => ?_) (fun hc => ?_)
      · replace h := h.1 hc
        refine wi_aload_n (pc' := 35) hm185 rfl rfl rfl (by decide) ?_
        refine wi_dup (pc' := 36) hm185 rfl rfl rfl ?_
        refine wi_getI (pc' := 39) hm185 rfl rfl (P := 11) rfl ?_
        refine wi_iconst (pc' := 40) (v := 1) hm185 rfl rfl rfl ?_
        obtain ⟨g2, h⟩ := h
        refine wi_iadd (pc' := 41) hm185 rfl rfl g2 ?_
        refine wi_putI (pc' := 44) hm185 rfl rfl (P := 11) rfl ?_
        refine wi_iconst (pc' := 45) (v := 1) hm185 rfl rfl rfl ?_
        exact wi_zret hm185 rfl (by decide) h
      · replace h := h.2 hc
        refine wi_iconst (pc' := 33) (v := 0) hm185 rfl rfl rfl ?_
        exact wi_zret hm185 rfl (by decide) h
theorem hm186 : fx_code 186 = fx_c186 := rfl
theorem t186_0 {o0 : Int} {σ : fx_S} {Q : fx_V → fx_S → Prop} (h : fx_CI 181 [(46, o0)] σ Q (fun y1 σ1 => (((σ1 46 o0 10) ≤ y1 → Q (0, 0) σ1) ∧ (y1 < (σ1 46 o0 10) → (0 ≤ (σ1 46 o0 11) ∧ (σ1 46 o0 11) < 400) ∧ fx_CI 149 [(0, (σ1 51 0 (σ1 46 o0 11))), (0, 48), (0, 57)] σ1 Q (fun y2 σ2 => ((y2 = 0 → Q (0, 0) σ2) ∧ (y2 ≠ 0 → Q (0, 1) σ2))))))) : fx_Ca 186 [(46, o0)] σ Q := by
  show fx_Wp 186 0 [(46, o0)] [] σ Q
  refine wi_aload_n (pc' := 1) hm186 rfl rfl rfl (by decide) ?_
  refine wc_I (pc' := 4) (by decide) rfl (by decide) ((fx_wE hm186 rfl).trans (fx_exV (mj := 181) (as := []) (rest := []) rfl rk181 rfl rfl rfl rfl rfl)) h (fun y1 σ1 h => ?_)
  refine wi_aload_n (pc' := 5) hm186 rfl rfl rfl (by decide) ?_
  refine wi_getI (pc' := 8) hm186 rfl rfl (P := 10) rfl ?_
  refine wi_ic_ge (pc' := 11) (t := 34) hm186 rfl rfl rfl (fun hc => ?_) (fun hc => ?_)
  · replace h := h.1 hc
    refine wi_iconst (pc' := 35) (v := 0) hm186 rfl rfl rfl ?_
    exact wi_zret hm186 rfl (by decide) h
  · replace h := h.2 hc
    refine wi_aload_n (pc' := 12) hm186 rfl rfl rfl (by decide) ?_
    refine wi_getR (pc' := 15) (x := 0) hm186 rfl rfl rfl (by omega) ?_
    refine wi_aload_n (pc' := 16) hm186 rfl rfl rfl (by decide) ?_
    refine wi_getI (pc' := 19) hm186 rfl rfl (P := 11) rfl ?_
    obtain ⟨g1, h⟩ := h
    refine wi_iaload (pc' := 20) hm186 rfl rfl rfl rfl (N := 400) rfl g1 ?_
    refine wi_bipush (pc' := 22) (v := 48) hm186 rfl rfl rfl ?_
    refine wi_bipush (pc' := 24) (v := 57) hm186 rfl rfl rfl ?_
    refine wc_I (pc' := 27) (by decide) rfl (by decide) ((fx_wE hm186 rfl).trans (fx_exS (mj := 149) (as := [(0, (σ1 51 0 (σ1 46 o0 11))), (0, 48), (0, 57)]) (rest := []) rfl rk149 rfl rfl rfl rfl)) h (fun y2 σ2 h => ?_)
    refine wi_if_eq (pc' := 30) (t := 34) hm186 rfl rfl rfl (fun hc => ?_) (fun hc => ?_)
    · replace h := h.1 hc
      refine wi_iconst (pc' := 35) (v := 0) hm186 rfl rfl rfl ?_
      exact wi_zret hm186 rfl (by decide) h
    · replace h := h.2 hc
      refine wi_iconst (pc' := 31) (v := 1) hm186 rfl rfl rfl ?_
      refine wi_goto (t := 35) hm186 rfl rfl ?_
      exact wi_zret hm186 rfl (by decide) h
theorem hm187 : fx_code 187 = fx_c187 := rfl
theorem t187_0 {o0 x1 x2 : Int} {σ : fx_S} {Q : fx_V → fx_S → Prop} (h : (((σ 46 o0 12) = (-1) → fx_CI 181 [(46, o0)] σ Q (fun y1 σ1 => fx_Wp 187 18 [(46, o0), (0, x1), (0, x2), (0, y1), (0, 0)] [] σ1 Q)) ∧ ((σ 46 o0 12) ≠ (-1) → Q (0, 0) σ))) : fx_Ca 187 [(46, o0), (0, x1), (0, x2)] σ Q := by
  show fx_Wp 187 0 [(46, o0), (0, x1), (0, x2), (3, 0), (3, 0)] [] σ Q
  refine wi_aload_n (pc' := 1) hm187 rfl rfl rfl (by decide) ?_
  refine wi_getI (pc' := 4) hm187 rfl rfl (P := 12) rfl ?_
  refine wi_iconst (pc' := 5) (v := (-1)) hm187 rfl rfl rfl ?_
  refine wi_ic_eq (pc' := 8) (t := 10) hm187 rfl rfl rfl (fun hc => ?_) (fun hc => ?_)
  · replace h := h.1 hc
    refine wi_aload_n (pc' := 11) hm187 rfl rfl rfl (by decide) ?_
    refine wc_I (pc' := 14) (by decide) rfl (by decide) ((fx_wE hm187 rfl).trans (fx_exV (mj := 181) (as := []) (rest := []) rfl rk181 rfl rfl rfl rfl rfl)) h (fun y1 σ1 h => ?_)
    refine wi_istore_n (pc' := 15) (L' := [(46, o0), (0, x1), (0, x2), (0, y1), (3, 0)]) hm187 rfl rfl rfl ?_
    refine wi_iconst (pc' := 16) (v := 0) hm187 rfl rfl rfl ?_
    refine wi_istore (pc' := 18) (L' := [(46, o0), (0, x1), (0, x2), (0, y1), (0, 0)]) hm187 rfl rfl rfl ?_
    exact h
  · replace h := h.2 hc
    refine wi_iconst (pc' := 9) (v := 0) hm187 rfl rfl rfl ?_
    exact wi_iret hm187 rfl h
theorem t187_18 {o0 x1 x2 x3 x4 : Int} {σ : fx_S} {Q : fx_V → fx_S → Prop} (h : (((σ 46 o0 10) ≤ (σ 46 o0 11) → fx_Wp 187 91 [(46, o0), (0, x1), (0, x2), (0, x3), (0, x4)] [] σ Q) ∧ ((σ 46 o0 11) < (σ 46 o0 10) → (0 ≤ (σ 46 o0 11) ∧ (σ 46 o0 11) < 400) ∧ fx_CI 149 [(0, (σ 51 0 (σ 46 o0 11))), (0, 48), (0, 57)] σ Q (fun y1 σ1 => ((y1 = 0 → fx_Wp 187 91 [(46, o0), (0, x1), (0, x2), (0, x3), (0, x4)] [] σ1 Q) ∧ (y1 ≠ 0 → (fx_rg ((σ1 46 o0 11) - x3)) ∧ ((4 < ((σ1 46 o0 11) - x3) → fx_Wp 187 91 [(46, o0), (0, x1), (0, x2), (0, x3), (0, x4)] [] σ1 Q) ∧ (((σ1 46 o0 11) - x3) ≤ 4 → (fx_rg (10 * x4)) ∧ (0 ≤ (σ1 46 o0 11) ∧ (σ1 46 o0 11) < 400) ∧ (fx_rg ((10 * x4) + (σ1 51 0 (σ1 46 o0 11)))) ∧ (fx_rg (((10 * x4) + (σ1 51 0 (σ1 46 o0 11))) - 48)) ∧ (fx_rg ((σ1 46 o0 11) + 1)) ∧ fx_Wp 187 18 [(46, o0), (0, x1), (0, x2), (0, x3), (0, (((10 * x4) + (σ1 51 0 (σ1 46 o0 11))) - 48))] [] (fx_up σ1 46 o0 11 ((σ1 46 o0 11) + 1)) Q)))))))) : fx_Wp 187 18 [(46, o0), (0, x1), (0, x2), (0, x3), (0, x4)] [] σ Q := by
  refine wi_aload_n (pc' := 19) hm187 rfl rfl rfl (by decide) ?_
  refine wi_getI (pc' := 22) hm187 rfl rfl (P := 11) rfl ?_
  refine wi_aload_n (pc' := 23) hm187 rfl rfl rfl (by decide) ?_
  refine wi_getI (pc' := 26) hm187 rfl rfl (P := 10) rfl ?_
  refine wi_ic_ge (pc' := 29) (t := 91) hm187 rfl rfl rfl (fun hc => ?_) (fun hc => ?_)
  · replace h := h.1 hc
    exact h
  · replace h := h.2 hc
    refine wi_aload_n (pc' := 30) hm187 rfl rfl rfl (by decide) ?_
    refine wi_getR (pc' := 33) (x := 0) hm187 rfl rfl rfl (by omega) ?_
    refine wi_aload_n (pc' := 34) hm187 rfl rfl rfl (by decide) ?_
    refine wi_getI (pc' := 37) hm187 rfl rfl (P := 11) rfl ?_
    obtain ⟨g1, h⟩ := h
    refine wi_iaload (pc' := 38) hm187 rfl rfl rfl rfl (N := 400) rfl g1 ?_
    refine wi_bipush (pc' := 40) (v := 48) hm187 rfl rfl rfl ?_
    refine wi_bipush (pc' := 42) (v := 57) hm187 rfl rfl rfl ?_
    refine wc_I (pc' := 45) (by decide) rfl (by decide) ((fx_wE hm187 rfl).trans (fx_exS (mj := 149) (as := [(0, (σ 51 0 (σ 46 o0 11))), (0, 48), (0, 57)]) (rest := []) rfl rk149 rfl rfl rfl rfl)) h (fun y1 σ1 h => ?_)
    refine wi_if_eq (pc' := 48) (t := 91) hm187 rfl rfl rfl (fun hc => ?_) (fun hc => ?_)
    · replace h := h.1 hc
      exact h
    · replace h := h.2 hc
      refine wi_aload_n (pc' := 49) hm187 rfl rfl rfl (by decide) ?_
      refine wi_getI (pc' := 52) hm187 rfl rfl (P := 11) rfl ?_
      refine wi_iload_n (pc' := 53) hm187 rfl rfl rfl ?_
      obtain ⟨g2, h⟩ := h
      refine wi_isub (pc' := 54) hm187 rfl rfl g2 ?_
      refine wi_iconst (pc' := 55) (v := 4) hm187 rfl rfl rfl ?_
      refine wi_ic_gt (pc' := 58) (t := 91) hm187 rfl rfl rfl (fun hc => ?_) (fun hc => ?_)
      · replace h := h.1 hc
        exact h
      · replace h := h.2 hc
        refine wi_bipush (pc' := 60) (v := 10) hm187 rfl rfl rfl ?_
        refine wi_iload (pc' := 62) hm187 rfl rfl rfl ?_
        obtain ⟨g3, h⟩ := h
        refine wi_imul (pc' := 63) hm187 rfl rfl g3 ?_
        refine wi_aload_n (pc' := 64) hm187 rfl rfl rfl (by decide) ?_
        refine wi_getR (pc' := 67) (x := 0) hm187 rfl rfl rfl (by omega) ?_
        refine wi_aload_n (pc' := 68) hm187 rfl rfl rfl (by decide) ?_
        refine wi_getI (pc' := 71) hm187 rfl rfl (P := 11) rfl ?_
        obtain ⟨g4, h⟩ := h
        refine wi_iaload (pc' := 72) hm187 rfl rfl rfl rfl (N := 400) rfl g4 ?_
        obtain ⟨g5, h⟩ := h
        refine wi_iadd (pc' := 73) hm187 rfl rfl g5 ?_
        refine wi_bipush (pc' := 75) (v := 48) hm187 rfl rfl rfl ?_
        obtain ⟨g6, h⟩ := h
        refine wi_isub (pc' := 76) hm187 rfl rfl g6 ?_
        refine wi_istore (pc' := 78) (L' := [(46, o0), (0, x1), (0, x2), (0, x3), (0, (((10 * x4) + (σ1 51 0 (σ1 46 o0 11))) - 48))]) hm187 rfl rfl rfl ?_
        refine wi_aload_n (pc' := 79) hm187 rfl rfl rfl (by decide) ?_
        refine wi_dup (pc' := 80) hm187 rfl rfl rfl ?_
        refine wi_getI (pc' := 83) hm187 rfl rfl (P := 11) rfl ?_
        refine wi_iconst (pc' := 84) (v := 1) hm187 rfl rfl rfl ?_
        obtain ⟨g7, h⟩ := h
        refine wi_iadd (pc' := 85) hm187 rfl rfl g7 ?_
        refine wi_putI (pc' := 88) hm187 rfl rfl (P := 11) rfl ?_
        refine wi_goto (t := 18) hm187 rfl rfl ?_
        exact h
theorem t187_91 {o0 x1 x2 x3 x4 : Int} {σ : fx_S} {Q : fx_V → fx_S → Prop} (h : (((σ 46 o0 11) = x3 → fx_CV 182 [(46, o0), (0, x3)] σ Q (fun σ1 => Q (0, x4) σ1)) ∧ ((σ 46 o0 11) ≠ x3 → (fx_rg ((σ 46 o0 11) - x3)) ∧ ((4 < ((σ 46 o0 11) - x3) → fx_CV 182 [(46, o0), (0, x3)] σ Q (fun σ2 => Q (0, x4) σ2)) ∧ (((σ 46 o0 11) - x3) ≤ 4 → ((x4 < x1 → fx_CV 182 [(46, o0), (0, x3)] σ Q (fun σ3 => Q (0, x4) σ3)) ∧ (x1 ≤ x4 → ((x4 ≤ x2 → Q (0, x4) σ) ∧ (x2 < x4 → fx_CV 182 [(46, o0), (0, x3)] σ Q (fun σ4 => Q (0, x4) σ4)))))))))) : fx_Wp 187 91 [(46, o0), (0, x1), (0, x2), (0, x3), (0, x4)] [] σ Q := by
  refine wi_aload_n (pc' := 92) hm187 rfl rfl rfl (by decide) ?_
  refine wi_getI (pc' := 95) hm187 rfl rfl (P := 11) rfl ?_
  refine wi_iload_n (pc' := 96) hm187 rfl rfl rfl ?_
  refine wi_ic_eq (pc' := 99) (t := 121) hm187 rfl rfl rfl (fun hc => ?_) (fun hc => ?_)
  · replace h := h.1 hc
    refine wi_aload_n (pc' := 122) hm187 rfl rfl rfl (by decide) ?_
    refine wi_iload_n (pc' := 123) hm187 rfl rfl rfl ?_
    refine wc_V (pc' := 126) (by decide) rfl (by decide) ((fx_wE hm187 rfl).trans (fx_exV (mj := 182) (as := [(0, x3)]) (rest := []) rfl rk182 rfl rfl rfl rfl rfl)) h (fun σ1 h => ?_)
    refine wi_iload (pc' := 128) hm187 rfl rfl rfl ?_
    exact wi_iret hm187 rfl h
  · replace h := h.2 hc
    refine wi_aload_n (pc' := 100) hm187 rfl rfl rfl (by decide) ?_
    refine wi_getI (pc' := 103) hm187 rfl rfl (P := 11) rfl ?_
    refine wi_iload_n (pc' := 104) hm187 rfl rfl rfl ?_
    obtain ⟨g1, h⟩ := h
    refine wi_isub (pc' := 105) hm187 rfl rfl g1 ?_
    refine wi_iconst (pc' := 106) (v := 4) hm187 rfl rfl rfl ?_
    refine wi_ic_gt (pc' := 109) (t := 121) hm187 rfl rfl rfl (fun hc => ?_) (fun hc => ?_)
    · replace h := h.1 hc
      refine wi_aload_n (pc' := 122) hm187 rfl rfl rfl (by decide) ?_
      refine wi_iload_n (pc' := 123) hm187 rfl rfl rfl ?_
      refine wc_V (pc' := 126) (by decide) rfl (by decide) ((fx_wE hm187 rfl).trans (fx_exV (mj := 182) (as := [(0, x3)]) (rest := []) rfl rk182 rfl rfl rfl rfl rfl)) h (fun σ2 h => ?_)
      refine wi_iload (pc' := 128) hm187 rfl rfl rfl ?_
      exact wi_iret hm187 rfl h
    · replace h := h.2 hc
      refine wi_iload (pc' := 111) hm187 rfl rfl rfl ?_
      refine wi_iload_n (pc' := 112) hm187 rfl rfl rfl ?_
      refine wi_ic_lt (pc' := 115) (t := 121) hm187 rfl rfl rfl (fun hc => ?_) (fun hc => ?_)
      · replace h := h.1 hc
        refine wi_aload_n (pc' := 122) hm187 rfl rfl rfl (by decide) ?_
        refine wi_iload_n (pc' := 123) hm187 rfl rfl rfl ?_
        refine wc_V (pc' := 126) (by decide) rfl (by decide) ((fx_wE hm187 rfl).trans (fx_exV (mj := 182) (as := [(0, x3)]) (rest := []) rfl rk182 rfl rfl rfl rfl rfl)) h (fun σ3 h => ?_)
        refine wi_iload (pc' := 128) hm187 rfl rfl rfl ?_
        exact wi_iret hm187 rfl h
      · replace h := h.2 hc
        refine wi_iload (pc' := 117) hm187 rfl rfl rfl ?_
        refine wi_iload_n (pc' := 118) hm187 rfl rfl rfl ?_
        refine wi_ic_le (pc' := 121) (t := 126) hm187 rfl rfl rfl (fun hc => ?_) (fun hc => ?_)
        · replace h := h.1 hc
          refine wi_iload (pc' := 128) hm187 rfl rfl rfl ?_
          exact wi_iret hm187 rfl h
        · replace h := h.2 hc
          refine wi_aload_n (pc' := 122) hm187 rfl rfl rfl (by decide) ?_
          refine wi_iload_n (pc' := 123) hm187 rfl rfl rfl ?_
          refine wc_V (pc' := 126) (by decide) rfl (by decide) ((fx_wE hm187 rfl).trans (fx_exV (mj := 182) (as := [(0, x3)]) (rest := []) rfl rk182 rfl rfl rfl rfl rfl)) h (fun σ4 h => ?_)
          refine wi_iload (pc' := 128) hm187 rfl rfl rfl ?_
          exact wi_iret hm187 rfl h
theorem hm188 : fx_code 188 = fx_c188 := rfl
theorem t188_0 {o0 x1 x2 x3 x4 : Int} {σ : fx_S} {Q : fx_V → fx_S → Prop} (h : (fx_rg (4 * (σ 52 0 0))) ∧ (fx_rg (2 + (4 * (σ 52 0 0)))) ∧ (0 ≤ (2 + (4 * (σ 52 0 0))) ∧ (2 + (4 * (σ 52 0 0))) < 94) ∧ (fx_rg ((2 + (4 * (σ 52 0 0))) + 1)) ∧ (0 ≤ ((2 + (4 * (σ 52 0 0))) + 1) ∧ ((2 + (4 * (σ 52 0 0))) + 1) < 94) ∧ (fx_rg ((2 + (4 * (σ 52 0 0))) + 2)) ∧ (0 ≤ ((2 + (4 * (σ 52 0 0))) + 2) ∧ ((2 + (4 * (σ 52 0 0))) + 2) < 94) ∧ (fx_rg ((2 + (4 * (σ 52 0 0))) + 3)) ∧ (0 ≤ ((2 + (4 * (σ 52 0 0))) + 3) ∧ ((2 + (4 * (σ 52 0 0))) + 3) < 94) ∧ (0 ≤ (σ 46 o0 17) ∧ (σ 46 o0 17) < 40) ∧ (fx_rg ((σ 46 o0 17) + 1)) ∧ (fx_rg (((fx_up (fx_up (fx_up (fx_up σ 52 0 (2 + (4 * (σ 52 0 0))) x1) 52 0 ((2 + (4 * (σ 52 0 0))) + 1) x2) 52 0 ((2 + (4 * (σ 52 0 0))) + 2) x3) 52 0 ((2 + (4 * (σ 52 0 0))) + 3) x4) 52 0 0) + 1)) ∧ Q (4, 0) (fx_up (fx_up (fx_up (fx_up (fx_up (fx_up (fx_up σ 52 0 (2 + (4 * (σ 52 0 0))) x1) 52 0 ((2 + (4 * (σ 52 0 0))) + 1) x2) 52 0 ((2 + (4 * (σ 52 0 0))) + 2) x3) 52 0 ((2 + (4 * (σ 52 0 0))) + 3) x4) 54 0 (σ 46 o0 17) ((fx_up (fx_up (fx_up (fx_up σ 52 0 (2 + (4 * (σ 52 0 0))) x1) 52 0 ((2 + (4 * (σ 52 0 0))) + 1) x2) 52 0 ((2 + (4 * (σ 52 0 0))) + 2) x3) 52 0 ((2 + (4 * (σ 52 0 0))) + 3) x4) 52 0 0)) 46 o0 17 ((σ 46 o0 17) + 1)) 52 0 0 (((fx_up (fx_up (fx_up (fx_up σ 52 0 (2 + (4 * (σ 52 0 0))) x1) 52 0 ((2 + (4 * (σ 52 0 0))) + 1) x2) 52 0 ((2 + (4 * (σ 52 0 0))) + 2) x3) 52 0 ((2 + (4 * (σ 52 0 0))) + 3) x4) 52 0 0) + 1))) : fx_Ca 188 [(46, o0), (0, x1), (0, x2), (0, x3), (0, x4)] σ Q := by
  show fx_Wp 188 0 [(46, o0), (0, x1), (0, x2), (0, x3), (0, x4), (3, 0)] [] σ Q
  refine wi_iconst (pc' := 1) (v := 2) hm188 rfl rfl rfl ?_
  refine wi_iconst (pc' := 2) (v := 4) hm188 rfl rfl rfl ?_
  refine wi_aload_n (pc' := 3) hm188 rfl rfl rfl (by decide) ?_
  refine wi_getR (pc' := 6) (x := 0) hm188 rfl rfl rfl (by omega) ?_
  refine wi_iconst (pc' := 7) (v := 0) hm188 rfl rfl rfl ?_
  refine wi_iaload (pc' := 8) hm188 rfl rfl rfl rfl (N := 94) rfl (by decide) ?_
  obtain ⟨g1, h⟩ := h
  refine wi_imul (pc' := 9) hm188 rfl rfl g1 ?_
  obtain ⟨g2, h⟩ := h
  refine wi_iadd (pc' := 10) hm188 rfl rfl g2 ?_
  refine wi_istore (pc' := 12) (L' := [(46, o0), (0, x1), (0, x2), (0, x3), (0, x4), (0, (2 + (4 * (σ 52 0 0))))]) hm188 rfl rfl rfl ?_
  refine wi_aload_n (pc' := 13) hm188 rfl rfl rfl (by decide) ?_
  refine wi_getR (pc' := 16) (x := 0) hm188 rfl rfl rfl (by omega) ?_
  refine wi_iload (pc' := 18) hm188 rfl rfl rfl ?_
  refine wi_iload_n (pc' := 19) hm188 rfl rfl rfl ?_
  obtain ⟨g3, h⟩ := h
  refine wi_iastore (pc' := 20) hm188 rfl rfl rfl (N := 94) rfl g3 ?_
  refine wi_aload_n (pc' := 21) hm188 rfl rfl rfl (by decide) ?_
  refine wi_getR (pc' := 24) (x := 0) hm188 rfl rfl rfl (by omega) ?_
  refine wi_iload (pc' := 26) hm188 rfl rfl rfl ?_
  refine wi_iconst (pc' := 27) (v := 1) hm188 rfl rfl rfl ?_
  obtain ⟨g4, h⟩ := h
  refine wi_iadd (pc' := 28) hm188 rfl rfl g4 ?_
  refine wi_iload_n (pc' := 29) hm188 rfl rfl rfl ?_
  obtain ⟨g5, h⟩ := h
  refine wi_iastore (pc' := 30) hm188 rfl rfl rfl (N := 94) rfl g5 ?_
  refine wi_aload_n (pc' := 31) hm188 rfl rfl rfl (by decide) ?_
  refine wi_getR (pc' := 34) (x := 0) hm188 rfl rfl rfl (by omega) ?_
  refine wi_iload (pc' := 36) hm188 rfl rfl rfl ?_
  refine wi_iconst (pc' := 37) (v := 2) hm188 rfl rfl rfl ?_
  obtain ⟨g6, h⟩ := h
  refine wi_iadd (pc' := 38) hm188 rfl rfl g6 ?_
  refine wi_iload_n (pc' := 39) hm188 rfl rfl rfl ?_
  obtain ⟨g7, h⟩ := h
  refine wi_iastore (pc' := 40) hm188 rfl rfl rfl (N := 94) rfl g7 ?_
  refine wi_aload_n (pc' := 41) hm188 rfl rfl rfl (by decide) ?_
  refine wi_getR (pc' := 44) (x := 0) hm188 rfl rfl rfl (by omega) ?_
  refine wi_iload (pc' := 46) hm188 rfl rfl rfl ?_
  refine wi_iconst (pc' := 47) (v := 3) hm188 rfl rfl rfl ?_
  obtain ⟨g8, h⟩ := h
  refine wi_iadd (pc' := 48) hm188 rfl rfl g8 ?_
  refine wi_iload (pc' := 50) hm188 rfl rfl rfl ?_
  obtain ⟨g9, h⟩ := h
  refine wi_iastore (pc' := 51) hm188 rfl rfl rfl (N := 94) rfl g9 ?_
  refine wi_aload_n (pc' := 52) hm188 rfl rfl rfl (by decide) ?_
  refine wi_getR (pc' := 55) (x := 0) hm188 rfl rfl rfl (by omega) ?_
  refine wi_aload_n (pc' := 56) hm188 rfl rfl rfl (by decide) ?_
  refine wi_getIe (pc' := 59) hm188 rfl rfl (P := 17) rfl (x := (σ 46 o0 17)) (Eq.trans (fx_upK rfl) (Eq.trans (fx_upK rfl) (Eq.trans (fx_upK rfl) (Eq.trans (fx_upK rfl) rfl)))) ?_
  refine wi_aload_n (pc' := 60) hm188 rfl rfl rfl (by decide) ?_
  refine wi_getR (pc' := 63) (x := 0) hm188 rfl rfl rfl (by omega) ?_
  refine wi_iconst (pc' := 64) (v := 0) hm188 rfl rfl rfl ?_
  refine wi_iaload (pc' := 65) hm188 rfl rfl rfl rfl (N := 94) rfl (by decide) ?_
  obtain ⟨g10, h⟩ := h
  refine wi_iastore (pc' := 66) hm188 rfl rfl rfl (N := 40) rfl g10 ?_
  refine wi_aload_n (pc' := 67) hm188 rfl rfl rfl (by decide) ?_
  refine wi_dup (pc' := 68) hm188 rfl rfl rfl ?_
  refine wi_getIe (pc' := 71) hm188 rfl rfl (P := 17) rfl (x := (σ 46 o0 17)) (Eq.trans (fx_upK rfl) (Eq.trans (fx_upK rfl) (Eq.trans (fx_upK rfl) (Eq.trans (fx_upK rfl) (Eq.trans (fx_upK rfl) rfl))))) ?_
  refine wi_iconst (pc' := 72) (v := 1) hm188 rfl rfl rfl ?_
  obtain ⟨g11, h⟩ := h
  refine wi_iadd (pc' := 73) hm188 rfl rfl g11 ?_
  refine wi_putI (pc' := 76) hm188 rfl rfl (P := 17) rfl ?_
  refine wi_aload_n (pc' := 77) hm188 rfl rfl rfl (by decide) ?_
  refine wi_getR (pc' := 80) (x := 0) hm188 rfl rfl rfl (by omega) ?_
  refine wi_iconst (pc' := 81) (v := 0) hm188 rfl rfl rfl ?_
  refine wi_dup2 (pc' := 82) hm188 rfl rfl rfl ?_
  refine wi_ialoade (pc' := 83) hm188 rfl rfl rfl rfl (N := 94) rfl (by decide) (x := ((fx_up (fx_up (fx_up (fx_up σ 52 0 (2 + (4 * (σ 52 0 0))) x1) 52 0 ((2 + (4 * (σ 52 0 0))) + 1) x2) 52 0 ((2 + (4 * (σ 52 0 0))) + 2) x3) 52 0 ((2 + (4 * (σ 52 0 0))) + 3) x4) 52 0 0)) (Eq.trans (fx_upK rfl) (Eq.trans (fx_upK rfl) rfl)) ?_
  refine wi_iconst (pc' := 84) (v := 1) hm188 rfl rfl rfl ?_
  obtain ⟨g12, h⟩ := h
  refine wi_iadd (pc' := 85) hm188 rfl rfl g12 ?_
  refine wi_iastore (pc' := 86) hm188 rfl rfl rfl (N := 94) rfl (by decide) ?_
  exact wi_vret hm188 rfl h
theorem hm189 : fx_code 189 = fx_c189 := rfl
theorem t189_0 {o0 : Int} {σ : fx_S} {Q : fx_V → fx_S → Prop} (h : (fx_rg ((σ 46 o0 15) - 1)) ∧ (fx_rg ((σ 46 o0 17) - 2)) ∧ (0 ≤ ((σ 46 o0 15) - 1) ∧ ((σ 46 o0 15) - 1) < 40) ∧ (0 ≤ ((σ 46 o0 17) - 2) ∧ ((σ 46 o0 17) - 2) < 40) ∧ (fx_rg (((σ 46 o0 17) - 2) + 1)) ∧ (0 ≤ (((σ 46 o0 17) - 2) + 1) ∧ (((σ 46 o0 17) - 2) + 1) < 40) ∧ fx_CV 188 [(46, o0), (0, (σ 53 0 ((σ 46 o0 15) - 1))), (0, 0), (0, (σ 54 0 ((σ 46 o0 17) - 2))), (0, (σ 54 0 (((σ 46 o0 17) - 2) + 1)))] (fx_up (fx_up σ 46 o0 15 ((σ 46 o0 15) - 1)) 46 o0 17 ((σ 46 o0 17) - 2)) Q (fun σ1 => Q (4, 0) σ1)) : fx_Ca 189 [(46, o0)] σ Q := by
  show fx_Wp 189 0 [(46, o0)] [] σ Q
  refine wi_aload_n (pc' := 1) hm189 rfl rfl rfl (by decide) ?_
  refine wi_dup (pc' := 2) hm189 rfl rfl rfl ?_
  refine wi_getI (pc' := 5) hm189 rfl rfl (P := 15) rfl ?_
  refine wi_iconst (pc' := 6) (v := 1) hm189 rfl rfl rfl ?_
  obtain ⟨g1, h⟩ := h
  refine wi_isub (pc' := 7) hm189 rfl rfl g1 ?_
  refine wi_putI (pc' := 10) hm189 rfl rfl (P := 15) rfl ?_
  refine wi_aload_n (pc' := 11) hm189 rfl rfl rfl (by decide) ?_
  refine wi_dup (pc' := 12) hm189 rfl rfl rfl ?_
  refine wi_getIe (pc' := 15) hm189 rfl rfl (P := 17) rfl (x := (σ 46 o0 17)) (Eq.trans (fx_upJ (by decide)) rfl) ?_
  refine wi_iconst (pc' := 16) (v := 2) hm189 rfl rfl rfl ?_
  obtain ⟨g2, h⟩ := h
  refine wi_isub (pc' := 17) hm189 rfl rfl g2 ?_
  refine wi_putI (pc' := 20) hm189 rfl rfl (P := 17) rfl ?_
  refine wi_aload_n (pc' := 21) hm189 rfl rfl rfl (by decide) ?_
  refine wi_aload_n (pc' := 22) hm189 rfl rfl rfl (by decide) ?_
  refine wi_getR (pc' := 25) (x := 0) hm189 rfl rfl rfl (by omega) ?_
  refine wi_aload_n (pc' := 26) hm189 rfl rfl rfl (by decide) ?_
  refine wi_getIe (pc' := 29) hm189 rfl rfl (P := 15) rfl (x := ((σ 46 o0 15) - 1)) (Eq.trans (fx_upJ (by decide)) fx_upS) ?_
  obtain ⟨g3, h⟩ := h
  refine wi_ialoade (pc' := 30) hm189 rfl rfl rfl rfl (N := 40) rfl g3 (x := (σ 53 0 ((σ 46 o0 15) - 1))) (Eq.trans (fx_upK rfl) (Eq.trans (fx_upK rfl) rfl)) ?_
  refine wi_iconst (pc' := 31) (v := 0) hm189 rfl rfl rfl ?_
  refine wi_aload_n (pc' := 32) hm189 rfl rfl rfl (by decide) ?_
  refine wi_getR (pc' := 35) (x := 0) hm189 rfl rfl rfl (by omega) ?_
  refine wi_aload_n (pc' := 36) hm189 rfl rfl rfl (by decide) ?_
  refine wi_getIe (pc' := 39) hm189 rfl rfl (P := 17) rfl (x := ((σ 46 o0 17) - 2)) fx_upS ?_
  obtain ⟨g4, h⟩ := h
  refine wi_ialoade (pc' := 40) hm189 rfl rfl rfl rfl (N := 40) rfl g4 (x := (σ 54 0 ((σ 46 o0 17) - 2))) (Eq.trans (fx_upK rfl) (Eq.trans (fx_upK rfl) rfl)) ?_
  refine wi_aload_n (pc' := 41) hm189 rfl rfl rfl (by decide) ?_
  refine wi_getR (pc' := 44) (x := 0) hm189 rfl rfl rfl (by omega) ?_
  refine wi_aload_n (pc' := 45) hm189 rfl rfl rfl (by decide) ?_
  refine wi_getIe (pc' := 48) hm189 rfl rfl (P := 17) rfl (x := ((σ 46 o0 17) - 2)) fx_upS ?_
  refine wi_iconst (pc' := 49) (v := 1) hm189 rfl rfl rfl ?_
  obtain ⟨g5, h⟩ := h
  refine wi_iadd (pc' := 50) hm189 rfl rfl g5 ?_
  obtain ⟨g6, h⟩ := h
  refine wi_ialoade (pc' := 51) hm189 rfl rfl rfl rfl (N := 40) rfl g6 (x := (σ 54 0 (((σ 46 o0 17) - 2) + 1))) (Eq.trans (fx_upK rfl) (Eq.trans (fx_upK rfl) rfl)) ?_
  refine wc_V (pc' := 54) (by decide) rfl (by decide) ((fx_wE hm189 rfl).trans (fx_exV (mj := 188) (as := [(0, (σ 53 0 ((σ 46 o0 15) - 1))), (0, 0), (0, (σ 54 0 ((σ 46 o0 17) - 2))), (0, (σ 54 0 (((σ 46 o0 17) - 2) + 1)))]) (rest := []) rfl rk188 rfl rfl rfl rfl rfl)) h (fun σ1 h => ?_)
  exact wi_vret hm189 rfl h
theorem hm190 : fx_code 190 = fx_c190 := rfl
theorem t190_0 {x0 : Int} {σ : fx_S} {Q : fx_V → fx_S → Prop} (h : ((x0 ≠ 20 → ((6 ≤ x0 → Q (0, 2) σ) ∧ (x0 < 6 → Q (0, 1) σ))) ∧ (x0 = 20 → Q (0, 0) σ))) : fx_Ca 190 [(0, x0)] σ Q := by
  show fx_Wp 190 0 [(0, x0)] [] σ Q
  refine wi_iload_n (pc' := 1) hm190 rfl rfl rfl ?_
  refine wi_bipush (pc' := 3) (v := 20) hm190 rfl rfl rfl ?_
  refine wi_ic_ne (pc' := 6) (t := 10) hm190 rfl rfl rfl (fun hc => ?_) (fun hc => ?_)
  · replace h := h.1 hc
    refine wi_iload_n (pc' := 11) hm190 rfl rfl rfl ?_
    refine wi_bipush (pc' := 13) (v := 6) hm190 rfl rfl rfl ?_
    refine wi_ic_ge (pc' := 16) (t := 20) hm190 rfl rfl rfl (fun hc => ?_) (fun hc => ?_)
    · replace h := h.1 hc
      refine wi_iconst (pc' := 21) (v := 2) hm190 rfl rfl rfl ?_
      exact wi_iret hm190 rfl h
    · replace h := h.2 hc
      refine wi_iconst (pc' := 17) (v := 1) hm190 rfl rfl rfl ?_
      refine wi_goto (t := 21) hm190 rfl rfl ?_
      exact wi_iret hm190 rfl h
  · replace h := h.2 hc
    refine wi_iconst (pc' := 7) (v := 0) hm190 rfl rfl rfl ?_
    refine wi_goto (t := 21) hm190 rfl rfl ?_
    exact wi_iret hm190 rfl h
theorem hm191 : fx_code 191 = fx_c191 := rfl
theorem t191_0 {o0 x1 : Int} {σ : fx_S} {Q : fx_V → fx_S → Prop} (h : (((σ 46 o0 15) ≤ 0 → (0 ≤ (σ 46 o0 15) ∧ (σ 46 o0 15) < 40) ∧ (fx_rg ((σ 46 o0 15) + 1)) ∧ Q (4, 0) (fx_up (fx_up σ 53 0 (σ 46 o0 15) x1) 46 o0 15 ((σ 46 o0 15) + 1))) ∧ (0 < (σ 46 o0 15) → (fx_rg ((σ 46 o0 15) - 1)) ∧ (0 ≤ ((σ 46 o0 15) - 1) ∧ ((σ 46 o0 15) - 1) < 40) ∧ fx_CI 190 [(0, (σ 53 0 ((σ 46 o0 15) - 1)))] σ Q (fun y1 σ1 => fx_CI 190 [(0, x1)] σ1 Q (fun y2 σ2 => ((y1 < y2 → (0 ≤ (σ2 46 o0 15) ∧ (σ2 46 o0 15) < 40) ∧ (fx_rg ((σ2 46 o0 15) + 1)) ∧ Q (4, 0) (fx_up (fx_up σ2 53 0 (σ2 46 o0 15) x1) 46 o0 15 ((σ2 46 o0 15) + 1))) ∧ (y2 ≤ y1 → fx_CV 189 [(46, o0)] σ2 Q (fun σ3 => fx_Wp 191 0 [(46, o0), (0, x1)] [] σ3 Q)))))))) : fx_Wp 191 0 [(46, o0), (0, x1)] [] σ Q := by
  refine wi_aload_n (pc' := 1) hm191 rfl rfl rfl (by decide) ?_
  refine wi_getI (pc' := 4) hm191 rfl rfl (P := 15) rfl ?_
  refine wi_if_le (pc' := 7) (t := 35) hm191 rfl rfl rfl (fun hc => ?_) (fun hc => ?_)
  · replace h := h.1 hc
    refine wi_aload_n (pc' := 36) hm191 rfl rfl rfl (by decide) ?_
    refine wi_getR (pc' := 39) (x := 0) hm191 rfl rfl rfl (by omega) ?_
    refine wi_aload_n (pc' := 40) hm191 rfl rfl rfl (by decide) ?_
    refine wi_getI (pc' := 43) hm191 rfl rfl (P := 15) rfl ?_
    refine wi_iload_n (pc' := 44) hm191 rfl rfl rfl ?_
    obtain ⟨g1, h⟩ := h
    refine wi_iastore (pc' := 45) hm191 rfl rfl rfl (N := 40) rfl g1 ?_
    refine wi_aload_n (pc' := 46) hm191 rfl rfl rfl (by decide) ?_
    refine wi_dup (pc' := 47) hm191 rfl rfl rfl ?_
    refine wi_getIe (pc' := 50) hm191 rfl rfl (P := 15) rfl (x := (σ 46 o0 15)) (Eq.trans (fx_upK rfl) rfl) ?_
    refine wi_iconst (pc' := 51) (v := 1) hm191 rfl rfl rfl ?_
    obtain ⟨g2, h⟩ := h
    refine wi_iadd (pc' := 52) hm191 rfl rfl g2 ?_
    refine wi_putI (pc' := 55) hm191 rfl rfl (P := 15) rfl ?_
    exact wi_vret hm191 rfl h
  · replace h := h.2 hc
    refine wi_aload_n (pc' := 8) hm191 rfl rfl rfl (by decide) ?_
    refine wi_getR (pc' := 11) (x := 0) hm191 rfl rfl rfl (by omega) ?_
    refine wi_aload_n (pc' := 12) hm191 rfl rfl rfl (by decide) ?_
    refine wi_getI (pc' := 15) hm191 rfl rfl (P := 15) rfl ?_
    refine wi_iconst (pc' := 16) (v := 1) hm191 rfl rfl rfl ?_
    obtain ⟨g1, h⟩ := h
    refine wi_isub (pc' := 17) hm191 rfl rfl g1 ?_
    obtain ⟨g2, h⟩ := h
    refine wi_iaload (pc' := 18) hm191 rfl rfl rfl rfl (N := 40) rfl g2 ?_
    refine wc_I (pc' := 21) (by decide) rfl (by decide) ((fx_wE hm191 rfl).trans (fx_exS (mj := 190) (as := [(0, (σ 53 0 ((σ 46 o0 15) - 1)))]) (rest := []) rfl rk190 rfl rfl rfl rfl)) h (fun y1 σ1 h => ?_)
    refine wi_iload_n (pc' := 22) hm191 rfl rfl rfl ?_
    refine wc_I (pc' := 25) (by decide) rfl (by decide) ((fx_wE hm191 rfl).trans (fx_exS (mj := 190) (as := [(0, x1)]) (rest := [(0, y1)]) rfl rk190 rfl rfl rfl rfl)) h (fun y2 σ2 h => ?_)
    refine wi_ic_lt (pc' := 28) (t := 35) hm191 rfl rfl rfl (fun hc => ?_) (fun hc => ?_)
    · replace h := h.1 hc
      refine wi_aload_n (pc' := 36) hm191 rfl rfl rfl (by decide) ?_
      refine wi_getR (pc' := 39) (x := 0) hm191 rfl rfl rfl (by omega) ?_
      refine wi_aload_n (pc' := 40) hm191 rfl rfl rfl (by decide) ?_
      refine wi_getI (pc' := 43) hm191 rfl rfl (P := 15) rfl ?_
      refine wi_iload_n (pc' := 44) hm191 rfl rfl rfl ?_
      obtain ⟨g3, h⟩ := h
      refine wi_iastore (pc' := 45) hm191 rfl rfl rfl (N := 40) rfl g3 ?_
      refine wi_aload_n (pc' := 46) hm191 rfl rfl rfl (by decide) ?_
      refine wi_dup (pc' := 47) hm191 rfl rfl rfl ?_
      refine wi_getIe (pc' := 50) hm191 rfl rfl (P := 15) rfl (x := (σ2 46 o0 15)) (Eq.trans (fx_upK rfl) rfl) ?_
      refine wi_iconst (pc' := 51) (v := 1) hm191 rfl rfl rfl ?_
      obtain ⟨g4, h⟩ := h
      refine wi_iadd (pc' := 52) hm191 rfl rfl g4 ?_
      refine wi_putI (pc' := 55) hm191 rfl rfl (P := 15) rfl ?_
      exact wi_vret hm191 rfl h
    · replace h := h.2 hc
      refine wi_aload_n (pc' := 29) hm191 rfl rfl rfl (by decide) ?_
      refine wc_V (pc' := 32) (by decide) rfl (by decide) ((fx_wE hm191 rfl).trans (fx_exV (mj := 189) (as := []) (rest := []) rfl rk189 rfl rfl rfl rfl rfl)) h (fun σ3 h => ?_)
      refine wi_goto (t := 0) hm191 rfl rfl ?_
      exact h
theorem t191_e {o0 x1 : Int} {σ : fx_S} {Q : fx_V → fx_S → Prop} (h : fx_Wp 191 0 [(46, o0), (0, x1)] [] σ Q) : fx_Ca 191 [(46, o0), (0, x1)] σ Q := h
theorem hm192 : fx_code 192 = fx_c192 := rfl
theorem t192_0 {o0 x1 : Int} {σ : fx_S} {Q : fx_V → fx_S → Prop} (h : (((σ 46 o0 18) ≠ 4 → fx_Wp 192 13 [(46, o0), (0, x1)] [] σ Q) ∧ ((σ 46 o0 18) = 4 → fx_CV 182 [(46, o0), (0, x1)] σ Q (fun σ1 => fx_Wp 192 13 [(46, o0), (0, x1)] [] σ1 Q)))) : fx_Ca 192 [(46, o0), (0, x1)] σ Q := by
  show fx_Wp 192 0 [(46, o0), (0, x1)] [] σ Q
  refine wi_aload_n (pc' := 1) hm192 rfl rfl rfl (by decide) ?_
  refine wi_getI (pc' := 4) hm192 rfl rfl (P := 18) rfl ?_
  refine wi_iconst (pc' := 5) (v := 4) hm192 rfl rfl rfl ?_
  refine wi_ic_ne (pc' := 8) (t := 13) hm192 rfl rfl rfl (fun hc => ?_) (fun hc => ?_)
  · replace h := h.1 hc
    exact h
  · replace h := h.2 hc
    refine wi_aload_n (pc' := 9) hm192 rfl rfl rfl (by decide) ?_
    refine wi_iload_n (pc' := 10) hm192 rfl rfl rfl ?_
    refine wc_V (pc' := 13) (by decide) rfl (by decide) ((fx_wE hm192 rfl).trans (fx_exV (mj := 182) (as := [(0, x1)]) (rest := []) rfl rk182 rfl rfl rfl rfl rfl)) h (fun σ1 h => ?_)
    exact h
theorem t192_13 {o0 : Int} {w1 : fx_V} {σ : fx_S} {Q : fx_V → fx_S → Prop} (h : (fx_rg ((σ 46 o0 18) + 1)) ∧ (0 ≤ (σ 46 o0 15) ∧ (σ 46 o0 15) < 40) ∧ (fx_rg ((σ 46 o0 15) + 1)) ∧ Q (4, 0) (fx_up (fx_up (fx_up σ 46 o0 18 ((σ 46 o0 18) + 1)) 53 0 (σ 46 o0 15) 20) 46 o0 15 ((σ 46 o0 15) + 1))) : fx_Wp 192 13 [(46, o0), w1] [] σ Q := by
  refine wi_aload_n (pc' := 14) hm192 rfl rfl rfl (by decide) ?_
  refine wi_dup (pc' := 15) hm192 rfl rfl rfl ?_
  refine wi_getI (pc' := 18) hm192 rfl rfl (P := 18) rfl ?_
  refine wi_iconst (pc' := 19) (v := 1) hm192 rfl rfl rfl ?_
  obtain ⟨g1, h⟩ := h
  refine wi_iadd (pc' := 20) hm192 rfl rfl g1 ?_
  refine wi_putI (pc' := 23) hm192 rfl rfl (P := 18) rfl ?_
  refine wi_aload_n (pc' := 24) hm192 rfl rfl rfl (by decide) ?_
  refine wi_getR (pc' := 27) (x := 0) hm192 rfl rfl rfl (by omega) ?_
  refine wi_aload_n (pc' := 28) hm192 rfl rfl rfl (by decide) ?_
  refine wi_getIe (pc' := 31) hm192 rfl rfl (P := 15) rfl (x := (σ 46 o0 15)) (Eq.trans (fx_upJ (by decide)) rfl) ?_
  refine wi_bipush (pc' := 33) (v := 20) hm192 rfl rfl rfl ?_
  obtain ⟨g2, h⟩ := h
  refine wi_iastore (pc' := 34) hm192 rfl rfl rfl (N := 40) rfl g2 ?_
  refine wi_aload_n (pc' := 35) hm192 rfl rfl rfl (by decide) ?_
  refine wi_dup (pc' := 36) hm192 rfl rfl rfl ?_
  refine wi_getIe (pc' := 39) hm192 rfl rfl (P := 15) rfl (x := (σ 46 o0 15)) (Eq.trans (fx_upK rfl) (Eq.trans (fx_upJ (by decide)) rfl)) ?_
  refine wi_iconst (pc' := 40) (v := 1) hm192 rfl rfl rfl ?_
  obtain ⟨g3, h⟩ := h
  refine wi_iadd (pc' := 41) hm192 rfl rfl g3 ?_
  refine wi_putI (pc' := 44) hm192 rfl rfl (P := 15) rfl ?_
  exact wi_vret hm192 rfl h
theorem hm193 : fx_code 193 = fx_c193 := rfl
theorem t193_0 {o0 x1 : Int} {σ : fx_S} {Q : fx_V → fx_S → Prop} (h : fx_CI 181 [(46, o0)] σ Q (fun y1 σ1 => fx_Wp 193 5 [(46, o0), (0, x1), (0, y1), (3, 0), (3, 0)] [] σ1 Q)) : fx_Ca 193 [(46, o0), (0, x1)] σ Q := by
  show fx_Wp 193 0 [(46, o0), (0, x1), (3, 0), (3, 0), (3, 0)] [] σ Q
  refine wi_aload_n (pc' := 1) hm193 rfl rfl rfl (by decide) ?_
  refine wc_I (pc' := 4) (by decide) rfl (by decide) ((fx_wE hm193 rfl).trans (fx_exV (mj := 181) (as := []) (rest := []) rfl rk181 rfl rfl rfl rfl rfl)) h (fun y1 σ1 h => ?_)
  refine wi_istore_n (pc' := 5) (L' := [(46, o0), (0, x1), (0, y1), (3, 0), (3, 0)]) hm193 rfl rfl rfl ?_
  exact h
theorem t193_5 {o0 x1 x2 : Int} {w3 w4 : fx_V} {σ : fx_S} {Q : fx_V → fx_S → Prop} (h : (((σ 46 o0 12) ≠ (-1) → fx_Wp 193 35 [(46, o0), (0, x1), (0, x2), w3, w4] [] σ Q) ∧ ((σ 46 o0 12) = (-1) → fx_CI 185 [(46, o0), (0, 40)] σ Q (fun y1 σ1 => ((y1 = 0 → fx_Wp 193 35 [(46, o0), (0, x1), (0, x2), w3, w4] [] σ1 Q) ∧ (y1 ≠ 0 → fx_CV 192 [(46, o0), (0, x2)] σ1 Q (fun σ2 => fx_CI 181 [(46, o0)] σ2 Q (fun y2 σ3 => fx_Wp 193 5 [(46, o0), (0, x1), (0, y2), w3, w4] [] σ3 Q)))))))) : fx_Wp 193 5 [(46, o0), (0, x1), (0, x2), w3, w4] [] σ Q := by
  refine wi_aload_n (pc' := 6) hm193 rfl rfl rfl (by decide) ?_
  refine wi_getI (pc' := 9) hm193 rfl rfl (P := 12) rfl ?_
  refine wi_iconst (pc' := 10) (v := (-1)) hm193 rfl rfl rfl ?_
  refine wi_ic_ne (pc' := 13) (t := 35) hm193 rfl rfl rfl (fun hc => ?_) (fun hc => ?_)
  · replace h := h.1 hc
    exact h
  · replace h := h.2 hc
    refine wi_aload_n (pc' := 14) hm193 rfl rfl rfl (by decide) ?_
    refine wi_bipush (pc' := 16) (v := 40) hm193 rfl rfl rfl ?_
    refine wc_I (pc' := 19) (by decide) rfl (by decide) ((fx_wE hm193 rfl).trans (fx_exV (mj := 185) (as := [(0, 40)]) (rest := []) rfl rk185 rfl rfl rfl rfl rfl)) h (fun y1 σ1 h => ?_)
    refine wi_if_eq (pc' := 22) (t := 35) hm193 rfl rfl rfl (fun hc => ?_) (fun hc => ?_)
    · replace h := h.1 hc
      exact h
    · replace h := h.2 hc
      refine wi_aload_n (pc' := 23) hm193 rfl rfl rfl (by decide) ?_
      refine wi_iload_n (pc' := 24) hm193 rfl rfl rfl ?_
      refine wc_V (pc' := 27) (by decide) rfl (by decide) ((fx_wE hm193 rfl).trans (fx_exV (mj := 192) (as := [(0, x2)]) (rest := []) rfl rk192 rfl rfl rfl rfl rfl)) h (fun σ2 h => ?_)
      refine wi_aload_n (pc' := 28) hm193 rfl rfl rfl (by decide) ?_
      refine wc_I (pc' := 31) (by decide) rfl (by decide) ((fx_wE hm193 rfl).trans (fx_exV (mj := 181) (as := []) (rest := []) rfl rk181 rfl rfl rfl rfl rfl)) h (fun y2 σ3 h => ?_)
      refine wi_istore_n (pc' := 32) (L' := [(46, o0), (0, x1), (0, y2), w3, w4]) hm193 rfl rfl rfl ?_
      refine wi_goto (t := 5) hm193 rfl rfl ?_
      exact h
theorem t193_35 {o0 x1 x2 : Int} {w3 w4 : fx_V} {σ : fx_S} {Q : fx_V → fx_S → Prop} (h : (((σ 46 o0 12) ≠ (-1) → fx_Wp 193 56 [(46, o0), (0, x1), (0, x2), w3, w4] [] σ Q) ∧ ((σ 46 o0 12) = (-1) → fx_CI 183 [(46, o0), (62, 8)] σ Q (fun y1 σ1 => ((y1 = 0 → fx_Wp 193 56 [(46, o0), (0, x1), (0, x2), w3, w4] [] σ1 Q) ∧ (y1 ≠ 0 → (((σ1 46 o0 12) ≠ (-1) → fx_Wp 193 85 [(46, o0), (0, x1), (0, x2), (0, 1), w4] [] σ1 Q) ∧ ((σ1 46 o0 12) = (-1) → fx_Wp 193 85 [(46, o0), (0, x1), (0, x2), (0, 1), w4] [] σ1 Q)))))))) : fx_Wp 193 35 [(46, o0), (0, x1), (0, x2), w3, w4] [] σ Q := by
  refine wi_aload_n (pc' := 36) hm193 rfl rfl rfl (by decide) ?_
  refine wi_getI (pc' := 39) hm193 rfl rfl (P := 12) rfl ?_
  refine wi_iconst (pc' := 40) (v := (-1)) hm193 rfl rfl rfl ?_
  refine wi_ic_ne (pc' := 43) (t := 56) hm193 rfl rfl rfl (fun hc => ?_) (fun hc => ?_)
  · replace h := h.1 hc
    exact h
  · replace h := h.2 hc
    refine wi_aload_n (pc' := 44) hm193 rfl rfl rfl (by decide) ?_
    refine wi_ldc (pc' := 46) (v := 8) hm193 rfl rfl rfl rfl ?_
    refine wc_I (pc' := 49) (by decide) rfl (by decide) ((fx_wE hm193 rfl).trans (fx_exV (mj := 183) (as := [(62, 8)]) (rest := []) rfl rk183 rfl rfl rfl rfl rfl)) h (fun y1 σ1 h => ?_)
    refine wi_if_eq (pc' := 52) (t := 56) hm193 rfl rfl rfl (fun hc => ?_) (fun hc => ?_)
    · replace h := h.1 hc
      exact h
    · replace h := h.2 hc
      refine wi_iconst (pc' := 53) (v := 1) hm193 rfl rfl rfl ?_
      refine wi_goto (t := 57) hm193 rfl rfl ?_
      refine wi_istore_n (pc' := 58) (L' := [(46, o0), (0, x1), (0, x2), (0, 1), w4]) hm193 rfl rfl rfl ?_
      refine wi_aload_n (pc' := 59) hm193 rfl rfl rfl (by decide) ?_
      refine wi_getI (pc' := 62) hm193 rfl rfl (P := 12) rfl ?_
      refine wi_iconst (pc' := 63) (v := (-1)) hm193 rfl rfl rfl ?_
      refine wi_ic_ne (pc' := 66) (t := 85) hm193 rfl rfl rfl (fun hc => ?_) (fun hc => ?_)
      · replace h := h.1 hc
        exact h
      · replace h := h.2 hc
        refine wi_iload_n (pc' := 67) hm193 rfl rfl rfl ?_
        refine wi_if_ne (pc' := 70) (t := 85) hm193 rfl rfl rfl (fun _ => ?_) (fun hc => absurd hc (by decide))
        exact h
theorem t193_56 {o0 x1 x2 : Int} {w3 w4 : fx_V} {σ : fx_S} {Q : fx_V → fx_S → Prop} (h : (((σ 46 o0 12) ≠ (-1) → fx_Wp 193 85 [(46, o0), (0, x1), (0, x2), (0, 0), w4] [] σ Q) ∧ ((σ 46 o0 12) = (-1) → fx_CI 186 [(46, o0)] σ Q (fun y1 σ1 => ((y1 ≠ 0 → fx_Wp 193 85 [(46, o0), (0, x1), (0, x2), (0, 0), w4] [] σ1 Q) ∧ (y1 = 0 → fx_CV 182 [(46, o0), (0, (σ1 46 o0 11))] σ1 Q (fun σ2 => fx_Wp 193 85 [(46, o0), (0, x1), (0, x2), (0, 0), w4] [] σ2 Q))))))) : fx_Wp 193 56 [(46, o0), (0, x1), (0, x2), w3, w4] [] σ Q := by
  refine wi_iconst (pc' := 57) (v := 0) hm193 rfl rfl rfl ?_
  refine wi_istore_n (pc' := 58) (L' := [(46, o0), (0, x1), (0, x2), (0, 0), w4]) hm193 rfl rfl rfl ?_
  refine wi_aload_n (pc' := 59) hm193 rfl rfl rfl (by decide) ?_
  refine wi_getI (pc' := 62) hm193 rfl rfl (P := 12) rfl ?_
  refine wi_iconst (pc' := 63) (v := (-1)) hm193 rfl rfl rfl ?_
  refine wi_ic_ne (pc' := 66) (t := 85) hm193 rfl rfl rfl (fun hc => ?_) (fun hc => ?_)
  · replace h := h.1 hc
    exact h
  · replace h := h.2 hc
    refine wi_iload_n (pc' := 67) hm193 rfl rfl rfl ?_
    refine wi_if_ne (pc' := 70) (t := 85) hm193 rfl rfl rfl (fun hc => absurd hc (by decide)) (fun _ => ?_)
    refine wi_aload_n (pc' := 71) hm193 rfl rfl rfl (by decide) ?_
    refine wc_I (pc' := 74) (by decide) rfl (by decide) ((fx_wE hm193 rfl).trans (fx_exV (mj := 186) (as := []) (rest := []) rfl rk186 rfl rfl rfl rfl rfl)) h (fun y1 σ1 h => ?_)
    refine wi_if_ne (pc' := 77) (t := 85) hm193 rfl rfl rfl (fun hc => ?_) (fun hc => ?_)
    · replace h := h.1 hc
      exact h
    · replace h := h.2 hc
      refine wi_aload_n (pc' := 78) hm193 rfl rfl rfl (by decide) ?_
      refine wi_aload_n (pc' := 79) hm193 rfl rfl rfl (by decide) ?_
      refine wi_getI (pc' := 82) hm193 rfl rfl (P := 11) rfl ?_
      refine wc_V (pc' := 85) (by decide) rfl (by decide) ((fx_wE hm193 rfl).trans (fx_exV (mj := 182) (as := [(0, (σ1 46 o0 11))]) (rest := []) rfl rk182 rfl rfl rfl rfl rfl)) h (fun σ2 h => ?_)
      exact h
theorem t193_85 {o0 x1 x2 x3 : Int} {w4 : fx_V} {σ : fx_S} {Q : fx_V → fx_S → Prop} (h : (((σ 46 o0 12) ≠ (-1) → fx_Wp 193 109 [(46, o0), (0, x1), (0, x2), (0, x3), w4] [] σ Q) ∧ ((σ 46 o0 12) = (-1) → (((σ 52 0 1) ≠ 12 → fx_Wp 193 109 [(46, o0), (0, x1), (0, x2), (0, x3), w4] [] σ Q) ∧ ((σ 52 0 1) = 12 → fx_CV 182 [(46, o0), (0, x2)] σ Q (fun σ1 => fx_Wp 193 109 [(46, o0), (0, x1), (0, x2), (0, x3), w4] [] σ1 Q)))))) : fx_Wp 193 85 [(46, o0), (0, x1), (0, x2), (0, x3), w4] [] σ Q := by
  refine wi_aload_n (pc' := 86) hm193 rfl rfl rfl (by decide) ?_
  refine wi_getI (pc' := 89) hm193 rfl rfl (P := 12) rfl ?_
  refine wi_iconst (pc' := 90) (v := (-1)) hm193 rfl rfl rfl ?_
  refine wi_ic_ne (pc' := 93) (t := 109) hm193 rfl rfl rfl (fun hc => ?_) (fun hc => ?_)
  · replace h := h.1 hc
    exact h
  · replace h := h.2 hc
    refine wi_aload_n (pc' := 94) hm193 rfl rfl rfl (by decide) ?_
    refine wi_getR (pc' := 97) (x := 0) hm193 rfl rfl rfl (by omega) ?_
    refine wi_iconst (pc' := 98) (v := 1) hm193 rfl rfl rfl ?_
    refine wi_iaload (pc' := 99) hm193 rfl rfl rfl rfl (N := 94) rfl (by decide) ?_
    refine wi_bipush (pc' := 101) (v := 12) hm193 rfl rfl rfl ?_
    refine wi_ic_ne (pc' := 104) (t := 109) hm193 rfl rfl rfl (fun hc => ?_) (fun hc => ?_)
    · replace h := h.1 hc
      exact h
    · replace h := h.2 hc
      refine wi_aload_n (pc' := 105) hm193 rfl rfl rfl (by decide) ?_
      refine wi_iload_n (pc' := 106) hm193 rfl rfl rfl ?_
      refine wc_V (pc' := 109) (by decide) rfl (by decide) ((fx_wE hm193 rfl).trans (fx_exV (mj := 182) (as := [(0, x2)]) (rest := []) rfl rk182 rfl rfl rfl rfl rfl)) h (fun σ1 h => ?_)
      exact h
theorem t193_109 {o0 x1 x3 : Int} {w2 w4 : fx_V} {σ : fx_S} {Q : fx_V → fx_S → Prop} (h : ((x3 = 0 → fx_CI 187 [(46, o0), (0, 0), (0, 99)] σ Q (fun y1 σ1 => (((σ1 46 o0 12) = (-1) → (fx_rg ((σ1 52 0 1) + 1)) ∧ ((x3 = 0 → fx_CV 188 [(46, o0), (0, 1), (0, y1), (0, 0), (0, 0)] (fx_up σ1 52 0 1 ((σ1 52 0 1) + 1)) Q (fun σ2 => Q (4, 0) σ2)) ∧ (x3 ≠ 0 → fx_CV 188 [(46, o0), (0, 0), (0, y1), (0, 0), (0, 0)] (fx_up σ1 52 0 1 ((σ1 52 0 1) + 1)) Q (fun σ3 => Q (4, 0) σ3)))) ∧ ((σ1 46 o0 12) ≠ (-1) → Q (4, 0) σ1)))) ∧ (x3 ≠ 0 → (fx_rg (x1 - 1)) ∧ fx_CI 187 [(46, o0), (0, 0), (0, (x1 - 1))] σ Q (fun y2 σ4 => (((σ4 46 o0 12) = (-1) → (fx_rg ((σ4 52 0 1) + 1)) ∧ ((x3 = 0 → fx_CV 188 [(46, o0), (0, 1), (0, y2), (0, 0), (0, 0)] (fx_up σ4 52 0 1 ((σ4 52 0 1) + 1)) Q (fun σ5 => Q (4, 0) σ5)) ∧ (x3 ≠ 0 → fx_CV 188 [(46, o0), (0, 0), (0, y2), (0, 0), (0, 0)] (fx_up σ4 52 0 1 ((σ4 52 0 1) + 1)) Q (fun σ6 => Q (4, 0) σ6)))) ∧ ((σ4 46 o0 12) ≠ (-1) → Q (4, 0) σ4)))))) : fx_Wp 193 109 [(46, o0), (0, x1), w2, (0, x3), w4] [] σ Q := by
  refine wi_aload_n (pc' := 110) hm193 rfl rfl rfl (by decide) ?_
  refine wi_iconst (pc' := 111) (v := 0) hm193 rfl rfl rfl ?_
  refine wi_iload_n (pc' := 112) hm193 rfl rfl rfl ?_
  refine wi_if_eq (pc' := 115) (t := 121) hm193 rfl rfl rfl (fun hc => ?_) (fun hc => ?_)
  · replace h := h.1 hc
    refine wi_bipush (pc' := 123) (v := 99) hm193 rfl rfl rfl ?_
    refine wc_I (pc' := 126) (by decide) rfl (by decide) ((fx_wE hm193 rfl).trans (fx_exV (mj := 187) (as := [(0, 0), (0, 99)]) (rest := []) rfl rk187 rfl rfl rfl rfl rfl)) h (fun y1 σ1 h => ?_)
    refine wi_istore (pc' := 128) (L' := [(46, o0), (0, x1), w2, (0, x3), (0, y1)]) hm193 rfl rfl rfl ?_
    refine wi_aload_n (pc' := 129) hm193 rfl rfl rfl (by decide) ?_
    refine wi_getI (pc' := 132) hm193 rfl rfl (P := 12) rfl ?_
    refine wi_iconst (pc' := 133) (v := (-1)) hm193 rfl rfl rfl ?_
    refine wi_ic_eq (pc' := 136) (t := 137) hm193 rfl rfl rfl (fun hc => ?_) (fun hc => ?_)
    · replace h := h.1 hc
      refine wi_aload_n (pc' := 138) hm193 rfl rfl rfl (by decide) ?_
      refine wi_getR (pc' := 141) (x := 0) hm193 rfl rfl rfl (by omega) ?_
      refine wi_iconst (pc' := 142) (v := 1) hm193 rfl rfl rfl ?_
      refine wi_dup2 (pc' := 143) hm193 rfl rfl rfl ?_
      refine wi_iaload (pc' := 144) hm193 rfl rfl rfl rfl (N := 94) rfl (by decide) ?_
      refine wi_iconst (pc' := 145) (v := 1) hm193 rfl rfl rfl ?_
      obtain ⟨g1, h⟩ := h
      refine wi_iadd (pc' := 146) hm193 rfl rfl g1 ?_
      refine wi_iastore (pc' := 147) hm193 rfl rfl rfl (N := 94) rfl (by decide) ?_
      refine wi_aload_n (pc' := 148) hm193 rfl rfl rfl (by decide) ?_
      refine wi_iload_n (pc' := 149) hm193 rfl rfl rfl ?_
      refine wi_if_eq (pc' := 152) (t := 156) hm193 rfl rfl rfl (fun hc => ?_) (fun hc => ?_)
      · replace h := h.1 hc
        refine wi_iconst (pc' := 157) (v := 1) hm193 rfl rfl rfl ?_
        refine wi_iload (pc' := 159) hm193 rfl rfl rfl ?_
        refine wi_iconst (pc' := 160) (v := 0) hm193 rfl rfl rfl ?_
        refine wi_iconst (pc' := 161) (v := 0) hm193 rfl rfl rfl ?_
        refine wc_V (pc' := 164) (by decide) rfl (by decide) ((fx_wE hm193 rfl).trans (fx_exV (mj := 188) (as := [(0, 1), (0, y1), (0, 0), (0, 0)]) (rest := []) rfl rk188 rfl rfl rfl rfl rfl)) h (fun σ2 h => ?_)
        exact wi_vret hm193 rfl h
      · replace h := h.2 hc
        refine wi_iconst (pc' := 153) (v := 0) hm193 rfl rfl rfl ?_
        refine wi_goto (t := 157) hm193 rfl rfl ?_
        refine wi_iload (pc' := 159) hm193 rfl rfl rfl ?_
        refine wi_iconst (pc' := 160) (v := 0) hm193 rfl rfl rfl ?_
        refine wi_iconst (pc' := 161) (v := 0) hm193 rfl rfl rfl ?_
        refine wc_V (pc' := 164) (by decide) rfl (by decide) ((fx_wE hm193 rfl).trans (fx_exV (mj := 188) (as := [(0, 0), (0, y1), (0, 0), (0, 0)]) (rest := []) rfl rk188 rfl rfl rfl rfl rfl)) h (fun σ3 h => ?_)
        exact wi_vret hm193 rfl h
    · replace h := h.2 hc
      exact wi_vret hm193 rfl h
  · replace h := h.2 hc
    refine wi_iload_n (pc' := 116) hm193 rfl rfl rfl ?_
    refine wi_iconst (pc' := 117) (v := 1) hm193 rfl rfl rfl ?_
    obtain ⟨g1, h⟩ := h
    refine wi_isub (pc' := 118) hm193 rfl rfl g1 ?_
    refine wi_goto (t := 123) hm193 rfl rfl ?_
    refine wc_I (pc' := 126) (by decide) rfl (by decide) ((fx_wE hm193 rfl).trans (fx_exV (mj := 187) (as := [(0, 0), (0, (x1 - 1))]) (rest := []) rfl rk187 rfl rfl rfl rfl rfl)) h (fun y2 σ4 h => ?_)
    refine wi_istore (pc' := 128) (L' := [(46, o0), (0, x1), w2, (0, x3), (0, y2)]) hm193 rfl rfl rfl ?_
    refine wi_aload_n (pc' := 129) hm193 rfl rfl rfl (by decide) ?_
    refine wi_getI (pc' := 132) hm193 rfl rfl (P := 12) rfl ?_
    refine wi_iconst (pc' := 133) (v := (-1)) hm193 rfl rfl rfl ?_
    refine wi_ic_eq (pc' := 136) (t := 137) hm193 rfl rfl rfl (fun hc => ?_) (fun hc => ?_)
    · replace h := h.1 hc
      refine wi_aload_n (pc' := 138) hm193 rfl rfl rfl (by decide) ?_
      refine wi_getR (pc' := 141) (x := 0) hm193 rfl rfl rfl (by omega) ?_
      refine wi_iconst (pc' := 142) (v := 1) hm193 rfl rfl rfl ?_
      refine wi_dup2 (pc' := 143) hm193 rfl rfl rfl ?_
      refine wi_iaload (pc' := 144) hm193 rfl rfl rfl rfl (N := 94) rfl (by decide) ?_
      refine wi_iconst (pc' := 145) (v := 1) hm193 rfl rfl rfl ?_
      obtain ⟨g2, h⟩ := h
      refine wi_iadd (pc' := 146) hm193 rfl rfl g2 ?_
      refine wi_iastore (pc' := 147) hm193 rfl rfl rfl (N := 94) rfl (by decide) ?_
      refine wi_aload_n (pc' := 148) hm193 rfl rfl rfl (by decide) ?_
      refine wi_iload_n (pc' := 149) hm193 rfl rfl rfl ?_
      refine wi_if_eq (pc' := 152) (t := 156) hm193 rfl rfl rfl (fun hc => ?_) (fun hc => ?_)
      · replace h := h.1 hc
        refine wi_iconst (pc' := 157) (v := 1) hm193 rfl rfl rfl ?_
        refine wi_iload (pc' := 159) hm193 rfl rfl rfl ?_
        refine wi_iconst (pc' := 160) (v := 0) hm193 rfl rfl rfl ?_
        refine wi_iconst (pc' := 161) (v := 0) hm193 rfl rfl rfl ?_
        refine wc_V (pc' := 164) (by decide) rfl (by decide) ((fx_wE hm193 rfl).trans (fx_exV (mj := 188) (as := [(0, 1), (0, y2), (0, 0), (0, 0)]) (rest := []) rfl rk188 rfl rfl rfl rfl rfl)) h (fun σ5 h => ?_)
        exact wi_vret hm193 rfl h
      · replace h := h.2 hc
        refine wi_iconst (pc' := 153) (v := 0) hm193 rfl rfl rfl ?_
        refine wi_goto (t := 157) hm193 rfl rfl ?_
        refine wi_iload (pc' := 159) hm193 rfl rfl rfl ?_
        refine wi_iconst (pc' := 160) (v := 0) hm193 rfl rfl rfl ?_
        refine wi_iconst (pc' := 161) (v := 0) hm193 rfl rfl rfl ?_
        refine wc_V (pc' := 164) (by decide) rfl (by decide) ((fx_wE hm193 rfl).trans (fx_exV (mj := 188) (as := [(0, 0), (0, y2), (0, 0), (0, 0)]) (rest := []) rfl rk188 rfl rfl rfl rfl rfl)) h (fun σ6 h => ?_)
        exact wi_vret hm193 rfl h
    · replace h := h.2 hc
      exact wi_vret hm193 rfl h
theorem hm194 : fx_code 194 = fx_c194 := rfl
theorem t194_0 {o0 : Int} {σ : fx_S} {Q : fx_V → fx_S → Prop} (h : fx_CI 185 [(46, o0), (0, 43)] σ Q (fun y1 σ1 => ((y1 = 0 → fx_CI 185 [(46, o0), (0, 45)] σ1 Q (fun y2 σ2 => ((y2 = 0 → fx_CI 183 [(46, o0), (62, 9)] σ2 Q (fun y3 σ3 => ((y3 = 0 → fx_CI 183 [(46, o0), (62, 10)] σ3 Q (fun y4 σ4 => ((y4 = 0 → fx_CI 183 [(46, o0), (62, 11)] σ4 Q (fun y5 σ5 => ((y5 = 0 → fx_CI 183 [(46, o0), (62, 12)] σ5 Q (fun y6 σ6 => ((y6 = 0 → fx_CI 183 [(46, o0), (62, 13)] σ6 Q (fun y7 σ7 => ((y7 = 0 → Q (0, (-1)) σ7) ∧ (y7 ≠ 0 → Q (0, 8) σ7)))) ∧ (y6 ≠ 0 → Q (0, 7) σ6)))) ∧ (y5 ≠ 0 → Q (0, 6) σ5)))) ∧ (y4 ≠ 0 → Q (0, 5) σ4)))) ∧ (y3 ≠ 0 → Q (0, 4) σ3)))) ∧ (y2 ≠ 0 → Q (0, 3) σ2)))) ∧ (y1 ≠ 0 → Q (0, 2) σ1)))) : fx_Ca 194 [(46, o0)] σ Q := by
  show fx_Wp 194 0 [(46, o0)] [] σ Q
  refine wi_aload_n (pc' := 1) hm194 rfl rfl rfl (by decide) ?_
  refine wi_bipush (pc' := 3) (v := 43) hm194 rfl rfl rfl ?_
  refine wc_I (pc' := 6) (by decide) rfl (by decide) ((fx_wE hm194 rfl).trans (fx_exV (mj := 185) (as := [(0, 43)]) (rest := []) rfl rk185 rfl rfl rfl rfl rfl)) h (fun y1 σ1 h => ?_)
  refine wi_if_eq (pc' := 9) (t := 11) hm194 rfl rfl rfl (fun hc => ?_) (fun hc => ?_)
  · replace h := h.1 hc
    refine wi_aload_n (pc' := 12) hm194 rfl rfl rfl (by decide) ?_
    refine wi_bipush (pc' := 14) (v := 45) hm194 rfl rfl rfl ?_
    refine wc_I (pc' := 17) (by decide) rfl (by decide) ((fx_wE hm194 rfl).trans (fx_exV (mj := 185) (as := [(0, 45)]) (rest := []) rfl rk185 rfl rfl rfl rfl rfl)) h (fun y2 σ2 h => ?_)
    refine wi_if_eq (pc' := 20) (t := 22) hm194 rfl rfl rfl (fun hc => ?_) (fun hc => ?_)
    · replace h := h.1 hc
      refine wi_aload_n (pc' := 23) hm194 rfl rfl rfl (by decide) ?_
      refine wi_ldc (pc' := 25) (v := 9) hm194 rfl rfl rfl rfl ?_
      refine wc_I (pc' := 28) (by decide) rfl (by decide) ((fx_wE hm194 rfl).trans (fx_exV (mj := 183) (as := [(62, 9)]) (rest := []) rfl rk183 rfl rfl rfl rfl rfl)) h (fun y3 σ3 h => ?_)
      refine wi_if_eq (pc' := 31) (t := 33) hm194 rfl rfl rfl (fun hc => ?_) (fun hc => ?_)
      · replace h := h.1 hc
        refine wi_aload_n (pc' := 34) hm194 rfl rfl rfl (by decide) ?_
        refine wi_ldc (pc' := 36) (v := 10) hm194 rfl rfl rfl rfl ?_
        refine wc_I (pc' := 39) (by decide) rfl (by decide) ((fx_wE hm194 rfl).trans (fx_exV (mj := 183) (as := [(62, 10)]) (rest := []) rfl rk183 rfl rfl rfl rfl rfl)) h (fun y4 σ4 h => ?_)
        refine wi_if_eq (pc' := 42) (t := 44) hm194 rfl rfl rfl (fun hc => ?_) (fun hc => ?_)
        · replace h := h.1 hc
          refine wi_aload_n (pc' := 45) hm194 rfl rfl rfl (by decide) ?_
          refine wi_ldc (pc' := 47) (v := 11) hm194 rfl rfl rfl rfl ?_
          refine wc_I (pc' := 50) (by decide) rfl (by decide) ((fx_wE hm194 rfl).trans (fx_exV (mj := 183) (as := [(62, 11)]) (rest := []) rfl rk183 rfl rfl rfl rfl rfl)) h (fun y5 σ5 h => ?_)
          refine wi_if_eq (pc' := 53) (t := 56) hm194 rfl rfl rfl (fun hc => ?_) (fun hc => ?_)
          · replace h := h.1 hc
            refine wi_aload_n (pc' := 57) hm194 rfl rfl rfl (by decide) ?_
            refine wi_ldc (pc' := 59) (v := 12) hm194 rfl rfl rfl rfl ?_
            refine wc_I (pc' := 62) (by decide) rfl (by decide) ((fx_wE hm194 rfl).trans (fx_exV (mj := 183) (as := [(62, 12)]) (rest := []) rfl rk183 rfl rfl rfl rfl rfl)) h (fun y6 σ6 h => ?_)
            refine wi_if_eq (pc' := 65) (t := 68) hm194 rfl rfl rfl (fun hc => ?_) (fun hc => ?_)
            · replace h := h.1 hc
              refine wi_aload_n (pc' := 69) hm194 rfl rfl rfl (by decide) ?_
              refine wi_ldc (pc' := 71) (v := 13) hm194 rfl rfl rfl rfl ?_
              refine wc_I (pc' := 74) (by decide) rfl (by decide) ((fx_wE hm194 rfl).trans (fx_exV (mj := 183) (as := [(62, 13)]) (rest := []) rfl rk183 rfl rfl rfl rfl rfl)) h (fun y7 σ7 h => ?_)
              refine wi_if_eq (pc' := 77) (t := 82) hm194 rfl rfl rfl (fun hc => ?_) (fun hc => ?_)
              · replace h := h.1 hc
                refine wi_iconst (pc' := 83) (v := (-1)) hm194 rfl rfl rfl ?_
                exact wi_iret hm194 rfl h
              · replace h := h.2 hc
                refine wi_bipush (pc' := 79) (v := 8) hm194 rfl rfl rfl ?_
                refine wi_goto (t := 83) hm194 rfl rfl ?_
                exact wi_iret hm194 rfl h
            · replace h := h.2 hc
              refine wi_bipush (pc' := 67) (v := 7) hm194 rfl rfl rfl ?_
              exact wi_iret hm194 rfl h
          · replace h := h.2 hc
            refine wi_bipush (pc' := 55) (v := 6) hm194 rfl rfl rfl ?_
            exact wi_iret hm194 rfl h
        · replace h := h.2 hc
          refine wi_iconst (pc' := 43) (v := 5) hm194 rfl rfl rfl ?_
          exact wi_iret hm194 rfl h
      · replace h := h.2 hc
        refine wi_iconst (pc' := 32) (v := 4) hm194 rfl rfl rfl ?_
        exact wi_iret hm194 rfl h
    · replace h := h.2 hc
      refine wi_iconst (pc' := 21) (v := 3) hm194 rfl rfl rfl ?_
      exact wi_iret hm194 rfl h
  · replace h := h.2 hc
    refine wi_iconst (pc' := 10) (v := 2) hm194 rfl rfl rfl ?_
    exact wi_iret hm194 rfl h
theorem hm195 : fx_code 195 = fx_c195 := rfl
theorem t195_0 {o0 : Int} {σ : fx_S} {Q : fx_V → fx_S → Prop} (h : (((σ 46 o0 18) ≤ 0 → Q (4, 0) σ) ∧ (0 < (σ 46 o0 18) → fx_CI 185 [(46, o0), (0, 41)] σ Q (fun y1 σ1 => ((y1 = 0 → Q (4, 0) σ1) ∧ (y1 ≠ 0 → fx_Wp 195 16 [(46, o0)] [] σ1 Q)))))) : fx_Wp 195 0 [(46, o0)] [] σ Q := by
  refine wi_aload_n (pc' := 1) hm195 rfl rfl rfl (by decide) ?_
  refine wi_getI (pc' := 4) hm195 rfl rfl (P := 18) rfl ?_
  refine wi_if_le (pc' := 7) (t := 62) hm195 rfl rfl rfl (fun hc => ?_) (fun hc => ?_)
  · replace h := h.1 hc
    exact wi_vret hm195 rfl h
  · replace h := h.2 hc
    refine wi_aload_n (pc' := 8) hm195 rfl rfl rfl (by decide) ?_
    refine wi_bipush (pc' := 10) (v := 41) hm195 rfl rfl rfl ?_
    refine wc_I (pc' := 13) (by decide) rfl (by decide) ((fx_wE hm195 rfl).trans (fx_exV (mj := 185) (as := [(0, 41)]) (rest := []) rfl rk185 rfl rfl rfl rfl rfl)) h (fun y1 σ1 h => ?_)
    refine wi_if_eq (pc' := 16) (t := 62) hm195 rfl rfl rfl (fun hc => ?_) (fun hc => ?_)
    · replace h := h.1 hc
      exact wi_vret hm195 rfl h
    · replace h := h.2 hc
      exact h
theorem t195_e {o0 : Int} {σ : fx_S} {Q : fx_V → fx_S → Prop} (h : fx_Wp 195 0 [(46, o0)] [] σ Q) : fx_Ca 195 [(46, o0)] σ Q := h
theorem t195_16 {o0 : Int} {σ : fx_S} {Q : fx_V → fx_S → Prop} (h : (fx_rg ((σ 46 o0 15) - 1)) ∧ (0 ≤ ((σ 46 o0 15) - 1) ∧ ((σ 46 o0 15) - 1) < 40) ∧ (((σ 53 0 ((σ 46 o0 15) - 1)) = 20 → (fx_rg ((σ 46 o0 18) - 1)) ∧ fx_Wp 195 0 [(46, o0)] [] (fx_up (fx_up σ 46 o0 15 ((σ 46 o0 15) - 1)) 46 o0 18 ((σ 46 o0 18) - 1)) Q) ∧ ((σ 53 0 ((σ 46 o0 15) - 1)) ≠ 20 → fx_CV 189 [(46, o0)] σ Q (fun σ1 => fx_Wp 195 16 [(46, o0)] [] σ1 Q)))) : fx_Wp 195 16 [(46, o0)] [] σ Q := by
  refine wi_aload_n (pc' := 17) hm195 rfl rfl rfl (by decide) ?_
  refine wi_getR (pc' := 20) (x := 0) hm195 rfl rfl rfl (by omega) ?_
  refine wi_aload_n (pc' := 21) hm195 rfl rfl rfl (by decide) ?_
  refine wi_getI (pc' := 24) hm195 rfl rfl (P := 15) rfl ?_
  refine wi_iconst (pc' := 25) (v := 1) hm195 rfl rfl rfl ?_
  obtain ⟨g1, h⟩ := h
  refine wi_isub (pc' := 26) hm195 rfl rfl g1 ?_
  obtain ⟨g2, h⟩ := h
  refine wi_iaload (pc' := 27) hm195 rfl rfl rfl rfl (N := 40) rfl g2 ?_
  refine wi_bipush (pc' := 29) (v := 20) hm195 rfl rfl rfl ?_
  refine wi_ic_eq (pc' := 32) (t := 39) hm195 rfl rfl rfl (fun hc => ?_) (fun hc => ?_)
  · replace h := h.1 hc
    refine wi_aload_n (pc' := 40) hm195 rfl rfl rfl (by decide) ?_
    refine wi_dup (pc' := 41) hm195 rfl rfl rfl ?_
    refine wi_getI (pc' := 44) hm195 rfl rfl (P := 15) rfl ?_
    refine wi_iconst (pc' := 45) (v := 1) hm195 rfl rfl rfl ?_
    refine wi_isub (pc' := 46) hm195 rfl rfl g1 ?_
    refine wi_putI (pc' := 49) hm195 rfl rfl (P := 15) rfl ?_
    refine wi_aload_n (pc' := 50) hm195 rfl rfl rfl (by decide) ?_
    refine wi_dup (pc' := 51) hm195 rfl rfl rfl ?_
    refine wi_getIe (pc' := 54) hm195 rfl rfl (P := 18) rfl (x := (σ 46 o0 18)) (Eq.trans (fx_upJ (by decide)) rfl) ?_
    refine wi_iconst (pc' := 55) (v := 1) hm195 rfl rfl rfl ?_
    obtain ⟨g3, h⟩ := h
    refine wi_isub (pc' := 56) hm195 rfl rfl g3 ?_
    refine wi_putI (pc' := 59) hm195 rfl rfl (P := 18) rfl ?_
    refine wi_goto (t := 0) hm195 rfl rfl ?_
    exact h
  · replace h := h.2 hc
    refine wi_aload_n (pc' := 33) hm195 rfl rfl rfl (by decide) ?_
    refine wc_V (pc' := 36) (by decide) rfl (by decide) ((fx_wE hm195 rfl).trans (fx_exV (mj := 189) (as := []) (rest := []) rfl rk189 rfl rfl rfl rfl rfl)) h (fun σ1 h => ?_)
    refine wi_goto (t := 16) hm195 rfl rfl ?_
    exact h
