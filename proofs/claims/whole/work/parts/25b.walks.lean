theorem hm41 : fx_code 41 = fx_c41 := rfl
theorem t41_0 {o0 x1 x2 x3 : Int} {σ : fx_S} {Q : fx_V → fx_S → Prop} (h : fx_Wp 41 6 [(11, o0), (0, x1), (0, x2), (0, x3), (0, (-1)), (0, 0)] [] σ Q) : fx_Ca 41 [(11, o0), (0, x1), (0, x2), (0, x3)] σ Q := by
  show fx_Wp 41 0 [(11, o0), (0, x1), (0, x2), (0, x3), (3, 0), (3, 0)] [] σ Q
  refine wi_iconst (pc' := 1) (v := (-1)) hm41 rfl rfl rfl ?_
  refine wi_istore (pc' := 3) (L' := [(11, o0), (0, x1), (0, x2), (0, x3), (0, (-1)), (3, 0)]) hm41 rfl rfl rfl ?_
  refine wi_iconst (pc' := 4) (v := 0) hm41 rfl rfl rfl ?_
  refine wi_istore (pc' := 6) (L' := [(11, o0), (0, x1), (0, x2), (0, x3), (0, (-1)), (0, 0)]) hm41 rfl rfl rfl ?_
  exact h
theorem t41_6 {o0 x1 x2 x3 x4 x5 : Int} {σ : fx_S} {Q : fx_V → fx_S → Prop} (h : (((σ 11 o0 10) ≤ x5 → Q (0, x4) σ) ∧ (x5 < (σ 11 o0 10) → (0 ≤ x5 ∧ x5 < 60) ∧ (((σ 16 o0 x5) ≠ x1 → (fx_rg (x5 + 1)) ∧ fx_Wp 41 6 [(11, o0), (0, x1), (0, x2), (0, x3), (0, x4), (0, (x5 + 1))] [] σ Q) ∧ ((σ 16 o0 x5) = x1 → fx_CI 36 [(11, o0), (0, x5), (0, x2), (0, x3)] σ Q (fun y1 σ1 => ((y1 = 0 → (fx_rg (x5 + 1)) ∧ fx_Wp 41 6 [(11, o0), (0, x1), (0, x2), (0, x3), (0, x4), (0, (x5 + 1))] [] σ1 Q) ∧ (y1 ≠ 0 → ((x4 = (-1) → (fx_rg (x5 + 1)) ∧ fx_Wp 41 6 [(11, o0), (0, x1), (0, x2), (0, x3), (0, x5), (0, (x5 + 1))] [] σ1 Q) ∧ (x4 ≠ (-1) → fx_CI 37 [(11, o0), (0, x5), (0, x4)] σ1 Q (fun y2 σ2 => ((y2 = 0 → (fx_rg (x5 + 1)) ∧ fx_Wp 41 6 [(11, o0), (0, x1), (0, x2), (0, x3), (0, x4), (0, (x5 + 1))] [] σ2 Q) ∧ (y2 ≠ 0 → (fx_rg (x5 + 1)) ∧ fx_Wp 41 6 [(11, o0), (0, x1), (0, x2), (0, x3), (0, x5), (0, (x5 + 1))] [] σ2 Q))))))))))))) : fx_Wp 41 6 [(11, o0), (0, x1), (0, x2), (0, x3), (0, x4), (0, x5)] [] σ Q := by
  refine wi_iload (pc' := 8) hm41 rfl rfl rfl ?_
  refine wi_aload_n (pc' := 9) hm41 rfl rfl rfl (by decide) ?_
  refine wi_getI (pc' := 12) hm41 rfl rfl (P := 10) rfl ?_
  refine wi_ic_ge (pc' := 15) (t := 64) hm41 rfl rfl rfl (fun hc => ?_) (fun hc => ?_)
  · replace h := h.1 hc
    refine wi_iload (pc' := 66) hm41 rfl rfl rfl ?_
    exact wi_iret hm41 rfl h
  · replace h := h.2 hc
    refine wi_aload_n (pc' := 16) hm41 rfl rfl rfl (by decide) ?_
    refine wi_getR (pc' := 19) (x := o0) hm41 rfl rfl rfl (by omega) ?_
    refine wi_iload (pc' := 21) hm41 rfl rfl rfl ?_
    obtain ⟨g1, h⟩ := h
    refine wi_iaload (pc' := 22) hm41 rfl rfl rfl rfl (N := 60) rfl g1 ?_
    refine wi_iload_n (pc' := 23) hm41 rfl rfl rfl ?_
    refine wi_ic_ne (pc' := 26) (t := 58) hm41 rfl rfl rfl (fun hc => ?_) (fun hc => ?_)
    · replace h := h.1 hc
      obtain ⟨g2, h⟩ := h
      refine wi_iinc (pc' := 61) (L' := [(11, o0), (0, x1), (0, x2), (0, x3), (0, x4), (0, (x5 + 1))]) hm41 rfl rfl rfl g2 rfl ?_
      refine wi_goto (t := 6) hm41 rfl rfl ?_
      exact h
    · replace h := h.2 hc
      refine wi_aload_n (pc' := 27) hm41 rfl rfl rfl (by decide) ?_
      refine wi_iload (pc' := 29) hm41 rfl rfl rfl ?_
      refine wi_iload_n (pc' := 30) hm41 rfl rfl rfl ?_
      refine wi_iload_n (pc' := 31) hm41 rfl rfl rfl ?_
      refine wc_I (pc' := 34) (by decide) rfl (by decide) ((fx_wE hm41 rfl).trans (fx_exV (mj := 36) (as := [(0, x5), (0, x2), (0, x3)]) (rest := []) rfl rk36 rfl rfl rfl rfl rfl)) h (fun y1 σ1 h => ?_)
      refine wi_if_eq (pc' := 37) (t := 58) hm41 rfl rfl rfl (fun hc => ?_) (fun hc => ?_)
      · replace h := h.1 hc
        obtain ⟨g2, h⟩ := h
        refine wi_iinc (pc' := 61) (L' := [(11, o0), (0, x1), (0, x2), (0, x3), (0, x4), (0, (x5 + 1))]) hm41 rfl rfl rfl g2 rfl ?_
        refine wi_goto (t := 6) hm41 rfl rfl ?_
        exact h
      · replace h := h.2 hc
        refine wi_iload (pc' := 39) hm41 rfl rfl rfl ?_
        refine wi_iconst (pc' := 40) (v := (-1)) hm41 rfl rfl rfl ?_
        refine wi_ic_eq (pc' := 43) (t := 54) hm41 rfl rfl rfl (fun hc => ?_) (fun hc => ?_)
        · replace h := h.1 hc
          refine wi_iload (pc' := 56) hm41 rfl rfl rfl ?_
          refine wi_istore (pc' := 58) (L' := [(11, o0), (0, x1), (0, x2), (0, x3), (0, x5), (0, x5)]) hm41 rfl rfl rfl ?_
          obtain ⟨g2, h⟩ := h
          refine wi_iinc (pc' := 61) (L' := [(11, o0), (0, x1), (0, x2), (0, x3), (0, x5), (0, (x5 + 1))]) hm41 rfl rfl rfl g2 rfl ?_
          refine wi_goto (t := 6) hm41 rfl rfl ?_
          exact h
        · replace h := h.2 hc
          refine wi_aload_n (pc' := 44) hm41 rfl rfl rfl (by decide) ?_
          refine wi_iload (pc' := 46) hm41 rfl rfl rfl ?_
          refine wi_iload (pc' := 48) hm41 rfl rfl rfl ?_
          refine wc_I (pc' := 51) (by decide) rfl (by decide) ((fx_wE hm41 rfl).trans (fx_exV (mj := 37) (as := [(0, x5), (0, x4)]) (rest := []) rfl rk37 rfl rfl rfl rfl rfl)) h (fun y2 σ2 h => ?_)
          refine wi_if_eq (pc' := 54) (t := 58) hm41 rfl rfl rfl (fun hc => ?_) (fun hc => ?_)
          · replace h := h.1 hc
            obtain ⟨g2, h⟩ := h
            refine wi_iinc (pc' := 61) (L' := [(11, o0), (0, x1), (0, x2), (0, x3), (0, x4), (0, (x5 + 1))]) hm41 rfl rfl rfl g2 rfl ?_
            refine wi_goto (t := 6) hm41 rfl rfl ?_
            exact h
          · replace h := h.2 hc
            refine wi_iload (pc' := 56) hm41 rfl rfl rfl ?_
            refine wi_istore (pc' := 58) (L' := [(11, o0), (0, x1), (0, x2), (0, x3), (0, x5), (0, x5)]) hm41 rfl rfl rfl ?_
            obtain ⟨g2, h⟩ := h
            refine wi_iinc (pc' := 61) (L' := [(11, o0), (0, x1), (0, x2), (0, x3), (0, x5), (0, (x5 + 1))]) hm41 rfl rfl rfl g2 rfl ?_
            refine wi_goto (t := 6) hm41 rfl rfl ?_
            exact h
theorem hm42 : fx_code 42 = fx_c42 := rfl
theorem t42_0 {o0 x1 x2 : Int} {σ : fx_S} {Q : fx_V → fx_S → Prop} (h : fx_Wp 42 11 [(11, o0), (0, x1), (0, x2), (0, (-1)), (0, 0), (0, 0), (0, 0)] [] σ Q) : fx_Ca 42 [(11, o0), (0, x1), (0, x2)] σ Q := by
  show fx_Wp 42 0 [(11, o0), (0, x1), (0, x2), (3, 0), (3, 0), (3, 0), (3, 0)] [] σ Q
  refine wi_iconst (pc' := 1) (v := (-1)) hm42 rfl rfl rfl ?_
  refine wi_istore_n (pc' := 2) (L' := [(11, o0), (0, x1), (0, x2), (0, (-1)), (3, 0), (3, 0), (3, 0)]) hm42 rfl rfl rfl ?_
  refine wi_iconst (pc' := 3) (v := 0) hm42 rfl rfl rfl ?_
  refine wi_istore (pc' := 5) (L' := [(11, o0), (0, x1), (0, x2), (0, (-1)), (0, 0), (3, 0), (3, 0)]) hm42 rfl rfl rfl ?_
  refine wi_iconst (pc' := 6) (v := 0) hm42 rfl rfl rfl ?_
  refine wi_istore (pc' := 8) (L' := [(11, o0), (0, x1), (0, x2), (0, (-1)), (0, 0), (0, 0), (3, 0)]) hm42 rfl rfl rfl ?_
  refine wi_iconst (pc' := 9) (v := 0) hm42 rfl rfl rfl ?_
  refine wi_istore (pc' := 11) (L' := [(11, o0), (0, x1), (0, x2), (0, (-1)), (0, 0), (0, 0), (0, 0)]) hm42 rfl rfl rfl ?_
  exact h
theorem t42_11 {o0 x1 x2 x3 x4 x5 x6 : Int} {σ : fx_S} {Q : fx_V → fx_S → Prop} (h : (((σ 11 o0 10) ≤ x6 → ((x4 = 0 → Q (0, 0) σ) ∧ (x4 ≠ 0 → ((x5 = 0 → Q (0, 0) σ) ∧ (x5 ≠ 0 → Q (0, 1) σ))))) ∧ (x6 < (σ 11 o0 10) → fx_CI 36 [(11, o0), (0, x6), (0, x1), (0, x2)] σ Q (fun y1 σ1 => ((y1 = 0 → (fx_rg (x6 + 1)) ∧ fx_Wp 42 11 [(11, o0), (0, x1), (0, x2), (0, x3), (0, x4), (0, x5), (0, (x6 + 1))] [] σ1 Q) ∧ (y1 ≠ 0 → ((x3 ≠ (-1) → fx_Wp 42 39 [(11, o0), (0, x1), (0, x2), (0, x3), (0, x4), (0, x5), (0, x6)] [] σ1 Q) ∧ (x3 = (-1) → fx_Wp 42 39 [(11, o0), (0, x1), (0, x2), (0, x6), (0, x4), (0, x5), (0, x6)] [] σ1 Q)))))))) : fx_Wp 42 11 [(11, o0), (0, x1), (0, x2), (0, x3), (0, x4), (0, x5), (0, x6)] [] σ Q := by
  refine wi_iload (pc' := 13) hm42 rfl rfl rfl ?_
  refine wi_aload_n (pc' := 14) hm42 rfl rfl rfl (by decide) ?_
  refine wi_getI (pc' := 17) hm42 rfl rfl (P := 10) rfl ?_
  refine wi_ic_ge (pc' := 20) (t := 101) hm42 rfl rfl rfl (fun hc => ?_) (fun hc => ?_)
  · replace h := h.1 hc
    refine wi_iload (pc' := 103) hm42 rfl rfl rfl ?_
    refine wi_if_eq (pc' := 106) (t := 115) hm42 rfl rfl rfl (fun hc => ?_) (fun hc => ?_)
    · replace h := h.1 hc
      refine wi_iconst (pc' := 116) (v := 0) hm42 rfl rfl rfl ?_
      exact wi_zret hm42 rfl (by decide) h
    · replace h := h.2 hc
      refine wi_iload (pc' := 108) hm42 rfl rfl rfl ?_
      refine wi_if_eq (pc' := 111) (t := 115) hm42 rfl rfl rfl (fun hc => ?_) (fun hc => ?_)
      · replace h := h.1 hc
        refine wi_iconst (pc' := 116) (v := 0) hm42 rfl rfl rfl ?_
        exact wi_zret hm42 rfl (by decide) h
      · replace h := h.2 hc
        refine wi_iconst (pc' := 112) (v := 1) hm42 rfl rfl rfl ?_
        refine wi_goto (t := 116) hm42 rfl rfl ?_
        exact wi_zret hm42 rfl (by decide) h
  · replace h := h.2 hc
    refine wi_aload_n (pc' := 21) hm42 rfl rfl rfl (by decide) ?_
    refine wi_iload (pc' := 23) hm42 rfl rfl rfl ?_
    refine wi_iload_n (pc' := 24) hm42 rfl rfl rfl ?_
    refine wi_iload_n (pc' := 25) hm42 rfl rfl rfl ?_
    refine wc_I (pc' := 28) (by decide) rfl (by decide) ((fx_wE hm42 rfl).trans (fx_exV (mj := 36) (as := [(0, x6), (0, x1), (0, x2)]) (rest := []) rfl rk36 rfl rfl rfl rfl rfl)) h (fun y1 σ1 h => ?_)
    refine wi_if_eq (pc' := 31) (t := 95) hm42 rfl rfl rfl (fun hc => ?_) (fun hc => ?_)
    · replace h := h.1 hc
      obtain ⟨g1, h⟩ := h
      refine wi_iinc (pc' := 98) (L' := [(11, o0), (0, x1), (0, x2), (0, x3), (0, x4), (0, x5), (0, (x6 + 1))]) hm42 rfl rfl rfl g1 rfl ?_
      refine wi_goto (t := 11) hm42 rfl rfl ?_
      exact h
    · replace h := h.2 hc
      refine wi_iload_n (pc' := 32) hm42 rfl rfl rfl ?_
      refine wi_iconst (pc' := 33) (v := (-1)) hm42 rfl rfl rfl ?_
      refine wi_ic_ne (pc' := 36) (t := 39) hm42 rfl rfl rfl (fun hc => ?_) (fun hc => ?_)
      · replace h := h.1 hc
        exact h
      · replace h := h.2 hc
        refine wi_iload (pc' := 38) hm42 rfl rfl rfl ?_
        refine wi_istore_n (pc' := 39) (L' := [(11, o0), (0, x1), (0, x2), (0, x6), (0, x4), (0, x5), (0, x6)]) hm42 rfl rfl rfl ?_
        exact h
theorem t42_39 {o0 x1 x2 x3 x4 x5 x6 : Int} {σ : fx_S} {Q : fx_V → fx_S → Prop} (h : ((x4 ≠ 0 → fx_Wp 42 60 [(11, o0), (0, x1), (0, x2), (0, x3), (0, x4), (0, x5), (0, x6)] [] σ Q) ∧ (x4 = 0 → (0 ≤ x6 ∧ x6 < 60) ∧ (0 ≤ x3 ∧ x3 < 60) ∧ (((σ 16 o0 x6) = (σ 16 o0 x3) → ((x5 ≠ 0 → (fx_rg (x6 + 1)) ∧ fx_Wp 42 11 [(11, o0), (0, x1), (0, x2), (0, x3), (0, 0), (0, 1), (0, (x6 + 1))] [] σ Q) ∧ (x5 = 0 → (((σ 19 o0 x6) = (σ 19 o0 x3) → (fx_rg (x6 + 1)) ∧ fx_Wp 42 11 [(11, o0), (0, x1), (0, x2), (0, x3), (0, 0), (0, 0), (0, (x6 + 1))] [] σ Q) ∧ ((σ 19 o0 x6) ≠ (σ 19 o0 x3) → (fx_rg (x6 + 1)) ∧ fx_Wp 42 11 [(11, o0), (0, x1), (0, x2), (0, x3), (0, 0), (0, 1), (0, (x6 + 1))] [] σ Q))))) ∧ ((σ 16 o0 x6) ≠ (σ 16 o0 x3) → fx_Wp 42 60 [(11, o0), (0, x1), (0, x2), (0, x3), (0, x4), (0, x5), (0, x6)] [] σ Q))))) : fx_Wp 42 39 [(11, o0), (0, x1), (0, x2), (0, x3), (0, x4), (0, x5), (0, x6)] [] σ Q := by
  refine wi_iload (pc' := 41) hm42 rfl rfl rfl ?_
  refine wi_if_ne (pc' := 44) (t := 60) hm42 rfl rfl rfl (fun hc => ?_) (fun hc => ?_)
  · replace h := h.1 hc
    exact h
  · replace h := h.2 hc
    refine wi_aload_n (pc' := 45) hm42 rfl rfl rfl (by decide) ?_
    refine wi_getR (pc' := 48) (x := o0) hm42 rfl rfl rfl (by omega) ?_
    refine wi_iload (pc' := 50) hm42 rfl rfl rfl ?_
    obtain ⟨g1, h⟩ := h
    refine wi_iaload (pc' := 51) hm42 rfl rfl rfl rfl (N := 60) rfl g1 ?_
    refine wi_aload_n (pc' := 52) hm42 rfl rfl rfl (by decide) ?_
    refine wi_getR (pc' := 55) (x := o0) hm42 rfl rfl rfl (by omega) ?_
    refine wi_iload_n (pc' := 56) hm42 rfl rfl rfl ?_
    obtain ⟨g2, h⟩ := h
    refine wi_iaload (pc' := 57) hm42 rfl rfl rfl rfl (N := 60) rfl g2 ?_
    refine wi_ic_eq (pc' := 60) (t := 64) hm42 rfl rfl rfl (fun hc => ?_) (fun hc => ?_)
    · replace h := h.1 hc
      refine wi_iconst (pc' := 65) (v := 0) hm42 rfl rfl rfl ?_
      refine wi_istore (pc' := 67) (L' := [(11, o0), (0, x1), (0, x2), (0, x3), (0, 0), (0, x5), (0, x6)]) hm42 rfl rfl rfl ?_
      refine wi_iload (pc' := 69) hm42 rfl rfl rfl ?_
      refine wi_if_ne (pc' := 72) (t := 88) hm42 rfl rfl rfl (fun hc => ?_) (fun hc => ?_)
      · replace h := h.1 hc
        refine wi_iconst (pc' := 89) (v := 1) hm42 rfl rfl rfl ?_
        refine wi_goto (t := 93) hm42 rfl rfl ?_
        refine wi_istore (pc' := 95) (L' := [(11, o0), (0, x1), (0, x2), (0, x3), (0, 0), (0, 1), (0, x6)]) hm42 rfl rfl rfl ?_
        obtain ⟨g3, h⟩ := h
        refine wi_iinc (pc' := 98) (L' := [(11, o0), (0, x1), (0, x2), (0, x3), (0, 0), (0, 1), (0, (x6 + 1))]) hm42 rfl rfl rfl g3 rfl ?_
        refine wi_goto (t := 11) hm42 rfl rfl ?_
        exact h
      · replace h := h.2 hc
        refine wi_aload_n (pc' := 73) hm42 rfl rfl rfl (by decide) ?_
        refine wi_getR (pc' := 76) (x := o0) hm42 rfl rfl rfl (by omega) ?_
        refine wi_iload (pc' := 78) hm42 rfl rfl rfl ?_
        refine wi_iaload (pc' := 79) hm42 rfl rfl rfl rfl (N := 60) rfl g1 ?_
        refine wi_aload_n (pc' := 80) hm42 rfl rfl rfl (by decide) ?_
        refine wi_getR (pc' := 83) (x := o0) hm42 rfl rfl rfl (by omega) ?_
        refine wi_iload_n (pc' := 84) hm42 rfl rfl rfl ?_
        refine wi_iaload (pc' := 85) hm42 rfl rfl rfl rfl (N := 60) rfl g2 ?_
        refine wi_ic_eq (pc' := 88) (t := 92) hm42 rfl rfl rfl (fun hc => ?_) (fun hc => ?_)
        · replace h := h.1 hc
          refine wi_iconst (pc' := 93) (v := 0) hm42 rfl rfl rfl ?_
          refine wi_istore (pc' := 95) (L' := [(11, o0), (0, x1), (0, x2), (0, x3), (0, 0), (0, 0), (0, x6)]) hm42 rfl rfl rfl ?_
          obtain ⟨g3, h⟩ := h
          refine wi_iinc (pc' := 98) (L' := [(11, o0), (0, x1), (0, x2), (0, x3), (0, 0), (0, 0), (0, (x6 + 1))]) hm42 rfl rfl rfl g3 rfl ?_
          refine wi_goto (t := 11) hm42 rfl rfl ?_
          exact h
        · replace h := h.2 hc
          refine wi_iconst (pc' := 89) (v := 1) hm42 rfl rfl rfl ?_
          refine wi_goto (t := 93) hm42 rfl rfl ?_
          refine wi_istore (pc' := 95) (L' := [(11, o0), (0, x1), (0, x2), (0, x3), (0, 0), (0, 1), (0, x6)]) hm42 rfl rfl rfl ?_
          obtain ⟨g3, h⟩ := h
          refine wi_iinc (pc' := 98) (L' := [(11, o0), (0, x1), (0, x2), (0, x3), (0, 0), (0, 1), (0, (x6 + 1))]) hm42 rfl rfl rfl g3 rfl ?_
          refine wi_goto (t := 11) hm42 rfl rfl ?_
          exact h
    · replace h := h.2 hc
      exact h
theorem t42_60 {o0 x1 x2 x3 x5 x6 : Int} {w4 : fx_V} {σ : fx_S} {Q : fx_V → fx_S → Prop} (h : ((x5 ≠ 0 → (fx_rg (x6 + 1)) ∧ fx_Wp 42 11 [(11, o0), (0, x1), (0, x2), (0, x3), (0, 1), (0, 1), (0, (x6 + 1))] [] σ Q) ∧ (x5 = 0 → (0 ≤ x6 ∧ x6 < 60) ∧ (0 ≤ x3 ∧ x3 < 60) ∧ (((σ 19 o0 x6) = (σ 19 o0 x3) → (fx_rg (x6 + 1)) ∧ fx_Wp 42 11 [(11, o0), (0, x1), (0, x2), (0, x3), (0, 1), (0, 0), (0, (x6 + 1))] [] σ Q) ∧ ((σ 19 o0 x6) ≠ (σ 19 o0 x3) → (fx_rg (x6 + 1)) ∧ fx_Wp 42 11 [(11, o0), (0, x1), (0, x2), (0, x3), (0, 1), (0, 1), (0, (x6 + 1))] [] σ Q))))) : fx_Wp 42 60 [(11, o0), (0, x1), (0, x2), (0, x3), w4, (0, x5), (0, x6)] [] σ Q := by
  refine wi_iconst (pc' := 61) (v := 1) hm42 rfl rfl rfl ?_
  refine wi_goto (t := 65) hm42 rfl rfl ?_
  refine wi_istore (pc' := 67) (L' := [(11, o0), (0, x1), (0, x2), (0, x3), (0, 1), (0, x5), (0, x6)]) hm42 rfl rfl rfl ?_
  refine wi_iload (pc' := 69) hm42 rfl rfl rfl ?_
  refine wi_if_ne (pc' := 72) (t := 88) hm42 rfl rfl rfl (fun hc => ?_) (fun hc => ?_)
  · replace h := h.1 hc
    refine wi_iconst (pc' := 89) (v := 1) hm42 rfl rfl rfl ?_
    refine wi_goto (t := 93) hm42 rfl rfl ?_
    refine wi_istore (pc' := 95) (L' := [(11, o0), (0, x1), (0, x2), (0, x3), (0, 1), (0, 1), (0, x6)]) hm42 rfl rfl rfl ?_
    obtain ⟨g1, h⟩ := h
    refine wi_iinc (pc' := 98) (L' := [(11, o0), (0, x1), (0, x2), (0, x3), (0, 1), (0, 1), (0, (x6 + 1))]) hm42 rfl rfl rfl g1 rfl ?_
    refine wi_goto (t := 11) hm42 rfl rfl ?_
    exact h
  · replace h := h.2 hc
    refine wi_aload_n (pc' := 73) hm42 rfl rfl rfl (by decide) ?_
    refine wi_getR (pc' := 76) (x := o0) hm42 rfl rfl rfl (by omega) ?_
    refine wi_iload (pc' := 78) hm42 rfl rfl rfl ?_
    obtain ⟨g1, h⟩ := h
    refine wi_iaload (pc' := 79) hm42 rfl rfl rfl rfl (N := 60) rfl g1 ?_
    refine wi_aload_n (pc' := 80) hm42 rfl rfl rfl (by decide) ?_
    refine wi_getR (pc' := 83) (x := o0) hm42 rfl rfl rfl (by omega) ?_
    refine wi_iload_n (pc' := 84) hm42 rfl rfl rfl ?_
    obtain ⟨g2, h⟩ := h
    refine wi_iaload (pc' := 85) hm42 rfl rfl rfl rfl (N := 60) rfl g2 ?_
    refine wi_ic_eq (pc' := 88) (t := 92) hm42 rfl rfl rfl (fun hc => ?_) (fun hc => ?_)
    · replace h := h.1 hc
      refine wi_iconst (pc' := 93) (v := 0) hm42 rfl rfl rfl ?_
      refine wi_istore (pc' := 95) (L' := [(11, o0), (0, x1), (0, x2), (0, x3), (0, 1), (0, 0), (0, x6)]) hm42 rfl rfl rfl ?_
      obtain ⟨g3, h⟩ := h
      refine wi_iinc (pc' := 98) (L' := [(11, o0), (0, x1), (0, x2), (0, x3), (0, 1), (0, 0), (0, (x6 + 1))]) hm42 rfl rfl rfl g3 rfl ?_
      refine wi_goto (t := 11) hm42 rfl rfl ?_
      exact h
    · replace h := h.2 hc
      refine wi_iconst (pc' := 89) (v := 1) hm42 rfl rfl rfl ?_
      refine wi_goto (t := 93) hm42 rfl rfl ?_
      refine wi_istore (pc' := 95) (L' := [(11, o0), (0, x1), (0, x2), (0, x3), (0, 1), (0, 1), (0, x6)]) hm42 rfl rfl rfl ?_
      obtain ⟨g3, h⟩ := h
      refine wi_iinc (pc' := 98) (L' := [(11, o0), (0, x1), (0, x2), (0, x3), (0, 1), (0, 1), (0, (x6 + 1))]) hm42 rfl rfl rfl g3 rfl ?_
      refine wi_goto (t := 11) hm42 rfl rfl ?_
      exact h
theorem hm43 : fx_code 43 = fx_c43 := rfl
theorem t43_0 {o0 x1 : Int} {σ : fx_S} {Q : fx_V → fx_S → Prop} (h : fx_Wp 43 4 [(11, o0), (0, x1), (0, 0), (0, 0)] [] σ Q) : fx_Ca 43 [(11, o0), (0, x1)] σ Q := by
  show fx_Wp 43 0 [(11, o0), (0, x1), (3, 0), (3, 0)] [] σ Q
  refine wi_iconst (pc' := 1) (v := 0) hm43 rfl rfl rfl ?_
  refine wi_istore_n (pc' := 2) (L' := [(11, o0), (0, x1), (0, 0), (3, 0)]) hm43 rfl rfl rfl ?_
  refine wi_iconst (pc' := 3) (v := 0) hm43 rfl rfl rfl ?_
  refine wi_istore_n (pc' := 4) (L' := [(11, o0), (0, x1), (0, 0), (0, 0)]) hm43 rfl rfl rfl ?_
  exact h
theorem t43_4 {o0 x1 x2 x3 : Int} {σ : fx_S} {Q : fx_V → fx_S → Prop} (h : (((σ 11 o0 10) ≤ x3 → Q (0, x2) σ) ∧ (x3 < (σ 11 o0 10) → (0 ≤ x3 ∧ x3 < 60) ∧ (((σ 16 o0 x3) ≠ x1 → (fx_rg (x3 + 1)) ∧ fx_Wp 43 4 [(11, o0), (0, x1), (0, x2), (0, (x3 + 1))] [] σ Q) ∧ ((σ 16 o0 x3) = x1 → (((σ 20 o0 x3) ≠ 0 → (fx_rg (x3 + 1)) ∧ fx_Wp 43 4 [(11, o0), (0, x1), (0, x2), (0, (x3 + 1))] [] σ Q) ∧ ((σ 20 o0 x3) = 0 → (fx_rg (x2 + 1)) ∧ (fx_rg (x3 + 1)) ∧ fx_Wp 43 4 [(11, o0), (0, x1), (0, (x2 + 1)), (0, (x3 + 1))] [] σ Q))))))) : fx_Wp 43 4 [(11, o0), (0, x1), (0, x2), (0, x3)] [] σ Q := by
  refine wi_iload_n (pc' := 5) hm43 rfl rfl rfl ?_
  refine wi_aload_n (pc' := 6) hm43 rfl rfl rfl (by decide) ?_
  refine wi_getI (pc' := 9) hm43 rfl rfl (P := 10) rfl ?_
  refine wi_ic_ge (pc' := 12) (t := 40) hm43 rfl rfl rfl (fun hc => ?_) (fun hc => ?_)
  · replace h := h.1 hc
    refine wi_iload_n (pc' := 41) hm43 rfl rfl rfl ?_
    exact wi_iret hm43 rfl h
  · replace h := h.2 hc
    refine wi_aload_n (pc' := 13) hm43 rfl rfl rfl (by decide) ?_
    refine wi_getR (pc' := 16) (x := o0) hm43 rfl rfl rfl (by omega) ?_
    refine wi_iload_n (pc' := 17) hm43 rfl rfl rfl ?_
    obtain ⟨g1, h⟩ := h
    refine wi_iaload (pc' := 18) hm43 rfl rfl rfl rfl (N := 60) rfl g1 ?_
    refine wi_iload_n (pc' := 19) hm43 rfl rfl rfl ?_
    refine wi_ic_ne (pc' := 22) (t := 34) hm43 rfl rfl rfl (fun hc => ?_) (fun hc => ?_)
    · replace h := h.1 hc
      obtain ⟨g2, h⟩ := h
      refine wi_iinc (pc' := 37) (L' := [(11, o0), (0, x1), (0, x2), (0, (x3 + 1))]) hm43 rfl rfl rfl g2 rfl ?_
      refine wi_goto (t := 4) hm43 rfl rfl ?_
      exact h
    · replace h := h.2 hc
      refine wi_aload_n (pc' := 23) hm43 rfl rfl rfl (by decide) ?_
      refine wi_getR (pc' := 26) (x := o0) hm43 rfl rfl rfl (by omega) ?_
      refine wi_iload_n (pc' := 27) hm43 rfl rfl rfl ?_
      refine wi_baload (pc' := 28) hm43 rfl rfl rfl (N := 60) rfl g1 ?_
      refine wi_if_ne (pc' := 31) (t := 34) hm43 rfl rfl rfl (fun hc => ?_) (fun hc => ?_)
      · replace h := h.1 hc
        obtain ⟨g2, h⟩ := h
        refine wi_iinc (pc' := 37) (L' := [(11, o0), (0, x1), (0, x2), (0, (x3 + 1))]) hm43 rfl rfl rfl g2 rfl ?_
        refine wi_goto (t := 4) hm43 rfl rfl ?_
        exact h
      · replace h := h.2 hc
        obtain ⟨g2, h⟩ := h
        refine wi_iinc (pc' := 34) (L' := [(11, o0), (0, x1), (0, (x2 + 1)), (0, x3)]) hm43 rfl rfl rfl g2 rfl ?_
        obtain ⟨g3, h⟩ := h
        refine wi_iinc (pc' := 37) (L' := [(11, o0), (0, x1), (0, (x2 + 1)), (0, (x3 + 1))]) hm43 rfl rfl rfl g3 rfl ?_
        refine wi_goto (t := 4) hm43 rfl rfl ?_
        exact h
theorem hm44 : fx_code 44 = fx_c44 := rfl
theorem t44_0 {o0 x1 : Int} {σ : fx_S} {Q : fx_V → fx_S → Prop} (h : fx_Wp 44 4 [(11, o0), (0, x1), (0, 0), (0, 0)] [] σ Q) : fx_Ca 44 [(11, o0), (0, x1)] σ Q := by
  show fx_Wp 44 0 [(11, o0), (0, x1), (3, 0), (3, 0)] [] σ Q
  refine wi_iconst (pc' := 1) (v := 0) hm44 rfl rfl rfl ?_
  refine wi_istore_n (pc' := 2) (L' := [(11, o0), (0, x1), (0, 0), (3, 0)]) hm44 rfl rfl rfl ?_
  refine wi_iconst (pc' := 3) (v := 0) hm44 rfl rfl rfl ?_
  refine wi_istore_n (pc' := 4) (L' := [(11, o0), (0, x1), (0, 0), (0, 0)]) hm44 rfl rfl rfl ?_
  exact h
theorem t44_4 {o0 x1 x2 x3 : Int} {σ : fx_S} {Q : fx_V → fx_S → Prop} (h : (((σ 11 o0 10) ≤ x3 → Q (0, x2) σ) ∧ (x3 < (σ 11 o0 10) → (0 ≤ x3 ∧ x3 < 60) ∧ (((σ 15 o0 x3) ≠ x1 → (fx_rg (x3 + 1)) ∧ fx_Wp 44 4 [(11, o0), (0, x1), (0, x2), (0, (x3 + 1))] [] σ Q) ∧ ((σ 15 o0 x3) = x1 → (((σ 20 o0 x3) ≠ 0 → (fx_rg (x3 + 1)) ∧ fx_Wp 44 4 [(11, o0), (0, x1), (0, x2), (0, (x3 + 1))] [] σ Q) ∧ ((σ 20 o0 x3) = 0 → (fx_rg (x2 + 1)) ∧ (fx_rg (x3 + 1)) ∧ fx_Wp 44 4 [(11, o0), (0, x1), (0, (x2 + 1)), (0, (x3 + 1))] [] σ Q))))))) : fx_Wp 44 4 [(11, o0), (0, x1), (0, x2), (0, x3)] [] σ Q := by
  refine wi_iload_n (pc' := 5) hm44 rfl rfl rfl ?_
  refine wi_aload_n (pc' := 6) hm44 rfl rfl rfl (by decide) ?_
  refine wi_getI (pc' := 9) hm44 rfl rfl (P := 10) rfl ?_
  refine wi_ic_ge (pc' := 12) (t := 40) hm44 rfl rfl rfl (fun hc => ?_) (fun hc => ?_)
  · replace h := h.1 hc
    refine wi_iload_n (pc' := 41) hm44 rfl rfl rfl ?_
    exact wi_iret hm44 rfl h
  · replace h := h.2 hc
    refine wi_aload_n (pc' := 13) hm44 rfl rfl rfl (by decide) ?_
    refine wi_getR (pc' := 16) (x := o0) hm44 rfl rfl rfl (by omega) ?_
    refine wi_iload_n (pc' := 17) hm44 rfl rfl rfl ?_
    obtain ⟨g1, h⟩ := h
    refine wi_iaload (pc' := 18) hm44 rfl rfl rfl rfl (N := 60) rfl g1 ?_
    refine wi_iload_n (pc' := 19) hm44 rfl rfl rfl ?_
    refine wi_ic_ne (pc' := 22) (t := 34) hm44 rfl rfl rfl (fun hc => ?_) (fun hc => ?_)
    · replace h := h.1 hc
      obtain ⟨g2, h⟩ := h
      refine wi_iinc (pc' := 37) (L' := [(11, o0), (0, x1), (0, x2), (0, (x3 + 1))]) hm44 rfl rfl rfl g2 rfl ?_
      refine wi_goto (t := 4) hm44 rfl rfl ?_
      exact h
    · replace h := h.2 hc
      refine wi_aload_n (pc' := 23) hm44 rfl rfl rfl (by decide) ?_
      refine wi_getR (pc' := 26) (x := o0) hm44 rfl rfl rfl (by omega) ?_
      refine wi_iload_n (pc' := 27) hm44 rfl rfl rfl ?_
      refine wi_baload (pc' := 28) hm44 rfl rfl rfl (N := 60) rfl g1 ?_
      refine wi_if_ne (pc' := 31) (t := 34) hm44 rfl rfl rfl (fun hc => ?_) (fun hc => ?_)
      · replace h := h.1 hc
        obtain ⟨g2, h⟩ := h
        refine wi_iinc (pc' := 37) (L' := [(11, o0), (0, x1), (0, x2), (0, (x3 + 1))]) hm44 rfl rfl rfl g2 rfl ?_
        refine wi_goto (t := 4) hm44 rfl rfl ?_
        exact h
      · replace h := h.2 hc
        obtain ⟨g2, h⟩ := h
        refine wi_iinc (pc' := 34) (L' := [(11, o0), (0, x1), (0, (x2 + 1)), (0, x3)]) hm44 rfl rfl rfl g2 rfl ?_
        obtain ⟨g3, h⟩ := h
        refine wi_iinc (pc' := 37) (L' := [(11, o0), (0, x1), (0, (x2 + 1)), (0, (x3 + 1))]) hm44 rfl rfl rfl g3 rfl ?_
        refine wi_goto (t := 4) hm44 rfl rfl ?_
        exact h
theorem hm45 : fx_code 45 = fx_c45 := rfl
theorem t45_0 {o0 x1 : Int} {σ : fx_S} {Q : fx_V → fx_S → Prop} (h : fx_Wp 45 4 [(11, o0), (0, x1), (0, 0), (0, 0), (3, 0)] [] σ Q) : fx_Ca 45 [(11, o0), (0, x1)] σ Q := by
  show fx_Wp 45 0 [(11, o0), (0, x1), (3, 0), (3, 0), (3, 0)] [] σ Q
  refine wi_iconst (pc' := 1) (v := 0) hm45 rfl rfl rfl ?_
  refine wi_istore_n (pc' := 2) (L' := [(11, o0), (0, x1), (0, 0), (3, 0), (3, 0)]) hm45 rfl rfl rfl ?_
  refine wi_iconst (pc' := 3) (v := 0) hm45 rfl rfl rfl ?_
  refine wi_istore_n (pc' := 4) (L' := [(11, o0), (0, x1), (0, 0), (0, 0), (3, 0)]) hm45 rfl rfl rfl ?_
  exact h
theorem t45_4 {o0 x1 x2 x3 : Int} {w4 : fx_V} {σ : fx_S} {Q : fx_V → fx_S → Prop} (h : (((σ 11 o0 9) ≤ x3 → Q (0, x2) σ) ∧ (x3 < (σ 11 o0 9) → (0 ≤ x3 ∧ x3 < 8) ∧ (0 ≤ x1 ∧ x1 < 8) ∧ (((σ 13 o0 x3) ≤ (σ 13 o0 x1) → (((σ 13 o0 x3) ≠ (σ 13 o0 x1) → (fx_rg (x3 + 1)) ∧ fx_Wp 45 4 [(11, o0), (0, x1), (0, x2), (0, (x3 + 1)), (0, 0)] [] σ Q) ∧ ((σ 13 o0 x3) = (σ 13 o0 x1) → ((x1 ≤ x3 → (fx_rg (x3 + 1)) ∧ fx_Wp 45 4 [(11, o0), (0, x1), (0, x2), (0, (x3 + 1)), (0, 0)] [] σ Q) ∧ (x3 < x1 → (fx_rg (x2 + 1)) ∧ (fx_rg (x3 + 1)) ∧ fx_Wp 45 4 [(11, o0), (0, x1), (0, (x2 + 1)), (0, (x3 + 1)), (0, 0)] [] σ Q))))) ∧ ((σ 13 o0 x1) < (σ 13 o0 x3) → (fx_rg (x2 + 1)) ∧ (fx_rg (x3 + 1)) ∧ fx_Wp 45 4 [(11, o0), (0, x1), (0, (x2 + 1)), (0, (x3 + 1)), (0, 1)] [] σ Q))))) : fx_Wp 45 4 [(11, o0), (0, x1), (0, x2), (0, x3), w4] [] σ Q := by
  refine wi_iload_n (pc' := 5) hm45 rfl rfl rfl ?_
  refine wi_aload_n (pc' := 6) hm45 rfl rfl rfl (by decide) ?_
  refine wi_getI (pc' := 9) hm45 rfl rfl (P := 9) rfl ?_
  refine wi_ic_ge (pc' := 12) (t := 68) hm45 rfl rfl rfl (fun hc => ?_) (fun hc => ?_)
  · replace h := h.1 hc
    refine wi_iload_n (pc' := 69) hm45 rfl rfl rfl ?_
    exact wi_iret hm45 rfl h
  · replace h := h.2 hc
    refine wi_aload_n (pc' := 13) hm45 rfl rfl rfl (by decide) ?_
    refine wi_getR (pc' := 16) (x := o0) hm45 rfl rfl rfl (by omega) ?_
    refine wi_iload_n (pc' := 17) hm45 rfl rfl rfl ?_
    obtain ⟨g1, h⟩ := h
    refine wi_iaload (pc' := 18) hm45 rfl rfl rfl rfl (N := 8) rfl g1 ?_
    refine wi_aload_n (pc' := 19) hm45 rfl rfl rfl (by decide) ?_
    refine wi_getR (pc' := 22) (x := o0) hm45 rfl rfl rfl (by omega) ?_
    refine wi_iload_n (pc' := 23) hm45 rfl rfl rfl ?_
    obtain ⟨g2, h⟩ := h
    refine wi_iaload (pc' := 24) hm45 rfl rfl rfl rfl (N := 8) rfl g2 ?_
    refine wi_ic_le (pc' := 27) (t := 31) hm45 rfl rfl rfl (fun hc => ?_) (fun hc => ?_)
    · replace h := h.1 hc
      refine wi_iconst (pc' := 32) (v := 0) hm45 rfl rfl rfl ?_
      refine wi_istore (pc' := 34) (L' := [(11, o0), (0, x1), (0, x2), (0, x3), (0, 0)]) hm45 rfl rfl rfl ?_
      refine wi_iload (pc' := 36) hm45 rfl rfl rfl ?_
      refine wi_if_ne (pc' := 39) (t := 59) hm45 rfl rfl rfl (fun hc => absurd hc (by decide)) (fun _ => ?_)
      refine wi_aload_n (pc' := 40) hm45 rfl rfl rfl (by decide) ?_
      refine wi_getR (pc' := 43) (x := o0) hm45 rfl rfl rfl (by omega) ?_
      refine wi_iload_n (pc' := 44) hm45 rfl rfl rfl ?_
      refine wi_iaload (pc' := 45) hm45 rfl rfl rfl rfl (N := 8) rfl g1 ?_
      refine wi_aload_n (pc' := 46) hm45 rfl rfl rfl (by decide) ?_
      refine wi_getR (pc' := 49) (x := o0) hm45 rfl rfl rfl (by omega) ?_
      refine wi_iload_n (pc' := 50) hm45 rfl rfl rfl ?_
      refine wi_iaload (pc' := 51) hm45 rfl rfl rfl rfl (N := 8) rfl g2 ?_
      refine wi_ic_ne (pc' := 54) (t := 62) hm45 rfl rfl rfl (fun hc => ?_) (fun hc => ?_)
      · replace h := h.1 hc
        obtain ⟨g3, h⟩ := h
        refine wi_iinc (pc' := 65) (L' := [(11, o0), (0, x1), (0, x2), (0, (x3 + 1)), (0, 0)]) hm45 rfl rfl rfl g3 rfl ?_
        refine wi_goto (t := 4) hm45 rfl rfl ?_
        exact h
      · replace h := h.2 hc
        refine wi_iload_n (pc' := 55) hm45 rfl rfl rfl ?_
        refine wi_iload_n (pc' := 56) hm45 rfl rfl rfl ?_
        refine wi_ic_ge (pc' := 59) (t := 62) hm45 rfl rfl rfl (fun hc => ?_) (fun hc => ?_)
        · replace h := h.1 hc
          obtain ⟨g3, h⟩ := h
          refine wi_iinc (pc' := 65) (L' := [(11, o0), (0, x1), (0, x2), (0, (x3 + 1)), (0, 0)]) hm45 rfl rfl rfl g3 rfl ?_
          refine wi_goto (t := 4) hm45 rfl rfl ?_
          exact h
        · replace h := h.2 hc
          obtain ⟨g3, h⟩ := h
          refine wi_iinc (pc' := 62) (L' := [(11, o0), (0, x1), (0, (x2 + 1)), (0, x3), (0, 0)]) hm45 rfl rfl rfl g3 rfl ?_
          obtain ⟨g4, h⟩ := h
          refine wi_iinc (pc' := 65) (L' := [(11, o0), (0, x1), (0, (x2 + 1)), (0, (x3 + 1)), (0, 0)]) hm45 rfl rfl rfl g4 rfl ?_
          refine wi_goto (t := 4) hm45 rfl rfl ?_
          exact h
    · replace h := h.2 hc
      refine wi_iconst (pc' := 28) (v := 1) hm45 rfl rfl rfl ?_
      refine wi_goto (t := 32) hm45 rfl rfl ?_
      refine wi_istore (pc' := 34) (L' := [(11, o0), (0, x1), (0, x2), (0, x3), (0, 1)]) hm45 rfl rfl rfl ?_
      refine wi_iload (pc' := 36) hm45 rfl rfl rfl ?_
      refine wi_if_ne (pc' := 39) (t := 59) hm45 rfl rfl rfl (fun _ => ?_) (fun hc => absurd hc (by decide))
      obtain ⟨g3, h⟩ := h
      refine wi_iinc (pc' := 62) (L' := [(11, o0), (0, x1), (0, (x2 + 1)), (0, x3), (0, 1)]) hm45 rfl rfl rfl g3 rfl ?_
      obtain ⟨g4, h⟩ := h
      refine wi_iinc (pc' := 65) (L' := [(11, o0), (0, x1), (0, (x2 + 1)), (0, (x3 + 1)), (0, 1)]) hm45 rfl rfl rfl g4 rfl ?_
      refine wi_goto (t := 4) hm45 rfl rfl ?_
      exact h
theorem hm46 : fx_code 46 = fx_c46 := rfl
theorem t46_0 {o0 : Int} {σ : fx_S} {Q : fx_V → fx_S → Prop} (h : fx_Wp 46 4 [(11, o0), (0, 0), (0, 0)] [] σ Q) : fx_Ca 46 [(11, o0)] σ Q := by
  show fx_Wp 46 0 [(11, o0), (3, 0), (3, 0)] [] σ Q
  refine wi_iconst (pc' := 1) (v := 0) hm46 rfl rfl rfl ?_
  refine wi_istore_n (pc' := 2) (L' := [(11, o0), (0, 0), (3, 0)]) hm46 rfl rfl rfl ?_
  refine wi_iconst (pc' := 3) (v := 0) hm46 rfl rfl rfl ?_
  refine wi_istore_n (pc' := 4) (L' := [(11, o0), (0, 0), (0, 0)]) hm46 rfl rfl rfl ?_
  exact h
theorem t46_4 {o0 x1 x2 : Int} {σ : fx_S} {Q : fx_V → fx_S → Prop} (h : (((σ 11 o0 10) ≤ x2 → Q (0, x1) σ) ∧ (x2 < (σ 11 o0 10) → (0 ≤ x2 ∧ x2 < 60) ∧ (((σ 20 o0 x2) = 0 → (fx_rg (x2 + 1)) ∧ fx_Wp 46 4 [(11, o0), (0, x1), (0, (x2 + 1))] [] σ Q) ∧ ((σ 20 o0 x2) ≠ 0 → (fx_rg (x1 + 1)) ∧ (fx_rg (x2 + 1)) ∧ fx_Wp 46 4 [(11, o0), (0, (x1 + 1)), (0, (x2 + 1))] [] σ Q))))) : fx_Wp 46 4 [(11, o0), (0, x1), (0, x2)] [] σ Q := by
  refine wi_iload_n (pc' := 5) hm46 rfl rfl rfl ?_
  refine wi_aload_n (pc' := 6) hm46 rfl rfl rfl (by decide) ?_
  refine wi_getI (pc' := 9) hm46 rfl rfl (P := 10) rfl ?_
  refine wi_ic_ge (pc' := 12) (t := 30) hm46 rfl rfl rfl (fun hc => ?_) (fun hc => ?_)
  · replace h := h.1 hc
    refine wi_iload_n (pc' := 31) hm46 rfl rfl rfl ?_
    exact wi_iret hm46 rfl h
  · replace h := h.2 hc
    refine wi_aload_n (pc' := 13) hm46 rfl rfl rfl (by decide) ?_
    refine wi_getR (pc' := 16) (x := o0) hm46 rfl rfl rfl (by omega) ?_
    refine wi_iload_n (pc' := 17) hm46 rfl rfl rfl ?_
    obtain ⟨g1, h⟩ := h
    refine wi_baload (pc' := 18) hm46 rfl rfl rfl (N := 60) rfl g1 ?_
    refine wi_if_eq (pc' := 21) (t := 24) hm46 rfl rfl rfl (fun hc => ?_) (fun hc => ?_)
    · replace h := h.1 hc
      obtain ⟨g2, h⟩ := h
      refine wi_iinc (pc' := 27) (L' := [(11, o0), (0, x1), (0, (x2 + 1))]) hm46 rfl rfl rfl g2 rfl ?_
      refine wi_goto (t := 4) hm46 rfl rfl ?_
      exact h
    · replace h := h.2 hc
      obtain ⟨g2, h⟩ := h
      refine wi_iinc (pc' := 24) (L' := [(11, o0), (0, (x1 + 1)), (0, x2)]) hm46 rfl rfl rfl g2 rfl ?_
      obtain ⟨g3, h⟩ := h
      refine wi_iinc (pc' := 27) (L' := [(11, o0), (0, (x1 + 1)), (0, (x2 + 1))]) hm46 rfl rfl rfl g3 rfl ?_
      refine wi_goto (t := 4) hm46 rfl rfl ?_
      exact h
theorem hm47 : fx_code 47 = fx_c47 := rfl
theorem t47_0 {o0 : Int} {σ : fx_S} {Q : fx_V → fx_S → Prop} (h : fx_Wp 47 4 [(11, o0), (0, 0), (0, 0)] [] σ Q) : fx_Ca 47 [(11, o0)] σ Q := by
  show fx_Wp 47 0 [(11, o0), (3, 0), (3, 0)] [] σ Q
  refine wi_iconst (pc' := 1) (v := 0) hm47 rfl rfl rfl ?_
  refine wi_istore_n (pc' := 2) (L' := [(11, o0), (0, 0), (3, 0)]) hm47 rfl rfl rfl ?_
  refine wi_iconst (pc' := 3) (v := 0) hm47 rfl rfl rfl ?_
  refine wi_istore_n (pc' := 4) (L' := [(11, o0), (0, 0), (0, 0)]) hm47 rfl rfl rfl ?_
  exact h
theorem t47_4 {o0 x1 x2 : Int} {σ : fx_S} {Q : fx_V → fx_S → Prop} (h : (((σ 11 o0 9) ≤ x2 → Q (0, x1) σ) ∧ (x2 < (σ 11 o0 9) → (0 ≤ x2 ∧ x2 < 8) ∧ (((σ 14 o0 x2) = 0 → (fx_rg (x2 + 1)) ∧ fx_Wp 47 4 [(11, o0), (0, x1), (0, (x2 + 1))] [] σ Q) ∧ ((σ 14 o0 x2) ≠ 0 → (fx_rg (x1 + 1)) ∧ (fx_rg (x2 + 1)) ∧ fx_Wp 47 4 [(11, o0), (0, (x1 + 1)), (0, (x2 + 1))] [] σ Q))))) : fx_Wp 47 4 [(11, o0), (0, x1), (0, x2)] [] σ Q := by
  refine wi_iload_n (pc' := 5) hm47 rfl rfl rfl ?_
  refine wi_aload_n (pc' := 6) hm47 rfl rfl rfl (by decide) ?_
  refine wi_getI (pc' := 9) hm47 rfl rfl (P := 9) rfl ?_
  refine wi_ic_ge (pc' := 12) (t := 30) hm47 rfl rfl rfl (fun hc => ?_) (fun hc => ?_)
  · replace h := h.1 hc
    refine wi_iload_n (pc' := 31) hm47 rfl rfl rfl ?_
    exact wi_iret hm47 rfl h
  · replace h := h.2 hc
    refine wi_aload_n (pc' := 13) hm47 rfl rfl rfl (by decide) ?_
    refine wi_getR (pc' := 16) (x := o0) hm47 rfl rfl rfl (by omega) ?_
    refine wi_iload_n (pc' := 17) hm47 rfl rfl rfl ?_
    obtain ⟨g1, h⟩ := h
    refine wi_baload (pc' := 18) hm47 rfl rfl rfl (N := 8) rfl g1 ?_
    refine wi_if_eq (pc' := 21) (t := 24) hm47 rfl rfl rfl (fun hc => ?_) (fun hc => ?_)
    · replace h := h.1 hc
      obtain ⟨g2, h⟩ := h
      refine wi_iinc (pc' := 27) (L' := [(11, o0), (0, x1), (0, (x2 + 1))]) hm47 rfl rfl rfl g2 rfl ?_
      refine wi_goto (t := 4) hm47 rfl rfl ?_
      exact h
    · replace h := h.2 hc
      obtain ⟨g2, h⟩ := h
      refine wi_iinc (pc' := 24) (L' := [(11, o0), (0, (x1 + 1)), (0, x2)]) hm47 rfl rfl rfl g2 rfl ?_
      obtain ⟨g3, h⟩ := h
      refine wi_iinc (pc' := 27) (L' := [(11, o0), (0, (x1 + 1)), (0, (x2 + 1))]) hm47 rfl rfl rfl g3 rfl ?_
      refine wi_goto (t := 4) hm47 rfl rfl ?_
      exact h
theorem hm48 : fx_code 48 = fx_c48 := rfl
theorem t48_0 {o0 : Int} {σ : fx_S} {Q : fx_V → fx_S → Prop} (h : fx_Wp 48 4 [(11, o0), (0, 0), (0, 0)] [] σ Q) : fx_Ca 48 [(11, o0)] σ Q := by
  show fx_Wp 48 0 [(11, o0), (3, 0), (3, 0)] [] σ Q
  refine wi_iconst (pc' := 1) (v := 0) hm48 rfl rfl rfl ?_
  refine wi_istore_n (pc' := 2) (L' := [(11, o0), (0, 0), (3, 0)]) hm48 rfl rfl rfl ?_
  refine wi_iconst (pc' := 3) (v := 0) hm48 rfl rfl rfl ?_
  refine wi_istore_n (pc' := 4) (L' := [(11, o0), (0, 0), (0, 0)]) hm48 rfl rfl rfl ?_
  exact h
theorem t48_4 {o0 x1 x2 : Int} {σ : fx_S} {Q : fx_V → fx_S → Prop} (h : ((8 ≤ x2 → Q (0, x1) σ) ∧ (x2 < 8 → (0 ≤ x2 ∧ x2 < 8) ∧ fx_CI 3 [(22, (8 * o0 + 0 + x2))] σ Q (fun y1 σ1 => ((y1 = 0 → (fx_rg (x2 + 1)) ∧ fx_Wp 48 4 [(11, o0), (0, x1), (0, (x2 + 1))] [] σ1 Q) ∧ (y1 ≠ 0 → (fx_rg (x1 + 1)) ∧ (fx_rg (x2 + 1)) ∧ fx_Wp 48 4 [(11, o0), (0, (x1 + 1)), (0, (x2 + 1))] [] σ1 Q)))))) : fx_Wp 48 4 [(11, o0), (0, x1), (0, x2)] [] σ Q := by
  refine wi_iload_n (pc' := 5) hm48 rfl rfl rfl ?_
  refine wi_bipush (pc' := 7) (v := 8) hm48 rfl rfl rfl ?_
  refine wi_ic_ge (pc' := 10) (t := 31) hm48 rfl rfl rfl (fun hc => ?_) (fun hc => ?_)
  · replace h := h.1 hc
    refine wi_iload_n (pc' := 32) hm48 rfl rfl rfl ?_
    exact wi_iret hm48 rfl h
  · replace h := h.2 hc
    refine wi_aload_n (pc' := 11) hm48 rfl rfl rfl (by decide) ?_
    refine wi_getR (pc' := 14) (x := o0) hm48 rfl rfl rfl (by omega) ?_
    refine wi_iload_n (pc' := 15) hm48 rfl rfl rfl ?_
    obtain ⟨g1, h⟩ := h
    refine wi_aaload (pc' := 16) (x := (8 * o0 + 0 + x2)) hm48 rfl rfl rfl rfl (N := 8) rfl g1 (by omega) ?_
    refine wc_I (pc' := 19) (by decide) rfl (by decide) ((fx_wE hm48 rfl).trans (fx_exV (mj := 3) (as := []) (rest := []) rfl rk3 rfl rfl rfl rfl rfl)) h (fun y1 σ1 h => ?_)
    refine wi_if_eq (pc' := 22) (t := 25) hm48 rfl rfl rfl (fun hc => ?_) (fun hc => ?_)
    · replace h := h.1 hc
      obtain ⟨g2, h⟩ := h
      refine wi_iinc (pc' := 28) (L' := [(11, o0), (0, x1), (0, (x2 + 1))]) hm48 rfl rfl rfl g2 rfl ?_
      refine wi_goto (t := 4) hm48 rfl rfl ?_
      exact h
    · replace h := h.2 hc
      obtain ⟨g2, h⟩ := h
      refine wi_iinc (pc' := 25) (L' := [(11, o0), (0, (x1 + 1)), (0, x2)]) hm48 rfl rfl rfl g2 rfl ?_
      obtain ⟨g3, h⟩ := h
      refine wi_iinc (pc' := 28) (L' := [(11, o0), (0, (x1 + 1)), (0, (x2 + 1))]) hm48 rfl rfl rfl g3 rfl ?_
      refine wi_goto (t := 4) hm48 rfl rfl ?_
      exact h
theorem hm49 : fx_code 49 = fx_c49 := rfl
theorem t49_0 {o0 o1 : Int} {σ : fx_S} {Q : fx_V → fx_S → Prop} (h : fx_CV 10 [(28, 0)] σ Q (fun σ1 => fx_CI 50 [(33, o0)] (fx_up (fx_up (fx_up (fx_up σ1 33 o0 6 0) 33 o0 7 0) 33 o0 9 0) 33 o0 8 (-1)) Q (fun y1 σ2 => ((y1 ≠ 0 → fx_Wp 49 36 [(33, o0), (11, o1), (3, 0)] [] σ2 Q) ∧ (y1 = 0 → Q (0, 1) σ2))))) : fx_Ca 49 [(33, o0), (11, o1)] σ Q := by
  show fx_Wp 49 0 [(33, o0), (11, o1), (3, 0)] [] σ Q
  refine wi_aload_n (pc' := 1) hm49 rfl rfl rfl (by decide) ?_
  refine wi_getR (pc' := 4) (x := 0) hm49 rfl rfl rfl (by omega) ?_
  refine wc_V (pc' := 7) (by decide) rfl (by decide) ((fx_wE hm49 rfl).trans (fx_exV (mj := 10) (as := []) (rest := []) rfl rk10 rfl rfl rfl rfl rfl)) h (fun σ1 h => ?_)
  refine wi_aload_n (pc' := 8) hm49 rfl rfl rfl (by decide) ?_
  refine wi_iconst (pc' := 9) (v := 0) hm49 rfl rfl rfl ?_
  refine wi_putI (pc' := 12) hm49 rfl rfl (P := 6) rfl ?_
  refine wi_aload_n (pc' := 13) hm49 rfl rfl rfl (by decide) ?_
  refine wi_iconst (pc' := 14) (v := 0) hm49 rfl rfl rfl ?_
  refine wi_putI (pc' := 17) hm49 rfl rfl (P := 7) rfl ?_
  refine wi_aload_n (pc' := 18) hm49 rfl rfl rfl (by decide) ?_
  refine wi_iconst (pc' := 19) (v := 0) hm49 rfl rfl rfl ?_
  refine wi_putI (pc' := 22) hm49 rfl rfl (P := 9) rfl ?_
  refine wi_aload_n (pc' := 23) hm49 rfl rfl rfl (by decide) ?_
  refine wi_iconst (pc' := 24) (v := (-1)) hm49 rfl rfl rfl ?_
  refine wi_putI (pc' := 27) hm49 rfl rfl (P := 8) rfl ?_
  refine wi_aload_n (pc' := 28) hm49 rfl rfl rfl (by decide) ?_
  refine wc_I (pc' := 31) (by decide) rfl (by decide) ((fx_wE hm49 rfl).trans (fx_exV (mj := 50) (as := []) (rest := []) rfl rk50 rfl rfl rfl rfl rfl)) h (fun y1 σ2 h => ?_)
  refine wi_if_ne (pc' := 34) (t := 36) hm49 rfl rfl rfl (fun hc => ?_) (fun hc => ?_)
  · replace h := h.1 hc
    exact h
  · replace h := h.2 hc
    refine wi_iconst (pc' := 35) (v := 1) hm49 rfl rfl rfl ?_
    exact wi_zret hm49 rfl (by decide) h
theorem t49_36 {o0 o1 : Int} {w2 : fx_V} {σ : fx_S} {Q : fx_V → fx_S → Prop} (h : ((14 ≤ (σ 33 o0 7) → fx_CI 51 [(33, o0), (0, (σ 33 o0 6))] σ Q (fun y1 σ1 => (y1 = 0 ∨ y1 = 1) ∧ Q (0, y1) σ1)) ∧ ((σ 33 o0 7) < 14 → fx_CI 52 [(33, o0)] σ Q (fun y2 σ2 => ((y2 ≠ 0 → fx_CI 26 [(11, o1), (26, 1)] σ2 Q (fun y3 σ3 => ((y3 = 0 → fx_CV 31 [(11, o1), (26, 1)] (fx_up σ3 33 o0 9 y3) Q (fun σ4 => (fx_rg ((σ4 33 o0 7) + 1)) ∧ fx_CI 50 [(33, o0)] (fx_up σ4 33 o0 7 ((σ4 33 o0 7) + 1)) Q (fun y4 σ5 => ((y4 ≠ 0 → fx_CI 50 [(33, o0)] σ5 Q (fun y5 σ6 => ((y5 = 3 → (fx_rg ((σ6 33 o0 6) + 1)) ∧ fx_Wp 49 36 [(33, o0), (11, o1), (0, (σ 33 o0 6))] [] (fx_up σ6 33 o0 6 ((σ6 33 o0 6) + 1)) Q) ∧ (y5 ≠ 3 → fx_CI 51 [(33, o0), (0, (σ6 33 o0 6))] σ6 Q (fun y6 σ7 => (y6 = 0 ∨ y6 = 1) ∧ Q (0, y6) σ7))))) ∧ (y4 = 0 → Q (0, 1) σ5))))) ∧ (y3 ≠ 0 → fx_CI 51 [(33, o0), (0, (σ 33 o0 6))] (fx_up σ3 33 o0 9 y3) Q (fun y7 σ8 => (y7 = 0 ∨ y7 = 1) ∧ Q (0, y7) σ8))))) ∧ (y2 = 0 → fx_CI 51 [(33, o0), (0, (σ2 33 o0 6))] σ2 Q (fun y8 σ9 => (y8 = 0 ∨ y8 = 1) ∧ Q (0, y8) σ9))))))) : fx_Wp 49 36 [(33, o0), (11, o1), w2] [] σ Q := by
  refine wi_aload_n (pc' := 37) hm49 rfl rfl rfl (by decide) ?_
  refine wi_getI (pc' := 40) hm49 rfl rfl (P := 7) rfl ?_
  refine wi_bipush (pc' := 42) (v := 14) hm49 rfl rfl rfl ?_
  refine wi_ic_ge (pc' := 45) (t := 148) hm49 rfl rfl rfl (fun hc => ?_) (fun hc => ?_)
  · replace h := h.1 hc
    refine wi_aload_n (pc' := 149) hm49 rfl rfl rfl (by decide) ?_
    refine wi_aload_n (pc' := 150) hm49 rfl rfl rfl (by decide) ?_
    refine wi_getI (pc' := 153) hm49 rfl rfl (P := 6) rfl ?_
    refine wc_I (pc' := 156) (by decide) rfl (by decide) ((fx_wE hm49 rfl).trans (fx_exV (mj := 51) (as := [(0, (σ 33 o0 6))]) (rest := []) rfl rk51 rfl rfl rfl rfl rfl)) h (fun y1 σ1 h => ?_)
    obtain ⟨g1, h⟩ := h
    exact wi_zret hm49 rfl g1 h
  · replace h := h.2 hc
    refine wi_aload_n (pc' := 46) hm49 rfl rfl rfl (by decide) ?_
    refine wi_getI (pc' := 49) hm49 rfl rfl (P := 6) rfl ?_
    refine wi_istore_n (pc' := 50) (L' := [(33, o0), (11, o1), (0, (σ 33 o0 6))]) hm49 rfl rfl rfl ?_
    refine wi_aload_n (pc' := 51) hm49 rfl rfl rfl (by decide) ?_
    refine wc_I (pc' := 54) (by decide) rfl (by decide) ((fx_wE hm49 rfl).trans (fx_exV (mj := 52) (as := []) (rest := []) rfl rk52 rfl rfl rfl rfl rfl)) h (fun y2 σ2 h => ?_)
    refine wi_if_ne (pc' := 57) (t := 66) hm49 rfl rfl rfl (fun hc => ?_) (fun hc => ?_)
    · replace h := h.1 hc
      refine wi_aload_n (pc' := 67) hm49 rfl rfl rfl (by decide) ?_
      refine wi_aload_n (pc' := 68) hm49 rfl rfl rfl (by decide) ?_
      refine wi_aload_n (pc' := 69) hm49 rfl rfl rfl (by decide) ?_
      refine wi_getR (pc' := 72) (x := 1) hm49 rfl rfl rfl (by omega) ?_
      refine wc_I (pc' := 75) (by decide) rfl (by decide) ((fx_wE hm49 rfl).trans (fx_exV (mj := 26) (as := [(26, 1)]) (rest := [(33, o0)]) rfl rk26 rfl rfl rfl rfl rfl)) h (fun y3 σ3 h => ?_)
      refine wi_putI (pc' := 78) hm49 rfl rfl (P := 9) rfl ?_
      refine wi_aload_n (pc' := 79) hm49 rfl rfl rfl (by decide) ?_
      refine wi_getIe (pc' := 82) hm49 rfl rfl (P := 9) rfl (x := y3) fx_upS ?_
      refine wi_if_eq (pc' := 85) (t := 91) hm49 rfl rfl rfl (fun hc => ?_) (fun hc => ?_)
      · replace h := h.1 hc
        refine wi_aload_n (pc' := 92) hm49 rfl rfl rfl (by decide) ?_
        refine wi_aload_n (pc' := 93) hm49 rfl rfl rfl (by decide) ?_
        refine wi_getR (pc' := 96) (x := 1) hm49 rfl rfl rfl (by omega) ?_
        refine wc_V (pc' := 99) (by decide) rfl (by decide) ((fx_wE hm49 rfl).trans (fx_exV (mj := 31) (as := [(26, 1)]) (rest := []) rfl rk31 rfl rfl rfl rfl rfl)) h (fun σ4 h => ?_)
        refine wi_aload_n (pc' := 100) hm49 rfl rfl rfl (by decide) ?_
        refine wi_dup (pc' := 101) hm49 rfl rfl rfl ?_
        refine wi_getI (pc' := 104) hm49 rfl rfl (P := 7) rfl ?_
        refine wi_iconst (pc' := 105) (v := 1) hm49 rfl rfl rfl ?_
        obtain ⟨g1, h⟩ := h
        refine wi_iadd (pc' := 106) hm49 rfl rfl g1 ?_
        refine wi_putI (pc' := 109) hm49 rfl rfl (P := 7) rfl ?_
        refine wi_aload_n (pc' := 110) hm49 rfl rfl rfl (by decide) ?_
        refine wc_I (pc' := 113) (by decide) rfl (by decide) ((fx_wE hm49 rfl).trans (fx_exV (mj := 50) (as := []) (rest := []) rfl rk50 rfl rfl rfl rfl rfl)) h (fun y4 σ5 h => ?_)
        refine wi_if_ne (pc' := 116) (t := 118) hm49 rfl rfl rfl (fun hc => ?_) (fun hc => ?_)
        · replace h := h.1 hc
          refine wi_aload_n (pc' := 119) hm49 rfl rfl rfl (by decide) ?_
          refine wc_I (pc' := 122) (by decide) rfl (by decide) ((fx_wE hm49 rfl).trans (fx_exV (mj := 50) (as := []) (rest := []) rfl rk50 rfl rfl rfl rfl rfl)) h (fun y5 σ6 h => ?_)
          refine wi_iconst (pc' := 123) (v := 3) hm49 rfl rfl rfl ?_
          refine wi_ic_eq (pc' := 126) (t := 135) hm49 rfl rfl rfl (fun hc => ?_) (fun hc => ?_)
          · replace h := h.1 hc
            refine wi_aload_n (pc' := 136) hm49 rfl rfl rfl (by decide) ?_
            refine wi_dup (pc' := 137) hm49 rfl rfl rfl ?_
            refine wi_getI (pc' := 140) hm49 rfl rfl (P := 6) rfl ?_
            refine wi_iconst (pc' := 141) (v := 1) hm49 rfl rfl rfl ?_
            obtain ⟨g2, h⟩ := h
            refine wi_iadd (pc' := 142) hm49 rfl rfl g2 ?_
            refine wi_putI (pc' := 145) hm49 rfl rfl (P := 6) rfl ?_
            refine wi_goto (t := 36) hm49 rfl rfl ?_
            exact h
          · replace h := h.2 hc
            refine wi_aload_n (pc' := 127) hm49 rfl rfl rfl (by decide) ?_
            refine wi_aload_n (pc' := 128) hm49 rfl rfl rfl (by decide) ?_
            refine wi_getI (pc' := 131) hm49 rfl rfl (P := 6) rfl ?_
            refine wc_I (pc' := 134) (by decide) rfl (by decide) ((fx_wE hm49 rfl).trans (fx_exV (mj := 51) (as := [(0, (σ6 33 o0 6))]) (rest := []) rfl rk51 rfl rfl rfl rfl rfl)) h (fun y6 σ7 h => ?_)
            obtain ⟨g2, h⟩ := h
            exact wi_zret hm49 rfl g2 h
        · replace h := h.2 hc
          refine wi_iconst (pc' := 117) (v := 1) hm49 rfl rfl rfl ?_
          exact wi_zret hm49 rfl (by decide) h
      · replace h := h.2 hc
        refine wi_aload_n (pc' := 86) hm49 rfl rfl rfl (by decide) ?_
        refine wi_iload_n (pc' := 87) hm49 rfl rfl rfl ?_
        refine wc_I (pc' := 90) (by decide) rfl (by decide) ((fx_wE hm49 rfl).trans (fx_exV (mj := 51) (as := [(0, (σ 33 o0 6))]) (rest := []) rfl rk51 rfl rfl rfl rfl rfl)) h (fun y7 σ8 h => ?_)
        obtain ⟨g1, h⟩ := h
        exact wi_zret hm49 rfl g1 h
    · replace h := h.2 hc
      refine wi_aload_n (pc' := 58) hm49 rfl rfl rfl (by decide) ?_
      refine wi_aload_n (pc' := 59) hm49 rfl rfl rfl (by decide) ?_
      refine wi_getI (pc' := 62) hm49 rfl rfl (P := 6) rfl ?_
      refine wc_I (pc' := 65) (by decide) rfl (by decide) ((fx_wE hm49 rfl).trans (fx_exV (mj := 51) (as := [(0, (σ2 33 o0 6))]) (rest := []) rfl rk51 rfl rfl rfl rfl rfl)) h (fun y8 σ9 h => ?_)
      obtain ⟨g1, h⟩ := h
      exact wi_zret hm49 rfl g1 h
theorem hm50 : fx_code 50 = fx_c50 := rfl
theorem t50_0 {o0 : Int} {σ : fx_S} {Q : fx_V → fx_S → Prop} (h : (((σ 28 0 5) ≤ (σ 33 o0 6) → Q (0, 0) σ) ∧ ((σ 33 o0 6) < (σ 28 0 5) → (0 ≤ (σ 33 o0 6) ∧ (σ 33 o0 6) < 401) ∧ Q (0, (σ 30 0 (σ 33 o0 6))) σ))) : fx_Ca 50 [(33, o0)] σ Q := by
  show fx_Wp 50 0 [(33, o0)] [] σ Q
  refine wi_aload_n (pc' := 1) hm50 rfl rfl rfl (by decide) ?_
  refine wi_getI (pc' := 4) hm50 rfl rfl (P := 6) rfl ?_
  refine wi_aload_n (pc' := 5) hm50 rfl rfl rfl (by decide) ?_
  refine wi_getR (pc' := 8) (x := 0) hm50 rfl rfl rfl (by omega) ?_
  refine wi_getI (pc' := 11) hm50 rfl rfl (P := 5) rfl ?_
  refine wi_ic_ge (pc' := 14) (t := 29) hm50 rfl rfl rfl (fun hc => ?_) (fun hc => ?_)
  · replace h := h.1 hc
    refine wi_iconst (pc' := 30) (v := 0) hm50 rfl rfl rfl ?_
    exact wi_iret hm50 rfl h
  · replace h := h.2 hc
    refine wi_aload_n (pc' := 15) hm50 rfl rfl rfl (by decide) ?_
    refine wi_getR (pc' := 18) (x := 0) hm50 rfl rfl rfl (by omega) ?_
    refine wi_getR (pc' := 21) (x := 0) hm50 rfl rfl rfl (by omega) ?_
    refine wi_aload_n (pc' := 22) hm50 rfl rfl rfl (by decide) ?_
    refine wi_getI (pc' := 25) hm50 rfl rfl (P := 6) rfl ?_
    obtain ⟨g1, h⟩ := h
    refine wi_iaload (pc' := 26) hm50 rfl rfl rfl rfl (N := 401) rfl g1 ?_
    refine wi_goto (t := 30) hm50 rfl rfl ?_
    exact wi_iret hm50 rfl h
theorem hm51 : fx_code 51 = fx_c51 := rfl
theorem t51_0 {o0 x1 : Int} {σ : fx_S} {Q : fx_V → fx_S → Prop} (h : (((σ 28 0 5) ≤ x1 → Q (0, 0) (fx_up σ 33 o0 8 (σ 28 0 4))) ∧ (x1 < (σ 28 0 5) → (0 ≤ x1 ∧ x1 < 401) ∧ Q (0, 0) (fx_up σ 33 o0 8 (σ 31 0 x1))))) : fx_Ca 51 [(33, o0), (0, x1)] σ Q := by
  show fx_Wp 51 0 [(33, o0), (0, x1)] [] σ Q
  refine wi_aload_n (pc' := 1) hm51 rfl rfl rfl (by decide) ?_
  refine wi_iload_n (pc' := 2) hm51 rfl rfl rfl ?_
  refine wi_aload_n (pc' := 3) hm51 rfl rfl rfl (by decide) ?_
  refine wi_getR (pc' := 6) (x := 0) hm51 rfl rfl rfl (by omega) ?_
  refine wi_getI (pc' := 9) hm51 rfl rfl (P := 5) rfl ?_
  refine wi_ic_ge (pc' := 12) (t := 24) hm51 rfl rfl rfl (fun hc => ?_) (fun hc => ?_)
  · replace h := h.1 hc
    refine wi_aload_n (pc' := 25) hm51 rfl rfl rfl (by decide) ?_
    refine wi_getR (pc' := 28) (x := 0) hm51 rfl rfl rfl (by omega) ?_
    refine wi_getI (pc' := 31) hm51 rfl rfl (P := 4) rfl ?_
    refine wi_putI (pc' := 34) hm51 rfl rfl (P := 8) rfl ?_
    refine wi_iconst (pc' := 35) (v := 0) hm51 rfl rfl rfl ?_
    exact wi_zret hm51 rfl (by decide) h
  · replace h := h.2 hc
    refine wi_aload_n (pc' := 13) hm51 rfl rfl rfl (by decide) ?_
    refine wi_getR (pc' := 16) (x := 0) hm51 rfl rfl rfl (by omega) ?_
    refine wi_getR (pc' := 19) (x := 0) hm51 rfl rfl rfl (by omega) ?_
    refine wi_iload_n (pc' := 20) hm51 rfl rfl rfl ?_
    obtain ⟨g1, h⟩ := h
    refine wi_iaload (pc' := 21) hm51 rfl rfl rfl rfl (N := 401) rfl g1 ?_
    refine wi_goto (t := 31) hm51 rfl rfl ?_
    refine wi_putI (pc' := 34) hm51 rfl rfl (P := 8) rfl ?_
    refine wi_iconst (pc' := 35) (v := 0) hm51 rfl rfl rfl ?_
    exact wi_zret hm51 rfl (by decide) h
theorem hm52 : fx_code 52 = fx_c52 := rfl
theorem t52_0 {o0 : Int} {σ : fx_S} {Q : fx_V → fx_S → Prop} (h : fx_CI 50 [(33, o0)] σ Q (fun y1 σ1 => fx_CV 21 [(26, 1), (0, y1)] σ1 Q (fun σ2 => (fx_rg ((σ2 33 o0 6) + 1)) ∧ (((σ2 26 1 2) = 17 → fx_CI 54 [(33, o0), (0, 0), (0, 100)] (fx_up σ2 33 o0 6 ((σ2 33 o0 6) + 1)) Q (fun y2 σ3 => (y2 = 0 ∨ y2 = 1) ∧ Q (0, y2) σ3)) ∧ ((σ2 26 1 2) ≠ 17 → (((σ2 26 1 2) = 18 → fx_CI 54 [(33, o0), (0, 0), (0, 8)] (fx_up σ2 33 o0 6 ((σ2 33 o0 6) + 1)) Q (fun y3 σ4 => ((y3 = 0 → Q (0, 0) σ4) ∧ (y3 ≠ 0 → fx_CI 54 [(33, o0), (0, 0), (0, 8)] σ4 Q (fun y4 σ5 => ((y4 = 0 → Q (0, 0) σ5) ∧ (y4 ≠ 0 → fx_CI 54 [(33, o0), (0, 0), (0, 1000)] σ5 Q (fun y5 σ6 => ((y5 = 0 → Q (0, 0) σ6) ∧ (y5 ≠ 0 → fx_CI 54 [(33, o0), (0, 1), (0, 1001)] σ6 Q (fun y6 σ7 => ((y6 = 0 → Q (0, 0) σ7) ∧ (y6 ≠ 0 → fx_CI 54 [(33, o0), (0, 0), (0, 100)] σ7 Q (fun y7 σ8 => ((y7 = 0 → Q (0, 0) σ8) ∧ (y7 ≠ 0 → Q (0, 1) σ8)))))))))))))))) ∧ ((σ2 26 1 2) ≠ 18 → (((σ2 26 1 2) = 19 → fx_CI 54 [(33, o0), (0, 0), (0, 60)] (fx_up σ2 33 o0 6 ((σ2 33 o0 6) + 1)) Q (fun y8 σ9 => (y8 = 0 ∨ y8 = 1) ∧ Q (0, y8) σ9)) ∧ ((σ2 26 1 2) ≠ 19 → (((σ2 26 1 2) = 20 → fx_CI 54 [(33, o0), (0, 0), (0, 8)] (fx_up σ2 33 o0 6 ((σ2 33 o0 6) + 1)) Q (fun y9 σ10 => (y9 = 0 ∨ y9 = 1) ∧ Q (0, y9) σ10)) ∧ ((σ2 26 1 2) ≠ 20 → (((σ2 26 1 2) = 21 → fx_CI 54 [(33, o0), (0, 0), (0, 8)] (fx_up σ2 33 o0 6 ((σ2 33 o0 6) + 1)) Q (fun y10 σ11 => (y10 = 0 ∨ y10 = 1) ∧ Q (0, y10) σ11)) ∧ ((σ2 26 1 2) ≠ 21 → (((σ2 26 1 2) = 22 → fx_CI 54 [(33, o0), (0, 0), (0, 8)] (fx_up σ2 33 o0 6 ((σ2 33 o0 6) + 1)) Q (fun y11 σ12 => ((y11 = 0 → Q (0, 0) σ12) ∧ (y11 ≠ 0 → fx_CI 54 [(33, o0), (0, 0), (0, 100)] σ12 Q (fun y12 σ13 => ((y12 = 0 → Q (0, 0) σ13) ∧ (y12 ≠ 0 → Q (0, 1) σ13))))))) ∧ ((σ2 26 1 2) ≠ 22 → (((σ2 26 1 2) = 23 → fx_CI 54 [(33, o0), (0, 0), (0, 8)] (fx_up σ2 33 o0 6 ((σ2 33 o0 6) + 1)) Q (fun y13 σ14 => ((y13 = 0 → Q (0, 0) σ14) ∧ (y13 ≠ 0 → fx_CI 53 [(33, o0), (0, 15)] σ14 Q (fun y14 σ15 => ((y14 = 0 → Q (0, 0) σ15) ∧ (y14 ≠ 0 → fx_CI 54 [(33, o0), (0, 1), (0, 1000)] σ15 Q (fun y15 σ16 => ((y15 = 0 → Q (0, 0) σ16) ∧ (y15 ≠ 0 → Q (0, 1) σ16)))))))))) ∧ ((σ2 26 1 2) ≠ 23 → (((σ2 26 1 2) = 24 → fx_CI 54 [(33, o0), (0, 0), (0, 8)] (fx_up σ2 33 o0 6 ((σ2 33 o0 6) + 1)) Q (fun y16 σ17 => ((y16 = 0 → Q (0, 0) σ17) ∧ (y16 ≠ 0 → fx_CI 55 [(33, o0)] σ17 Q (fun y17 σ18 => ((y17 ≠ 0 → Q (0, 1) σ18) ∧ (y17 = 0 → fx_CI 53 [(33, o0), (0, 14)] σ18 Q (fun y18 σ19 => ((y18 = 0 → Q (0, 0) σ19) ∧ (y18 ≠ 0 → fx_CI 56 [(33, o0), (22, 89), (0, (σ19 27 1 0))] σ19 Q (fun y19 σ20 => ((y19 = 0 → Q (0, 0) σ20) ∧ (y19 ≠ 0 → Q (0, 1) σ20))))))))))))) ∧ ((σ2 26 1 2) ≠ 24 → (fx_rg (((σ2 33 o0 6) + 1) - 1)) ∧ Q (0, 0) (fx_up (fx_up σ2 33 o0 6 ((σ2 33 o0 6) + 1)) 33 o0 6 (((σ2 33 o0 6) + 1) - 1))))))))))))))))))))) : fx_Ca 52 [(33, o0)] σ Q := by
  show fx_Wp 52 0 [(33, o0)] [] σ Q
  refine wi_aload_n (pc' := 1) hm52 rfl rfl rfl (by decide) ?_
  refine wi_getR (pc' := 4) (x := 1) hm52 rfl rfl rfl (by omega) ?_
  refine wi_aload_n (pc' := 5) hm52 rfl rfl rfl (by decide) ?_
  refine wc_I (pc' := 8) (by decide) rfl (by decide) ((fx_wE hm52 rfl).trans (fx_exV (mj := 50) (as := []) (rest := [(26, 1)]) rfl rk50 rfl rfl rfl rfl rfl)) h (fun y1 σ1 h => ?_)
  refine wc_V (pc' := 11) (by decide) rfl (by decide) ((fx_wE hm52 rfl).trans (fx_exV (mj := 21) (as := [(0, y1)]) (rest := []) rfl rk21 rfl rfl rfl rfl rfl)) h (fun σ2 h => ?_)
  refine wi_aload_n (pc' := 12) hm52 rfl rfl rfl (by decide) ?_
  refine wi_dup (pc' := 13) hm52 rfl rfl rfl ?_
  refine wi_getI (pc' := 16) hm52 rfl rfl (P := 6) rfl ?_
  refine wi_iconst (pc' := 17) (v := 1) hm52 rfl rfl rfl ?_
  obtain ⟨g1, h⟩ := h
  refine wi_iadd (pc' := 18) hm52 rfl rfl g1 ?_
  refine wi_putI (pc' := 21) hm52 rfl rfl (P := 6) rfl ?_
  refine wi_aload_n (pc' := 22) hm52 rfl rfl rfl (by decide) ?_
  refine wi_getR (pc' := 25) (x := 1) hm52 rfl rfl rfl (by omega) ?_
  refine wi_getIe (pc' := 28) hm52 rfl rfl (P := 2) rfl (x := (σ2 26 1 2)) (Eq.trans (fx_upK rfl) rfl) ?_
  refine wi_tsw hm52 rfl ?_
  refine fx_swc (fun hc => ?_) (fun hc => ?_)
  · replace h := h.1 hc
    refine wi_aload_n (pc' := 77) hm52 rfl rfl rfl (by decide) ?_
    refine wi_iconst (pc' := 78) (v := 0) hm52 rfl rfl rfl ?_
    refine wi_bipush (pc' := 80) (v := 100) hm52 rfl rfl rfl ?_
    refine wc_I (pc' := 83) (by decide) rfl (by decide) ((fx_wE hm52 rfl).trans (fx_exV (mj := 54) (as := [(0, 0), (0, 100)]) (rest := []) rfl rk54 rfl rfl rfl rfl rfl)) h (fun y2 σ3 h => ?_)
    obtain ⟨g2, h⟩ := h
    exact wi_zret hm52 rfl g2 h
  · replace h := h.2 hc
    refine fx_swc (fun hc => ?_) (fun hc => ?_)
    · replace h := h.1 hc
      refine wi_aload_n (pc' := 85) hm52 rfl rfl rfl (by decide) ?_
      refine wi_iconst (pc' := 86) (v := 0) hm52 rfl rfl rfl ?_
      refine wi_bipush (pc' := 88) (v := 8) hm52 rfl rfl rfl ?_
      refine wc_I (pc' := 91) (by decide) rfl (by decide) ((fx_wE hm52 rfl).trans (fx_exV (mj := 54) (as := [(0, 0), (0, 8)]) (rest := []) rfl rk54 rfl rfl rfl rfl rfl)) h (fun y3 σ4 h => ?_)
      refine wi_if_eq (pc' := 94) (t := 140) hm52 rfl rfl rfl (fun hc => ?_) (fun hc => ?_)
      · replace h := h.1 hc
        refine wi_iconst (pc' := 141) (v := 0) hm52 rfl rfl rfl ?_
        exact wi_zret hm52 rfl (by decide) h
      · replace h := h.2 hc
        refine wi_aload_n (pc' := 95) hm52 rfl rfl rfl (by decide) ?_
        refine wi_iconst (pc' := 96) (v := 0) hm52 rfl rfl rfl ?_
        refine wi_bipush (pc' := 98) (v := 8) hm52 rfl rfl rfl ?_
        refine wc_I (pc' := 101) (by decide) rfl (by decide) ((fx_wE hm52 rfl).trans (fx_exV (mj := 54) (as := [(0, 0), (0, 8)]) (rest := []) rfl rk54 rfl rfl rfl rfl rfl)) h (fun y4 σ5 h => ?_)
        refine wi_if_eq (pc' := 104) (t := 140) hm52 rfl rfl rfl (fun hc => ?_) (fun hc => ?_)
        · replace h := h.1 hc
          refine wi_iconst (pc' := 141) (v := 0) hm52 rfl rfl rfl ?_
          exact wi_zret hm52 rfl (by decide) h
        · replace h := h.2 hc
          refine wi_aload_n (pc' := 105) hm52 rfl rfl rfl (by decide) ?_
          refine wi_iconst (pc' := 106) (v := 0) hm52 rfl rfl rfl ?_
          refine wi_sipush (pc' := 109) (v := 1000) hm52 rfl rfl rfl ?_
          refine wc_I (pc' := 112) (by decide) rfl (by decide) ((fx_wE hm52 rfl).trans (fx_exV (mj := 54) (as := [(0, 0), (0, 1000)]) (rest := []) rfl rk54 rfl rfl rfl rfl rfl)) h (fun y5 σ6 h => ?_)
          refine wi_if_eq (pc' := 115) (t := 140) hm52 rfl rfl rfl (fun hc => ?_) (fun hc => ?_)
          · replace h := h.1 hc
            refine wi_iconst (pc' := 141) (v := 0) hm52 rfl rfl rfl ?_
            exact wi_zret hm52 rfl (by decide) h
          · replace h := h.2 hc
            refine wi_aload_n (pc' := 116) hm52 rfl rfl rfl (by decide) ?_
            refine wi_iconst (pc' := 117) (v := 1) hm52 rfl rfl rfl ?_
            refine wi_sipush (pc' := 120) (v := 1001) hm52 rfl rfl rfl ?_
            refine wc_I (pc' := 123) (by decide) rfl (by decide) ((fx_wE hm52 rfl).trans (fx_exV (mj := 54) (as := [(0, 1), (0, 1001)]) (rest := []) rfl rk54 rfl rfl rfl rfl rfl)) h (fun y6 σ7 h => ?_)
            refine wi_if_eq (pc' := 126) (t := 140) hm52 rfl rfl rfl (fun hc => ?_) (fun hc => ?_)
            · replace h := h.1 hc
              refine wi_iconst (pc' := 141) (v := 0) hm52 rfl rfl rfl ?_
              exact wi_zret hm52 rfl (by decide) h
            · replace h := h.2 hc
              refine wi_aload_n (pc' := 127) hm52 rfl rfl rfl (by decide) ?_
              refine wi_iconst (pc' := 128) (v := 0) hm52 rfl rfl rfl ?_
              refine wi_bipush (pc' := 130) (v := 100) hm52 rfl rfl rfl ?_
              refine wc_I (pc' := 133) (by decide) rfl (by decide) ((fx_wE hm52 rfl).trans (fx_exV (mj := 54) (as := [(0, 0), (0, 100)]) (rest := []) rfl rk54 rfl rfl rfl rfl rfl)) h (fun y7 σ8 h => ?_)
              refine wi_if_eq (pc' := 136) (t := 140) hm52 rfl rfl rfl (fun hc => ?_) (fun hc => ?_)
              · replace h := h.1 hc
                refine wi_iconst (pc' := 141) (v := 0) hm52 rfl rfl rfl ?_
                exact wi_zret hm52 rfl (by decide) h
              · replace h := h.2 hc
                refine wi_iconst (pc' := 137) (v := 1) hm52 rfl rfl rfl ?_
                refine wi_goto (t := 141) hm52 rfl rfl ?_
                exact wi_zret hm52 rfl (by decide) h
    · replace h := h.2 hc
      refine fx_swc (fun hc => ?_) (fun hc => ?_)
      · replace h := h.1 hc
        refine wi_aload_n (pc' := 143) hm52 rfl rfl rfl (by decide) ?_
        refine wi_iconst (pc' := 144) (v := 0) hm52 rfl rfl rfl ?_
        refine wi_bipush (pc' := 146) (v := 60) hm52 rfl rfl rfl ?_
        refine wc_I (pc' := 149) (by decide) rfl (by decide) ((fx_wE hm52 rfl).trans (fx_exV (mj := 54) (as := [(0, 0), (0, 60)]) (rest := []) rfl rk54 rfl rfl rfl rfl rfl)) h (fun y8 σ9 h => ?_)
        obtain ⟨g2, h⟩ := h
        exact wi_zret hm52 rfl g2 h
      · replace h := h.2 hc
        refine fx_swc (fun hc => ?_) (fun hc => ?_)
        · replace h := h.1 hc
          refine wi_aload_n (pc' := 151) hm52 rfl rfl rfl (by decide) ?_
          refine wi_iconst (pc' := 152) (v := 0) hm52 rfl rfl rfl ?_
          refine wi_bipush (pc' := 154) (v := 8) hm52 rfl rfl rfl ?_
          refine wc_I (pc' := 157) (by decide) rfl (by decide) ((fx_wE hm52 rfl).trans (fx_exV (mj := 54) (as := [(0, 0), (0, 8)]) (rest := []) rfl rk54 rfl rfl rfl rfl rfl)) h (fun y9 σ10 h => ?_)
          obtain ⟨g2, h⟩ := h
          exact wi_zret hm52 rfl g2 h
        · replace h := h.2 hc
          refine fx_swc (fun hc => ?_) (fun hc => ?_)
          · replace h := h.1 hc
            refine wi_aload_n (pc' := 151) hm52 rfl rfl rfl (by decide) ?_
            refine wi_iconst (pc' := 152) (v := 0) hm52 rfl rfl rfl ?_
            refine wi_bipush (pc' := 154) (v := 8) hm52 rfl rfl rfl ?_
            refine wc_I (pc' := 157) (by decide) rfl (by decide) ((fx_wE hm52 rfl).trans (fx_exV (mj := 54) (as := [(0, 0), (0, 8)]) (rest := []) rfl rk54 rfl rfl rfl rfl rfl)) h (fun y10 σ11 h => ?_)
            obtain ⟨g2, h⟩ := h
            exact wi_zret hm52 rfl g2 h
          · replace h := h.2 hc
            refine fx_swc (fun hc => ?_) (fun hc => ?_)
            · replace h := h.1 hc
              refine wi_aload_n (pc' := 159) hm52 rfl rfl rfl (by decide) ?_
              refine wi_iconst (pc' := 160) (v := 0) hm52 rfl rfl rfl ?_
              refine wi_bipush (pc' := 162) (v := 8) hm52 rfl rfl rfl ?_
              refine wc_I (pc' := 165) (by decide) rfl (by decide) ((fx_wE hm52 rfl).trans (fx_exV (mj := 54) (as := [(0, 0), (0, 8)]) (rest := []) rfl rk54 rfl rfl rfl rfl rfl)) h (fun y11 σ12 h => ?_)
              refine wi_if_eq (pc' := 168) (t := 182) hm52 rfl rfl rfl (fun hc => ?_) (fun hc => ?_)
              · replace h := h.1 hc
                refine wi_iconst (pc' := 183) (v := 0) hm52 rfl rfl rfl ?_
                exact wi_zret hm52 rfl (by decide) h
              · replace h := h.2 hc
                refine wi_aload_n (pc' := 169) hm52 rfl rfl rfl (by decide) ?_
                refine wi_iconst (pc' := 170) (v := 0) hm52 rfl rfl rfl ?_
                refine wi_bipush (pc' := 172) (v := 100) hm52 rfl rfl rfl ?_
                refine wc_I (pc' := 175) (by decide) rfl (by decide) ((fx_wE hm52 rfl).trans (fx_exV (mj := 54) (as := [(0, 0), (0, 100)]) (rest := []) rfl rk54 rfl rfl rfl rfl rfl)) h (fun y12 σ13 h => ?_)
                refine wi_if_eq (pc' := 178) (t := 182) hm52 rfl rfl rfl (fun hc => ?_) (fun hc => ?_)
                · replace h := h.1 hc
                  refine wi_iconst (pc' := 183) (v := 0) hm52 rfl rfl rfl ?_
                  exact wi_zret hm52 rfl (by decide) h
                · replace h := h.2 hc
                  refine wi_iconst (pc' := 179) (v := 1) hm52 rfl rfl rfl ?_
                  refine wi_goto (t := 183) hm52 rfl rfl ?_
                  exact wi_zret hm52 rfl (by decide) h
            · replace h := h.2 hc
              refine fx_swc (fun hc => ?_) (fun hc => ?_)
              · replace h := h.1 hc
                refine wi_aload_n (pc' := 185) hm52 rfl rfl rfl (by decide) ?_
                refine wi_iconst (pc' := 186) (v := 0) hm52 rfl rfl rfl ?_
                refine wi_bipush (pc' := 188) (v := 8) hm52 rfl rfl rfl ?_
                refine wc_I (pc' := 191) (by decide) rfl (by decide) ((fx_wE hm52 rfl).trans (fx_exV (mj := 54) (as := [(0, 0), (0, 8)]) (rest := []) rfl rk54 rfl rfl rfl rfl rfl)) h (fun y13 σ14 h => ?_)
                refine wi_if_eq (pc' := 194) (t := 218) hm52 rfl rfl rfl (fun hc => ?_) (fun hc => ?_)
                · replace h := h.1 hc
                  refine wi_iconst (pc' := 219) (v := 0) hm52 rfl rfl rfl ?_
                  exact wi_zret hm52 rfl (by decide) h
                · replace h := h.2 hc
                  refine wi_aload_n (pc' := 195) hm52 rfl rfl rfl (by decide) ?_
                  refine wi_bipush (pc' := 197) (v := 15) hm52 rfl rfl rfl ?_
                  refine wc_I (pc' := 200) (by decide) rfl (by decide) ((fx_wE hm52 rfl).trans (fx_exV (mj := 53) (as := [(0, 15)]) (rest := []) rfl rk53 rfl rfl rfl rfl rfl)) h (fun y14 σ15 h => ?_)
                  refine wi_if_eq (pc' := 203) (t := 218) hm52 rfl rfl rfl (fun hc => ?_) (fun hc => ?_)
                  · replace h := h.1 hc
                    refine wi_iconst (pc' := 219) (v := 0) hm52 rfl rfl rfl ?_
                    exact wi_zret hm52 rfl (by decide) h
                  · replace h := h.2 hc
                    refine wi_aload_n (pc' := 204) hm52 rfl rfl rfl (by decide) ?_
                    refine wi_iconst (pc' := 205) (v := 1) hm52 rfl rfl rfl ?_
                    refine wi_sipush (pc' := 208) (v := 1000) hm52 rfl rfl rfl ?_
                    refine wc_I (pc' := 211) (by decide) rfl (by decide) ((fx_wE hm52 rfl).trans (fx_exV (mj := 54) (as := [(0, 1), (0, 1000)]) (rest := []) rfl rk54 rfl rfl rfl rfl rfl)) h (fun y15 σ16 h => ?_)
                    refine wi_if_eq (pc' := 214) (t := 218) hm52 rfl rfl rfl (fun hc => ?_) (fun hc => ?_)
                    · replace h := h.1 hc
                      refine wi_iconst (pc' := 219) (v := 0) hm52 rfl rfl rfl ?_
                      exact wi_zret hm52 rfl (by decide) h
                    · replace h := h.2 hc
                      refine wi_iconst (pc' := 215) (v := 1) hm52 rfl rfl rfl ?_
                      refine wi_goto (t := 219) hm52 rfl rfl ?_
                      exact wi_zret hm52 rfl (by decide) h
              · replace h := h.2 hc
                refine fx_swc (fun hc => ?_) (fun hc => ?_)
                · replace h := h.1 hc
                  refine wi_aload_n (pc' := 221) hm52 rfl rfl rfl (by decide) ?_
                  refine wi_iconst (pc' := 222) (v := 0) hm52 rfl rfl rfl ?_
                  refine wi_bipush (pc' := 224) (v := 8) hm52 rfl rfl rfl ?_
                  refine wc_I (pc' := 227) (by decide) rfl (by decide) ((fx_wE hm52 rfl).trans (fx_exV (mj := 54) (as := [(0, 0), (0, 8)]) (rest := []) rfl rk54 rfl rfl rfl rfl rfl)) h (fun y16 σ17 h => ?_)
                  refine wi_if_eq (pc' := 230) (t := 273) hm52 rfl rfl rfl (fun hc => ?_) (fun hc => ?_)
                  · replace h := h.1 hc
                    refine wi_iconst (pc' := 274) (v := 0) hm52 rfl rfl rfl ?_
                    exact wi_zret hm52 rfl (by decide) h
                  · replace h := h.2 hc
                    refine wi_aload_n (pc' := 231) hm52 rfl rfl rfl (by decide) ?_
                    refine wc_I (pc' := 234) (by decide) rfl (by decide) ((fx_wE hm52 rfl).trans (fx_exV (mj := 55) (as := []) (rest := []) rfl rk55 rfl rfl rfl rfl rfl)) h (fun y17 σ18 h => ?_)
                    refine wi_if_ne (pc' := 237) (t := 269) hm52 rfl rfl rfl (fun hc => ?_) (fun hc => ?_)
                    · replace h := h.1 hc
                      refine wi_iconst (pc' := 270) (v := 1) hm52 rfl rfl rfl ?_
                      refine wi_goto (t := 274) hm52 rfl rfl ?_
                      exact wi_zret hm52 rfl (by decide) h
                    · replace h := h.2 hc
                      refine wi_aload_n (pc' := 238) hm52 rfl rfl rfl (by decide) ?_
                      refine wi_bipush (pc' := 240) (v := 14) hm52 rfl rfl rfl ?_
                      refine wc_I (pc' := 243) (by decide) rfl (by decide) ((fx_wE hm52 rfl).trans (fx_exV (mj := 53) (as := [(0, 14)]) (rest := []) rfl rk53 rfl rfl rfl rfl rfl)) h (fun y18 σ19 h => ?_)
                      refine wi_if_eq (pc' := 246) (t := 273) hm52 rfl rfl rfl (fun hc => ?_) (fun hc => ?_)
                      · replace h := h.1 hc
                        refine wi_iconst (pc' := 274) (v := 0) hm52 rfl rfl rfl ?_
                        exact wi_zret hm52 rfl (by decide) h
                      · replace h := h.2 hc
                        refine wi_aload_n (pc' := 247) hm52 rfl rfl rfl (by decide) ?_
                        refine wi_aload_n (pc' := 248) hm52 rfl rfl rfl (by decide) ?_
                        refine wi_getR (pc' := 251) (x := 1) hm52 rfl rfl rfl (by omega) ?_
                        refine wi_getR (pc' := 254) (x := 89) hm52 rfl rfl rfl (by omega) ?_
                        refine wi_aload_n (pc' := 255) hm52 rfl rfl rfl (by decide) ?_
                        refine wi_getR (pc' := 258) (x := 1) hm52 rfl rfl rfl (by omega) ?_
                        refine wi_getR (pc' := 261) (x := 1) hm52 rfl rfl rfl (by omega) ?_
                        refine wi_iconst (pc' := 262) (v := 0) hm52 rfl rfl rfl ?_
                        refine wi_iaload (pc' := 263) hm52 rfl rfl rfl rfl (N := 5) rfl (by decide) ?_
                        refine wc_I (pc' := 266) (by decide) rfl (by decide) ((fx_wE hm52 rfl).trans (fx_exV (mj := 56) (as := [(22, 89), (0, (σ19 27 1 0))]) (rest := []) rfl rk56 rfl rfl rfl rfl rfl)) h (fun y19 σ20 h => ?_)
                        refine wi_if_eq (pc' := 269) (t := 273) hm52 rfl rfl rfl (fun hc => ?_) (fun hc => ?_)
                        · replace h := h.1 hc
                          refine wi_iconst (pc' := 274) (v := 0) hm52 rfl rfl rfl ?_
                          exact wi_zret hm52 rfl (by decide) h
                        · replace h := h.2 hc
                          refine wi_iconst (pc' := 270) (v := 1) hm52 rfl rfl rfl ?_
                          refine wi_goto (t := 274) hm52 rfl rfl ?_
                          exact wi_zret hm52 rfl (by decide) h
                · replace h := h.2 hc
                  refine fx_swn ?_
                  refine wi_aload_n (pc' := 276) hm52 rfl rfl rfl (by decide) ?_
                  refine wi_dup (pc' := 277) hm52 rfl rfl rfl ?_
                  refine wi_getIe (pc' := 280) hm52 rfl rfl (P := 6) rfl (x := ((σ2 33 o0 6) + 1)) fx_upS ?_
                  refine wi_iconst (pc' := 281) (v := 1) hm52 rfl rfl rfl ?_
                  obtain ⟨g2, h⟩ := h
                  refine wi_isub (pc' := 282) hm52 rfl rfl g2 ?_
                  refine wi_putI (pc' := 285) hm52 rfl rfl (P := 6) rfl ?_
                  refine wi_iconst (pc' := 286) (v := 0) hm52 rfl rfl rfl ?_
                  exact wi_zret hm52 rfl (by decide) h
theorem hm53 : fx_code 53 = fx_c53 := rfl
theorem t53_0 {o0 x1 : Int} {σ : fx_S} {Q : fx_V → fx_S → Prop} (h : fx_CI 50 [(33, o0)] σ Q (fun y1 σ1 => ((y1 = x1 → (fx_rg ((σ1 33 o0 6) + 1)) ∧ Q (0, 1) (fx_up σ1 33 o0 6 ((σ1 33 o0 6) + 1))) ∧ (y1 ≠ x1 → Q (0, 0) σ1)))) : fx_Ca 53 [(33, o0), (0, x1)] σ Q := by
  show fx_Wp 53 0 [(33, o0), (0, x1)] [] σ Q
  refine wi_aload_n (pc' := 1) hm53 rfl rfl rfl (by decide) ?_
  refine wc_I (pc' := 4) (by decide) rfl (by decide) ((fx_wE hm53 rfl).trans (fx_exV (mj := 50) (as := []) (rest := []) rfl rk50 rfl rfl rfl rfl rfl)) h (fun y1 σ1 h => ?_)
  refine wi_iload_n (pc' := 5) hm53 rfl rfl rfl ?_
  refine wi_ic_eq (pc' := 8) (t := 10) hm53 rfl rfl rfl (fun hc => ?_) (fun hc => ?_)
  · replace h := h.1 hc
    refine wi_aload_n (pc' := 11) hm53 rfl rfl rfl (by decide) ?_
    refine wi_dup (pc' := 12) hm53 rfl rfl rfl ?_
    refine wi_getI (pc' := 15) hm53 rfl rfl (P := 6) rfl ?_
    refine wi_iconst (pc' := 16) (v := 1) hm53 rfl rfl rfl ?_
    obtain ⟨g1, h⟩ := h
    refine wi_iadd (pc' := 17) hm53 rfl rfl g1 ?_
    refine wi_putI (pc' := 20) hm53 rfl rfl (P := 6) rfl ?_
    refine wi_iconst (pc' := 21) (v := 1) hm53 rfl rfl rfl ?_
    exact wi_zret hm53 rfl (by decide) h
  · replace h := h.2 hc
    refine wi_iconst (pc' := 9) (v := 0) hm53 rfl rfl rfl ?_
    exact wi_zret hm53 rfl (by decide) h
theorem hm54 : fx_code 54 = fx_c54 := rfl
theorem t54_0 {o0 x1 x2 : Int} {σ : fx_S} {Q : fx_V → fx_S → Prop} (h : fx_CI 50 [(33, o0)] σ Q (fun y1 σ1 => ((y1 ≠ 1 → Q (0, 0) σ1) ∧ (y1 = 1 → (0 ≤ (σ1 33 o0 6) ∧ (σ1 33 o0 6) < 401) ∧ (((σ1 32 0 (σ1 33 o0 6)) < x1 → Q (0, 0) σ1) ∧ (x1 ≤ (σ1 32 0 (σ1 33 o0 6)) → (((σ1 32 0 (σ1 33 o0 6)) < x2 → fx_CV 22 [(26, 1), (0, (σ1 32 0 (σ1 33 o0 6)))] σ1 Q (fun σ2 => (fx_rg ((σ2 33 o0 6) + 1)) ∧ Q (0, 1) (fx_up σ2 33 o0 6 ((σ2 33 o0 6) + 1)))) ∧ (x2 ≤ (σ1 32 0 (σ1 33 o0 6)) → Q (0, 0) σ1)))))))) : fx_Ca 54 [(33, o0), (0, x1), (0, x2)] σ Q := by
  show fx_Wp 54 0 [(33, o0), (0, x1), (0, x2)] [] σ Q
  refine wi_aload_n (pc' := 1) hm54 rfl rfl rfl (by decide) ?_
  refine wc_I (pc' := 4) (by decide) rfl (by decide) ((fx_wE hm54 rfl).trans (fx_exV (mj := 50) (as := []) (rest := []) rfl rk50 rfl rfl rfl rfl rfl)) h (fun y1 σ1 h => ?_)
  refine wi_iconst (pc' := 5) (v := 1) hm54 rfl rfl rfl ?_
  refine wi_ic_ne (pc' := 8) (t := 40) hm54 rfl rfl rfl (fun hc => ?_) (fun hc => ?_)
  · replace h := h.1 hc
    refine wi_iconst (pc' := 41) (v := 0) hm54 rfl rfl rfl ?_
    exact wi_zret hm54 rfl (by decide) h
  · replace h := h.2 hc
    refine wi_aload_n (pc' := 9) hm54 rfl rfl rfl (by decide) ?_
    refine wi_getR (pc' := 12) (x := 0) hm54 rfl rfl rfl (by omega) ?_
    refine wi_getR (pc' := 15) (x := 0) hm54 rfl rfl rfl (by omega) ?_
    refine wi_aload_n (pc' := 16) hm54 rfl rfl rfl (by decide) ?_
    refine wi_getI (pc' := 19) hm54 rfl rfl (P := 6) rfl ?_
    obtain ⟨g1, h⟩ := h
    refine wi_iaload (pc' := 20) hm54 rfl rfl rfl rfl (N := 401) rfl g1 ?_
    refine wi_iload_n (pc' := 21) hm54 rfl rfl rfl ?_
    refine wi_ic_lt (pc' := 24) (t := 40) hm54 rfl rfl rfl (fun hc => ?_) (fun hc => ?_)
    · replace h := h.1 hc
      refine wi_iconst (pc' := 41) (v := 0) hm54 rfl rfl rfl ?_
      exact wi_zret hm54 rfl (by decide) h
    · replace h := h.2 hc
      refine wi_aload_n (pc' := 25) hm54 rfl rfl rfl (by decide) ?_
      refine wi_getR (pc' := 28) (x := 0) hm54 rfl rfl rfl (by omega) ?_
      refine wi_getR (pc' := 31) (x := 0) hm54 rfl rfl rfl (by omega) ?_
      refine wi_aload_n (pc' := 32) hm54 rfl rfl rfl (by decide) ?_
      refine wi_getI (pc' := 35) hm54 rfl rfl (P := 6) rfl ?_
      refine wi_iaload (pc' := 36) hm54 rfl rfl rfl rfl (N := 401) rfl g1 ?_
      refine wi_iload_n (pc' := 37) hm54 rfl rfl rfl ?_
      refine wi_ic_lt (pc' := 40) (t := 42) hm54 rfl rfl rfl (fun hc => ?_) (fun hc => ?_)
      · replace h := h.1 hc
        refine wi_aload_n (pc' := 43) hm54 rfl rfl rfl (by decide) ?_
        refine wi_getR (pc' := 46) (x := 1) hm54 rfl rfl rfl (by omega) ?_
        refine wi_aload_n (pc' := 47) hm54 rfl rfl rfl (by decide) ?_
        refine wi_getR (pc' := 50) (x := 0) hm54 rfl rfl rfl (by omega) ?_
        refine wi_getR (pc' := 53) (x := 0) hm54 rfl rfl rfl (by omega) ?_
        refine wi_aload_n (pc' := 54) hm54 rfl rfl rfl (by decide) ?_
        refine wi_getI (pc' := 57) hm54 rfl rfl (P := 6) rfl ?_
        refine wi_iaload (pc' := 58) hm54 rfl rfl rfl rfl (N := 401) rfl g1 ?_
        refine wc_V (pc' := 61) (by decide) rfl (by decide) ((fx_wE hm54 rfl).trans (fx_exV (mj := 22) (as := [(0, (σ1 32 0 (σ1 33 o0 6)))]) (rest := []) rfl rk22 rfl rfl rfl rfl rfl)) h (fun σ2 h => ?_)
        refine wi_aload_n (pc' := 62) hm54 rfl rfl rfl (by decide) ?_
        refine wi_dup (pc' := 63) hm54 rfl rfl rfl ?_
        refine wi_getI (pc' := 66) hm54 rfl rfl (P := 6) rfl ?_
        refine wi_iconst (pc' := 67) (v := 1) hm54 rfl rfl rfl ?_
        obtain ⟨g2, h⟩ := h
        refine wi_iadd (pc' := 68) hm54 rfl rfl g2 ?_
        refine wi_putI (pc' := 71) hm54 rfl rfl (P := 6) rfl ?_
        refine wi_iconst (pc' := 72) (v := 1) hm54 rfl rfl rfl ?_
        exact wi_zret hm54 rfl (by decide) h
      · replace h := h.2 hc
        refine wi_iconst (pc' := 41) (v := 0) hm54 rfl rfl rfl ?_
        exact wi_zret hm54 rfl (by decide) h
theorem hm55 : fx_code 55 = fx_c55 := rfl
theorem t55_0 {o0 : Int} {σ : fx_S} {Q : fx_V → fx_S → Prop} (h : fx_CI 53 [(33, o0), (0, 16)] σ Q (fun y1 σ1 => ((y1 ≠ 0 → Q (0, 1) (fx_up σ1 26 1 2 16)) ∧ (y1 = 0 → Q (0, 0) σ1)))) : fx_Ca 55 [(33, o0)] σ Q := by
  show fx_Wp 55 0 [(33, o0)] [] σ Q
  refine wi_aload_n (pc' := 1) hm55 rfl rfl rfl (by decide) ?_
  refine wi_bipush (pc' := 3) (v := 16) hm55 rfl rfl rfl ?_
  refine wc_I (pc' := 6) (by decide) rfl (by decide) ((fx_wE hm55 rfl).trans (fx_exV (mj := 53) (as := [(0, 16)]) (rest := []) rfl rk53 rfl rfl rfl rfl rfl)) h (fun y1 σ1 h => ?_)
  refine wi_if_ne (pc' := 9) (t := 11) hm55 rfl rfl rfl (fun hc => ?_) (fun hc => ?_)
  · replace h := h.1 hc
    refine wi_aload_n (pc' := 12) hm55 rfl rfl rfl (by decide) ?_
    refine wi_getR (pc' := 15) (x := 1) hm55 rfl rfl rfl (by omega) ?_
    refine wi_bipush (pc' := 17) (v := 16) hm55 rfl rfl rfl ?_
    refine wi_putI (pc' := 20) hm55 rfl rfl (P := 2) rfl ?_
    refine wi_iconst (pc' := 21) (v := 1) hm55 rfl rfl rfl ?_
    exact wi_zret hm55 rfl (by decide) h
  · replace h := h.2 hc
    refine wi_iconst (pc' := 10) (v := 0) hm55 rfl rfl rfl ?_
    exact wi_zret hm55 rfl (by decide) h
theorem hm56 : fx_code 56 = fx_c56 := rfl
theorem t56_0 {o0 o1 x2 : Int} {σ : fx_S} {Q : fx_V → fx_S → Prop} (h : fx_CV 4 [(22, o1)] σ Q (fun σ1 => fx_Wp 56 31 [(33, o0), (22, o1), (0, x2), (0, 0), (0, 1), (0, 1), (0, (σ1 28 0 5)), (3, 0)] [] (fx_up (fx_up σ1 33 o0 4 0) 33 o0 5 0) Q)) : fx_Ca 56 [(33, o0), (22, o1), (0, x2)] σ Q := by
  show fx_Wp 56 0 [(33, o0), (22, o1), (0, x2), (3, 0), (3, 0), (3, 0), (3, 0), (3, 0)] [] σ Q
  refine wi_aload_n (pc' := 1) hm56 rfl rfl rfl (by decide) ?_
  refine wc_V (pc' := 4) (by decide) rfl (by decide) ((fx_wE hm56 rfl).trans (fx_exV (mj := 4) (as := []) (rest := []) rfl rk4 rfl rfl rfl rfl rfl)) h (fun σ1 h => ?_)
  refine wi_aload_n (pc' := 5) hm56 rfl rfl rfl (by decide) ?_
  refine wi_iconst (pc' := 6) (v := 0) hm56 rfl rfl rfl ?_
  refine wi_putI (pc' := 9) hm56 rfl rfl (P := 4) rfl ?_
  refine wi_aload_n (pc' := 10) hm56 rfl rfl rfl (by decide) ?_
  refine wi_iconst (pc' := 11) (v := 0) hm56 rfl rfl rfl ?_
  refine wi_putI (pc' := 14) hm56 rfl rfl (P := 5) rfl ?_
  refine wi_iconst (pc' := 15) (v := 0) hm56 rfl rfl rfl ?_
  refine wi_istore_n (pc' := 16) (L' := [(33, o0), (22, o1), (0, x2), (0, 0), (3, 0), (3, 0), (3, 0), (3, 0)]) hm56 rfl rfl rfl ?_
  refine wi_iconst (pc' := 17) (v := 1) hm56 rfl rfl rfl ?_
  refine wi_istore (pc' := 19) (L' := [(33, o0), (22, o1), (0, x2), (0, 0), (0, 1), (3, 0), (3, 0), (3, 0)]) hm56 rfl rfl rfl ?_
  refine wi_iconst (pc' := 20) (v := 1) hm56 rfl rfl rfl ?_
  refine wi_istore (pc' := 22) (L' := [(33, o0), (22, o1), (0, x2), (0, 0), (0, 1), (0, 1), (3, 0), (3, 0)]) hm56 rfl rfl rfl ?_
  refine wi_aload_n (pc' := 23) hm56 rfl rfl rfl (by decide) ?_
  refine wi_getR (pc' := 26) (x := 0) hm56 rfl rfl rfl (by omega) ?_
  refine wi_getIe (pc' := 29) hm56 rfl rfl (P := 5) rfl (x := (σ1 28 0 5)) (Eq.trans (fx_upK rfl) (Eq.trans (fx_upK rfl) rfl)) ?_
  refine wi_istore (pc' := 31) (L' := [(33, o0), (22, o1), (0, x2), (0, 0), (0, 1), (0, 1), (0, (σ1 28 0 5)), (3, 0)]) hm56 rfl rfl rfl ?_
  exact h
theorem t56_31 {o0 o1 x2 x3 x4 x5 x6 : Int} {w7 : fx_V} {σ : fx_S} {Q : fx_V → fx_S → Prop} (h : ((x6 ≤ 0 → fx_Wp 56 177 [(33, o0), (22, o1), (0, x2), (0, x3), (0, x4), (0, x5), (0, x6), w7] [] σ Q) ∧ (0 < x6 → ((x5 = 0 → fx_Wp 56 177 [(33, o0), (22, o1), (0, x2), (0, x3), (0, x4), (0, x5), (0, x6), w7] [] σ Q) ∧ (x5 ≠ 0 → fx_CI 50 [(33, o0)] σ Q (fun y1 σ1 => ((x4 = 0 → fx_Wp 56 74 [(33, o0), (22, o1), (0, x2), (0, x3), (0, x4), (0, x5), (0, x6), (0, y1)] [] σ1 Q) ∧ (x4 ≠ 0 → ((y1 ≠ 4 → fx_Wp 56 74 [(33, o0), (22, o1), (0, x2), (0, x3), (0, x4), (0, x5), (0, x6), (0, y1)] [] σ1 Q) ∧ (y1 = 4 → ((4 ≤ x3 → fx_Wp 56 74 [(33, o0), (22, o1), (0, x2), (0, x3), (0, x4), (0, x5), (0, x6), (0, y1)] [] σ1 Q) ∧ (x3 < 4 → (fx_rg (x3 + 1)) ∧ fx_CV 57 [(33, o0), (0, 4)] σ1 Q (fun σ2 => (fx_rg (x6 + (-1))) ∧ fx_Wp 56 31 [(33, o0), (22, o1), (0, x2), (0, (x3 + 1)), (0, x4), (0, x5), (0, (x6 + (-1))), (0, y1)] [] σ2 Q))))))))))))) : fx_Wp 56 31 [(33, o0), (22, o1), (0, x2), (0, x3), (0, x4), (0, x5), (0, x6), w7] [] σ Q := by
  refine wi_iload (pc' := 33) hm56 rfl rfl rfl ?_
  refine wi_if_le (pc' := 36) (t := 177) hm56 rfl rfl rfl (fun hc => ?_) (fun hc => ?_)
  · replace h := h.1 hc
    exact h
  · replace h := h.2 hc
    refine wi_iload (pc' := 38) hm56 rfl rfl rfl ?_
    refine wi_if_eq (pc' := 41) (t := 177) hm56 rfl rfl rfl (fun hc => ?_) (fun hc => ?_)
    · replace h := h.1 hc
      exact h
    · replace h := h.2 hc
      refine wi_aload_n (pc' := 42) hm56 rfl rfl rfl (by decide) ?_
      refine wc_I (pc' := 45) (by decide) rfl (by decide) ((fx_wE hm56 rfl).trans (fx_exV (mj := 50) (as := []) (rest := []) rfl rk50 rfl rfl rfl rfl rfl)) h (fun y1 σ1 h => ?_)
      refine wi_istore (pc' := 47) (L' := [(33, o0), (22, o1), (0, x2), (0, x3), (0, x4), (0, x5), (0, x6), (0, y1)]) hm56 rfl rfl rfl ?_
      refine wi_iload (pc' := 49) hm56 rfl rfl rfl ?_
      refine wi_if_eq (pc' := 52) (t := 74) hm56 rfl rfl rfl (fun hc => ?_) (fun hc => ?_)
      · replace h := h.1 hc
        exact h
      · replace h := h.2 hc
        refine wi_iload (pc' := 54) hm56 rfl rfl rfl ?_
        refine wi_iconst (pc' := 55) (v := 4) hm56 rfl rfl rfl ?_
        refine wi_ic_ne (pc' := 58) (t := 74) hm56 rfl rfl rfl (fun hc => ?_) (fun hc => ?_)
        · replace h := h.1 hc
          exact h
        · replace h := h.2 hc
          refine wi_iload_n (pc' := 59) hm56 rfl rfl rfl ?_
          refine wi_iconst (pc' := 60) (v := 4) hm56 rfl rfl rfl ?_
          refine wi_ic_ge (pc' := 63) (t := 74) hm56 rfl rfl rfl (fun hc => ?_) (fun hc => ?_)
          · replace h := h.1 hc
            exact h
          · replace h := h.2 hc
            obtain ⟨g1, h⟩ := h
            refine wi_iinc (pc' := 66) (L' := [(33, o0), (22, o1), (0, x2), (0, (x3 + 1)), (0, x4), (0, x5), (0, x6), (0, y1)]) hm56 rfl rfl rfl g1 rfl ?_
            refine wi_aload_n (pc' := 67) hm56 rfl rfl rfl (by decide) ?_
            refine wi_iconst (pc' := 68) (v := 4) hm56 rfl rfl rfl ?_
            refine wc_V (pc' := 71) (by decide) rfl (by decide) ((fx_wE hm56 rfl).trans (fx_exV (mj := 57) (as := [(0, 4)]) (rest := []) rfl rk57 rfl rfl rfl rfl rfl)) h (fun σ2 h => ?_)
            refine wi_goto (t := 171) hm56 rfl rfl ?_
            obtain ⟨g2, h⟩ := h
            refine wi_iinc (pc' := 174) (L' := [(33, o0), (22, o1), (0, x2), (0, (x3 + 1)), (0, x4), (0, x5), (0, (x6 + (-1))), (0, y1)]) hm56 rfl rfl rfl g2 rfl ?_
            refine wi_goto (t := 31) hm56 rfl rfl ?_
            exact h
theorem t56_74 {o0 o1 x2 x3 x4 x5 x6 x7 : Int} {σ : fx_S} {Q : fx_V → fx_S → Prop} (h : ((x4 = 0 → fx_CI 58 [(0, x7)] σ Q (fun y1 σ1 => ((y1 = 0 → ((x7 ≠ 5 → (fx_rg (x6 + (-1))) ∧ fx_Wp 56 31 [(33, o0), (22, o1), (0, x2), (0, x3), (0, x4), (0, 0), (0, (x6 + (-1))), (0, x7)] [] σ1 Q) ∧ (x7 = 5 → ((x3 ≤ 0 → (fx_rg (x6 + (-1))) ∧ fx_Wp 56 31 [(33, o0), (22, o1), (0, x2), (0, x3), (0, x4), (0, 0), (0, (x6 + (-1))), (0, x7)] [] σ1 Q) ∧ (0 < x3 → fx_CV 60 [(33, o0), (22, o1), (0, 0)] σ1 Q (fun σ2 => (fx_rg ((σ2 33 o0 5) - 1)) ∧ (fx_rg (x3 + (-1))) ∧ (fx_rg ((σ2 33 o0 6) + 1)) ∧ (fx_rg (x6 + (-1))) ∧ fx_Wp 56 31 [(33, o0), (22, o1), (0, x2), (0, (x3 + (-1))), (0, x4), (0, x5), (0, (x6 + (-1))), (0, x7)] [] (fx_up (fx_up σ2 33 o0 5 ((σ2 33 o0 5) - 1)) 33 o0 6 ((σ2 33 o0 6) + 1)) Q)))))) ∧ (y1 ≠ 0 → fx_CI 59 [(0, x7)] σ1 Q (fun y2 σ3 => fx_CV 60 [(33, o0), (22, o1), (0, y2)] σ3 Q (fun σ4 => fx_CV 57 [(33, o0), (0, x7)] σ4 Q (fun σ5 => (fx_rg (x6 + (-1))) ∧ fx_Wp 56 31 [(33, o0), (22, o1), (0, x2), (0, x3), (0, 1), (0, x5), (0, (x6 + (-1))), (0, x7)] [] σ5 Q))))))) ∧ (x4 ≠ 0 → fx_CI 61 [(33, o0), (22, o1), (0, x2)] σ Q (fun y3 σ6 => ((y3 ≠ 0 → (fx_rg (x6 + (-1))) ∧ fx_Wp 56 31 [(33, o0), (22, o1), (0, x2), (0, x3), (0, 0), (0, x5), (0, (x6 + (-1))), (0, x7)] [] σ6 Q) ∧ (y3 = 0 → Q (0, 0) σ6)))))) : fx_Wp 56 74 [(33, o0), (22, o1), (0, x2), (0, x3), (0, x4), (0, x5), (0, x6), (0, x7)] [] σ Q := by
  refine wi_iload (pc' := 76) hm56 rfl rfl rfl ?_
  refine wi_if_eq (pc' := 79) (t := 96) hm56 rfl rfl rfl (fun hc => ?_) (fun hc => ?_)
  · replace h := h.1 hc
    refine wi_iload (pc' := 98) hm56 rfl rfl rfl ?_
    refine wc_I (pc' := 101) (by decide) rfl (by decide) ((fx_wE hm56 rfl).trans (fx_exS (mj := 58) (as := [(0, x7)]) (rest := []) rfl rk58 rfl rfl rfl rfl)) h (fun y1 σ1 h => ?_)
    refine wi_if_eq (pc' := 104) (t := 126) hm56 rfl rfl rfl (fun hc => ?_) (fun hc => ?_)
    · replace h := h.1 hc
      refine wi_iload (pc' := 128) hm56 rfl rfl rfl ?_
      refine wi_iconst (pc' := 129) (v := 5) hm56 rfl rfl rfl ?_
      refine wi_ic_ne (pc' := 132) (t := 168) hm56 rfl rfl rfl (fun hc => ?_) (fun hc => ?_)
      · replace h := h.1 hc
        refine wi_iconst (pc' := 169) (v := 0) hm56 rfl rfl rfl ?_
        refine wi_istore (pc' := 171) (L' := [(33, o0), (22, o1), (0, x2), (0, x3), (0, x4), (0, 0), (0, x6), (0, x7)]) hm56 rfl rfl rfl ?_
        obtain ⟨g1, h⟩ := h
        refine wi_iinc (pc' := 174) (L' := [(33, o0), (22, o1), (0, x2), (0, x3), (0, x4), (0, 0), (0, (x6 + (-1))), (0, x7)]) hm56 rfl rfl rfl g1 rfl ?_
        refine wi_goto (t := 31) hm56 rfl rfl ?_
        exact h
      · replace h := h.2 hc
        refine wi_iload_n (pc' := 133) hm56 rfl rfl rfl ?_
        refine wi_if_le (pc' := 136) (t := 168) hm56 rfl rfl rfl (fun hc => ?_) (fun hc => ?_)
        · replace h := h.1 hc
          refine wi_iconst (pc' := 169) (v := 0) hm56 rfl rfl rfl ?_
          refine wi_istore (pc' := 171) (L' := [(33, o0), (22, o1), (0, x2), (0, x3), (0, x4), (0, 0), (0, x6), (0, x7)]) hm56 rfl rfl rfl ?_
          obtain ⟨g1, h⟩ := h
          refine wi_iinc (pc' := 174) (L' := [(33, o0), (22, o1), (0, x2), (0, x3), (0, x4), (0, 0), (0, (x6 + (-1))), (0, x7)]) hm56 rfl rfl rfl g1 rfl ?_
          refine wi_goto (t := 31) hm56 rfl rfl ?_
          exact h
        · replace h := h.2 hc
          refine wi_aload_n (pc' := 137) hm56 rfl rfl rfl (by decide) ?_
          refine wi_aload_n (pc' := 138) hm56 rfl rfl rfl (by decide) ?_
          refine wi_iconst (pc' := 139) (v := 0) hm56 rfl rfl rfl ?_
          refine wc_V (pc' := 142) (by decide) rfl (by decide) ((fx_wE hm56 rfl).trans (fx_exV (mj := 60) (as := [(22, o1), (0, 0)]) (rest := []) rfl rk60 rfl rfl rfl rfl rfl)) h (fun σ2 h => ?_)
          refine wi_aload_n (pc' := 143) hm56 rfl rfl rfl (by decide) ?_
          refine wi_dup (pc' := 144) hm56 rfl rfl rfl ?_
          refine wi_getI (pc' := 147) hm56 rfl rfl (P := 5) rfl ?_
          refine wi_iconst (pc' := 148) (v := 1) hm56 rfl rfl rfl ?_
          obtain ⟨g1, h⟩ := h
          refine wi_isub (pc' := 149) hm56 rfl rfl g1 ?_
          refine wi_putI (pc' := 152) hm56 rfl rfl (P := 5) rfl ?_
          obtain ⟨g2, h⟩ := h
          refine wi_iinc (pc' := 155) (L' := [(33, o0), (22, o1), (0, x2), (0, (x3 + (-1))), (0, x4), (0, x5), (0, x6), (0, x7)]) hm56 rfl rfl rfl g2 rfl ?_
          refine wi_aload_n (pc' := 156) hm56 rfl rfl rfl (by decide) ?_
          refine wi_dup (pc' := 157) hm56 rfl rfl rfl ?_
          refine wi_getIe (pc' := 160) hm56 rfl rfl (P := 6) rfl (x := (σ2 33 o0 6)) (Eq.trans (fx_upJ (by decide)) rfl) ?_
          refine wi_iconst (pc' := 161) (v := 1) hm56 rfl rfl rfl ?_
          obtain ⟨g3, h⟩ := h
          refine wi_iadd (pc' := 162) hm56 rfl rfl g3 ?_
          refine wi_putI (pc' := 165) hm56 rfl rfl (P := 6) rfl ?_
          refine wi_goto (t := 171) hm56 rfl rfl ?_
          obtain ⟨g4, h⟩ := h
          refine wi_iinc (pc' := 174) (L' := [(33, o0), (22, o1), (0, x2), (0, (x3 + (-1))), (0, x4), (0, x5), (0, (x6 + (-1))), (0, x7)]) hm56 rfl rfl rfl g4 rfl ?_
          refine wi_goto (t := 31) hm56 rfl rfl ?_
          exact h
    · replace h := h.2 hc
      refine wi_aload_n (pc' := 105) hm56 rfl rfl rfl (by decide) ?_
      refine wi_aload_n (pc' := 106) hm56 rfl rfl rfl (by decide) ?_
      refine wi_iload (pc' := 108) hm56 rfl rfl rfl ?_
      refine wc_I (pc' := 111) (by decide) rfl (by decide) ((fx_wE hm56 rfl).trans (fx_exS (mj := 59) (as := [(0, x7)]) (rest := [(22, o1), (33, o0)]) rfl rk59 rfl rfl rfl rfl)) h (fun y2 σ3 h => ?_)
      refine wc_V (pc' := 114) (by decide) rfl (by decide) ((fx_wE hm56 rfl).trans (fx_exV (mj := 60) (as := [(22, o1), (0, y2)]) (rest := []) rfl rk60 rfl rfl rfl rfl rfl)) h (fun σ4 h => ?_)
      refine wi_aload_n (pc' := 115) hm56 rfl rfl rfl (by decide) ?_
      refine wi_iload (pc' := 117) hm56 rfl rfl rfl ?_
      refine wc_V (pc' := 120) (by decide) rfl (by decide) ((fx_wE hm56 rfl).trans (fx_exV (mj := 57) (as := [(0, x7)]) (rest := []) rfl rk57 rfl rfl rfl rfl rfl)) h (fun σ5 h => ?_)
      refine wi_iconst (pc' := 121) (v := 1) hm56 rfl rfl rfl ?_
      refine wi_istore (pc' := 123) (L' := [(33, o0), (22, o1), (0, x2), (0, x3), (0, 1), (0, x5), (0, x6), (0, x7)]) hm56 rfl rfl rfl ?_
      refine wi_goto (t := 171) hm56 rfl rfl ?_
      obtain ⟨g1, h⟩ := h
      refine wi_iinc (pc' := 174) (L' := [(33, o0), (22, o1), (0, x2), (0, x3), (0, 1), (0, x5), (0, (x6 + (-1))), (0, x7)]) hm56 rfl rfl rfl g1 rfl ?_
      refine wi_goto (t := 31) hm56 rfl rfl ?_
      exact h
  · replace h := h.2 hc
    refine wi_aload_n (pc' := 80) hm56 rfl rfl rfl (by decide) ?_
    refine wi_aload_n (pc' := 81) hm56 rfl rfl rfl (by decide) ?_
    refine wi_iload_n (pc' := 82) hm56 rfl rfl rfl ?_
    refine wc_I (pc' := 85) (by decide) rfl (by decide) ((fx_wE hm56 rfl).trans (fx_exV (mj := 61) (as := [(22, o1), (0, x2)]) (rest := []) rfl rk61 rfl rfl rfl rfl rfl)) h (fun y3 σ6 h => ?_)
    refine wi_if_ne (pc' := 88) (t := 90) hm56 rfl rfl rfl (fun hc => ?_) (fun hc => ?_)
    · replace h := h.1 hc
      refine wi_iconst (pc' := 91) (v := 0) hm56 rfl rfl rfl ?_
      refine wi_istore (pc' := 93) (L' := [(33, o0), (22, o1), (0, x2), (0, x3), (0, 0), (0, x5), (0, x6), (0, x7)]) hm56 rfl rfl rfl ?_
      refine wi_goto (t := 171) hm56 rfl rfl ?_
      obtain ⟨g1, h⟩ := h
      refine wi_iinc (pc' := 174) (L' := [(33, o0), (22, o1), (0, x2), (0, x3), (0, 0), (0, x5), (0, (x6 + (-1))), (0, x7)]) hm56 rfl rfl rfl g1 rfl ?_
      refine wi_goto (t := 31) hm56 rfl rfl ?_
      exact h
    · replace h := h.2 hc
      refine wi_iconst (pc' := 89) (v := 0) hm56 rfl rfl rfl ?_
      exact wi_zret hm56 rfl (by decide) h
theorem t56_177 {o0 o1 x3 x4 : Int} {w2 w5 w6 w7 : fx_V} {σ : fx_S} {Q : fx_V → fx_S → Prop} (h : fx_CV 60 [(33, o0), (22, o1), (0, 0)] σ Q (fun σ1 => ((x4 ≠ 0 → Q (0, 0) σ1) ∧ (x4 = 0 → ((x3 ≠ 0 → Q (0, 0) σ1) ∧ (x3 = 0 → Q (0, 1) σ1)))))) : fx_Wp 56 177 [(33, o0), (22, o1), w2, (0, x3), (0, x4), w5, w6, w7] [] σ Q := by
  refine wi_aload_n (pc' := 178) hm56 rfl rfl rfl (by decide) ?_
  refine wi_aload_n (pc' := 179) hm56 rfl rfl rfl (by decide) ?_
  refine wi_iconst (pc' := 180) (v := 0) hm56 rfl rfl rfl ?_
  refine wc_V (pc' := 183) (by decide) rfl (by decide) ((fx_wE hm56 rfl).trans (fx_exV (mj := 60) (as := [(22, o1), (0, 0)]) (rest := []) rfl rk60 rfl rfl rfl rfl rfl)) h (fun σ1 h => ?_)
  refine wi_iload (pc' := 185) hm56 rfl rfl rfl ?_
  refine wi_if_ne (pc' := 188) (t := 196) hm56 rfl rfl rfl (fun hc => ?_) (fun hc => ?_)
  · replace h := h.1 hc
    refine wi_iconst (pc' := 197) (v := 0) hm56 rfl rfl rfl ?_
    exact wi_zret hm56 rfl (by decide) h
  · replace h := h.2 hc
    refine wi_iload_n (pc' := 189) hm56 rfl rfl rfl ?_
    refine wi_if_ne (pc' := 192) (t := 196) hm56 rfl rfl rfl (fun hc => ?_) (fun hc => ?_)
    · replace h := h.1 hc
      refine wi_iconst (pc' := 197) (v := 0) hm56 rfl rfl rfl ?_
      exact wi_zret hm56 rfl (by decide) h
    · replace h := h.2 hc
      refine wi_iconst (pc' := 193) (v := 1) hm56 rfl rfl rfl ?_
      refine wi_goto (t := 197) hm56 rfl rfl ?_
      exact wi_zret hm56 rfl (by decide) h
theorem hm57 : fx_code 57 = fx_c57 := rfl
theorem t57_0 {o0 x1 : Int} {σ : fx_S} {Q : fx_V → fx_S → Prop} (h : ((15 ≤ (σ 33 o0 5) → (fx_rg ((σ 33 o0 6) + 1)) ∧ Q (4, 0) (fx_up σ 33 o0 6 ((σ 33 o0 6) + 1))) ∧ ((σ 33 o0 5) < 15 → (0 ≤ (σ 33 o0 5) ∧ (σ 33 o0 5) < 15) ∧ (fx_rg ((σ 33 o0 5) + 1)) ∧ (fx_rg ((σ 33 o0 6) + 1)) ∧ Q (4, 0) (fx_up (fx_up (fx_up σ 35 0 (σ 33 o0 5) x1) 33 o0 5 ((σ 33 o0 5) + 1)) 33 o0 6 ((σ 33 o0 6) + 1))))) : fx_Ca 57 [(33, o0), (0, x1)] σ Q := by
  show fx_Wp 57 0 [(33, o0), (0, x1)] [] σ Q
  refine wi_aload_n (pc' := 1) hm57 rfl rfl rfl (by decide) ?_
  refine wi_getI (pc' := 4) hm57 rfl rfl (P := 5) rfl ?_
  refine wi_bipush (pc' := 6) (v := 15) hm57 rfl rfl rfl ?_
  refine wi_ic_ge (pc' := 9) (t := 29) hm57 rfl rfl rfl (fun hc => ?_) (fun hc => ?_)
  · replace h := h.1 hc
    refine wi_aload_n (pc' := 30) hm57 rfl rfl rfl (by decide) ?_
    refine wi_dup (pc' := 31) hm57 rfl rfl rfl ?_
    refine wi_getI (pc' := 34) hm57 rfl rfl (P := 6) rfl ?_
    refine wi_iconst (pc' := 35) (v := 1) hm57 rfl rfl rfl ?_
    obtain ⟨g1, h⟩ := h
    refine wi_iadd (pc' := 36) hm57 rfl rfl g1 ?_
    refine wi_putI (pc' := 39) hm57 rfl rfl (P := 6) rfl ?_
    exact wi_vret hm57 rfl h
  · replace h := h.2 hc
    refine wi_aload_n (pc' := 10) hm57 rfl rfl rfl (by decide) ?_
    refine wi_getR (pc' := 13) (x := 0) hm57 rfl rfl rfl (by omega) ?_
    refine wi_aload_n (pc' := 14) hm57 rfl rfl rfl (by decide) ?_
    refine wi_getI (pc' := 17) hm57 rfl rfl (P := 5) rfl ?_
    refine wi_iload_n (pc' := 18) hm57 rfl rfl rfl ?_
    obtain ⟨g1, h⟩ := h
    refine wi_iastore (pc' := 19) hm57 rfl rfl rfl (N := 15) rfl g1 ?_
    refine wi_aload_n (pc' := 20) hm57 rfl rfl rfl (by decide) ?_
    refine wi_dup (pc' := 21) hm57 rfl rfl rfl ?_
    refine wi_getIe (pc' := 24) hm57 rfl rfl (P := 5) rfl (x := (σ 33 o0 5)) (Eq.trans (fx_upK rfl) rfl) ?_
    refine wi_iconst (pc' := 25) (v := 1) hm57 rfl rfl rfl ?_
    obtain ⟨g2, h⟩ := h
    refine wi_iadd (pc' := 26) hm57 rfl rfl g2 ?_
    refine wi_putI (pc' := 29) hm57 rfl rfl (P := 5) rfl ?_
    refine wi_aload_n (pc' := 30) hm57 rfl rfl rfl (by decide) ?_
    refine wi_dup (pc' := 31) hm57 rfl rfl rfl ?_
    refine wi_getIe (pc' := 34) hm57 rfl rfl (P := 6) rfl (x := (σ 33 o0 6)) (Eq.trans (fx_upJ (by decide)) (Eq.trans (fx_upK rfl) rfl)) ?_
    refine wi_iconst (pc' := 35) (v := 1) hm57 rfl rfl rfl ?_
    obtain ⟨g3, h⟩ := h
    refine wi_iadd (pc' := 36) hm57 rfl rfl g3 ?_
    refine wi_putI (pc' := 39) hm57 rfl rfl (P := 6) rfl ?_
    exact wi_vret hm57 rfl h
theorem hm58 : fx_code 58 = fx_c58 := rfl
theorem t58_0 {x0 : Int} {σ : fx_S} {Q : fx_V → fx_S → Prop} (h : ((x0 < 6 → Q (0, 0) σ) ∧ (6 ≤ x0 → ((12 < x0 → Q (0, 0) σ) ∧ (x0 ≤ 12 → Q (0, 1) σ))))) : fx_Ca 58 [(0, x0)] σ Q := by
  show fx_Wp 58 0 [(0, x0)] [] σ Q
  refine wi_iload_n (pc' := 1) hm58 rfl rfl rfl ?_
  refine wi_bipush (pc' := 3) (v := 6) hm58 rfl rfl rfl ?_
  refine wi_ic_lt (pc' := 6) (t := 16) hm58 rfl rfl rfl (fun hc => ?_) (fun hc => ?_)
  · replace h := h.1 hc
    refine wi_iconst (pc' := 17) (v := 0) hm58 rfl rfl rfl ?_
    exact wi_zret hm58 rfl (by decide) h
  · replace h := h.2 hc
    refine wi_iload_n (pc' := 7) hm58 rfl rfl rfl ?_
    refine wi_bipush (pc' := 9) (v := 12) hm58 rfl rfl rfl ?_
    refine wi_ic_gt (pc' := 12) (t := 16) hm58 rfl rfl rfl (fun hc => ?_) (fun hc => ?_)
    · replace h := h.1 hc
      refine wi_iconst (pc' := 17) (v := 0) hm58 rfl rfl rfl ?_
      exact wi_zret hm58 rfl (by decide) h
    · replace h := h.2 hc
      refine wi_iconst (pc' := 13) (v := 1) hm58 rfl rfl rfl ?_
      refine wi_goto (t := 17) hm58 rfl rfl ?_
      exact wi_zret hm58 rfl (by decide) h
theorem hm59 : fx_code 59 = fx_c59 := rfl
theorem t59_0 {x0 : Int} {σ : fx_S} {Q : fx_V → fx_S → Prop} (h : ((x0 < 10 → Q (0, 1) σ) ∧ (10 ≤ x0 → Q (0, 2) σ))) : fx_Ca 59 [(0, x0)] σ Q := by
  show fx_Wp 59 0 [(0, x0)] [] σ Q
  refine wi_iload_n (pc' := 1) hm59 rfl rfl rfl ?_
  refine wi_bipush (pc' := 3) (v := 10) hm59 rfl rfl rfl ?_
  refine wi_ic_lt (pc' := 6) (t := 10) hm59 rfl rfl rfl (fun hc => ?_) (fun hc => ?_)
  · replace h := h.1 hc
    refine wi_iconst (pc' := 11) (v := 1) hm59 rfl rfl rfl ?_
    exact wi_iret hm59 rfl h
  · replace h := h.2 hc
    refine wi_iconst (pc' := 7) (v := 2) hm59 rfl rfl rfl ?_
    refine wi_goto (t := 11) hm59 rfl rfl ?_
    exact wi_iret hm59 rfl h
theorem hm60 : fx_code 60 = fx_c60 := rfl
theorem t60_0 {o0 o1 x2 : Int} {w3 : fx_V} {σ : fx_S} {Q : fx_V → fx_S → Prop} (h : (((σ 33 o0 5) ≤ 0 → Q (4, 0) σ) ∧ (0 < (σ 33 o0 5) → (((σ 33 o0 4) ≤ 1 → Q (4, 0) σ) ∧ (1 < (σ 33 o0 4) → (fx_rg ((σ 33 o0 5) - 1)) ∧ (0 ≤ ((σ 33 o0 5) - 1) ∧ ((σ 33 o0 5) - 1) < 15) ∧ fx_CI 58 [(0, (σ 35 0 ((σ 33 o0 5) - 1)))] σ Q (fun y1 σ1 => ((y1 = 0 → Q (4, 0) σ1) ∧ (y1 ≠ 0 → (fx_rg ((σ1 33 o0 5) - 1)) ∧ (0 ≤ ((σ1 33 o0 5) - 1) ∧ ((σ1 33 o0 5) - 1) < 15) ∧ fx_CI 59 [(0, (σ1 35 0 ((σ1 33 o0 5) - 1)))] σ1 Q (fun y2 σ2 => ((y2 < x2 → Q (4, 0) σ2) ∧ (x2 ≤ y2 → (fx_rg ((σ2 33 o0 4) - 1)) ∧ (fx_rg ((σ2 33 o0 5) - 1)) ∧ (0 ≤ ((σ2 33 o0 5) - 1) ∧ ((σ2 33 o0 5) - 1) < 15) ∧ (fx_rg (((σ2 33 o0 4) - 1) - 1)) ∧ (0 ≤ (((σ2 33 o0 4) - 1) - 1) ∧ (((σ2 33 o0 4) - 1) - 1) < 15) ∧ (0 ≤ ((σ2 33 o0 4) - 1) ∧ ((σ2 33 o0 4) - 1) < 15) ∧ fx_CI 7 [(22, o1), (0, (σ2 35 0 ((σ2 33 o0 5) - 1))), (0, (σ2 34 0 (((σ2 33 o0 4) - 1) - 1))), (0, (σ2 34 0 ((σ2 33 o0 4) - 1)))] (fx_up (fx_up σ2 33 o0 4 ((σ2 33 o0 4) - 1)) 33 o0 5 ((σ2 33 o0 5) - 1)) Q (fun y3 σ3 => (fx_rg ((σ3 33 o0 4) - 1)) ∧ (0 ≤ ((σ3 33 o0 4) - 1) ∧ ((σ3 33 o0 4) - 1) < 15) ∧ fx_Wp 60 0 [(33, o0), (22, o1), (0, x2), (0, y3)] [] (fx_up σ3 34 0 ((σ3 33 o0 4) - 1) y3) Q)))))))))))) : fx_Wp 60 0 [(33, o0), (22, o1), (0, x2), w3] [] σ Q := by
  refine wi_aload_n (pc' := 1) hm60 rfl rfl rfl (by decide) ?_
  refine wi_getI (pc' := 4) hm60 rfl rfl (P := 5) rfl ?_
  refine wi_if_le (pc' := 7) (t := 119) hm60 rfl rfl rfl (fun hc => ?_) (fun hc => ?_)
  · replace h := h.1 hc
    exact wi_vret hm60 rfl h
  · replace h := h.2 hc
    refine wi_aload_n (pc' := 8) hm60 rfl rfl rfl (by decide) ?_
    refine wi_getI (pc' := 11) hm60 rfl rfl (P := 4) rfl ?_
    refine wi_iconst (pc' := 12) (v := 1) hm60 rfl rfl rfl ?_
    refine wi_ic_le (pc' := 15) (t := 119) hm60 rfl rfl rfl (fun hc => ?_) (fun hc => ?_)
    · replace h := h.1 hc
      exact wi_vret hm60 rfl h
    · replace h := h.2 hc
      refine wi_aload_n (pc' := 16) hm60 rfl rfl rfl (by decide) ?_
      refine wi_getR (pc' := 19) (x := 0) hm60 rfl rfl rfl (by omega) ?_
      refine wi_aload_n (pc' := 20) hm60 rfl rfl rfl (by decide) ?_
      refine wi_getI (pc' := 23) hm60 rfl rfl (P := 5) rfl ?_
      refine wi_iconst (pc' := 24) (v := 1) hm60 rfl rfl rfl ?_
      obtain ⟨g1, h⟩ := h
      refine wi_isub (pc' := 25) hm60 rfl rfl g1 ?_
      obtain ⟨g2, h⟩ := h
      refine wi_iaload (pc' := 26) hm60 rfl rfl rfl rfl (N := 15) rfl g2 ?_
      refine wc_I (pc' := 29) (by decide) rfl (by decide) ((fx_wE hm60 rfl).trans (fx_exS (mj := 58) (as := [(0, (σ 35 0 ((σ 33 o0 5) - 1)))]) (rest := []) rfl rk58 rfl rfl rfl rfl)) h (fun y1 σ1 h => ?_)
      refine wi_if_eq (pc' := 32) (t := 119) hm60 rfl rfl rfl (fun hc => ?_) (fun hc => ?_)
      · replace h := h.1 hc
        exact wi_vret hm60 rfl h
      · replace h := h.2 hc
        refine wi_aload_n (pc' := 33) hm60 rfl rfl rfl (by decide) ?_
        refine wi_getR (pc' := 36) (x := 0) hm60 rfl rfl rfl (by omega) ?_
        refine wi_aload_n (pc' := 37) hm60 rfl rfl rfl (by decide) ?_
        refine wi_getI (pc' := 40) hm60 rfl rfl (P := 5) rfl ?_
        refine wi_iconst (pc' := 41) (v := 1) hm60 rfl rfl rfl ?_
        obtain ⟨g3, h⟩ := h
        refine wi_isub (pc' := 42) hm60 rfl rfl g3 ?_
        obtain ⟨g4, h⟩ := h
        refine wi_iaload (pc' := 43) hm60 rfl rfl rfl rfl (N := 15) rfl g4 ?_
        refine wc_I (pc' := 46) (by decide) rfl (by decide) ((fx_wE hm60 rfl).trans (fx_exS (mj := 59) (as := [(0, (σ1 35 0 ((σ1 33 o0 5) - 1)))]) (rest := []) rfl rk59 rfl rfl rfl rfl)) h (fun y2 σ2 h => ?_)
        refine wi_iload_n (pc' := 47) hm60 rfl rfl rfl ?_
        refine wi_ic_lt (pc' := 50) (t := 119) hm60 rfl rfl rfl (fun hc => ?_) (fun hc => ?_)
        · replace h := h.1 hc
          exact wi_vret hm60 rfl h
        · replace h := h.2 hc
          refine wi_aload_n (pc' := 51) hm60 rfl rfl rfl (by decide) ?_
          refine wi_dup (pc' := 52) hm60 rfl rfl rfl ?_
          refine wi_getI (pc' := 55) hm60 rfl rfl (P := 4) rfl ?_
          refine wi_iconst (pc' := 56) (v := 1) hm60 rfl rfl rfl ?_
          obtain ⟨g5, h⟩ := h
          refine wi_isub (pc' := 57) hm60 rfl rfl g5 ?_
          refine wi_putI (pc' := 60) hm60 rfl rfl (P := 4) rfl ?_
          refine wi_aload_n (pc' := 61) hm60 rfl rfl rfl (by decide) ?_
          refine wi_dup (pc' := 62) hm60 rfl rfl rfl ?_
          refine wi_getIe (pc' := 65) hm60 rfl rfl (P := 5) rfl (x := (σ2 33 o0 5)) (Eq.trans (fx_upJ (by decide)) rfl) ?_
          refine wi_iconst (pc' := 66) (v := 1) hm60 rfl rfl rfl ?_
          obtain ⟨g6, h⟩ := h
          refine wi_isub (pc' := 67) hm60 rfl rfl g6 ?_
          refine wi_putI (pc' := 70) hm60 rfl rfl (P := 5) rfl ?_
          refine wi_aload_n (pc' := 71) hm60 rfl rfl rfl (by decide) ?_
          refine wi_aload_n (pc' := 72) hm60 rfl rfl rfl (by decide) ?_
          refine wi_getR (pc' := 75) (x := 0) hm60 rfl rfl rfl (by omega) ?_
          refine wi_aload_n (pc' := 76) hm60 rfl rfl rfl (by decide) ?_
          refine wi_getIe (pc' := 79) hm60 rfl rfl (P := 5) rfl (x := ((σ2 33 o0 5) - 1)) fx_upS ?_
          obtain ⟨g7, h⟩ := h
          refine wi_ialoade (pc' := 80) hm60 rfl rfl rfl rfl (N := 15) rfl g7 (x := (σ2 35 0 ((σ2 33 o0 5) - 1))) (Eq.trans (fx_upK rfl) (Eq.trans (fx_upK rfl) rfl)) ?_
          refine wi_aload_n (pc' := 81) hm60 rfl rfl rfl (by decide) ?_
          refine wi_getR (pc' := 84) (x := 0) hm60 rfl rfl rfl (by omega) ?_
          refine wi_aload_n (pc' := 85) hm60 rfl rfl rfl (by decide) ?_
          refine wi_getIe (pc' := 88) hm60 rfl rfl (P := 4) rfl (x := ((σ2 33 o0 4) - 1)) (Eq.trans (fx_upJ (by decide)) fx_upS) ?_
          refine wi_iconst (pc' := 89) (v := 1) hm60 rfl rfl rfl ?_
          obtain ⟨g8, h⟩ := h
          refine wi_isub (pc' := 90) hm60 rfl rfl g8 ?_
          obtain ⟨g9, h⟩ := h
          refine wi_ialoade (pc' := 91) hm60 rfl rfl rfl rfl (N := 15) rfl g9 (x := (σ2 34 0 (((σ2 33 o0 4) - 1) - 1))) (Eq.trans (fx_upK rfl) (Eq.trans (fx_upK rfl) rfl)) ?_
          refine wi_aload_n (pc' := 92) hm60 rfl rfl rfl (by decide) ?_
          refine wi_getR (pc' := 95) (x := 0) hm60 rfl rfl rfl (by omega) ?_
          refine wi_aload_n (pc' := 96) hm60 rfl rfl rfl (by decide) ?_
          refine wi_getIe (pc' := 99) hm60 rfl rfl (P := 4) rfl (x := ((σ2 33 o0 4) - 1)) (Eq.trans (fx_upJ (by decide)) fx_upS) ?_
          obtain ⟨g10, h⟩ := h
          refine wi_ialoade (pc' := 100) hm60 rfl rfl rfl rfl (N := 15) rfl g10 (x := (σ2 34 0 ((σ2 33 o0 4) - 1))) (Eq.trans (fx_upK rfl) (Eq.trans (fx_upK rfl) rfl)) ?_
          refine wc_I (pc' := 103) (by decide) rfl (by decide) ((fx_wE hm60 rfl).trans (fx_exV (mj := 7) (as := [(0, (σ2 35 0 ((σ2 33 o0 5) - 1))), (0, (σ2 34 0 (((σ2 33 o0 4) - 1) - 1))), (0, (σ2 34 0 ((σ2 33 o0 4) - 1)))]) (rest := []) rfl rk7 rfl rfl rfl rfl rfl)) h (fun y3 σ3 h => ?_)
          refine wi_istore_n (pc' := 104) (L' := [(33, o0), (22, o1), (0, x2), (0, y3)]) hm60 rfl rfl rfl ?_
          refine wi_aload_n (pc' := 105) hm60 rfl rfl rfl (by decide) ?_
          refine wi_getR (pc' := 108) (x := 0) hm60 rfl rfl rfl (by omega) ?_
          refine wi_aload_n (pc' := 109) hm60 rfl rfl rfl (by decide) ?_
          refine wi_getI (pc' := 112) hm60 rfl rfl (P := 4) rfl ?_
          refine wi_iconst (pc' := 113) (v := 1) hm60 rfl rfl rfl ?_
          obtain ⟨g11, h⟩ := h
          refine wi_isub (pc' := 114) hm60 rfl rfl g11 ?_
          refine wi_iload_n (pc' := 115) hm60 rfl rfl rfl ?_
          obtain ⟨g12, h⟩ := h
          refine wi_iastore (pc' := 116) hm60 rfl rfl rfl (N := 15) rfl g12 ?_
          refine wi_goto (t := 0) hm60 rfl rfl ?_
          exact h
theorem t60_e {o0 o1 x2 : Int} {σ : fx_S} {Q : fx_V → fx_S → Prop} (h : fx_Wp 60 0 [(33, o0), (22, o1), (0, x2), (3, 0)] [] σ Q) : fx_Ca 60 [(33, o0), (22, o1), (0, x2)] σ Q := h
theorem hm61 : fx_code 61 = fx_c61 := rfl
theorem t61_0 {o0 o1 x2 : Int} {σ : fx_S} {Q : fx_V → fx_S → Prop} (h : (((σ 22 o1 4) ≠ 12 → fx_CI 50 [(33, o0)] σ Q (fun y1 σ1 => ((y1 ≠ 13 → fx_Wp 61 39 [(33, o0), (22, o1), (0, x2), (0, y1), (0, 100)] [] σ1 Q) ∧ (y1 = 13 → (fx_rg ((σ1 33 o0 6) + 1)) ∧ fx_Wp 61 39 [(33, o0), (22, o1), (0, x2), (0, y1), (0, x2)] [] (fx_up σ1 33 o0 6 ((σ1 33 o0 6) + 1)) Q)))) ∧ ((σ 22 o1 4) = 12 → Q (0, 0) σ))) : fx_Ca 61 [(33, o0), (22, o1), (0, x2)] σ Q := by
  show fx_Wp 61 0 [(33, o0), (22, o1), (0, x2), (3, 0), (3, 0)] [] σ Q
  refine wi_aload_n (pc' := 1) hm61 rfl rfl rfl (by decide) ?_
  refine wi_getI (pc' := 4) hm61 rfl rfl (P := 4) rfl ?_
  refine wi_bipush (pc' := 6) (v := 12) hm61 rfl rfl rfl ?_
  refine wi_ic_ne (pc' := 9) (t := 11) hm61 rfl rfl rfl (fun hc => ?_) (fun hc => ?_)
  · replace h := h.1 hc
    refine wi_aload_n (pc' := 12) hm61 rfl rfl rfl (by decide) ?_
    refine wc_I (pc' := 15) (by decide) rfl (by decide) ((fx_wE hm61 rfl).trans (fx_exV (mj := 50) (as := []) (rest := []) rfl rk50 rfl rfl rfl rfl rfl)) h (fun y1 σ1 h => ?_)
    refine wi_istore_n (pc' := 16) (L' := [(33, o0), (22, o1), (0, x2), (0, y1), (3, 0)]) hm61 rfl rfl rfl ?_
    refine wi_bipush (pc' := 18) (v := 100) hm61 rfl rfl rfl ?_
    refine wi_istore (pc' := 20) (L' := [(33, o0), (22, o1), (0, x2), (0, y1), (0, 100)]) hm61 rfl rfl rfl ?_
    refine wi_iload_n (pc' := 21) hm61 rfl rfl rfl ?_
    refine wi_bipush (pc' := 23) (v := 13) hm61 rfl rfl rfl ?_
    refine wi_ic_ne (pc' := 26) (t := 39) hm61 rfl rfl rfl (fun hc => ?_) (fun hc => ?_)
    · replace h := h.1 hc
      exact h
    · replace h := h.2 hc
      refine wi_iload_n (pc' := 27) hm61 rfl rfl rfl ?_
      refine wi_istore (pc' := 29) (L' := [(33, o0), (22, o1), (0, x2), (0, y1), (0, x2)]) hm61 rfl rfl rfl ?_
      refine wi_aload_n (pc' := 30) hm61 rfl rfl rfl (by decide) ?_
      refine wi_dup (pc' := 31) hm61 rfl rfl rfl ?_
      refine wi_getI (pc' := 34) hm61 rfl rfl (P := 6) rfl ?_
      refine wi_iconst (pc' := 35) (v := 1) hm61 rfl rfl rfl ?_
      obtain ⟨g1, h⟩ := h
      refine wi_iadd (pc' := 36) hm61 rfl rfl g1 ?_
      refine wi_putI (pc' := 39) hm61 rfl rfl (P := 6) rfl ?_
      exact h
  · replace h := h.2 hc
    refine wi_iconst (pc' := 10) (v := 0) hm61 rfl rfl rfl ?_
    exact wi_zret hm61 rfl (by decide) h
theorem t61_39 {o0 o1 x3 x4 : Int} {w2 : fx_V} {σ : fx_S} {Q : fx_V → fx_S → Prop} (h : fx_CI 50 [(33, o0)] σ Q (fun y1 σ1 => ((y1 ≠ 1 → Q (0, 0) σ1) ∧ (y1 = 1 → (0 ≤ (σ1 33 o0 6) ∧ (σ1 33 o0 6) < 401) ∧ (((σ1 32 0 (σ1 33 o0 6)) < x4 → ((15 ≤ (σ1 33 o0 4) → (fx_rg ((σ1 33 o0 6) + 1)) ∧ Q (0, 1) (fx_up σ1 33 o0 6 ((σ1 33 o0 6) + 1))) ∧ ((σ1 33 o0 4) < 15 → fx_CI 6 [(22, o1), (0, x3), (0, (σ1 32 0 (σ1 33 o0 6)))] σ1 Q (fun y2 σ2 => (0 ≤ (σ1 33 o0 4) ∧ (σ1 33 o0 4) < 15) ∧ (fx_rg ((σ2 33 o0 4) + 1)) ∧ (fx_rg ((σ2 33 o0 6) + 1)) ∧ Q (0, 1) (fx_up (fx_up (fx_up σ2 34 0 (σ1 33 o0 4) y2) 33 o0 4 ((σ2 33 o0 4) + 1)) 33 o0 6 ((σ2 33 o0 6) + 1)))))) ∧ (x4 ≤ (σ1 32 0 (σ1 33 o0 6)) → Q (0, 0) σ1)))))) : fx_Wp 61 39 [(33, o0), (22, o1), w2, (0, x3), (0, x4)] [] σ Q := by
  refine wi_aload_n (pc' := 40) hm61 rfl rfl rfl (by decide) ?_
  refine wc_I (pc' := 43) (by decide) rfl (by decide) ((fx_wE hm61 rfl).trans (fx_exV (mj := 50) (as := []) (rest := []) rfl rk50 rfl rfl rfl rfl rfl)) h (fun y1 σ1 h => ?_)
  refine wi_iconst (pc' := 44) (v := 1) hm61 rfl rfl rfl ?_
  refine wi_ic_ne (pc' := 47) (t := 64) hm61 rfl rfl rfl (fun hc => ?_) (fun hc => ?_)
  · replace h := h.1 hc
    refine wi_iconst (pc' := 65) (v := 0) hm61 rfl rfl rfl ?_
    exact wi_zret hm61 rfl (by decide) h
  · replace h := h.2 hc
    refine wi_aload_n (pc' := 48) hm61 rfl rfl rfl (by decide) ?_
    refine wi_getR (pc' := 51) (x := 0) hm61 rfl rfl rfl (by omega) ?_
    refine wi_getR (pc' := 54) (x := 0) hm61 rfl rfl rfl (by omega) ?_
    refine wi_aload_n (pc' := 55) hm61 rfl rfl rfl (by decide) ?_
    refine wi_getI (pc' := 58) hm61 rfl rfl (P := 6) rfl ?_
    obtain ⟨g1, h⟩ := h
    refine wi_iaload (pc' := 59) hm61 rfl rfl rfl rfl (N := 401) rfl g1 ?_
    refine wi_iload (pc' := 61) hm61 rfl rfl rfl ?_
    refine wi_ic_lt (pc' := 64) (t := 66) hm61 rfl rfl rfl (fun hc => ?_) (fun hc => ?_)
    · replace h := h.1 hc
      refine wi_aload_n (pc' := 67) hm61 rfl rfl rfl (by decide) ?_
      refine wi_getI (pc' := 70) hm61 rfl rfl (P := 4) rfl ?_
      refine wi_bipush (pc' := 72) (v := 15) hm61 rfl rfl rfl ?_
      refine wi_ic_ge (pc' := 75) (t := 111) hm61 rfl rfl rfl (fun hc => ?_) (fun hc => ?_)
      · replace h := h.1 hc
        refine wi_aload_n (pc' := 112) hm61 rfl rfl rfl (by decide) ?_
        refine wi_dup (pc' := 113) hm61 rfl rfl rfl ?_
        refine wi_getI (pc' := 116) hm61 rfl rfl (P := 6) rfl ?_
        refine wi_iconst (pc' := 117) (v := 1) hm61 rfl rfl rfl ?_
        obtain ⟨g2, h⟩ := h
        refine wi_iadd (pc' := 118) hm61 rfl rfl g2 ?_
        refine wi_putI (pc' := 121) hm61 rfl rfl (P := 6) rfl ?_
        refine wi_iconst (pc' := 122) (v := 1) hm61 rfl rfl rfl ?_
        exact wi_zret hm61 rfl (by decide) h
      · replace h := h.2 hc
        refine wi_aload_n (pc' := 76) hm61 rfl rfl rfl (by decide) ?_
        refine wi_getR (pc' := 79) (x := 0) hm61 rfl rfl rfl (by omega) ?_
        refine wi_aload_n (pc' := 80) hm61 rfl rfl rfl (by decide) ?_
        refine wi_getI (pc' := 83) hm61 rfl rfl (P := 4) rfl ?_
        refine wi_aload_n (pc' := 84) hm61 rfl rfl rfl (by decide) ?_
        refine wi_iload_n (pc' := 85) hm61 rfl rfl rfl ?_
        refine wi_aload_n (pc' := 86) hm61 rfl rfl rfl (by decide) ?_
        refine wi_getR (pc' := 89) (x := 0) hm61 rfl rfl rfl (by omega) ?_
        refine wi_getR (pc' := 92) (x := 0) hm61 rfl rfl rfl (by omega) ?_
        refine wi_aload_n (pc' := 93) hm61 rfl rfl rfl (by decide) ?_
        refine wi_getI (pc' := 96) hm61 rfl rfl (P := 6) rfl ?_
        refine wi_iaload (pc' := 97) hm61 rfl rfl rfl rfl (N := 401) rfl g1 ?_
        refine wc_I (pc' := 100) (by decide) rfl (by decide) ((fx_wE hm61 rfl).trans (fx_exV (mj := 6) (as := [(0, x3), (0, (σ1 32 0 (σ1 33 o0 6)))]) (rest := [(0, (σ1 33 o0 4)), (34, 0)]) rfl rk6 rfl rfl rfl rfl rfl)) h (fun y2 σ2 h => ?_)
        obtain ⟨g2, h⟩ := h
        refine wi_iastore (pc' := 101) hm61 rfl rfl rfl (N := 15) rfl g2 ?_
        refine wi_aload_n (pc' := 102) hm61 rfl rfl rfl (by decide) ?_
        refine wi_dup (pc' := 103) hm61 rfl rfl rfl ?_
        refine wi_getIe (pc' := 106) hm61 rfl rfl (P := 4) rfl (x := (σ2 33 o0 4)) (Eq.trans (fx_upK rfl) rfl) ?_
        refine wi_iconst (pc' := 107) (v := 1) hm61 rfl rfl rfl ?_
        obtain ⟨g3, h⟩ := h
        refine wi_iadd (pc' := 108) hm61 rfl rfl g3 ?_
        refine wi_putI (pc' := 111) hm61 rfl rfl (P := 4) rfl ?_
        refine wi_aload_n (pc' := 112) hm61 rfl rfl rfl (by decide) ?_
        refine wi_dup (pc' := 113) hm61 rfl rfl rfl ?_
        refine wi_getIe (pc' := 116) hm61 rfl rfl (P := 6) rfl (x := (σ2 33 o0 6)) (Eq.trans (fx_upJ (by decide)) (Eq.trans (fx_upK rfl) rfl)) ?_
        refine wi_iconst (pc' := 117) (v := 1) hm61 rfl rfl rfl ?_
        obtain ⟨g4, h⟩ := h
        refine wi_iadd (pc' := 118) hm61 rfl rfl g4 ?_
        refine wi_putI (pc' := 121) hm61 rfl rfl (P := 6) rfl ?_
        refine wi_iconst (pc' := 122) (v := 1) hm61 rfl rfl rfl ?_
        exact wi_zret hm61 rfl (by decide) h
    · replace h := h.2 hc
      refine wi_iconst (pc' := 65) (v := 0) hm61 rfl rfl rfl ?_
      exact wi_zret hm61 rfl (by decide) h
theorem hm62 : fx_code 62 = fx_c62 := rfl
theorem t62_0 {o0 x1 x2 : Int} {σ : fx_S} {Q : fx_V → fx_S → Prop} (h : fx_CV 63 [(36, o0)] σ Q (fun σ1 => fx_Wp 62 6 [(36, o0), (0, x1), (0, x2), (0, 0), (3, 0), (3, 0), (3, 0)] [] σ1 Q)) : fx_Ca 62 [(36, o0), (0, x1), (0, x2)] σ Q := by
  show fx_Wp 62 0 [(36, o0), (0, x1), (0, x2), (3, 0), (3, 0), (3, 0), (3, 0)] [] σ Q
  refine wi_aload_n (pc' := 1) hm62 rfl rfl rfl (by decide) ?_
  refine wc_V (pc' := 4) (by decide) rfl (by decide) ((fx_wE hm62 rfl).trans (fx_exV (mj := 63) (as := []) (rest := []) rfl rk63 rfl rfl rfl rfl rfl)) h (fun σ1 h => ?_)
  refine wi_iconst (pc' := 5) (v := 0) hm62 rfl rfl rfl ?_
  refine wi_istore_n (pc' := 6) (L' := [(36, o0), (0, x1), (0, x2), (0, 0), (3, 0), (3, 0), (3, 0)]) hm62 rfl rfl rfl ?_
  exact h
theorem t62_6 {o0 x1 x2 x3 : Int} {w4 w5 w6 : fx_V} {σ : fx_S} {Q : fx_V → fx_S → Prop} (h : ((8 ≤ x3 → fx_CI 1 [(0, x1), (0, (σ 11 0 10))] σ Q (fun y1 σ1 => fx_Wp 62 61 [(36, o0), (0, x1), (0, x2), (0, y1), (0, 0), w5, w6] [] σ1 Q)) ∧ (x3 < 8 → fx_Wp 62 15 [(36, o0), (0, x1), (0, x2), (0, x3), (0, 0), w5, w6] [] σ Q))) : fx_Wp 62 6 [(36, o0), (0, x1), (0, x2), (0, x3), w4, w5, w6] [] σ Q := by
  refine wi_iload_n (pc' := 7) hm62 rfl rfl rfl ?_
  refine wi_bipush (pc' := 9) (v := 8) hm62 rfl rfl rfl ?_
  refine wi_ic_ge (pc' := 12) (t := 46) hm62 rfl rfl rfl (fun hc => ?_) (fun hc => ?_)
  · replace h := h.1 hc
    refine wi_iload_n (pc' := 47) hm62 rfl rfl rfl ?_
    refine wi_aload_n (pc' := 48) hm62 rfl rfl rfl (by decide) ?_
    refine wi_getR (pc' := 51) (x := 0) hm62 rfl rfl rfl (by omega) ?_
    refine wi_getI (pc' := 54) hm62 rfl rfl (P := 10) rfl ?_
    refine wc_I (pc' := 57) (by decide) rfl (by decide) ((fx_wE hm62 rfl).trans (fx_exS (mj := 1) (as := [(0, x1), (0, (σ 11 0 10))]) (rest := []) rfl rk1 rfl rfl rfl rfl)) h (fun y1 σ1 h => ?_)
    refine wi_istore_n (pc' := 58) (L' := [(36, o0), (0, x1), (0, x2), (0, y1), w4, w5, w6]) hm62 rfl rfl rfl ?_
    refine wi_iconst (pc' := 59) (v := 0) hm62 rfl rfl rfl ?_
    refine wi_istore (pc' := 61) (L' := [(36, o0), (0, x1), (0, x2), (0, y1), (0, 0), w5, w6]) hm62 rfl rfl rfl ?_
    exact h
  · replace h := h.2 hc
    refine wi_iconst (pc' := 13) (v := 0) hm62 rfl rfl rfl ?_
    refine wi_istore (pc' := 15) (L' := [(36, o0), (0, x1), (0, x2), (0, x3), (0, 0), w5, w6]) hm62 rfl rfl rfl ?_
    exact h
theorem t62_15 {o0 x1 x2 x3 x4 : Int} {w5 w6 : fx_V} {σ : fx_S} {Q : fx_V → fx_S → Prop} (h : (((σ 36 o0 8) ≤ x4 → (fx_rg (x3 + 1)) ∧ fx_Wp 62 6 [(36, o0), (0, x1), (0, x2), (0, (x3 + 1)), (0, x4), w5, w6] [] σ Q) ∧ (x4 < (σ 36 o0 8) → (0 ≤ x3 ∧ x3 < 8) ∧ (0 ≤ x4 ∧ x4 < 121) ∧ (fx_rg (x4 + 1)) ∧ fx_Wp 62 15 [(36, o0), (0, x1), (0, x2), (0, x3), (0, (x4 + 1)), w5, w6] [] (fx_up σ 41 (8 * o0 + 0 + x3) x4 (-1)) Q))) : fx_Wp 62 15 [(36, o0), (0, x1), (0, x2), (0, x3), (0, x4), w5, w6] [] σ Q := by
  refine wi_iload (pc' := 17) hm62 rfl rfl rfl ?_
  refine wi_aload_n (pc' := 18) hm62 rfl rfl rfl (by decide) ?_
  refine wi_getI (pc' := 21) hm62 rfl rfl (P := 8) rfl ?_
  refine wi_ic_ge (pc' := 24) (t := 40) hm62 rfl rfl rfl (fun hc => ?_) (fun hc => ?_)
  · replace h := h.1 hc
    obtain ⟨g1, h⟩ := h
    refine wi_iinc (pc' := 43) (L' := [(36, o0), (0, x1), (0, x2), (0, (x3 + 1)), (0, x4), w5, w6]) hm62 rfl rfl rfl g1 rfl ?_
    refine wi_goto (t := 6) hm62 rfl rfl ?_
    exact h
  · replace h := h.2 hc
    refine wi_aload_n (pc' := 25) hm62 rfl rfl rfl (by decide) ?_
    refine wi_getR (pc' := 28) (x := o0) hm62 rfl rfl rfl (by omega) ?_
    refine wi_iload_n (pc' := 29) hm62 rfl rfl rfl ?_
    obtain ⟨g1, h⟩ := h
    refine wi_aaload (pc' := 30) (x := (8 * o0 + 0 + x3)) hm62 rfl rfl rfl rfl (N := 8) rfl g1 (by omega) ?_
    refine wi_iload (pc' := 32) hm62 rfl rfl rfl ?_
    refine wi_iconst (pc' := 33) (v := (-1)) hm62 rfl rfl rfl ?_
    obtain ⟨g2, h⟩ := h
    refine wi_iastore (pc' := 34) hm62 rfl rfl rfl (N := 121) rfl g2 ?_
    obtain ⟨g3, h⟩ := h
    refine wi_iinc (pc' := 37) (L' := [(36, o0), (0, x1), (0, x2), (0, x3), (0, (x4 + 1)), w5, w6]) hm62 rfl rfl rfl g3 rfl ?_
    refine wi_goto (t := 15) hm62 rfl rfl ?_
    exact h
theorem t62_61 {o0 x2 x3 x4 : Int} {w1 w5 w6 : fx_V} {σ : fx_S} {Q : fx_V → fx_S → Prop} (h : ((x3 ≤ x4 → fx_Wp 62 100 [(36, o0), w1, (0, x2), (0, x3), (0, 0), w5, w6] [] σ Q) ∧ (x4 < x3 → ((x4 = x2 → (fx_rg (x4 + 1)) ∧ fx_Wp 62 61 [(36, o0), w1, (0, x2), (0, x3), (0, (x4 + 1)), w5, w6] [] σ Q) ∧ (x4 ≠ x2 → fx_CI 35 [(11, 0), (0, x4)] σ Q (fun y1 σ1 => ((y1 = 0 → (fx_rg (x4 + 1)) ∧ fx_Wp 62 61 [(36, o0), w1, (0, x2), (0, x3), (0, (x4 + 1)), w5, w6] [] σ1 Q) ∧ (y1 ≠ 0 → fx_CV 64 [(36, o0), (0, x4)] σ1 Q (fun σ2 => (fx_rg (x4 + 1)) ∧ fx_Wp 62 61 [(36, o0), w1, (0, x2), (0, x3), (0, (x4 + 1)), w5, w6] [] σ2 Q))))))))) : fx_Wp 62 61 [(36, o0), w1, (0, x2), (0, x3), (0, x4), w5, w6] [] σ Q := by
  refine wi_iload (pc' := 63) hm62 rfl rfl rfl ?_
  refine wi_iload_n (pc' := 64) hm62 rfl rfl rfl ?_
  refine wi_ic_ge (pc' := 67) (t := 97) hm62 rfl rfl rfl (fun hc => ?_) (fun hc => ?_)
  · replace h := h.1 hc
    refine wi_iconst (pc' := 98) (v := 0) hm62 rfl rfl rfl ?_
    refine wi_istore (pc' := 100) (L' := [(36, o0), w1, (0, x2), (0, x3), (0, 0), w5, w6]) hm62 rfl rfl rfl ?_
    exact h
  · replace h := h.2 hc
    refine wi_iload (pc' := 69) hm62 rfl rfl rfl ?_
    refine wi_iload_n (pc' := 70) hm62 rfl rfl rfl ?_
    refine wi_ic_eq (pc' := 73) (t := 91) hm62 rfl rfl rfl (fun hc => ?_) (fun hc => ?_)
    · replace h := h.1 hc
      obtain ⟨g1, h⟩ := h
      refine wi_iinc (pc' := 94) (L' := [(36, o0), w1, (0, x2), (0, x3), (0, (x4 + 1)), w5, w6]) hm62 rfl rfl rfl g1 rfl ?_
      refine wi_goto (t := 61) hm62 rfl rfl ?_
      exact h
    · replace h := h.2 hc
      refine wi_aload_n (pc' := 74) hm62 rfl rfl rfl (by decide) ?_
      refine wi_getR (pc' := 77) (x := 0) hm62 rfl rfl rfl (by omega) ?_
      refine wi_iload (pc' := 79) hm62 rfl rfl rfl ?_
      refine wc_I (pc' := 82) (by decide) rfl (by decide) ((fx_wE hm62 rfl).trans (fx_exV (mj := 35) (as := [(0, x4)]) (rest := []) rfl rk35 rfl rfl rfl rfl rfl)) h (fun y1 σ1 h => ?_)
      refine wi_if_eq (pc' := 85) (t := 91) hm62 rfl rfl rfl (fun hc => ?_) (fun hc => ?_)
      · replace h := h.1 hc
        obtain ⟨g1, h⟩ := h
        refine wi_iinc (pc' := 94) (L' := [(36, o0), w1, (0, x2), (0, x3), (0, (x4 + 1)), w5, w6]) hm62 rfl rfl rfl g1 rfl ?_
        refine wi_goto (t := 61) hm62 rfl rfl ?_
        exact h
      · replace h := h.2 hc
        refine wi_aload_n (pc' := 86) hm62 rfl rfl rfl (by decide) ?_
        refine wi_iload (pc' := 88) hm62 rfl rfl rfl ?_
        refine wc_V (pc' := 91) (by decide) rfl (by decide) ((fx_wE hm62 rfl).trans (fx_exV (mj := 64) (as := [(0, x4)]) (rest := []) rfl rk64 rfl rfl rfl rfl rfl)) h (fun σ2 h => ?_)
        obtain ⟨g1, h⟩ := h
        refine wi_iinc (pc' := 94) (L' := [(36, o0), w1, (0, x2), (0, x3), (0, (x4 + 1)), w5, w6]) hm62 rfl rfl rfl g1 rfl ?_
        refine wi_goto (t := 61) hm62 rfl rfl ?_
        exact h
theorem t62_100 {o0 x4 : Int} {w1 w2 w3 w5 w6 : fx_V} {σ : fx_S} {Q : fx_V → fx_S → Prop} (h : ((8 ≤ x4 → Q (4, 0) σ) ∧ (x4 < 8 → fx_Wp 62 110 [(36, o0), w1, w2, w3, (0, x4), (0, 0), w6] [] σ Q))) : fx_Wp 62 100 [(36, o0), w1, w2, w3, (0, x4), w5, w6] [] σ Q := by
  refine wi_iload (pc' := 102) hm62 rfl rfl rfl ?_
  refine wi_bipush (pc' := 104) (v := 8) hm62 rfl rfl rfl ?_
  refine wi_ic_ge (pc' := 107) (t := 188) hm62 rfl rfl rfl (fun hc => ?_) (fun hc => ?_)
  · replace h := h.1 hc
    exact wi_vret hm62 rfl h
  · replace h := h.2 hc
    refine wi_iconst (pc' := 108) (v := 0) hm62 rfl rfl rfl ?_
    refine wi_istore (pc' := 110) (L' := [(36, o0), w1, w2, w3, (0, x4), (0, 0), w6]) hm62 rfl rfl rfl ?_
    exact h
theorem t62_110 {o0 x4 x5 : Int} {w1 w2 w3 w6 : fx_V} {σ : fx_S} {Q : fx_V → fx_S → Prop} (h : (((σ 36 o0 8) ≤ x5 → (fx_rg (x4 + 1)) ∧ fx_Wp 62 100 [(36, o0), w1, w2, w3, (0, (x4 + 1)), (0, x5), w6] [] σ Q) ∧ (x5 < (σ 36 o0 8) → (0 ≤ x4 ∧ x4 < 8) ∧ (0 ≤ x5 ∧ x5 < 121) ∧ (((σ 41 (8 * o0 + 0 + x4) x5) = (-1) → fx_CI 65 [(36, o0), (22, x4), (0, x5)] σ Q (fun y1 σ1 => (fx_rg (x5 + 1)) ∧ fx_Wp 62 110 [(36, o0), w1, w2, w3, (0, x4), (0, (x5 + 1)), (0, (σ 41 (8 * o0 + 0 + x4) x5))] [] (fx_up σ1 43 (8 * o0 + 0 + x4) x5 y1) Q)) ∧ ((σ 41 (8 * o0 + 0 + x4) x5) ≠ (-1) → (0 ≤ (σ 41 (8 * o0 + 0 + x4) x5) ∧ (σ 41 (8 * o0 + 0 + x4) x5) < 60) ∧ (fx_rg (x5 + 1)) ∧ fx_Wp 62 110 [(36, o0), w1, w2, w3, (0, x4), (0, (x5 + 1)), (0, (σ 41 (8 * o0 + 0 + x4) x5))] [] (fx_up σ 43 (8 * o0 + 0 + x4) x5 (σ 19 0 (σ 41 (8 * o0 + 0 + x4) x5))) Q))))) : fx_Wp 62 110 [(36, o0), w1, w2, w3, (0, x4), (0, x5), w6] [] σ Q := by
  refine wi_iload (pc' := 112) hm62 rfl rfl rfl ?_
  refine wi_aload_n (pc' := 113) hm62 rfl rfl rfl (by decide) ?_
  refine wi_getI (pc' := 116) hm62 rfl rfl (P := 8) rfl ?_
  refine wi_ic_ge (pc' := 119) (t := 182) hm62 rfl rfl rfl (fun hc => ?_) (fun hc => ?_)
  · replace h := h.1 hc
    obtain ⟨g1, h⟩ := h
    refine wi_iinc (pc' := 185) (L' := [(36, o0), w1, w2, w3, (0, (x4 + 1)), (0, x5), w6]) hm62 rfl rfl rfl g1 rfl ?_
    refine wi_goto (t := 100) hm62 rfl rfl ?_
    exact h
  · replace h := h.2 hc
    refine wi_aload_n (pc' := 120) hm62 rfl rfl rfl (by decide) ?_
    refine wi_getR (pc' := 123) (x := o0) hm62 rfl rfl rfl (by omega) ?_
    refine wi_iload (pc' := 125) hm62 rfl rfl rfl ?_
    obtain ⟨g1, h⟩ := h
    refine wi_aaload (pc' := 126) (x := (8 * o0 + 0 + x4)) hm62 rfl rfl rfl rfl (N := 8) rfl g1 (by omega) ?_
    refine wi_iload (pc' := 128) hm62 rfl rfl rfl ?_
    obtain ⟨g2, h⟩ := h
    refine wi_iaload (pc' := 129) hm62 rfl rfl rfl rfl (N := 121) rfl g2 ?_
    refine wi_istore (pc' := 131) (L' := [(36, o0), w1, w2, w3, (0, x4), (0, x5), (0, (σ 41 (8 * o0 + 0 + x4) x5))]) hm62 rfl rfl rfl ?_
    refine wi_aload_n (pc' := 132) hm62 rfl rfl rfl (by decide) ?_
    refine wi_getR (pc' := 135) (x := o0) hm62 rfl rfl rfl (by omega) ?_
    refine wi_iload (pc' := 137) hm62 rfl rfl rfl ?_
    refine wi_aaload (pc' := 138) (x := (8 * o0 + 0 + x4)) hm62 rfl rfl rfl rfl (N := 8) rfl g1 (by omega) ?_
    refine wi_iload (pc' := 140) hm62 rfl rfl rfl ?_
    refine wi_iload (pc' := 142) hm62 rfl rfl rfl ?_
    refine wi_iconst (pc' := 143) (v := (-1)) hm62 rfl rfl rfl ?_
    refine wi_ic_eq (pc' := 146) (t := 159) hm62 rfl rfl rfl (fun hc => ?_) (fun hc => ?_)
    · replace h := h.1 hc
      refine wi_aload_n (pc' := 160) hm62 rfl rfl rfl (by decide) ?_
      refine wi_aload_n (pc' := 161) hm62 rfl rfl rfl (by decide) ?_
      refine wi_getR (pc' := 164) (x := 0) hm62 rfl rfl rfl (by omega) ?_
      refine wi_getR (pc' := 167) (x := 0) hm62 rfl rfl rfl (by omega) ?_
      refine wi_iload (pc' := 169) hm62 rfl rfl rfl ?_
      refine wi_aaload (pc' := 170) (x := x4) hm62 rfl rfl rfl rfl (N := 8) rfl g1 (by omega) ?_
      refine wi_iload (pc' := 172) hm62 rfl rfl rfl ?_
      refine wc_I (pc' := 175) (by decide) rfl (by decide) ((fx_wE hm62 rfl).trans (fx_exV (mj := 65) (as := [(22, x4), (0, x5)]) (rest := [(0, x5), (43, (8 * o0 + 0 + x4))]) rfl rk65 rfl rfl rfl rfl rfl)) h (fun y1 σ1 h => ?_)
      refine wi_iastore (pc' := 176) hm62 rfl rfl rfl (N := 121) rfl g2 ?_
      obtain ⟨g3, h⟩ := h
      refine wi_iinc (pc' := 179) (L' := [(36, o0), w1, w2, w3, (0, x4), (0, (x5 + 1)), (0, (σ 41 (8 * o0 + 0 + x4) x5))]) hm62 rfl rfl rfl g3 rfl ?_
      refine wi_goto (t := 110) hm62 rfl rfl ?_
      exact h
    · replace h := h.2 hc
      refine wi_aload_n (pc' := 147) hm62 rfl rfl rfl (by decide) ?_
      refine wi_getR (pc' := 150) (x := 0) hm62 rfl rfl rfl (by omega) ?_
      refine wi_getR (pc' := 153) (x := 0) hm62 rfl rfl rfl (by omega) ?_
      refine wi_iload (pc' := 155) hm62 rfl rfl rfl ?_
      obtain ⟨g3, h⟩ := h
      refine wi_iaload (pc' := 156) hm62 rfl rfl rfl rfl (N := 60) rfl g3 ?_
      refine wi_goto (t := 175) hm62 rfl rfl ?_
      refine wi_iastore (pc' := 176) hm62 rfl rfl rfl (N := 121) rfl g2 ?_
      obtain ⟨g4, h⟩ := h
      refine wi_iinc (pc' := 179) (L' := [(36, o0), w1, w2, w3, (0, x4), (0, (x5 + 1)), (0, (σ 41 (8 * o0 + 0 + x4) x5))]) hm62 rfl rfl rfl g4 rfl ?_
      refine wi_goto (t := 110) hm62 rfl rfl ?_
      exact h
theorem hm63 : fx_code 63 = fx_c63 := rfl
theorem t63_0 {o0 : Int} {σ : fx_S} {Q : fx_V → fx_S → Prop} (h : fx_Wp 63 2 [(36, o0), (0, 0)] [] σ Q) : fx_Ca 63 [(36, o0)] σ Q := by
  show fx_Wp 63 0 [(36, o0), (3, 0)] [] σ Q
  refine wi_iconst (pc' := 1) (v := 0) hm63 rfl rfl rfl ?_
  refine wi_istore_n (pc' := 2) (L' := [(36, o0), (0, 0)]) hm63 rfl rfl rfl ?_
  exact h
theorem t63_2 {o0 x1 : Int} {σ : fx_S} {Q : fx_V → fx_S → Prop} (h : ((1000 < x1 → fx_Wp 63 31 [(36, o0), (0, 0)] [] (fx_up σ 39 o0 0 1) Q) ∧ (x1 ≤ 1000 → (0 ≤ x1 ∧ x1 < 1001) ∧ (fx_rg (x1 + 1)) ∧ fx_Wp 63 2 [(36, o0), (0, (x1 + 1))] [] (fx_up σ 39 o0 x1 0) Q))) : fx_Wp 63 2 [(36, o0), (0, x1)] [] σ Q := by
  refine wi_iload_n (pc' := 3) hm63 rfl rfl rfl ?_
  refine wi_sipush (pc' := 6) (v := 1000) hm63 rfl rfl rfl ?_
  refine wi_ic_gt (pc' := 9) (t := 22) hm63 rfl rfl rfl (fun hc => ?_) (fun hc => ?_)
  · replace h := h.1 hc
    refine wi_aload_n (pc' := 23) hm63 rfl rfl rfl (by decide) ?_
    refine wi_getR (pc' := 26) (x := o0) hm63 rfl rfl rfl (by omega) ?_
    refine wi_iconst (pc' := 27) (v := 0) hm63 rfl rfl rfl ?_
    refine wi_iconst (pc' := 28) (v := 1) hm63 rfl rfl rfl ?_
    refine wi_bastore (pc' := 29) hm63 rfl rfl rfl (N := 1001) rfl (by decide) (by decide) ?_
    refine wi_iconst (pc' := 30) (v := 0) hm63 rfl rfl rfl ?_
    refine wi_istore_n (pc' := 31) (L' := [(36, o0), (0, 0)]) hm63 rfl rfl rfl ?_
    exact h
  · replace h := h.2 hc
    refine wi_aload_n (pc' := 10) hm63 rfl rfl rfl (by decide) ?_
    refine wi_getR (pc' := 13) (x := o0) hm63 rfl rfl rfl (by omega) ?_
    refine wi_iload_n (pc' := 14) hm63 rfl rfl rfl ?_
    refine wi_iconst (pc' := 15) (v := 0) hm63 rfl rfl rfl ?_
    obtain ⟨g1, h⟩ := h
    refine wi_bastore (pc' := 16) hm63 rfl rfl rfl (N := 1001) rfl g1 (by decide) ?_
    obtain ⟨g2, h⟩ := h
    refine wi_iinc (pc' := 19) (L' := [(36, o0), (0, (x1 + 1))]) hm63 rfl rfl rfl g2 rfl ?_
    refine wi_goto (t := 2) hm63 rfl rfl ?_
    exact h
theorem t63_31 {o0 x1 : Int} {σ : fx_S} {Q : fx_V → fx_S → Prop} (h : (((σ 11 0 10) ≤ x1 → fx_Wp 63 85 [(36, o0), (0, 0)] [] (fx_up σ 36 o0 8 0) Q) ∧ (x1 < (σ 11 0 10) → (0 ≤ x1 ∧ x1 < 60) ∧ (0 ≤ (σ 17 0 x1) ∧ (σ 17 0 x1) < 1001) ∧ (0 ≤ (σ 18 0 x1) ∧ (σ 18 0 x1) < 1001) ∧ (fx_rg (x1 + 1)) ∧ fx_Wp 63 31 [(36, o0), (0, (x1 + 1))] [] (fx_up (fx_up σ 39 o0 (σ 17 0 x1) 1) 39 o0 (σ 18 0 x1) 1) Q))) : fx_Wp 63 31 [(36, o0), (0, x1)] [] σ Q := by
  refine wi_iload_n (pc' := 32) hm63 rfl rfl rfl ?_
  refine wi_aload_n (pc' := 33) hm63 rfl rfl rfl (by decide) ?_
  refine wi_getR (pc' := 36) (x := 0) hm63 rfl rfl rfl (by omega) ?_
  refine wi_getI (pc' := 39) hm63 rfl rfl (P := 10) rfl ?_
  refine wi_ic_ge (pc' := 42) (t := 78) hm63 rfl rfl rfl (fun hc => ?_) (fun hc => ?_)
  · replace h := h.1 hc
    refine wi_aload_n (pc' := 79) hm63 rfl rfl rfl (by decide) ?_
    refine wi_iconst (pc' := 80) (v := 0) hm63 rfl rfl rfl ?_
    refine wi_putI (pc' := 83) hm63 rfl rfl (P := 8) rfl ?_
    refine wi_iconst (pc' := 84) (v := 0) hm63 rfl rfl rfl ?_
    refine wi_istore_n (pc' := 85) (L' := [(36, o0), (0, 0)]) hm63 rfl rfl rfl ?_
    exact h
  · replace h := h.2 hc
    refine wi_aload_n (pc' := 43) hm63 rfl rfl rfl (by decide) ?_
    refine wi_getR (pc' := 46) (x := o0) hm63 rfl rfl rfl (by omega) ?_
    refine wi_aload_n (pc' := 47) hm63 rfl rfl rfl (by decide) ?_
    refine wi_getR (pc' := 50) (x := 0) hm63 rfl rfl rfl (by omega) ?_
    refine wi_getR (pc' := 53) (x := 0) hm63 rfl rfl rfl (by omega) ?_
    refine wi_iload_n (pc' := 54) hm63 rfl rfl rfl ?_
    obtain ⟨g1, h⟩ := h
    refine wi_iaload (pc' := 55) hm63 rfl rfl rfl rfl (N := 60) rfl g1 ?_
    refine wi_iconst (pc' := 56) (v := 1) hm63 rfl rfl rfl ?_
    obtain ⟨g2, h⟩ := h
    refine wi_bastore (pc' := 57) hm63 rfl rfl rfl (N := 1001) rfl g2 (by decide) ?_
    refine wi_aload_n (pc' := 58) hm63 rfl rfl rfl (by decide) ?_
    refine wi_getR (pc' := 61) (x := o0) hm63 rfl rfl rfl (by omega) ?_
    refine wi_aload_n (pc' := 62) hm63 rfl rfl rfl (by decide) ?_
    refine wi_getR (pc' := 65) (x := 0) hm63 rfl rfl rfl (by omega) ?_
    refine wi_getR (pc' := 68) (x := 0) hm63 rfl rfl rfl (by omega) ?_
    refine wi_iload_n (pc' := 69) hm63 rfl rfl rfl ?_
    refine wi_ialoade (pc' := 70) hm63 rfl rfl rfl rfl (N := 60) rfl g1 (x := (σ 18 0 x1)) (Eq.trans (fx_upK rfl) rfl) ?_
    refine wi_iconst (pc' := 71) (v := 1) hm63 rfl rfl rfl ?_
    obtain ⟨g3, h⟩ := h
    refine wi_bastore (pc' := 72) hm63 rfl rfl rfl (N := 1001) rfl g3 (by decide) ?_
    obtain ⟨g4, h⟩ := h
    refine wi_iinc (pc' := 75) (L' := [(36, o0), (0, (x1 + 1))]) hm63 rfl rfl rfl g4 rfl ?_
    refine wi_goto (t := 31) hm63 rfl rfl ?_
    exact h
theorem t63_85 {o0 x1 : Int} {σ : fx_S} {Q : fx_V → fx_S → Prop} (h : ((1000 ≤ x1 → (0 ≤ (σ 36 o0 8) ∧ (σ 36 o0 8) < 122) ∧ Q (4, 0) (fx_up (fx_up σ 37 o0 (σ 36 o0 8) 1000) 38 o0 1000 (σ 36 o0 8))) ∧ (x1 < 1000 → (0 ≤ x1 ∧ x1 < 1001) ∧ (((σ 39 o0 x1) = 0 → (fx_rg ((σ 36 o0 8) - 1)) ∧ (fx_rg (x1 + 1)) ∧ fx_Wp 63 85 [(36, o0), (0, (x1 + 1))] [] (fx_up σ 38 o0 x1 ((σ 36 o0 8) - 1)) Q) ∧ ((σ 39 o0 x1) ≠ 0 → ((121 ≤ (σ 36 o0 8) → (fx_rg ((σ 36 o0 8) - 1)) ∧ (fx_rg (x1 + 1)) ∧ fx_Wp 63 85 [(36, o0), (0, (x1 + 1))] [] (fx_up σ 38 o0 x1 ((σ 36 o0 8) - 1)) Q) ∧ ((σ 36 o0 8) < 121 → (0 ≤ (σ 36 o0 8) ∧ (σ 36 o0 8) < 122) ∧ (fx_rg ((σ 36 o0 8) + 1)) ∧ (fx_rg (((σ 36 o0 8) + 1) - 1)) ∧ (fx_rg (x1 + 1)) ∧ fx_Wp 63 85 [(36, o0), (0, (x1 + 1))] [] (fx_up (fx_up (fx_up σ 37 o0 (σ 36 o0 8) x1) 36 o0 8 ((σ 36 o0 8) + 1)) 38 o0 x1 (((σ 36 o0 8) + 1) - 1)) Q))))))) : fx_Wp 63 85 [(36, o0), (0, x1)] [] σ Q := by
  refine wi_iload_n (pc' := 86) hm63 rfl rfl rfl ?_
  refine wi_sipush (pc' := 89) (v := 1000) hm63 rfl rfl rfl ?_
  refine wi_ic_ge (pc' := 92) (t := 148) hm63 rfl rfl rfl (fun hc => ?_) (fun hc => ?_)
  · replace h := h.1 hc
    refine wi_aload_n (pc' := 149) hm63 rfl rfl rfl (by decide) ?_
    refine wi_getR (pc' := 152) (x := o0) hm63 rfl rfl rfl (by omega) ?_
    refine wi_aload_n (pc' := 153) hm63 rfl rfl rfl (by decide) ?_
    refine wi_getI (pc' := 156) hm63 rfl rfl (P := 8) rfl ?_
    refine wi_sipush (pc' := 159) (v := 1000) hm63 rfl rfl rfl ?_
    obtain ⟨g1, h⟩ := h
    refine wi_iastore (pc' := 160) hm63 rfl rfl rfl (N := 122) rfl g1 ?_
    refine wi_aload_n (pc' := 161) hm63 rfl rfl rfl (by decide) ?_
    refine wi_getR (pc' := 164) (x := o0) hm63 rfl rfl rfl (by omega) ?_
    refine wi_sipush (pc' := 167) (v := 1000) hm63 rfl rfl rfl ?_
    refine wi_aload_n (pc' := 168) hm63 rfl rfl rfl (by decide) ?_
    refine wi_getIe (pc' := 171) hm63 rfl rfl (P := 8) rfl (x := (σ 36 o0 8)) (Eq.trans (fx_upK rfl) rfl) ?_
    refine wi_iastore (pc' := 172) hm63 rfl rfl rfl (N := 1001) rfl (by decide) ?_
    exact wi_vret hm63 rfl h
  · replace h := h.2 hc
    refine wi_aload_n (pc' := 93) hm63 rfl rfl rfl (by decide) ?_
    refine wi_getR (pc' := 96) (x := o0) hm63 rfl rfl rfl (by omega) ?_
    refine wi_iload_n (pc' := 97) hm63 rfl rfl rfl ?_
    obtain ⟨g1, h⟩ := h
    refine wi_baload (pc' := 98) hm63 rfl rfl rfl (N := 1001) rfl g1 ?_
    refine wi_if_eq (pc' := 101) (t := 130) hm63 rfl rfl rfl (fun hc => ?_) (fun hc => ?_)
    · replace h := h.1 hc
      refine wi_aload_n (pc' := 131) hm63 rfl rfl rfl (by decide) ?_
      refine wi_getR (pc' := 134) (x := o0) hm63 rfl rfl rfl (by omega) ?_
      refine wi_iload_n (pc' := 135) hm63 rfl rfl rfl ?_
      refine wi_aload_n (pc' := 136) hm63 rfl rfl rfl (by decide) ?_
      refine wi_getI (pc' := 139) hm63 rfl rfl (P := 8) rfl ?_
      refine wi_iconst (pc' := 140) (v := 1) hm63 rfl rfl rfl ?_
      obtain ⟨g2, h⟩ := h
      refine wi_isub (pc' := 141) hm63 rfl rfl g2 ?_
      refine wi_iastore (pc' := 142) hm63 rfl rfl rfl (N := 1001) rfl g1 ?_
      obtain ⟨g3, h⟩ := h
      refine wi_iinc (pc' := 145) (L' := [(36, o0), (0, (x1 + 1))]) hm63 rfl rfl rfl g3 rfl ?_
      refine wi_goto (t := 85) hm63 rfl rfl ?_
      exact h
    · replace h := h.2 hc
      refine wi_aload_n (pc' := 102) hm63 rfl rfl rfl (by decide) ?_
      refine wi_getI (pc' := 105) hm63 rfl rfl (P := 8) rfl ?_
      refine wi_bipush (pc' := 107) (v := 121) hm63 rfl rfl rfl ?_
      refine wi_ic_ge (pc' := 110) (t := 130) hm63 rfl rfl rfl (fun hc => ?_) (fun hc => ?_)
      · replace h := h.1 hc
        refine wi_aload_n (pc' := 131) hm63 rfl rfl rfl (by decide) ?_
        refine wi_getR (pc' := 134) (x := o0) hm63 rfl rfl rfl (by omega) ?_
        refine wi_iload_n (pc' := 135) hm63 rfl rfl rfl ?_
        refine wi_aload_n (pc' := 136) hm63 rfl rfl rfl (by decide) ?_
        refine wi_getI (pc' := 139) hm63 rfl rfl (P := 8) rfl ?_
        refine wi_iconst (pc' := 140) (v := 1) hm63 rfl rfl rfl ?_
        obtain ⟨g2, h⟩ := h
        refine wi_isub (pc' := 141) hm63 rfl rfl g2 ?_
        refine wi_iastore (pc' := 142) hm63 rfl rfl rfl (N := 1001) rfl g1 ?_
        obtain ⟨g3, h⟩ := h
        refine wi_iinc (pc' := 145) (L' := [(36, o0), (0, (x1 + 1))]) hm63 rfl rfl rfl g3 rfl ?_
        refine wi_goto (t := 85) hm63 rfl rfl ?_
        exact h
      · replace h := h.2 hc
        refine wi_aload_n (pc' := 111) hm63 rfl rfl rfl (by decide) ?_
        refine wi_getR (pc' := 114) (x := o0) hm63 rfl rfl rfl (by omega) ?_
        refine wi_aload_n (pc' := 115) hm63 rfl rfl rfl (by decide) ?_
        refine wi_getI (pc' := 118) hm63 rfl rfl (P := 8) rfl ?_
        refine wi_iload_n (pc' := 119) hm63 rfl rfl rfl ?_
        obtain ⟨g2, h⟩ := h
        refine wi_iastore (pc' := 120) hm63 rfl rfl rfl (N := 122) rfl g2 ?_
        refine wi_aload_n (pc' := 121) hm63 rfl rfl rfl (by decide) ?_
        refine wi_dup (pc' := 122) hm63 rfl rfl rfl ?_
        refine wi_getIe (pc' := 125) hm63 rfl rfl (P := 8) rfl (x := (σ 36 o0 8)) (Eq.trans (fx_upK rfl) rfl) ?_
        refine wi_iconst (pc' := 126) (v := 1) hm63 rfl rfl rfl ?_
        obtain ⟨g3, h⟩ := h
        refine wi_iadd (pc' := 127) hm63 rfl rfl g3 ?_
        refine wi_putI (pc' := 130) hm63 rfl rfl (P := 8) rfl ?_
        refine wi_aload_n (pc' := 131) hm63 rfl rfl rfl (by decide) ?_
        refine wi_getR (pc' := 134) (x := o0) hm63 rfl rfl rfl (by omega) ?_
        refine wi_iload_n (pc' := 135) hm63 rfl rfl rfl ?_
        refine wi_aload_n (pc' := 136) hm63 rfl rfl rfl (by decide) ?_
        refine wi_getIe (pc' := 139) hm63 rfl rfl (P := 8) rfl (x := ((σ 36 o0 8) + 1)) fx_upS ?_
        refine wi_iconst (pc' := 140) (v := 1) hm63 rfl rfl rfl ?_
        obtain ⟨g4, h⟩ := h
        refine wi_isub (pc' := 141) hm63 rfl rfl g4 ?_
        refine wi_iastore (pc' := 142) hm63 rfl rfl rfl (N := 1001) rfl g1 ?_
        obtain ⟨g5, h⟩ := h
        refine wi_iinc (pc' := 145) (L' := [(36, o0), (0, (x1 + 1))]) hm63 rfl rfl rfl g5 rfl ?_
        refine wi_goto (t := 85) hm63 rfl rfl ?_
        exact h
theorem hm64 : fx_code 64 = fx_c64 := rfl
theorem t64_0 {o0 x1 : Int} {σ : fx_S} {Q : fx_V → fx_S → Prop} (h : (0 ≤ x1 ∧ x1 < 60) ∧ (0 ≤ (σ 15 0 x1) ∧ (σ 15 0 x1) < 8) ∧ (0 ≤ (σ 18 0 x1) ∧ (σ 18 0 x1) < 1001) ∧ (0 ≤ (σ 17 0 x1) ∧ (σ 17 0 x1) < 1001) ∧ fx_Wp 64 46 [(36, o0), (0, x1), (41, (8 * o0 + 0 + (σ 15 0 x1))), (0, (σ 38 o0 (σ 18 0 x1))), (0, (σ 38 o0 (σ 17 0 x1)))] [] σ Q) : fx_Ca 64 [(36, o0), (0, x1)] σ Q := by
  show fx_Wp 64 0 [(36, o0), (0, x1), (3, 0), (3, 0), (3, 0)] [] σ Q
  refine wi_aload_n (pc' := 1) hm64 rfl rfl rfl (by decide) ?_
  refine wi_getR (pc' := 4) (x := o0) hm64 rfl rfl rfl (by omega) ?_
  refine wi_aload_n (pc' := 5) hm64 rfl rfl rfl (by decide) ?_
  refine wi_getR (pc' := 8) (x := 0) hm64 rfl rfl rfl (by omega) ?_
  refine wi_getR (pc' := 11) (x := 0) hm64 rfl rfl rfl (by omega) ?_
  refine wi_iload_n (pc' := 12) hm64 rfl rfl rfl ?_
  obtain ⟨g1, h⟩ := h
  refine wi_iaload (pc' := 13) hm64 rfl rfl rfl rfl (N := 60) rfl g1 ?_
  obtain ⟨g2, h⟩ := h
  refine wi_aaload (pc' := 14) (x := (8 * o0 + 0 + (σ 15 0 x1))) hm64 rfl rfl rfl rfl (N := 8) rfl g2 (by omega) ?_
  refine wi_astore_n (pc' := 15) (L' := [(36, o0), (0, x1), (41, (8 * o0 + 0 + (σ 15 0 x1))), (3, 0), (3, 0)]) hm64 rfl rfl (by decide) rfl ?_
  refine wi_aload_n (pc' := 16) hm64 rfl rfl rfl (by decide) ?_
  refine wi_getR (pc' := 19) (x := o0) hm64 rfl rfl rfl (by omega) ?_
  refine wi_aload_n (pc' := 20) hm64 rfl rfl rfl (by decide) ?_
  refine wi_getR (pc' := 23) (x := 0) hm64 rfl rfl rfl (by omega) ?_
  refine wi_getR (pc' := 26) (x := 0) hm64 rfl rfl rfl (by omega) ?_
  refine wi_iload_n (pc' := 27) hm64 rfl rfl rfl ?_
  refine wi_iaload (pc' := 28) hm64 rfl rfl rfl rfl (N := 60) rfl g1 ?_
  obtain ⟨g3, h⟩ := h
  refine wi_iaload (pc' := 29) hm64 rfl rfl rfl rfl (N := 1001) rfl g3 ?_
  refine wi_istore_n (pc' := 30) (L' := [(36, o0), (0, x1), (41, (8 * o0 + 0 + (σ 15 0 x1))), (0, (σ 38 o0 (σ 18 0 x1))), (3, 0)]) hm64 rfl rfl rfl ?_
  refine wi_aload_n (pc' := 31) hm64 rfl rfl rfl (by decide) ?_
  refine wi_getR (pc' := 34) (x := o0) hm64 rfl rfl rfl (by omega) ?_
  refine wi_aload_n (pc' := 35) hm64 rfl rfl rfl (by decide) ?_
  refine wi_getR (pc' := 38) (x := 0) hm64 rfl rfl rfl (by omega) ?_
  refine wi_getR (pc' := 41) (x := 0) hm64 rfl rfl rfl (by omega) ?_
  refine wi_iload_n (pc' := 42) hm64 rfl rfl rfl ?_
  refine wi_iaload (pc' := 43) hm64 rfl rfl rfl rfl (N := 60) rfl g1 ?_
  obtain ⟨g4, h⟩ := h
  refine wi_iaload (pc' := 44) hm64 rfl rfl rfl rfl (N := 1001) rfl g4 ?_
  refine wi_istore (pc' := 46) (L' := [(36, o0), (0, x1), (41, (8 * o0 + 0 + (σ 15 0 x1))), (0, (σ 38 o0 (σ 18 0 x1))), (0, (σ 38 o0 (σ 17 0 x1)))]) hm64 rfl rfl rfl ?_
  exact h
theorem t64_46 {o0 x1 o2 x3 x4 : Int} {σ : fx_S} {Q : fx_V → fx_S → Prop} (h : ((x3 ≤ x4 → Q (4, 0) σ) ∧ (x4 < x3 → (0 ≤ x4 ∧ x4 < 121) ∧ (((σ 41 o2 x4) = (-1) → (fx_rg (x4 + 1)) ∧ fx_Wp 64 46 [(36, o0), (0, x1), (41, o2), (0, x3), (0, (x4 + 1))] [] (fx_up σ 41 o2 x4 x1) Q) ∧ ((σ 41 o2 x4) ≠ (-1) → fx_CI 37 [(11, 0), (0, x1), (0, (σ 41 o2 x4))] σ Q (fun y1 σ1 => ((y1 = 0 → (fx_rg (x4 + 1)) ∧ fx_Wp 64 46 [(36, o0), (0, x1), (41, o2), (0, x3), (0, (x4 + 1))] [] σ1 Q) ∧ (y1 ≠ 0 → (fx_rg (x4 + 1)) ∧ fx_Wp 64 46 [(36, o0), (0, x1), (41, o2), (0, x3), (0, (x4 + 1))] [] (fx_up σ1 41 o2 x4 x1) Q)))))))) : fx_Wp 64 46 [(36, o0), (0, x1), (41, o2), (0, x3), (0, x4)] [] σ Q := by
  refine wi_iload (pc' := 48) hm64 rfl rfl rfl ?_
  refine wi_iload_n (pc' := 49) hm64 rfl rfl rfl ?_
  refine wi_ic_ge (pc' := 52) (t := 86) hm64 rfl rfl rfl (fun hc => ?_) (fun hc => ?_)
  · replace h := h.1 hc
    exact wi_vret hm64 rfl h
  · replace h := h.2 hc
    refine wi_aload_n (pc' := 53) hm64 rfl rfl rfl (by decide) ?_
    refine wi_iload (pc' := 55) hm64 rfl rfl rfl ?_
    obtain ⟨g1, h⟩ := h
    refine wi_iaload (pc' := 56) hm64 rfl rfl rfl rfl (N := 121) rfl g1 ?_
    refine wi_iconst (pc' := 57) (v := (-1)) hm64 rfl rfl rfl ?_
    refine wi_ic_eq (pc' := 60) (t := 75) hm64 rfl rfl rfl (fun hc => ?_) (fun hc => ?_)
    · replace h := h.1 hc
      refine wi_aload_n (pc' := 76) hm64 rfl rfl rfl (by decide) ?_
      refine wi_iload (pc' := 78) hm64 rfl rfl rfl ?_
      refine wi_iload_n (pc' := 79) hm64 rfl rfl rfl ?_
      refine wi_iastore (pc' := 80) hm64 rfl rfl rfl (N := 121) rfl g1 ?_
      obtain ⟨g2, h⟩ := h
      refine wi_iinc (pc' := 83) (L' := [(36, o0), (0, x1), (41, o2), (0, x3), (0, (x4 + 1))]) hm64 rfl rfl rfl g2 rfl ?_
      refine wi_goto (t := 46) hm64 rfl rfl ?_
      exact h
    · replace h := h.2 hc
      refine wi_aload_n (pc' := 61) hm64 rfl rfl rfl (by decide) ?_
      refine wi_getR (pc' := 64) (x := 0) hm64 rfl rfl rfl (by omega) ?_
      refine wi_iload_n (pc' := 65) hm64 rfl rfl rfl ?_
      refine wi_aload_n (pc' := 66) hm64 rfl rfl rfl (by decide) ?_
      refine wi_iload (pc' := 68) hm64 rfl rfl rfl ?_
      refine wi_iaload (pc' := 69) hm64 rfl rfl rfl rfl (N := 121) rfl g1 ?_
      refine wc_I (pc' := 72) (by decide) rfl (by decide) ((fx_wE hm64 rfl).trans (fx_exV (mj := 37) (as := [(0, x1), (0, (σ 41 o2 x4))]) (rest := []) rfl rk37 rfl rfl rfl rfl rfl)) h (fun y1 σ1 h => ?_)
      refine wi_if_eq (pc' := 75) (t := 80) hm64 rfl rfl rfl (fun hc => ?_) (fun hc => ?_)
      · replace h := h.1 hc
        obtain ⟨g2, h⟩ := h
        refine wi_iinc (pc' := 83) (L' := [(36, o0), (0, x1), (41, o2), (0, x3), (0, (x4 + 1))]) hm64 rfl rfl rfl g2 rfl ?_
        refine wi_goto (t := 46) hm64 rfl rfl ?_
        exact h
      · replace h := h.2 hc
        refine wi_aload_n (pc' := 76) hm64 rfl rfl rfl (by decide) ?_
        refine wi_iload (pc' := 78) hm64 rfl rfl rfl ?_
        refine wi_iload_n (pc' := 79) hm64 rfl rfl rfl ?_
        refine wi_iastore (pc' := 80) hm64 rfl rfl rfl (N := 121) rfl g1 ?_
        obtain ⟨g2, h⟩ := h
        refine wi_iinc (pc' := 83) (L' := [(36, o0), (0, x1), (41, o2), (0, x3), (0, (x4 + 1))]) hm64 rfl rfl rfl g2 rfl ?_
        refine wi_goto (t := 46) hm64 rfl rfl ?_
        exact h
theorem hm65 : fx_code 65 = fx_c65 := rfl
theorem t65_0 {o0 o1 x2 : Int} {σ : fx_S} {Q : fx_V → fx_S → Prop} (h : fx_Wp 65 5 [(36, o0), (22, o1), (0, x2), (0, (-1)), (0, 0), (3, 0)] [] σ Q) : fx_Ca 65 [(36, o0), (22, o1), (0, x2)] σ Q := by
  show fx_Wp 65 0 [(36, o0), (22, o1), (0, x2), (3, 0), (3, 0), (3, 0)] [] σ Q
  refine wi_iconst (pc' := 1) (v := (-1)) hm65 rfl rfl rfl ?_
  refine wi_istore_n (pc' := 2) (L' := [(36, o0), (22, o1), (0, x2), (0, (-1)), (3, 0), (3, 0)]) hm65 rfl rfl rfl ?_
  refine wi_iconst (pc' := 3) (v := 0) hm65 rfl rfl rfl ?_
  refine wi_istore (pc' := 5) (L' := [(36, o0), (22, o1), (0, x2), (0, (-1)), (0, 0), (3, 0)]) hm65 rfl rfl rfl ?_
  exact h
theorem t65_5 {o0 o1 x2 x3 x4 : Int} {w5 : fx_V} {σ : fx_S} {Q : fx_V → fx_S → Prop} (h : (((σ 22 o1 3) ≤ x4 → Q (0, x3) σ) ∧ (x4 < (σ 22 o1 3) → (0 ≤ x4 ∧ x4 < 23) ∧ (((σ 23 o1 x4) = 1 → (fx_rg (x4 + 1)) ∧ fx_Wp 65 5 [(36, o0), (22, o1), (0, x2), (0, (σ 24 o1 x4)), (0, (x4 + 1)), (0, (σ 24 o1 x4))] [] (fx_up σ 44 o0 x4 (σ 24 o1 x4)) Q) ∧ ((σ 23 o1 x4) ≠ 1 → (((σ 23 o1 x4) = 13 → (0 ≤ (σ 24 o1 x4) ∧ (σ 24 o1 x4) < 8) ∧ (0 ≤ x2 ∧ x2 < 121) ∧ (fx_rg (x4 + 1)) ∧ fx_Wp 65 5 [(36, o0), (22, o1), (0, x2), (0, (σ 43 (8 * o0 + 0 + (σ 24 o1 x4)) x2)), (0, (x4 + 1)), (0, (σ 24 o1 x4))] [] (fx_up σ 44 o0 x4 (σ 43 (8 * o0 + 0 + (σ 24 o1 x4)) x2)) Q) ∧ ((σ 23 o1 x4) ≠ 13 → (0 ≤ (σ 24 o1 x4) ∧ (σ 24 o1 x4) < 23) ∧ (0 ≤ (σ 25 o1 x4) ∧ (σ 25 o1 x4) < 23) ∧ fx_CI 8 [(0, (σ 23 o1 x4)), (0, (σ 44 o0 (σ 24 o1 x4))), (0, (σ 44 o0 (σ 25 o1 x4)))] σ Q (fun y1 σ1 => (fx_rg (x4 + 1)) ∧ fx_Wp 65 5 [(36, o0), (22, o1), (0, x2), (0, y1), (0, (x4 + 1)), (0, (σ 24 o1 x4))] [] (fx_up σ1 44 o0 x4 y1) Q)))))))) : fx_Wp 65 5 [(36, o0), (22, o1), (0, x2), (0, x3), (0, x4), w5] [] σ Q := by
  refine wi_iload (pc' := 7) hm65 rfl rfl rfl ?_
  refine wi_aload_n (pc' := 8) hm65 rfl rfl rfl (by decide) ?_
  refine wi_getI (pc' := 11) hm65 rfl rfl (P := 3) rfl ?_
  refine wi_ic_ge (pc' := 14) (t := 119) hm65 rfl rfl rfl (fun hc => ?_) (fun hc => ?_)
  · replace h := h.1 hc
    refine wi_iload_n (pc' := 120) hm65 rfl rfl rfl ?_
    exact wi_iret hm65 rfl h
  · replace h := h.2 hc
    refine wi_aload_n (pc' := 15) hm65 rfl rfl rfl (by decide) ?_
    refine wi_getR (pc' := 18) (x := o1) hm65 rfl rfl rfl (by omega) ?_
    refine wi_iload (pc' := 20) hm65 rfl rfl rfl ?_
    obtain ⟨g1, h⟩ := h
    refine wi_iaload (pc' := 21) hm65 rfl rfl rfl rfl (N := 23) rfl g1 ?_
    refine wi_istore (pc' := 23) (L' := [(36, o0), (22, o1), (0, x2), (0, x3), (0, x4), (0, (σ 24 o1 x4))]) hm65 rfl rfl rfl ?_
    refine wi_aload_n (pc' := 24) hm65 rfl rfl rfl (by decide) ?_
    refine wi_getR (pc' := 27) (x := o1) hm65 rfl rfl rfl (by omega) ?_
    refine wi_iload (pc' := 29) hm65 rfl rfl rfl ?_
    refine wi_iaload (pc' := 30) hm65 rfl rfl rfl rfl (N := 23) rfl g1 ?_
    refine wi_lsw hm65 rfl ?_
    refine fx_swc (fun hc => ?_) (fun hc => ?_)
    · replace h := h.1 hc
      refine wi_iload (pc' := 58) hm65 rfl rfl rfl ?_
      refine wi_istore_n (pc' := 59) (L' := [(36, o0), (22, o1), (0, x2), (0, (σ 24 o1 x4)), (0, x4), (0, (σ 24 o1 x4))]) hm65 rfl rfl rfl ?_
      refine wi_goto (t := 105) hm65 rfl rfl ?_
      refine wi_aload_n (pc' := 106) hm65 rfl rfl rfl (by decide) ?_
      refine wi_getR (pc' := 109) (x := o0) hm65 rfl rfl rfl (by omega) ?_
      refine wi_iload (pc' := 111) hm65 rfl rfl rfl ?_
      refine wi_iload_n (pc' := 112) hm65 rfl rfl rfl ?_
      refine wi_iastore (pc' := 113) hm65 rfl rfl rfl (N := 23) rfl g1 ?_
      obtain ⟨g2, h⟩ := h
      refine wi_iinc (pc' := 116) (L' := [(36, o0), (22, o1), (0, x2), (0, (σ 24 o1 x4)), (0, (x4 + 1)), (0, (σ 24 o1 x4))]) hm65 rfl rfl rfl g2 rfl ?_
      refine wi_goto (t := 5) hm65 rfl rfl ?_
      exact h
    · replace h := h.2 hc
      refine fx_swc (fun hc => ?_) (fun hc => ?_)
      · replace h := h.1 hc
        refine wi_aload_n (pc' := 63) hm65 rfl rfl rfl (by decide) ?_
        refine wi_getR (pc' := 66) (x := o0) hm65 rfl rfl rfl (by omega) ?_
        refine wi_iload (pc' := 68) hm65 rfl rfl rfl ?_
        obtain ⟨g2, h⟩ := h
        refine wi_aaload (pc' := 69) (x := (8 * o0 + 0 + (σ 24 o1 x4))) hm65 rfl rfl rfl rfl (N := 8) rfl g2 (by omega) ?_
        refine wi_iload_n (pc' := 70) hm65 rfl rfl rfl ?_
        obtain ⟨g3, h⟩ := h
        refine wi_iaload (pc' := 71) hm65 rfl rfl rfl rfl (N := 121) rfl g3 ?_
        refine wi_istore_n (pc' := 72) (L' := [(36, o0), (22, o1), (0, x2), (0, (σ 43 (8 * o0 + 0 + (σ 24 o1 x4)) x2)), (0, x4), (0, (σ 24 o1 x4))]) hm65 rfl rfl rfl ?_
        refine wi_goto (t := 105) hm65 rfl rfl ?_
        refine wi_aload_n (pc' := 106) hm65 rfl rfl rfl (by decide) ?_
        refine wi_getR (pc' := 109) (x := o0) hm65 rfl rfl rfl (by omega) ?_
        refine wi_iload (pc' := 111) hm65 rfl rfl rfl ?_
        refine wi_iload_n (pc' := 112) hm65 rfl rfl rfl ?_
        refine wi_iastore (pc' := 113) hm65 rfl rfl rfl (N := 23) rfl g1 ?_
        obtain ⟨g4, h⟩ := h
        refine wi_iinc (pc' := 116) (L' := [(36, o0), (22, o1), (0, x2), (0, (σ 43 (8 * o0 + 0 + (σ 24 o1 x4)) x2)), (0, (x4 + 1)), (0, (σ 24 o1 x4))]) hm65 rfl rfl rfl g4 rfl ?_
        refine wi_goto (t := 5) hm65 rfl rfl ?_
        exact h
      · replace h := h.2 hc
        refine fx_swn ?_
        refine wi_aload_n (pc' := 76) hm65 rfl rfl rfl (by decide) ?_
        refine wi_getR (pc' := 79) (x := o1) hm65 rfl rfl rfl (by omega) ?_
        refine wi_iload (pc' := 81) hm65 rfl rfl rfl ?_
        refine wi_iaload (pc' := 82) hm65 rfl rfl rfl rfl (N := 23) rfl g1 ?_
        refine wi_aload_n (pc' := 83) hm65 rfl rfl rfl (by decide) ?_
        refine wi_getR (pc' := 86) (x := o0) hm65 rfl rfl rfl (by omega) ?_
        refine wi_iload (pc' := 88) hm65 rfl rfl rfl ?_
        obtain ⟨g2, h⟩ := h
        refine wi_iaload (pc' := 89) hm65 rfl rfl rfl rfl (N := 23) rfl g2 ?_
        refine wi_aload_n (pc' := 90) hm65 rfl rfl rfl (by decide) ?_
        refine wi_getR (pc' := 93) (x := o0) hm65 rfl rfl rfl (by omega) ?_
        refine wi_aload_n (pc' := 94) hm65 rfl rfl rfl (by decide) ?_
        refine wi_getR (pc' := 97) (x := o1) hm65 rfl rfl rfl (by omega) ?_
        refine wi_iload (pc' := 99) hm65 rfl rfl rfl ?_
        refine wi_iaload (pc' := 100) hm65 rfl rfl rfl rfl (N := 23) rfl g1 ?_
        obtain ⟨g3, h⟩ := h
        refine wi_iaload (pc' := 101) hm65 rfl rfl rfl rfl (N := 23) rfl g3 ?_
        refine wc_I (pc' := 104) (by decide) rfl (by decide) ((fx_wE hm65 rfl).trans (fx_exS (mj := 8) (as := [(0, (σ 23 o1 x4)), (0, (σ 44 o0 (σ 24 o1 x4))), (0, (σ 44 o0 (σ 25 o1 x4)))]) (rest := []) rfl rk8 rfl rfl rfl rfl)) h (fun y1 σ1 h => ?_)
        refine wi_istore_n (pc' := 105) (L' := [(36, o0), (22, o1), (0, x2), (0, y1), (0, x4), (0, (σ 24 o1 x4))]) hm65 rfl rfl rfl ?_
        refine wi_aload_n (pc' := 106) hm65 rfl rfl rfl (by decide) ?_
        refine wi_getR (pc' := 109) (x := o0) hm65 rfl rfl rfl (by omega) ?_
        refine wi_iload (pc' := 111) hm65 rfl rfl rfl ?_
        refine wi_iload_n (pc' := 112) hm65 rfl rfl rfl ?_
        refine wi_iastore (pc' := 113) hm65 rfl rfl rfl (N := 23) rfl g1 ?_
        obtain ⟨g4, h⟩ := h
        refine wi_iinc (pc' := 116) (L' := [(36, o0), (22, o1), (0, x2), (0, y1), (0, (x4 + 1)), (0, (σ 24 o1 x4))]) hm65 rfl rfl rfl g4 rfl ?_
        refine wi_goto (t := 5) hm65 rfl rfl ?_
        exact h
theorem hm66 : fx_code 66 = fx_c66 := rfl
theorem t66_0 {o0 x1 x2 : Int} {σ : fx_S} {Q : fx_V → fx_S → Prop} (h : fx_Wp 66 7 [(36, o0), (0, x1), (0, x2), (0, x1)] [] (fx_up σ 36 o0 9 0) Q) : fx_Ca 66 [(36, o0), (0, x1), (0, x2)] σ Q := by
  show fx_Wp 66 0 [(36, o0), (0, x1), (0, x2), (3, 0)] [] σ Q
  refine wi_aload_n (pc' := 1) hm66 rfl rfl rfl (by decide) ?_
  refine wi_iconst (pc' := 2) (v := 0) hm66 rfl rfl rfl ?_
  refine wi_putI (pc' := 5) hm66 rfl rfl (P := 9) rfl ?_
  refine wi_iload_n (pc' := 6) hm66 rfl rfl rfl ?_
  refine wi_istore_n (pc' := 7) (L' := [(36, o0), (0, x1), (0, x2), (0, x1)]) hm66 rfl rfl rfl ?_
  exact h
theorem t66_7 {o0 x2 x3 : Int} {w1 : fx_V} {σ : fx_S} {Q : fx_V → fx_S → Prop} (h : ((x3 = (-1) → Q (4, 0) σ) ∧ (x3 ≠ (-1) → ((8 ≤ (σ 36 o0 9) → Q (4, 0) σ) ∧ ((σ 36 o0 9) < 8 → (0 ≤ (σ 36 o0 9) ∧ (σ 36 o0 9) < 8) ∧ (fx_rg ((σ 36 o0 9) + 1)) ∧ (0 ≤ x3 ∧ x3 < 8) ∧ (0 ≤ x2 ∧ x2 < 1001) ∧ fx_CI 67 [(36, o0), (22, x3), (0, (σ 38 o0 x2))] (fx_up (fx_up σ 45 o0 (σ 36 o0 9) x3) 36 o0 9 ((σ 36 o0 9) + 1)) Q (fun y1 σ1 => fx_Wp 66 7 [(36, o0), w1, (0, x2), (0, y1)] [] σ1 Q)))))) : fx_Wp 66 7 [(36, o0), w1, (0, x2), (0, x3)] [] σ Q := by
  refine wi_iload_n (pc' := 8) hm66 rfl rfl rfl ?_
  refine wi_iconst (pc' := 9) (v := (-1)) hm66 rfl rfl rfl ?_
  refine wi_ic_eq (pc' := 12) (t := 64) hm66 rfl rfl rfl (fun hc => ?_) (fun hc => ?_)
  · replace h := h.1 hc
    exact wi_vret hm66 rfl h
  · replace h := h.2 hc
    refine wi_aload_n (pc' := 13) hm66 rfl rfl rfl (by decide) ?_
    refine wi_getI (pc' := 16) hm66 rfl rfl (P := 9) rfl ?_
    refine wi_bipush (pc' := 18) (v := 8) hm66 rfl rfl rfl ?_
    refine wi_ic_ge (pc' := 21) (t := 64) hm66 rfl rfl rfl (fun hc => ?_) (fun hc => ?_)
    · replace h := h.1 hc
      exact wi_vret hm66 rfl h
    · replace h := h.2 hc
      refine wi_aload_n (pc' := 22) hm66 rfl rfl rfl (by decide) ?_
      refine wi_getR (pc' := 25) (x := o0) hm66 rfl rfl rfl (by omega) ?_
      refine wi_aload_n (pc' := 26) hm66 rfl rfl rfl (by decide) ?_
      refine wi_getI (pc' := 29) hm66 rfl rfl (P := 9) rfl ?_
      refine wi_iload_n (pc' := 30) hm66 rfl rfl rfl ?_
      obtain ⟨g1, h⟩ := h
      refine wi_iastore (pc' := 31) hm66 rfl rfl rfl (N := 8) rfl g1 ?_
      refine wi_aload_n (pc' := 32) hm66 rfl rfl rfl (by decide) ?_
      refine wi_dup (pc' := 33) hm66 rfl rfl rfl ?_
      refine wi_getIe (pc' := 36) hm66 rfl rfl (P := 9) rfl (x := (σ 36 o0 9)) (Eq.trans (fx_upK rfl) rfl) ?_
      refine wi_iconst (pc' := 37) (v := 1) hm66 rfl rfl rfl ?_
      obtain ⟨g2, h⟩ := h
      refine wi_iadd (pc' := 38) hm66 rfl rfl g2 ?_
      refine wi_putI (pc' := 41) hm66 rfl rfl (P := 9) rfl ?_
      refine wi_aload_n (pc' := 42) hm66 rfl rfl rfl (by decide) ?_
      refine wi_aload_n (pc' := 43) hm66 rfl rfl rfl (by decide) ?_
      refine wi_getR (pc' := 46) (x := 0) hm66 rfl rfl rfl (by omega) ?_
      refine wi_getR (pc' := 49) (x := 0) hm66 rfl rfl rfl (by omega) ?_
      refine wi_iload_n (pc' := 50) hm66 rfl rfl rfl ?_
      obtain ⟨g3, h⟩ := h
      refine wi_aaload (pc' := 51) (x := x3) hm66 rfl rfl rfl rfl (N := 8) rfl g3 (by omega) ?_
      refine wi_aload_n (pc' := 52) hm66 rfl rfl rfl (by decide) ?_
      refine wi_getR (pc' := 55) (x := o0) hm66 rfl rfl rfl (by omega) ?_
      refine wi_iload_n (pc' := 56) hm66 rfl rfl rfl ?_
      obtain ⟨g4, h⟩ := h
      refine wi_ialoade (pc' := 57) hm66 rfl rfl rfl rfl (N := 1001) rfl g4 (x := (σ 38 o0 x2)) (Eq.trans (fx_upK rfl) (Eq.trans (fx_upK rfl) rfl)) ?_
      refine wc_I (pc' := 60) (by decide) rfl (by decide) ((fx_wE hm66 rfl).trans (fx_exV (mj := 67) (as := [(22, x3), (0, (σ 38 o0 x2))]) (rest := []) rfl rk67 rfl rfl rfl rfl rfl)) h (fun y1 σ1 h => ?_)
      refine wi_istore_n (pc' := 61) (L' := [(36, o0), w1, (0, x2), (0, y1)]) hm66 rfl rfl rfl ?_
      refine wi_goto (t := 7) hm66 rfl rfl ?_
      exact h
