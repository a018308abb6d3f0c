theorem hm96 : fx_code 96 = fx_c96 := rfl
theorem t96_0 {o0 x1 x2 x3 x4 x5 : Int} {σ : fx_S} {Q : fx_V → fx_S → Prop} (h : (fx_rg ((σ 28 0 4) + 20)) ∧ ((((σ 28 0 4) + 20) ≤ 400 → fx_CV 9 [(28, 0), (0, x1)] σ Q (fun σ1 => fx_CV 9 [(28, 0), (0, x2)] σ1 Q (fun σ2 => fx_CV 9 [(28, 0), (0, x3)] σ2 Q (fun σ3 => fx_CV 9 [(28, 0), (0, x4)] σ3 Q (fun σ4 => fx_CV 9 [(28, 0), (0, x5)] σ4 Q (fun σ5 => Q (0, (σ5 28 0 4)) σ5)))))) ∧ (400 < ((σ 28 0 4) + 20) → Q (0, (-1)) σ))) : fx_Ca 96 [(10, o0), (0, x1), (0, x2), (0, x3), (0, x4), (0, x5)] σ Q := by
  show fx_Wp 96 0 [(10, o0), (0, x1), (0, x2), (0, x3), (0, x4), (0, x5)] [] σ Q
  refine wi_aload_n (pc' := 1) hm96 rfl rfl rfl (by decide) ?_
  refine wi_getR (pc' := 4) (x := 0) hm96 rfl rfl rfl (by omega) ?_
  refine wi_getI (pc' := 7) hm96 rfl rfl (P := 4) rfl ?_
  refine wi_bipush (pc' := 9) (v := 20) hm96 rfl rfl rfl ?_
  obtain ⟨g1, h⟩ := h
  refine wi_iadd (pc' := 10) hm96 rfl rfl g1 ?_
  refine wi_sipush (pc' := 13) (v := 400) hm96 rfl rfl rfl ?_
  refine wi_ic_le (pc' := 16) (t := 18) hm96 rfl rfl rfl (fun hc => ?_) (fun hc => ?_)
  · replace h := h.1 hc
    refine wi_aload_n (pc' := 19) hm96 rfl rfl rfl (by decide) ?_
    refine wi_getR (pc' := 22) (x := 0) hm96 rfl rfl rfl (by omega) ?_
    refine wi_iload_n (pc' := 23) hm96 rfl rfl rfl ?_
    refine wc_V (pc' := 26) (by decide) rfl (by decide) ((fx_wE hm96 rfl).trans (fx_exV (mj := 9) (as := [(0, x1)]) (rest := []) rfl rk9 rfl rfl rfl rfl rfl)) h (fun σ1 h => ?_)
    refine wi_aload_n (pc' := 27) hm96 rfl rfl rfl (by decide) ?_
    refine wi_getR (pc' := 30) (x := 0) hm96 rfl rfl rfl (by omega) ?_
    refine wi_iload_n (pc' := 31) hm96 rfl rfl rfl ?_
    refine wc_V (pc' := 34) (by decide) rfl (by decide) ((fx_wE hm96 rfl).trans (fx_exV (mj := 9) (as := [(0, x2)]) (rest := []) rfl rk9 rfl rfl rfl rfl rfl)) h (fun σ2 h => ?_)
    refine wi_aload_n (pc' := 35) hm96 rfl rfl rfl (by decide) ?_
    refine wi_getR (pc' := 38) (x := 0) hm96 rfl rfl rfl (by omega) ?_
    refine wi_iload_n (pc' := 39) hm96 rfl rfl rfl ?_
    refine wc_V (pc' := 42) (by decide) rfl (by decide) ((fx_wE hm96 rfl).trans (fx_exV (mj := 9) (as := [(0, x3)]) (rest := []) rfl rk9 rfl rfl rfl rfl rfl)) h (fun σ3 h => ?_)
    refine wi_aload_n (pc' := 43) hm96 rfl rfl rfl (by decide) ?_
    refine wi_getR (pc' := 46) (x := 0) hm96 rfl rfl rfl (by omega) ?_
    refine wi_iload (pc' := 48) hm96 rfl rfl rfl ?_
    refine wc_V (pc' := 51) (by decide) rfl (by decide) ((fx_wE hm96 rfl).trans (fx_exV (mj := 9) (as := [(0, x4)]) (rest := []) rfl rk9 rfl rfl rfl rfl rfl)) h (fun σ4 h => ?_)
    refine wi_aload_n (pc' := 52) hm96 rfl rfl rfl (by decide) ?_
    refine wi_getR (pc' := 55) (x := 0) hm96 rfl rfl rfl (by omega) ?_
    refine wi_iload (pc' := 57) hm96 rfl rfl rfl ?_
    refine wc_V (pc' := 60) (by decide) rfl (by decide) ((fx_wE hm96 rfl).trans (fx_exV (mj := 9) (as := [(0, x5)]) (rest := []) rfl rk9 rfl rfl rfl rfl rfl)) h (fun σ5 h => ?_)
    refine wi_aload_n (pc' := 61) hm96 rfl rfl rfl (by decide) ?_
    refine wi_getR (pc' := 64) (x := 0) hm96 rfl rfl rfl (by omega) ?_
    refine wi_getI (pc' := 67) hm96 rfl rfl (P := 4) rfl ?_
    exact wi_iret hm96 rfl h
  · replace h := h.2 hc
    refine wi_iconst (pc' := 17) (v := (-1)) hm96 rfl rfl rfl ?_
    exact wi_iret hm96 rfl h
theorem hm97 : fx_code 97 = fx_c97 := rfl
theorem t97_0 {o0 x1 : Int} {σ : fx_S} {Q : fx_V → fx_S → Prop} (h : ((x1 < 0 → Q (0, 0) σ) ∧ (0 ≤ x1 → ((x1 ≤ (σ 28 0 4) → Q (0, 1) (fx_up σ 28 0 4 x1)) ∧ ((σ 28 0 4) < x1 → Q (0, 0) σ))))) : fx_Ca 97 [(10, o0), (0, x1)] σ Q := by
  show fx_Wp 97 0 [(10, o0), (0, x1)] [] σ Q
  refine wi_iload_n (pc' := 1) hm97 rfl rfl rfl ?_
  refine wi_if_lt (pc' := 4) (t := 15) hm97 rfl rfl rfl (fun hc => ?_) (fun hc => ?_)
  · replace h := h.1 hc
    refine wi_iconst (pc' := 16) (v := 0) hm97 rfl rfl rfl ?_
    exact wi_zret hm97 rfl (by decide) h
  · replace h := h.2 hc
    refine wi_iload_n (pc' := 5) hm97 rfl rfl rfl ?_
    refine wi_aload_n (pc' := 6) hm97 rfl rfl rfl (by decide) ?_
    refine wi_getR (pc' := 9) (x := 0) hm97 rfl rfl rfl (by omega) ?_
    refine wi_getI (pc' := 12) hm97 rfl rfl (P := 4) rfl ?_
    refine wi_ic_le (pc' := 15) (t := 17) hm97 rfl rfl rfl (fun hc => ?_) (fun hc => ?_)
    · replace h := h.1 hc
      refine wi_aload_n (pc' := 18) hm97 rfl rfl rfl (by decide) ?_
      refine wi_getR (pc' := 21) (x := 0) hm97 rfl rfl rfl (by omega) ?_
      refine wi_iload_n (pc' := 22) hm97 rfl rfl rfl ?_
      refine wi_putI (pc' := 25) hm97 rfl rfl (P := 4) rfl ?_
      refine wi_iconst (pc' := 26) (v := 1) hm97 rfl rfl rfl ?_
      exact wi_zret hm97 rfl (by decide) h
    · replace h := h.2 hc
      refine wi_iconst (pc' := 16) (v := 0) hm97 rfl rfl rfl ?_
      exact wi_zret hm97 rfl (by decide) h
theorem hm98 : fx_code 98 = fx_c98 := rfl
theorem t98_0 {o0 : Int} {σ : fx_S} {Q : fx_V → fx_S → Prop} (h : fx_CV 23 [(11, 1), (11, 0)] σ Q (fun σ1 => fx_CI 49 [(33, 0), (11, 0)] σ1 Q (fun y1 σ2 => ((y1 ≠ 0 → (((σ2 33 0 7) ≤ 0 → Q (0, (σ2 33 0 7)) (fx_up (fx_up (fx_up (fx_up σ2 28 0 4 0) 10 o0 14 (σ2 33 0 8)) 10 o0 10 0) 10 o0 11 0)) ∧ (0 < (σ2 33 0 7) → Q (0, (σ2 33 0 7)) (fx_up (fx_up (fx_up (fx_up (fx_up σ2 28 0 4 0) 10 o0 14 (σ2 33 0 8)) 10 o0 10 0) 10 o0 11 0) 10 o0 13 0)))) ∧ (y1 = 0 → fx_CV 23 [(11, 0), (11, 1)] (fx_up (fx_up (fx_up σ2 28 0 4 0) 10 o0 14 (σ2 33 0 8)) 10 o0 10 0) Q (fun σ3 => (((σ3 33 0 9) = 0 → Q (5, 0) σ3) ∧ ((σ3 33 0 9) ≠ 0 → Q (5, 0) (fx_up σ3 10 o0 13 (σ3 33 0 9)))))))))) : fx_Ca 98 [(10, o0)] σ Q := by
  show fx_Wp 98 0 [(10, o0), (3, 0)] [] σ Q
  refine wi_aload_n (pc' := 1) hm98 rfl rfl rfl (by decide) ?_
  refine wi_getR (pc' := 4) (x := 1) hm98 rfl rfl rfl (by omega) ?_
  refine wi_aload_n (pc' := 5) hm98 rfl rfl rfl (by decide) ?_
  refine wi_getR (pc' := 8) (x := 0) hm98 rfl rfl rfl (by omega) ?_
  refine wc_V (pc' := 11) (by decide) rfl (by decide) ((fx_wE hm98 rfl).trans (fx_exV (mj := 23) (as := [(11, 0)]) (rest := []) rfl rk23 rfl rfl rfl rfl rfl)) h (fun σ1 h => ?_)
  refine wi_aload_n (pc' := 12) hm98 rfl rfl rfl (by decide) ?_
  refine wi_getR (pc' := 15) (x := 0) hm98 rfl rfl rfl (by omega) ?_
  refine wi_aload_n (pc' := 16) hm98 rfl rfl rfl (by decide) ?_
  refine wi_getR (pc' := 19) (x := 0) hm98 rfl rfl rfl (by omega) ?_
  refine wc_I (pc' := 22) (by decide) rfl (by decide) ((fx_wE hm98 rfl).trans (fx_exV (mj := 49) (as := [(11, 0)]) (rest := []) rfl rk49 rfl rfl rfl rfl rfl)) h (fun y1 σ2 h => ?_)
  refine wi_istore_n (pc' := 23) (L' := [(10, o0), (0, y1)]) hm98 rfl rfl rfl ?_
  refine wi_aload_n (pc' := 24) hm98 rfl rfl rfl (by decide) ?_
  refine wi_getR (pc' := 27) (x := 0) hm98 rfl rfl rfl (by omega) ?_
  refine wi_iconst (pc' := 28) (v := 0) hm98 rfl rfl rfl ?_
  refine wi_putI (pc' := 31) hm98 rfl rfl (P := 4) rfl ?_
  refine wi_aload_n (pc' := 32) hm98 rfl rfl rfl (by decide) ?_
  refine wi_aload_n (pc' := 33) hm98 rfl rfl rfl (by decide) ?_
  refine wi_getR (pc' := 36) (x := 0) hm98 rfl rfl rfl (by omega) ?_
  refine wi_getIe (pc' := 39) hm98 rfl rfl (P := 8) rfl (x := (σ2 33 0 8)) (Eq.trans (fx_upK rfl) rfl) ?_
  refine wi_putI (pc' := 42) hm98 rfl rfl (P := 14) rfl ?_
  refine wi_aload_n (pc' := 43) hm98 rfl rfl rfl (by decide) ?_
  refine wi_iconst (pc' := 44) (v := 0) hm98 rfl rfl rfl ?_
  refine wi_putZ (pc' := 47) hm98 rfl rfl (P := 10) rfl (by decide) ?_
  refine wi_iload_n (pc' := 48) hm98 rfl rfl rfl ?_
  refine wi_if_ne (pc' := 51) (t := 93) hm98 rfl rfl rfl (fun hc => ?_) (fun hc => ?_)
  · replace h := h.1 hc
    refine wi_aload_n (pc' := 94) hm98 rfl rfl rfl (by decide) ?_
    refine wi_iconst (pc' := 95) (v := 0) hm98 rfl rfl rfl ?_
    refine wi_putI (pc' := 98) hm98 rfl rfl (P := 11) rfl ?_
    refine wi_aload_n (pc' := 99) hm98 rfl rfl rfl (by decide) ?_
    refine wi_getR (pc' := 102) (x := 0) hm98 rfl rfl rfl (by omega) ?_
    refine wi_getIe (pc' := 105) hm98 rfl rfl (P := 7) rfl (x := (σ2 33 0 7)) (Eq.trans (fx_upK rfl) (Eq.trans (fx_upK rfl) (Eq.trans (fx_upK rfl) (Eq.trans (fx_upK rfl) rfl)))) ?_
    refine wi_if_le (pc' := 108) (t := 113) hm98 rfl rfl rfl (fun hc => ?_) (fun hc => ?_)
    · replace h := h.1 hc
      refine wi_aload_n (pc' := 114) hm98 rfl rfl rfl (by decide) ?_
      refine wi_getR (pc' := 117) (x := 0) hm98 rfl rfl rfl (by omega) ?_
      refine wi_getIe (pc' := 120) hm98 rfl rfl (P := 7) rfl (x := (σ2 33 0 7)) (Eq.trans (fx_upK rfl) (Eq.trans (fx_upK rfl) (Eq.trans (fx_upK rfl) (Eq.trans (fx_upK rfl) rfl)))) ?_
      exact wi_iret hm98 rfl h
    · replace h := h.2 hc
      refine wi_aload_n (pc' := 109) hm98 rfl rfl rfl (by decide) ?_
      refine wi_iconst (pc' := 110) (v := 0) hm98 rfl rfl rfl ?_
      refine wi_putI (pc' := 113) hm98 rfl rfl (P := 13) rfl ?_
      refine wi_aload_n (pc' := 114) hm98 rfl rfl rfl (by decide) ?_
      refine wi_getR (pc' := 117) (x := 0) hm98 rfl rfl rfl (by omega) ?_
      refine wi_getIe (pc' := 120) hm98 rfl rfl (P := 7) rfl (x := (σ2 33 0 7)) (Eq.trans (fx_upK rfl) (Eq.trans (fx_upK rfl) (Eq.trans (fx_upK rfl) (Eq.trans (fx_upK rfl) (Eq.trans (fx_upK rfl) rfl))))) ?_
      exact wi_iret hm98 rfl h
  · replace h := h.2 hc
    refine wi_aload_n (pc' := 52) hm98 rfl rfl rfl (by decide) ?_
    refine wi_getR (pc' := 55) (x := 0) hm98 rfl rfl rfl (by omega) ?_
    refine wi_aload_n (pc' := 56) hm98 rfl rfl rfl (by decide) ?_
    refine wi_getR (pc' := 59) (x := 1) hm98 rfl rfl rfl (by omega) ?_
    refine wc_V (pc' := 62) (by decide) rfl (by decide) ((fx_wE hm98 rfl).trans (fx_exV (mj := 23) (as := [(11, 1)]) (rest := []) rfl rk23 rfl rfl rfl rfl rfl)) h (fun σ3 h => ?_)
    refine wi_aload_n (pc' := 63) hm98 rfl rfl rfl (by decide) ?_
    refine wi_getR (pc' := 66) (x := 0) hm98 rfl rfl rfl (by omega) ?_
    refine wi_getI (pc' := 69) hm98 rfl rfl (P := 9) rfl ?_
    refine wi_if_eq (pc' := 72) (t := 83) hm98 rfl rfl rfl (fun hc => ?_) (fun hc => ?_)
    · replace h := h.1 hc
      exact wi_new (v := 0) hm98 rfl rfl h
    · replace h := h.2 hc
      refine wi_aload_n (pc' := 73) hm98 rfl rfl rfl (by decide) ?_
      refine wi_aload_n (pc' := 74) hm98 rfl rfl rfl (by decide) ?_
      refine wi_getR (pc' := 77) (x := 0) hm98 rfl rfl rfl (by omega) ?_
      refine wi_getI (pc' := 80) hm98 rfl rfl (P := 9) rfl ?_
      refine wi_putI (pc' := 83) hm98 rfl rfl (P := 13) rfl ?_
      exact wi_new (v := 0) hm98 rfl rfl h
theorem hm99 : fx_code 99 = fx_c99 := rfl
theorem t99_0 {o0 : Int} {σ : fx_S} {Q : fx_V → fx_S → Prop} (h : Q (0, (σ 10 o0 14)) σ) : fx_Ca 99 [(10, o0)] σ Q := by
  show fx_Wp 99 0 [(10, o0)] [] σ Q
  refine wi_aload_n (pc' := 1) hm99 rfl rfl rfl (by decide) ?_
  refine wi_getI (pc' := 4) hm99 rfl rfl (P := 14) rfl ?_
  exact wi_iret hm99 rfl h
theorem hm100 : fx_code 100 = fx_c100 := rfl
theorem t100_0 {o0 : Int} {σ : fx_S} {Q : fx_V → fx_S → Prop} (h : Q (0, (σ 10 o0 13)) σ) : fx_Ca 100 [(10, o0)] σ Q := by
  show fx_Wp 100 0 [(10, o0)] [] σ Q
  refine wi_aload_n (pc' := 1) hm100 rfl rfl rfl (by decide) ?_
  refine wi_getI (pc' := 4) hm100 rfl rfl (P := 13) rfl ?_
  exact wi_iret hm100 rfl h
theorem hm101 : fx_code 101 = fx_c101 := rfl
theorem t101_0 {o0 x1 : Int} {σ : fx_S} {Q : fx_V → fx_S → Prop} (h : fx_CV 141 [(0, x1), (0, 0), (0, 100)] σ Q (fun σ1 => fx_CV 143 [(10, o0), (0, 17), (0, x1), (0, 0), (0, 0), (0, 0), (0, 0)] σ1 Q (fun σ2 => (fx_rg ((σ2 11 0 9) - 1)) ∧ Q (0, ((σ2 11 0 9) - 1)) σ2))) : fx_Ca 101 [(10, o0), (0, x1)] σ Q := by
  show fx_Wp 101 0 [(10, o0), (0, x1)] [] σ Q
  refine wi_iload_n (pc' := 1) hm101 rfl rfl rfl ?_
  refine wi_iconst (pc' := 2) (v := 0) hm101 rfl rfl rfl ?_
  refine wi_bipush (pc' := 4) (v := 100) hm101 rfl rfl rfl ?_
  refine wc_V (pc' := 7) (by decide) rfl (by decide) ((fx_wE hm101 rfl).trans (fx_exS (mj := 141) (as := [(0, x1), (0, 0), (0, 100)]) (rest := []) rfl rk141 rfl rfl rfl rfl)) h (fun σ1 h => ?_)
  refine wi_aload_n (pc' := 8) hm101 rfl rfl rfl (by decide) ?_
  refine wi_bipush (pc' := 10) (v := 17) hm101 rfl rfl rfl ?_
  refine wi_iload_n (pc' := 11) hm101 rfl rfl rfl ?_
  refine wi_iconst (pc' := 12) (v := 0) hm101 rfl rfl rfl ?_
  refine wi_iconst (pc' := 13) (v := 0) hm101 rfl rfl rfl ?_
  refine wi_iconst (pc' := 14) (v := 0) hm101 rfl rfl rfl ?_
  refine wi_iconst (pc' := 15) (v := 0) hm101 rfl rfl rfl ?_
  refine wc_V (pc' := 18) (by decide) rfl (by decide) ((fx_wE hm101 rfl).trans (fx_exV (mj := 143) (as := [(0, 17), (0, x1), (0, 0), (0, 0), (0, 0), (0, 0)]) (rest := []) rfl rk143 rfl rfl rfl rfl rfl)) h (fun σ2 h => ?_)
  refine wi_aload_n (pc' := 19) hm101 rfl rfl rfl (by decide) ?_
  refine wi_getR (pc' := 22) (x := 0) hm101 rfl rfl rfl (by omega) ?_
  refine wi_getI (pc' := 25) hm101 rfl rfl (P := 9) rfl ?_
  refine wi_iconst (pc' := 26) (v := 1) hm101 rfl rfl rfl ?_
  obtain ⟨g1, h⟩ := h
  refine wi_isub (pc' := 27) hm101 rfl rfl g1 ?_
  exact wi_iret hm101 rfl h
theorem hm102 : fx_code 102 = fx_c102 := rfl
theorem t102_0 {o0 x1 x2 x3 x4 x5 : Int} {σ : fx_S} {Q : fx_V → fx_S → Prop} (h : fx_CV 137 [(0, x1)] σ Q (fun σ1 => fx_CV 141 [(0, x3), (0, 0), (0, 1001)] σ1 Q (fun σ2 => fx_CV 141 [(0, x4), (0, 0), (0, 1001)] σ2 Q (fun σ3 => fx_CV 141 [(0, x5), (0, 0), (0, 100)] σ3 Q (fun σ4 => fx_CV 143 [(10, o0), (0, 18), (0, x1), (0, x2), (0, x3), (0, x4), (0, x5)] σ4 Q (fun σ5 => (fx_rg ((σ5 11 0 10) - 1)) ∧ Q (0, ((σ5 11 0 10) - 1)) σ5)))))) : fx_Ca 102 [(10, o0), (0, x1), (0, x2), (0, x3), (0, x4), (0, x5)] σ Q := by
  show fx_Wp 102 0 [(10, o0), (0, x1), (0, x2), (0, x3), (0, x4), (0, x5)] [] σ Q
  refine wi_iload_n (pc' := 1) hm102 rfl rfl rfl ?_
  refine wc_V (pc' := 4) (by decide) rfl (by decide) ((fx_wE hm102 rfl).trans (fx_exS (mj := 137) (as := [(0, x1)]) (rest := []) rfl rk137 rfl rfl rfl rfl)) h (fun σ1 h => ?_)
  refine wi_iload_n (pc' := 5) hm102 rfl rfl rfl ?_
  refine wi_iconst (pc' := 6) (v := 0) hm102 rfl rfl rfl ?_
  refine wi_sipush (pc' := 9) (v := 1001) hm102 rfl rfl rfl ?_
  refine wc_V (pc' := 12) (by decide) rfl (by decide) ((fx_wE hm102 rfl).trans (fx_exS (mj := 141) (as := [(0, x3), (0, 0), (0, 1001)]) (rest := []) rfl rk141 rfl rfl rfl rfl)) h (fun σ2 h => ?_)
  refine wi_iload (pc' := 14) hm102 rfl rfl rfl ?_
  refine wi_iconst (pc' := 15) (v := 0) hm102 rfl rfl rfl ?_
  refine wi_sipush (pc' := 18) (v := 1001) hm102 rfl rfl rfl ?_
  refine wc_V (pc' := 21) (by decide) rfl (by decide) ((fx_wE hm102 rfl).trans (fx_exS (mj := 141) (as := [(0, x4), (0, 0), (0, 1001)]) (rest := []) rfl rk141 rfl rfl rfl rfl)) h (fun σ3 h => ?_)
  refine wi_iload (pc' := 23) hm102 rfl rfl rfl ?_
  refine wi_iconst (pc' := 24) (v := 0) hm102 rfl rfl rfl ?_
  refine wi_bipush (pc' := 26) (v := 100) hm102 rfl rfl rfl ?_
  refine wc_V (pc' := 29) (by decide) rfl (by decide) ((fx_wE hm102 rfl).trans (fx_exS (mj := 141) (as := [(0, x5), (0, 0), (0, 100)]) (rest := []) rfl rk141 rfl rfl rfl rfl)) h (fun σ4 h => ?_)
  refine wi_aload_n (pc' := 30) hm102 rfl rfl rfl (by decide) ?_
  refine wi_bipush (pc' := 32) (v := 18) hm102 rfl rfl rfl ?_
  refine wi_iload_n (pc' := 33) hm102 rfl rfl rfl ?_
  refine wi_iload_n (pc' := 34) hm102 rfl rfl rfl ?_
  refine wi_iload_n (pc' := 35) hm102 rfl rfl rfl ?_
  refine wi_iload (pc' := 37) hm102 rfl rfl rfl ?_
  refine wi_iload (pc' := 39) hm102 rfl rfl rfl ?_
  refine wc_V (pc' := 42) (by decide) rfl (by decide) ((fx_wE hm102 rfl).trans (fx_exV (mj := 143) (as := [(0, 18), (0, x1), (0, x2), (0, x3), (0, x4), (0, x5)]) (rest := []) rfl rk143 rfl rfl rfl rfl rfl)) h (fun σ5 h => ?_)
  refine wi_aload_n (pc' := 43) hm102 rfl rfl rfl (by decide) ?_
  refine wi_getR (pc' := 46) (x := 0) hm102 rfl rfl rfl (by omega) ?_
  refine wi_getI (pc' := 49) hm102 rfl rfl (P := 10) rfl ?_
  refine wi_iconst (pc' := 50) (v := 1) hm102 rfl rfl rfl ?_
  obtain ⟨g1, h⟩ := h
  refine wi_isub (pc' := 51) hm102 rfl rfl g1 ?_
  exact wi_iret hm102 rfl h
theorem hm103 : fx_code 103 = fx_c103 := rfl
theorem t103_0 {o0 x1 : Int} {σ : fx_S} {Q : fx_V → fx_S → Prop} (h : fx_CI 25 [(11, 0), (0, x1)] σ Q (fun y1 σ1 => ((y1 = 0 → fx_CV 143 [(10, o0), (0, 19), (0, x1), (0, 0), (0, 0), (0, 0), (0, 0)] σ1 Q (fun σ2 => Q (0, 0) σ2)) ∧ (y1 ≠ 0 → fx_CR 36 144 [(10, o0)] σ1 Q (fun y2 σ3 => fx_CI 89 [(36, y2), (0, x1)] σ3 Q (fun y3 σ4 => fx_CV 143 [(10, o0), (0, 19), (0, x1), (0, 0), (0, 0), (0, 0), (0, 0)] σ4 Q (fun σ5 => Q (0, y3) σ5))))))) : fx_Ca 103 [(10, o0), (0, x1)] σ Q := by
  show fx_Wp 103 0 [(10, o0), (0, x1), (3, 0)] [] σ Q
  refine wi_aload_n (pc' := 1) hm103 rfl rfl rfl (by decide) ?_
  refine wi_getR (pc' := 4) (x := 0) hm103 rfl rfl rfl (by omega) ?_
  refine wi_iload_n (pc' := 5) hm103 rfl rfl rfl ?_
  refine wc_I (pc' := 8) (by decide) rfl (by decide) ((fx_wE hm103 rfl).trans (fx_exV (mj := 25) (as := [(0, x1)]) (rest := []) rfl rk25 rfl rfl rfl rfl rfl)) h (fun y1 σ1 h => ?_)
  refine wi_if_eq (pc' := 11) (t := 22) hm103 rfl rfl rfl (fun hc => ?_) (fun hc => ?_)
  · replace h := h.1 hc
    refine wi_iconst (pc' := 23) (v := 0) hm103 rfl rfl rfl ?_
    refine wi_istore_n (pc' := 24) (L' := [(10, o0), (0, x1), (0, 0)]) hm103 rfl rfl rfl ?_
    refine wi_aload_n (pc' := 25) hm103 rfl rfl rfl (by decide) ?_
    refine wi_bipush (pc' := 27) (v := 19) hm103 rfl rfl rfl ?_
    refine wi_iload_n (pc' := 28) hm103 rfl rfl rfl ?_
    refine wi_iconst (pc' := 29) (v := 0) hm103 rfl rfl rfl ?_
    refine wi_iconst (pc' := 30) (v := 0) hm103 rfl rfl rfl ?_
    refine wi_iconst (pc' := 31) (v := 0) hm103 rfl rfl rfl ?_
    refine wi_iconst (pc' := 32) (v := 0) hm103 rfl rfl rfl ?_
    refine wc_V (pc' := 35) (by decide) rfl (by decide) ((fx_wE hm103 rfl).trans (fx_exV (mj := 143) (as := [(0, 19), (0, x1), (0, 0), (0, 0), (0, 0), (0, 0)]) (rest := []) rfl rk143 rfl rfl rfl rfl rfl)) h (fun σ2 h => ?_)
    refine wi_iload_n (pc' := 36) hm103 rfl rfl rfl ?_
    exact wi_iret hm103 rfl h
  · replace h := h.2 hc
    refine wi_aload_n (pc' := 12) hm103 rfl rfl rfl (by decide) ?_
    refine wc_R (pc' := 15) (by decide) rfl (by decide) ((fx_wE hm103 rfl).trans (fx_exV (mj := 144) (as := []) (rest := []) rfl rk144 rfl rfl rfl rfl rfl)) h (fun y2 σ3 h => ?_)
    refine wi_iload_n (pc' := 16) hm103 rfl rfl rfl ?_
    refine wc_I (pc' := 19) (by decide) rfl (by decide) ((fx_wE hm103 rfl).trans (fx_exV (mj := 89) (as := [(0, x1)]) (rest := []) rfl rk89 rfl rfl rfl rfl rfl)) h (fun y3 σ4 h => ?_)
    refine wi_goto (t := 23) hm103 rfl rfl ?_
    refine wi_istore_n (pc' := 24) (L' := [(10, o0), (0, x1), (0, y3)]) hm103 rfl rfl rfl ?_
    refine wi_aload_n (pc' := 25) hm103 rfl rfl rfl (by decide) ?_
    refine wi_bipush (pc' := 27) (v := 19) hm103 rfl rfl rfl ?_
    refine wi_iload_n (pc' := 28) hm103 rfl rfl rfl ?_
    refine wi_iconst (pc' := 29) (v := 0) hm103 rfl rfl rfl ?_
    refine wi_iconst (pc' := 30) (v := 0) hm103 rfl rfl rfl ?_
    refine wi_iconst (pc' := 31) (v := 0) hm103 rfl rfl rfl ?_
    refine wi_iconst (pc' := 32) (v := 0) hm103 rfl rfl rfl ?_
    refine wc_V (pc' := 35) (by decide) rfl (by decide) ((fx_wE hm103 rfl).trans (fx_exV (mj := 143) (as := [(0, 19), (0, x1), (0, 0), (0, 0), (0, 0), (0, 0)]) (rest := []) rfl rk143 rfl rfl rfl rfl rfl)) h (fun σ5 h => ?_)
    refine wi_iload_n (pc' := 36) hm103 rfl rfl rfl ?_
    exact wi_iret hm103 rfl h
theorem hm104 : fx_code 104 = fx_c104 := rfl
theorem t104_0 {o0 x1 x2 : Int} {σ : fx_S} {Q : fx_V → fx_S → Prop} (h : ((x2 = 0 → fx_CV 143 [(10, o0), (0, 20), (0, x1), (0, 0), (0, 0), (0, 0), (0, 0)] σ Q (fun σ1 => fx_CI 43 [(11, 0), (0, x1)] σ1 Q (fun y1 σ2 => Q (0, y1) σ2))) ∧ (x2 ≠ 0 → fx_CV 143 [(10, o0), (0, 21), (0, x1), (0, 0), (0, 0), (0, 0), (0, 0)] σ Q (fun σ3 => fx_CI 43 [(11, 0), (0, x1)] σ3 Q (fun y2 σ4 => Q (0, y2) σ4))))) : fx_Ca 104 [(10, o0), (0, x1), (0, x2)] σ Q := by
  show fx_Wp 104 0 [(10, o0), (0, x1), (0, x2)] [] σ Q
  refine wi_aload_n (pc' := 1) hm104 rfl rfl rfl (by decide) ?_
  refine wi_iload_n (pc' := 2) hm104 rfl rfl rfl ?_
  refine wi_if_eq (pc' := 5) (t := 10) hm104 rfl rfl rfl (fun hc => ?_) (fun hc => ?_)
  · replace h := h.1 hc
    refine wi_bipush (pc' := 12) (v := 20) hm104 rfl rfl rfl ?_
    refine wi_iload_n (pc' := 13) hm104 rfl rfl rfl ?_
    refine wi_iconst (pc' := 14) (v := 0) hm104 rfl rfl rfl ?_
    refine wi_iconst (pc' := 15) (v := 0) hm104 rfl rfl rfl ?_
    refine wi_iconst (pc' := 16) (v := 0) hm104 rfl rfl rfl ?_
    refine wi_iconst (pc' := 17) (v := 0) hm104 rfl rfl rfl ?_
    refine wc_V (pc' := 20) (by decide) rfl (by decide) ((fx_wE hm104 rfl).trans (fx_exV (mj := 143) (as := [(0, 20), (0, x1), (0, 0), (0, 0), (0, 0), (0, 0)]) (rest := []) rfl rk143 rfl rfl rfl rfl rfl)) h (fun σ1 h => ?_)
    refine wi_aload_n (pc' := 21) hm104 rfl rfl rfl (by decide) ?_
    refine wi_getR (pc' := 24) (x := 0) hm104 rfl rfl rfl (by omega) ?_
    refine wi_iload_n (pc' := 25) hm104 rfl rfl rfl ?_
    refine wc_I (pc' := 28) (by decide) rfl (by decide) ((fx_wE hm104 rfl).trans (fx_exV (mj := 43) (as := [(0, x1)]) (rest := []) rfl rk43 rfl rfl rfl rfl rfl)) h (fun y1 σ2 h => ?_)
    exact wi_iret hm104 rfl h
  · replace h := h.2 hc
    refine wi_bipush (pc' := 7) (v := 21) hm104 rfl rfl rfl ?_
    refine wi_goto (t := 12) hm104 rfl rfl ?_
    refine wi_iload_n (pc' := 13) hm104 rfl rfl rfl ?_
    refine wi_iconst (pc' := 14) (v := 0) hm104 rfl rfl rfl ?_
    refine wi_iconst (pc' := 15) (v := 0) hm104 rfl rfl rfl ?_
    refine wi_iconst (pc' := 16) (v := 0) hm104 rfl rfl rfl ?_
    refine wi_iconst (pc' := 17) (v := 0) hm104 rfl rfl rfl ?_
    refine wc_V (pc' := 20) (by decide) rfl (by decide) ((fx_wE hm104 rfl).trans (fx_exV (mj := 143) (as := [(0, 21), (0, x1), (0, 0), (0, 0), (0, 0), (0, 0)]) (rest := []) rfl rk143 rfl rfl rfl rfl rfl)) h (fun σ3 h => ?_)
    refine wi_aload_n (pc' := 21) hm104 rfl rfl rfl (by decide) ?_
    refine wi_getR (pc' := 24) (x := 0) hm104 rfl rfl rfl (by omega) ?_
    refine wi_iload_n (pc' := 25) hm104 rfl rfl rfl ?_
    refine wc_I (pc' := 28) (by decide) rfl (by decide) ((fx_wE hm104 rfl).trans (fx_exV (mj := 43) (as := [(0, x1)]) (rest := []) rfl rk43 rfl rfl rfl rfl rfl)) h (fun y2 σ4 h => ?_)
    exact wi_iret hm104 rfl h
theorem hm105 : fx_code 105 = fx_c105 := rfl
theorem t105_0 {o0 x1 x2 : Int} {σ : fx_S} {Q : fx_V → fx_S → Prop} (h : fx_CV 141 [(0, x2), (0, 0), (0, 100)] σ Q (fun σ1 => fx_CI 24 [(11, 0), (0, x1)] σ1 Q (fun y1 σ2 => ((y1 = 0 → fx_CV 143 [(10, o0), (0, 22), (0, x1), (0, x2), (0, 0), (0, 0), (0, 0)] σ2 Q (fun σ3 => Q (0, (-1)) σ3)) ∧ (y1 ≠ 0 → (0 ≤ x1 ∧ x1 < 8) ∧ fx_CV 143 [(10, o0), (0, 22), (0, x1), (0, x2), (0, 0), (0, 0), (0, 0)] σ2 Q (fun σ4 => Q (0, (σ2 13 0 x1)) σ4)))))) : fx_Ca 105 [(10, o0), (0, x1), (0, x2)] σ Q := by
  show fx_Wp 105 0 [(10, o0), (0, x1), (0, x2), (3, 0)] [] σ Q
  refine wi_iload_n (pc' := 1) hm105 rfl rfl rfl ?_
  refine wi_iconst (pc' := 2) (v := 0) hm105 rfl rfl rfl ?_
  refine wi_bipush (pc' := 4) (v := 100) hm105 rfl rfl rfl ?_
  refine wc_V (pc' := 7) (by decide) rfl (by decide) ((fx_wE hm105 rfl).trans (fx_exS (mj := 141) (as := [(0, x2), (0, 0), (0, 100)]) (rest := []) rfl rk141 rfl rfl rfl rfl)) h (fun σ1 h => ?_)
  refine wi_aload_n (pc' := 8) hm105 rfl rfl rfl (by decide) ?_
  refine wi_getR (pc' := 11) (x := 0) hm105 rfl rfl rfl (by omega) ?_
  refine wi_iload_n (pc' := 12) hm105 rfl rfl rfl ?_
  refine wc_I (pc' := 15) (by decide) rfl (by decide) ((fx_wE hm105 rfl).trans (fx_exV (mj := 24) (as := [(0, x1)]) (rest := []) rfl rk24 rfl rfl rfl rfl rfl)) h (fun y1 σ2 h => ?_)
  refine wi_if_eq (pc' := 18) (t := 30) hm105 rfl rfl rfl (fun hc => ?_) (fun hc => ?_)
  · replace h := h.1 hc
    refine wi_iconst (pc' := 31) (v := (-1)) hm105 rfl rfl rfl ?_
    refine wi_istore_n (pc' := 32) (L' := [(10, o0), (0, x1), (0, x2), (0, (-1))]) hm105 rfl rfl rfl ?_
    refine wi_aload_n (pc' := 33) hm105 rfl rfl rfl (by decide) ?_
    refine wi_bipush (pc' := 35) (v := 22) hm105 rfl rfl rfl ?_
    refine wi_iload_n (pc' := 36) hm105 rfl rfl rfl ?_
    refine wi_iload_n (pc' := 37) hm105 rfl rfl rfl ?_
    refine wi_iconst (pc' := 38) (v := 0) hm105 rfl rfl rfl ?_
    refine wi_iconst (pc' := 39) (v := 0) hm105 rfl rfl rfl ?_
    refine wi_iconst (pc' := 40) (v := 0) hm105 rfl rfl rfl ?_
    refine wc_V (pc' := 43) (by decide) rfl (by decide) ((fx_wE hm105 rfl).trans (fx_exV (mj := 143) (as := [(0, 22), (0, x1), (0, x2), (0, 0), (0, 0), (0, 0)]) (rest := []) rfl rk143 rfl rfl rfl rfl rfl)) h (fun σ3 h => ?_)
    refine wi_iload_n (pc' := 44) hm105 rfl rfl rfl ?_
    exact wi_iret hm105 rfl h
  · replace h := h.2 hc
    refine wi_aload_n (pc' := 19) hm105 rfl rfl rfl (by decide) ?_
    refine wi_getR (pc' := 22) (x := 0) hm105 rfl rfl rfl (by omega) ?_
    refine wi_getR (pc' := 25) (x := 0) hm105 rfl rfl rfl (by omega) ?_
    refine wi_iload_n (pc' := 26) hm105 rfl rfl rfl ?_
    obtain ⟨g1, h⟩ := h
    refine wi_iaload (pc' := 27) hm105 rfl rfl rfl rfl (N := 8) rfl g1 ?_
    refine wi_goto (t := 31) hm105 rfl rfl ?_
    refine wi_istore_n (pc' := 32) (L' := [(10, o0), (0, x1), (0, x2), (0, (σ2 13 0 x1))]) hm105 rfl rfl rfl ?_
    refine wi_aload_n (pc' := 33) hm105 rfl rfl rfl (by decide) ?_
    refine wi_bipush (pc' := 35) (v := 22) hm105 rfl rfl rfl ?_
    refine wi_iload_n (pc' := 36) hm105 rfl rfl rfl ?_
    refine wi_iload_n (pc' := 37) hm105 rfl rfl rfl ?_
    refine wi_iconst (pc' := 38) (v := 0) hm105 rfl rfl rfl ?_
    refine wi_iconst (pc' := 39) (v := 0) hm105 rfl rfl rfl ?_
    refine wi_iconst (pc' := 40) (v := 0) hm105 rfl rfl rfl ?_
    refine wc_V (pc' := 43) (by decide) rfl (by decide) ((fx_wE hm105 rfl).trans (fx_exV (mj := 143) (as := [(0, 22), (0, x1), (0, x2), (0, 0), (0, 0), (0, 0)]) (rest := []) rfl rk143 rfl rfl rfl rfl rfl)) h (fun σ4 h => ?_)
    refine wi_iload_n (pc' := 44) hm105 rfl rfl rfl ?_
    exact wi_iret hm105 rfl h
theorem hm106 : fx_code 106 = fx_c106 := rfl
theorem t106_0 {o0 x1 x2 : Int} {σ : fx_S} {Q : fx_V → fx_S → Prop} (h : fx_CV 137 [(0, x1)] σ Q (fun σ1 => fx_CV 141 [(0, x2), (0, 1), (0, 1000)] σ1 Q (fun σ2 => fx_CV 143 [(10, o0), (0, 23), (0, x1), (0, x2), (0, 0), (0, 0), (0, 0)] σ2 Q (fun σ3 => (fx_rg ((σ3 11 0 10) - (σ2 11 0 10))) ∧ Q (0, ((σ3 11 0 10) - (σ2 11 0 10))) σ3)))) : fx_Ca 106 [(10, o0), (0, x1), (0, x2)] σ Q := by
  show fx_Wp 106 0 [(10, o0), (0, x1), (0, x2), (3, 0)] [] σ Q
  refine wi_iload_n (pc' := 1) hm106 rfl rfl rfl ?_
  refine wc_V (pc' := 4) (by decide) rfl (by decide) ((fx_wE hm106 rfl).trans (fx_exS (mj := 137) (as := [(0, x1)]) (rest := []) rfl rk137 rfl rfl rfl rfl)) h (fun σ1 h => ?_)
  refine wi_iload_n (pc' := 5) hm106 rfl rfl rfl ?_
  refine wi_iconst (pc' := 6) (v := 1) hm106 rfl rfl rfl ?_
  refine wi_sipush (pc' := 9) (v := 1000) hm106 rfl rfl rfl ?_
  refine wc_V (pc' := 12) (by decide) rfl (by decide) ((fx_wE hm106 rfl).trans (fx_exS (mj := 141) (as := [(0, x2), (0, 1), (0, 1000)]) (rest := []) rfl rk141 rfl rfl rfl rfl)) h (fun σ2 h => ?_)
  refine wi_aload_n (pc' := 13) hm106 rfl rfl rfl (by decide) ?_
  refine wi_getR (pc' := 16) (x := 0) hm106 rfl rfl rfl (by omega) ?_
  refine wi_getI (pc' := 19) hm106 rfl rfl (P := 10) rfl ?_
  refine wi_istore_n (pc' := 20) (L' := [(10, o0), (0, x1), (0, x2), (0, (σ2 11 0 10))]) hm106 rfl rfl rfl ?_
  refine wi_aload_n (pc' := 21) hm106 rfl rfl rfl (by decide) ?_
  refine wi_bipush (pc' := 23) (v := 23) hm106 rfl rfl rfl ?_
  refine wi_iload_n (pc' := 24) hm106 rfl rfl rfl ?_
  refine wi_iload_n (pc' := 25) hm106 rfl rfl rfl ?_
  refine wi_iconst (pc' := 26) (v := 0) hm106 rfl rfl rfl ?_
  refine wi_iconst (pc' := 27) (v := 0) hm106 rfl rfl rfl ?_
  refine wi_iconst (pc' := 28) (v := 0) hm106 rfl rfl rfl ?_
  refine wc_V (pc' := 31) (by decide) rfl (by decide) ((fx_wE hm106 rfl).trans (fx_exV (mj := 143) (as := [(0, 23), (0, x1), (0, x2), (0, 0), (0, 0), (0, 0)]) (rest := []) rfl rk143 rfl rfl rfl rfl rfl)) h (fun σ3 h => ?_)
  refine wi_aload_n (pc' := 32) hm106 rfl rfl rfl (by decide) ?_
  refine wi_getR (pc' := 35) (x := 0) hm106 rfl rfl rfl (by omega) ?_
  refine wi_getI (pc' := 38) hm106 rfl rfl (P := 10) rfl ?_
  refine wi_iload_n (pc' := 39) hm106 rfl rfl rfl ?_
  obtain ⟨g1, h⟩ := h
  refine wi_isub (pc' := 40) hm106 rfl rfl g1 ?_
  exact wi_iret hm106 rfl h
theorem hm107 : fx_code 107 = fx_c107 := rfl
theorem t107_0 {o0 x1 : Int} {σ : fx_S} {Q : fx_V → fx_S → Prop} (h : fx_CV 137 [(0, x1)] σ Q (fun σ1 => (0 ≤ x1 ∧ x1 < 8) ∧ fx_CV 143 [(10, o0), (0, 16), (0, x1), (0, 0), (0, 0), (0, 0), (0, 0)] σ1 Q (fun σ2 => Q (0, (σ1 22 x1 4)) σ2))) : fx_Ca 107 [(10, o0), (0, x1)] σ Q := by
  show fx_Wp 107 0 [(10, o0), (0, x1), (3, 0)] [] σ Q
  refine wi_iload_n (pc' := 1) hm107 rfl rfl rfl ?_
  refine wc_V (pc' := 4) (by decide) rfl (by decide) ((fx_wE hm107 rfl).trans (fx_exS (mj := 137) (as := [(0, x1)]) (rest := []) rfl rk137 rfl rfl rfl rfl)) h (fun σ1 h => ?_)
  refine wi_aload_n (pc' := 5) hm107 rfl rfl rfl (by decide) ?_
  refine wi_getR (pc' := 8) (x := 0) hm107 rfl rfl rfl (by omega) ?_
  refine wi_getR (pc' := 11) (x := 0) hm107 rfl rfl rfl (by omega) ?_
  refine wi_iload_n (pc' := 12) hm107 rfl rfl rfl ?_
  obtain ⟨g1, h⟩ := h
  refine wi_aaload (pc' := 13) (x := x1) hm107 rfl rfl rfl rfl (N := 8) rfl g1 (by omega) ?_
  refine wi_getI (pc' := 16) hm107 rfl rfl (P := 4) rfl ?_
  refine wi_istore_n (pc' := 17) (L' := [(10, o0), (0, x1), (0, (σ1 22 x1 4))]) hm107 rfl rfl rfl ?_
  refine wi_aload_n (pc' := 18) hm107 rfl rfl rfl (by decide) ?_
  refine wi_bipush (pc' := 20) (v := 16) hm107 rfl rfl rfl ?_
  refine wi_iload_n (pc' := 21) hm107 rfl rfl rfl ?_
  refine wi_iconst (pc' := 22) (v := 0) hm107 rfl rfl rfl ?_
  refine wi_iconst (pc' := 23) (v := 0) hm107 rfl rfl rfl ?_
  refine wi_iconst (pc' := 24) (v := 0) hm107 rfl rfl rfl ?_
  refine wi_iconst (pc' := 25) (v := 0) hm107 rfl rfl rfl ?_
  refine wc_V (pc' := 28) (by decide) rfl (by decide) ((fx_wE hm107 rfl).trans (fx_exV (mj := 143) (as := [(0, 16), (0, x1), (0, 0), (0, 0), (0, 0), (0, 0)]) (rest := []) rfl rk143 rfl rfl rfl rfl rfl)) h (fun σ2 h => ?_)
  refine wi_iload_n (pc' := 29) hm107 rfl rfl rfl ?_
  exact wi_iret hm107 rfl h
theorem hm108 : fx_code 108 = fx_c108 := rfl
theorem t108_0 {o0 : Int} {σ : fx_S} {Q : fx_V → fx_S → Prop} (h : (((σ 10 o0 11) ≠ 0 → (fx_rg ((σ 10 o0 12) + 8)) ∧ (fx_rg (((σ 10 o0 12) + 8) - 1)) ∧ (0 ≤ (fx_rem (((σ 10 o0 12) + 8) - 1) 8) ∧ (fx_rem (((σ 10 o0 12) + 8) - 1) 8) < 8) ∧ fx_CV 23 [(11, 0), (11, (3 + (fx_rem (((σ 10 o0 12) + 8) - 1) 8)))] (fx_up σ 10 o0 12 (fx_rem (((σ 10 o0 12) + 8) - 1) 8)) Q (fun σ1 => (fx_rg ((σ1 10 o0 11) - 1)) ∧ Q (0, ((σ1 10 o0 11) - 1)) (fx_up (fx_up σ1 10 o0 10 0) 10 o0 11 ((σ1 10 o0 11) - 1)))) ∧ ((σ 10 o0 11) = 0 → Q (5, 1) σ))) : fx_Ca 108 [(10, o0)] σ Q := by
  show fx_Wp 108 0 [(10, o0)] [] σ Q
  refine wi_aload_n (pc' := 1) hm108 rfl rfl rfl (by decide) ?_
  refine wi_getI (pc' := 4) hm108 rfl rfl (P := 11) rfl ?_
  refine wi_if_ne (pc' := 7) (t := 17) hm108 rfl rfl rfl (fun hc => ?_) (fun hc => ?_)
  · replace h := h.1 hc
    refine wi_aload_n (pc' := 18) hm108 rfl rfl rfl (by decide) ?_
    refine wi_aload_n (pc' := 19) hm108 rfl rfl rfl (by decide) ?_
    refine wi_getI (pc' := 22) hm108 rfl rfl (P := 12) rfl ?_
    refine wi_bipush (pc' := 24) (v := 8) hm108 rfl rfl rfl ?_
    obtain ⟨g1, h⟩ := h
    refine wi_iadd (pc' := 25) hm108 rfl rfl g1 ?_
    refine wi_iconst (pc' := 26) (v := 1) hm108 rfl rfl rfl ?_
    obtain ⟨g2, h⟩ := h
    refine wi_isub (pc' := 27) hm108 rfl rfl g2 ?_
    refine wi_bipush (pc' := 29) (v := 8) hm108 rfl rfl rfl ?_
    refine wi_irem (pc' := 30) hm108 rfl rfl (by decide) ?_
    refine wi_putI (pc' := 33) hm108 rfl rfl (P := 12) rfl ?_
    refine wi_aload_n (pc' := 34) hm108 rfl rfl rfl (by decide) ?_
    refine wi_getR (pc' := 37) (x := 0) hm108 rfl rfl rfl (by omega) ?_
    refine wi_aload_n (pc' := 38) hm108 rfl rfl rfl (by decide) ?_
    refine wi_getR (pc' := 41) (x := 0) hm108 rfl rfl rfl (by omega) ?_
    refine wi_aload_n (pc' := 42) hm108 rfl rfl rfl (by decide) ?_
    refine wi_getIe (pc' := 45) hm108 rfl rfl (P := 12) rfl (x := (fx_rem (((σ 10 o0 12) + 8) - 1) 8)) fx_upS ?_
    obtain ⟨g3, h⟩ := h
    refine wi_aaload (pc' := 46) (x := (3 + (fx_rem (((σ 10 o0 12) + 8) - 1) 8))) hm108 rfl rfl rfl rfl (N := 8) rfl g3 (by omega) ?_
    refine wc_V (pc' := 49) (by decide) rfl (by decide) ((fx_wE hm108 rfl).trans (fx_exV (mj := 23) (as := [(11, (3 + (fx_rem (((σ 10 o0 12) + 8) - 1) 8)))]) (rest := []) rfl rk23 rfl rfl rfl rfl rfl)) h (fun σ1 h => ?_)
    refine wi_aload_n (pc' := 50) hm108 rfl rfl rfl (by decide) ?_
    refine wi_iconst (pc' := 51) (v := 0) hm108 rfl rfl rfl ?_
    refine wi_putZ (pc' := 54) hm108 rfl rfl (P := 10) rfl (by decide) ?_
    refine wi_aload_n (pc' := 55) hm108 rfl rfl rfl (by decide) ?_
    refine wi_dup (pc' := 56) hm108 rfl rfl rfl ?_
    refine wi_getIe (pc' := 59) hm108 rfl rfl (P := 11) rfl (x := (σ1 10 o0 11)) (Eq.trans (fx_upJ (by decide)) rfl) ?_
    refine wi_iconst (pc' := 60) (v := 1) hm108 rfl rfl rfl ?_
    obtain ⟨g4, h⟩ := h
    refine wi_isub (pc' := 61) hm108 rfl rfl g4 ?_
    refine wi_putI (pc' := 64) hm108 rfl rfl (P := 11) rfl ?_
    refine wi_aload_n (pc' := 65) hm108 rfl rfl rfl (by decide) ?_
    refine wi_getIe (pc' := 68) hm108 rfl rfl (P := 11) rfl (x := ((σ1 10 o0 11) - 1)) fx_upS ?_
    exact wi_iret hm108 rfl h
  · replace h := h.2 hc
    exact wi_new (v := 1) hm108 rfl rfl h
theorem hm109 : fx_code 109 = fx_c109 := rfl
theorem t109_0 {o0 x1 x2 : Int} {σ : fx_S} {Q : fx_V → fx_S → Prop} (h : fx_CV 138 [(0, x1), (0, x2)] σ Q (fun σ1 => fx_CR 36 144 [(10, o0)] σ1 Q (fun y1 σ2 => fx_CI 68 [(36, y1), (0, x1), (0, x2)] σ2 Q (fun y2 σ3 => Q (0, y2) σ3)))) : fx_Ca 109 [(10, o0), (0, x1), (0, x2)] σ Q := by
  show fx_Wp 109 0 [(10, o0), (0, x1), (0, x2)] [] σ Q
  refine wi_iload_n (pc' := 1) hm109 rfl rfl rfl ?_
  refine wi_iload_n (pc' := 2) hm109 rfl rfl rfl ?_
  refine wc_V (pc' := 5) (by decide) rfl (by decide) ((fx_wE hm109 rfl).trans (fx_exS (mj := 138) (as := [(0, x1), (0, x2)]) (rest := []) rfl rk138 rfl rfl rfl rfl)) h (fun σ1 h => ?_)
  refine wi_aload_n (pc' := 6) hm109 rfl rfl rfl (by decide) ?_
  refine wc_R (pc' := 9) (by decide) rfl (by decide) ((fx_wE hm109 rfl).trans (fx_exV (mj := 144) (as := []) (rest := []) rfl rk144 rfl rfl rfl rfl rfl)) h (fun y1 σ2 h => ?_)
  refine wi_iload_n (pc' := 10) hm109 rfl rfl rfl ?_
  refine wi_iload_n (pc' := 11) hm109 rfl rfl rfl ?_
  refine wc_I (pc' := 14) (by decide) rfl (by decide) ((fx_wE hm109 rfl).trans (fx_exV (mj := 68) (as := [(0, x1), (0, x2)]) (rest := []) rfl rk68 rfl rfl rfl rfl rfl)) h (fun y2 σ3 h => ?_)
  exact wi_iret hm109 rfl h
theorem hm110 : fx_code 110 = fx_c110 := rfl
theorem t110_0 {o0 x1 x2 x3 : Int} {σ : fx_S} {Q : fx_V → fx_S → Prop} (h : fx_CV 138 [(0, x1), (0, x2)] σ Q (fun σ1 => fx_CV 142 [(0, x3), (0, 3)] σ1 Q (fun σ2 => fx_CR 36 144 [(10, o0)] σ2 Q (fun y1 σ3 => fx_CI 69 [(36, y1), (0, x1), (0, x2)] σ3 Q (fun y2 σ4 => ((x3 ≠ 0 → ((x3 ≠ 1 → ((y2 = (-1) → fx_CR 36 144 [(10, o0)] σ4 Q (fun y3 σ5 => fx_CI 68 [(36, y3), (0, x1), (0, x2)] σ5 Q (fun y4 σ6 => ((y4 = (-1) → Q (0, 2) σ6) ∧ (y4 ≠ (-1) → Q (0, 1) σ6))))) ∧ (y2 ≠ (-1) → Q (0, 0) σ4))) ∧ (x3 = 1 → ((y2 ≠ (-1) → (0 ≤ y2 ∧ y2 < 60) ∧ Q (0, (σ4 16 0 y2)) σ4) ∧ (y2 = (-1) → Q (0, (-1)) σ4))))) ∧ (x3 = 0 → Q (0, y2) σ4))))))) : fx_Ca 110 [(10, o0), (0, x1), (0, x2), (0, x3)] σ Q := by
  show fx_Wp 110 0 [(10, o0), (0, x1), (0, x2), (0, x3), (3, 0)] [] σ Q
  refine wi_iload_n (pc' := 1) hm110 rfl rfl rfl ?_
  refine wi_iload_n (pc' := 2) hm110 rfl rfl rfl ?_
  refine wc_V (pc' := 5) (by decide) rfl (by decide) ((fx_wE hm110 rfl).trans (fx_exS (mj := 138) (as := [(0, x1), (0, x2)]) (rest := []) rfl rk138 rfl rfl rfl rfl)) h (fun σ1 h => ?_)
  refine wi_iload_n (pc' := 6) hm110 rfl rfl rfl ?_
  refine wi_iconst (pc' := 7) (v := 3) hm110 rfl rfl rfl ?_
  refine wc_V (pc' := 10) (by decide) rfl (by decide) ((fx_wE hm110 rfl).trans (fx_exS (mj := 142) (as := [(0, x3), (0, 3)]) (rest := []) rfl rk142 rfl rfl rfl rfl)) h (fun σ2 h => ?_)
  refine wi_aload_n (pc' := 11) hm110 rfl rfl rfl (by decide) ?_
  refine wc_R (pc' := 14) (by decide) rfl (by decide) ((fx_wE hm110 rfl).trans (fx_exV (mj := 144) (as := []) (rest := []) rfl rk144 rfl rfl rfl rfl rfl)) h (fun y1 σ3 h => ?_)
  refine wi_iload_n (pc' := 15) hm110 rfl rfl rfl ?_
  refine wi_iload_n (pc' := 16) hm110 rfl rfl rfl ?_
  refine wc_I (pc' := 19) (by decide) rfl (by decide) ((fx_wE hm110 rfl).trans (fx_exV (mj := 69) (as := [(0, x1), (0, x2)]) (rest := []) rfl rk69 rfl rfl rfl rfl rfl)) h (fun y2 σ4 h => ?_)
  refine wi_istore (pc' := 21) (L' := [(10, o0), (0, x1), (0, x2), (0, x3), (0, y2)]) hm110 rfl rfl rfl ?_
  refine wi_iload_n (pc' := 22) hm110 rfl rfl rfl ?_
  refine wi_if_ne (pc' := 25) (t := 28) hm110 rfl rfl rfl (fun hc => ?_) (fun hc => ?_)
  · replace h := h.1 hc
    refine wi_iload_n (pc' := 29) hm110 rfl rfl rfl ?_
    refine wi_iconst (pc' := 30) (v := 1) hm110 rfl rfl rfl ?_
    refine wi_ic_ne (pc' := 33) (t := 54) hm110 rfl rfl rfl (fun hc => ?_) (fun hc => ?_)
    · replace h := h.1 hc
      refine wi_iload (pc' := 56) hm110 rfl rfl rfl ?_
      refine wi_iconst (pc' := 57) (v := (-1)) hm110 rfl rfl rfl ?_
      refine wi_ic_eq (pc' := 60) (t := 62) hm110 rfl rfl rfl (fun hc => ?_) (fun hc => ?_)
      · replace h := h.1 hc
        refine wi_aload_n (pc' := 63) hm110 rfl rfl rfl (by decide) ?_
        refine wc_R (pc' := 66) (by decide) rfl (by decide) ((fx_wE hm110 rfl).trans (fx_exV (mj := 144) (as := []) (rest := []) rfl rk144 rfl rfl rfl rfl rfl)) h (fun y3 σ5 h => ?_)
        refine wi_iload_n (pc' := 67) hm110 rfl rfl rfl ?_
        refine wi_iload_n (pc' := 68) hm110 rfl rfl rfl ?_
        refine wc_I (pc' := 71) (by decide) rfl (by decide) ((fx_wE hm110 rfl).trans (fx_exV (mj := 68) (as := [(0, x1), (0, x2)]) (rest := []) rfl rk68 rfl rfl rfl rfl rfl)) h (fun y4 σ6 h => ?_)
        refine wi_iconst (pc' := 72) (v := (-1)) hm110 rfl rfl rfl ?_
        refine wi_ic_eq (pc' := 75) (t := 79) hm110 rfl rfl rfl (fun hc => ?_) (fun hc => ?_)
        · replace h := h.1 hc
          refine wi_iconst (pc' := 80) (v := 2) hm110 rfl rfl rfl ?_
          exact wi_iret hm110 rfl h
        · replace h := h.2 hc
          refine wi_iconst (pc' := 76) (v := 1) hm110 rfl rfl rfl ?_
          refine wi_goto (t := 80) hm110 rfl rfl ?_
          exact wi_iret hm110 rfl h
      · replace h := h.2 hc
        refine wi_iconst (pc' := 61) (v := 0) hm110 rfl rfl rfl ?_
        exact wi_iret hm110 rfl h
    · replace h := h.2 hc
      refine wi_iload (pc' := 35) hm110 rfl rfl rfl ?_
      refine wi_iconst (pc' := 36) (v := (-1)) hm110 rfl rfl rfl ?_
      refine wi_ic_ne (pc' := 39) (t := 43) hm110 rfl rfl rfl (fun hc => ?_) (fun hc => ?_)
      · replace h := h.1 hc
        refine wi_aload_n (pc' := 44) hm110 rfl rfl rfl (by decide) ?_
        refine wi_getR (pc' := 47) (x := 0) hm110 rfl rfl rfl (by omega) ?_
        refine wi_getR (pc' := 50) (x := 0) hm110 rfl rfl rfl (by omega) ?_
        refine wi_iload (pc' := 52) hm110 rfl rfl rfl ?_
        obtain ⟨g1, h⟩ := h
        refine wi_iaload (pc' := 53) hm110 rfl rfl rfl rfl (N := 60) rfl g1 ?_
        exact wi_iret hm110 rfl h
      · replace h := h.2 hc
        refine wi_iconst (pc' := 40) (v := (-1)) hm110 rfl rfl rfl ?_
        refine wi_goto (t := 53) hm110 rfl rfl ?_
        exact wi_iret hm110 rfl h
  · replace h := h.2 hc
    refine wi_iload (pc' := 27) hm110 rfl rfl rfl ?_
    exact wi_iret hm110 rfl h
theorem hm111 : fx_code 111 = fx_c111 := rfl
theorem t111_0 {o0 x1 x2 x3 : Int} {σ : fx_S} {Q : fx_V → fx_S → Prop} (h : fx_CV 138 [(0, x1), (0, x2)] σ Q (fun σ1 => ((x3 ≠ (-1) → fx_CI 39 [(11, 0), (0, x1), (0, x2), (0, x3)] σ1 Q (fun y1 σ2 => Q (0, y1) σ2)) ∧ (x3 = (-1) → fx_CI 38 [(11, 0), (0, x1), (0, x2)] σ1 Q (fun y2 σ3 => Q (0, y2) σ3))))) : fx_Ca 111 [(10, o0), (0, x1), (0, x2), (0, x3)] σ Q := by
  show fx_Wp 111 0 [(10, o0), (0, x1), (0, x2), (0, x3)] [] σ Q
  refine wi_iload_n (pc' := 1) hm111 rfl rfl rfl ?_
  refine wi_iload_n (pc' := 2) hm111 rfl rfl rfl ?_
  refine wc_V (pc' := 5) (by decide) rfl (by decide) ((fx_wE hm111 rfl).trans (fx_exS (mj := 138) (as := [(0, x1), (0, x2)]) (rest := []) rfl rk138 rfl rfl rfl rfl)) h (fun σ1 h => ?_)
  refine wi_iload_n (pc' := 6) hm111 rfl rfl rfl ?_
  refine wi_iconst (pc' := 7) (v := (-1)) hm111 rfl rfl rfl ?_
  refine wi_ic_ne (pc' := 10) (t := 22) hm111 rfl rfl rfl (fun hc => ?_) (fun hc => ?_)
  · replace h := h.1 hc
    refine wi_aload_n (pc' := 23) hm111 rfl rfl rfl (by decide) ?_
    refine wi_getR (pc' := 26) (x := 0) hm111 rfl rfl rfl (by omega) ?_
    refine wi_iload_n (pc' := 27) hm111 rfl rfl rfl ?_
    refine wi_iload_n (pc' := 28) hm111 rfl rfl rfl ?_
    refine wi_iload_n (pc' := 29) hm111 rfl rfl rfl ?_
    refine wc_I (pc' := 32) (by decide) rfl (by decide) ((fx_wE hm111 rfl).trans (fx_exV (mj := 39) (as := [(0, x1), (0, x2), (0, x3)]) (rest := []) rfl rk39 rfl rfl rfl rfl rfl)) h (fun y1 σ2 h => ?_)
    exact wi_iret hm111 rfl h
  · replace h := h.2 hc
    refine wi_aload_n (pc' := 11) hm111 rfl rfl rfl (by decide) ?_
    refine wi_getR (pc' := 14) (x := 0) hm111 rfl rfl rfl (by omega) ?_
    refine wi_iload_n (pc' := 15) hm111 rfl rfl rfl ?_
    refine wi_iload_n (pc' := 16) hm111 rfl rfl rfl ?_
    refine wc_I (pc' := 19) (by decide) rfl (by decide) ((fx_wE hm111 rfl).trans (fx_exV (mj := 38) (as := [(0, x1), (0, x2)]) (rest := []) rfl rk38 rfl rfl rfl rfl rfl)) h (fun y2 σ3 h => ?_)
    refine wi_goto (t := 32) hm111 rfl rfl ?_
    exact wi_iret hm111 rfl h
theorem hm112 : fx_code 112 = fx_c112 := rfl
theorem t112_0 {o0 x1 x2 x3 : Int} {σ : fx_S} {Q : fx_V → fx_S → Prop} (h : fx_CV 138 [(0, x1), (0, x2)] σ Q (fun σ1 => (fx_rg ((σ1 11 0 10) + 1)) ∧ fx_CV 141 [(0, x3), (0, 0), (0, ((σ1 11 0 10) + 1))] σ1 Q (fun σ2 => fx_CV 62 [(36, 1), (0, x3), (0, (-1))] σ2 Q (fun σ3 => fx_CI 68 [(36, 1), (0, x1), (0, x2)] σ3 Q (fun y1 σ4 => Q (0, y1) σ4))))) : fx_Ca 112 [(10, o0), (0, x1), (0, x2), (0, x3)] σ Q := by
  show fx_Wp 112 0 [(10, o0), (0, x1), (0, x2), (0, x3)] [] σ Q
  refine wi_iload_n (pc' := 1) hm112 rfl rfl rfl ?_
  refine wi_iload_n (pc' := 2) hm112 rfl rfl rfl ?_
  refine wc_V (pc' := 5) (by decide) rfl (by decide) ((fx_wE hm112 rfl).trans (fx_exS (mj := 138) (as := [(0, x1), (0, x2)]) (rest := []) rfl rk138 rfl rfl rfl rfl)) h (fun σ1 h => ?_)
  refine wi_iload_n (pc' := 6) hm112 rfl rfl rfl ?_
  refine wi_iconst (pc' := 7) (v := 0) hm112 rfl rfl rfl ?_
  refine wi_aload_n (pc' := 8) hm112 rfl rfl rfl (by decide) ?_
  refine wi_getR (pc' := 11) (x := 0) hm112 rfl rfl rfl (by omega) ?_
  refine wi_getI (pc' := 14) hm112 rfl rfl (P := 10) rfl ?_
  refine wi_iconst (pc' := 15) (v := 1) hm112 rfl rfl rfl ?_
  obtain ⟨g1, h⟩ := h
  refine wi_iadd (pc' := 16) hm112 rfl rfl g1 ?_
  refine wc_V (pc' := 19) (by decide) rfl (by decide) ((fx_wE hm112 rfl).trans (fx_exS (mj := 141) (as := [(0, x3), (0, 0), (0, ((σ1 11 0 10) + 1))]) (rest := []) rfl rk141 rfl rfl rfl rfl)) h (fun σ2 h => ?_)
  refine wi_aload_n (pc' := 20) hm112 rfl rfl rfl (by decide) ?_
  refine wi_getR (pc' := 23) (x := 1) hm112 rfl rfl rfl (by omega) ?_
  refine wi_iload_n (pc' := 24) hm112 rfl rfl rfl ?_
  refine wi_iconst (pc' := 25) (v := (-1)) hm112 rfl rfl rfl ?_
  refine wc_V (pc' := 28) (by decide) rfl (by decide) ((fx_wE hm112 rfl).trans (fx_exV (mj := 62) (as := [(0, x3), (0, (-1))]) (rest := []) rfl rk62 rfl rfl rfl rfl rfl)) h (fun σ3 h => ?_)
  refine wi_aload_n (pc' := 29) hm112 rfl rfl rfl (by decide) ?_
  refine wi_getR (pc' := 32) (x := 1) hm112 rfl rfl rfl (by omega) ?_
  refine wi_iload_n (pc' := 33) hm112 rfl rfl rfl ?_
  refine wi_iload_n (pc' := 34) hm112 rfl rfl rfl ?_
  refine wc_I (pc' := 37) (by decide) rfl (by decide) ((fx_wE hm112 rfl).trans (fx_exV (mj := 68) (as := [(0, x1), (0, x2)]) (rest := []) rfl rk68 rfl rfl rfl rfl rfl)) h (fun y1 σ4 h => ?_)
  exact wi_iret hm112 rfl h
theorem hm113 : fx_code 113 = fx_c113 := rfl
theorem t113_0 {o0 x1 x2 x3 : Int} {σ : fx_S} {Q : fx_V → fx_S → Prop} (h : fx_CV 138 [(0, x1), (0, x2)] σ Q (fun σ1 => fx_CR 36 144 [(10, o0)] σ1 Q (fun y1 σ2 => fx_CI 68 [(36, y1), (0, x1), (0, x2)] σ2 Q (fun y2 σ3 => ((y2 = (-1) → fx_CV 66 [(36, 0), (0, x1), (0, x2)] σ3 Q (fun σ4 => ((x3 ≠ (-1) → ((x3 ≠ (-2) → ((x3 < 0 → Q (0, (-1)) σ4) ∧ (0 ≤ x3 → (((σ4 36 0 9) ≤ x3 → Q (0, (-1)) σ4) ∧ (x3 < (σ4 36 0 9) → (0 ≤ x3 ∧ x3 < 8) ∧ Q (0, (σ4 45 0 x3)) σ4))))) ∧ (x3 = (-2) → Q (0, (σ4 36 0 10)) σ4))) ∧ (x3 = (-1) → Q (0, (σ4 36 0 9)) σ4)))) ∧ (y2 ≠ (-1) → Q (0, (-1)) σ3)))))) : fx_Ca 113 [(10, o0), (0, x1), (0, x2), (0, x3)] σ Q := by
  show fx_Wp 113 0 [(10, o0), (0, x1), (0, x2), (0, x3)] [] σ Q
  refine wi_iload_n (pc' := 1) hm113 rfl rfl rfl ?_
  refine wi_iload_n (pc' := 2) hm113 rfl rfl rfl ?_
  refine wc_V (pc' := 5) (by decide) rfl (by decide) ((fx_wE hm113 rfl).trans (fx_exS (mj := 138) (as := [(0, x1), (0, x2)]) (rest := []) rfl rk138 rfl rfl rfl rfl)) h (fun σ1 h => ?_)
  refine wi_aload_n (pc' := 6) hm113 rfl rfl rfl (by decide) ?_
  refine wc_R (pc' := 9) (by decide) rfl (by decide) ((fx_wE hm113 rfl).trans (fx_exV (mj := 144) (as := []) (rest := []) rfl rk144 rfl rfl rfl rfl rfl)) h (fun y1 σ2 h => ?_)
  refine wi_iload_n (pc' := 10) hm113 rfl rfl rfl ?_
  refine wi_iload_n (pc' := 11) hm113 rfl rfl rfl ?_
  refine wc_I (pc' := 14) (by decide) rfl (by decide) ((fx_wE hm113 rfl).trans (fx_exV (mj := 68) (as := [(0, x1), (0, x2)]) (rest := []) rfl rk68 rfl rfl rfl rfl rfl)) h (fun y2 σ3 h => ?_)
  refine wi_iconst (pc' := 15) (v := (-1)) hm113 rfl rfl rfl ?_
  refine wi_ic_eq (pc' := 18) (t := 20) hm113 rfl rfl rfl (fun hc => ?_) (fun hc => ?_)
  · replace h := h.1 hc
    refine wi_aload_n (pc' := 21) hm113 rfl rfl rfl (by decide) ?_
    refine wi_getR (pc' := 24) (x := 0) hm113 rfl rfl rfl (by omega) ?_
    refine wi_iload_n (pc' := 25) hm113 rfl rfl rfl ?_
    refine wi_iload_n (pc' := 26) hm113 rfl rfl rfl ?_
    refine wc_V (pc' := 29) (by decide) rfl (by decide) ((fx_wE hm113 rfl).trans (fx_exV (mj := 66) (as := [(0, x1), (0, x2)]) (rest := []) rfl rk66 rfl rfl rfl rfl rfl)) h (fun σ4 h => ?_)
    refine wi_iload_n (pc' := 30) hm113 rfl rfl rfl ?_
    refine wi_iconst (pc' := 31) (v := (-1)) hm113 rfl rfl rfl ?_
    refine wi_ic_ne (pc' := 34) (t := 42) hm113 rfl rfl rfl (fun hc => ?_) (fun hc => ?_)
    · replace h := h.1 hc
      refine wi_iload_n (pc' := 43) hm113 rfl rfl rfl ?_
      refine wi_bipush (pc' := 45) (v := (-2)) hm113 rfl rfl rfl ?_
      refine wi_ic_ne (pc' := 48) (t := 56) hm113 rfl rfl rfl (fun hc => ?_) (fun hc => ?_)
      · replace h := h.1 hc
        refine wi_iload_n (pc' := 57) hm113 rfl rfl rfl ?_
        refine wi_if_lt (pc' := 60) (t := 83) hm113 rfl rfl rfl (fun hc => ?_) (fun hc => ?_)
        · replace h := h.1 hc
          refine wi_iconst (pc' := 84) (v := (-1)) hm113 rfl rfl rfl ?_
          exact wi_iret hm113 rfl h
        · replace h := h.2 hc
          refine wi_iload_n (pc' := 61) hm113 rfl rfl rfl ?_
          refine wi_aload_n (pc' := 62) hm113 rfl rfl rfl (by decide) ?_
          refine wi_getR (pc' := 65) (x := 0) hm113 rfl rfl rfl (by omega) ?_
          refine wi_getI (pc' := 68) hm113 rfl rfl (P := 9) rfl ?_
          refine wi_ic_ge (pc' := 71) (t := 83) hm113 rfl rfl rfl (fun hc => ?_) (fun hc => ?_)
          · replace h := h.1 hc
            refine wi_iconst (pc' := 84) (v := (-1)) hm113 rfl rfl rfl ?_
            exact wi_iret hm113 rfl h
          · replace h := h.2 hc
            refine wi_aload_n (pc' := 72) hm113 rfl rfl rfl (by decide) ?_
            refine wi_getR (pc' := 75) (x := 0) hm113 rfl rfl rfl (by omega) ?_
            refine wi_getR (pc' := 78) (x := 0) hm113 rfl rfl rfl (by omega) ?_
            refine wi_iload_n (pc' := 79) hm113 rfl rfl rfl ?_
            obtain ⟨g1, h⟩ := h
            refine wi_iaload (pc' := 80) hm113 rfl rfl rfl rfl (N := 8) rfl g1 ?_
            refine wi_goto (t := 84) hm113 rfl rfl ?_
            exact wi_iret hm113 rfl h
      · replace h := h.2 hc
        refine wi_aload_n (pc' := 49) hm113 rfl rfl rfl (by decide) ?_
        refine wi_getR (pc' := 52) (x := 0) hm113 rfl rfl rfl (by omega) ?_
        refine wi_getI (pc' := 55) hm113 rfl rfl (P := 10) rfl ?_
        exact wi_iret hm113 rfl h
    · replace h := h.2 hc
      refine wi_aload_n (pc' := 35) hm113 rfl rfl rfl (by decide) ?_
      refine wi_getR (pc' := 38) (x := 0) hm113 rfl rfl rfl (by omega) ?_
      refine wi_getI (pc' := 41) hm113 rfl rfl (P := 9) rfl ?_
      exact wi_iret hm113 rfl h
  · replace h := h.2 hc
    refine wi_iconst (pc' := 19) (v := (-1)) hm113 rfl rfl rfl ?_
    exact wi_iret hm113 rfl h
theorem hm114 : fx_code 114 = fx_c114 := rfl
theorem t114_0 {o0 x1 x2 x3 : Int} {σ : fx_S} {Q : fx_V → fx_S → Prop} (h : fx_CV 137 [(0, x1)] σ Q (fun σ1 => fx_CV 142 [(0, x3), (0, 3)] σ1 Q (fun σ2 => fx_CI 145 [(10, o0), (0, x1), (0, x2), (0, x3), (0, 0)] σ2 Q (fun y1 σ3 => Q (0, y1) σ3)))) : fx_Ca 114 [(10, o0), (0, x1), (0, x2), (0, x3)] σ Q := by
  show fx_Wp 114 0 [(10, o0), (0, x1), (0, x2), (0, x3)] [] σ Q
  refine wi_iload_n (pc' := 1) hm114 rfl rfl rfl ?_
  refine wc_V (pc' := 4) (by decide) rfl (by decide) ((fx_wE hm114 rfl).trans (fx_exS (mj := 137) (as := [(0, x1)]) (rest := []) rfl rk137 rfl rfl rfl rfl)) h (fun σ1 h => ?_)
  refine wi_iload_n (pc' := 5) hm114 rfl rfl rfl ?_
  refine wi_iconst (pc' := 6) (v := 3) hm114 rfl rfl rfl ?_
  refine wc_V (pc' := 9) (by decide) rfl (by decide) ((fx_wE hm114 rfl).trans (fx_exS (mj := 142) (as := [(0, x3), (0, 3)]) (rest := []) rfl rk142 rfl rfl rfl rfl)) h (fun σ2 h => ?_)
  refine wi_aload_n (pc' := 10) hm114 rfl rfl rfl (by decide) ?_
  refine wi_iload_n (pc' := 11) hm114 rfl rfl rfl ?_
  refine wi_iload_n (pc' := 12) hm114 rfl rfl rfl ?_
  refine wi_iload_n (pc' := 13) hm114 rfl rfl rfl ?_
  refine wi_iconst (pc' := 14) (v := 0) hm114 rfl rfl rfl ?_
  refine wc_I (pc' := 17) (by decide) rfl (by decide) ((fx_wE hm114 rfl).trans (fx_exV (mj := 145) (as := [(0, x1), (0, x2), (0, x3), (0, 0)]) (rest := []) rfl rk145 rfl rfl rfl rfl rfl)) h (fun y1 σ3 h => ?_)
  exact wi_iret hm114 rfl h
theorem hm115 : fx_code 115 = fx_c115 := rfl
theorem t115_0 {o0 x1 x2 x3 : Int} {σ : fx_S} {Q : fx_V → fx_S → Prop} (h : fx_CV 137 [(0, x1)] σ Q (fun σ1 => fx_CV 142 [(0, x3), (0, 2)] σ1 Q (fun σ2 => fx_CI 145 [(10, o0), (0, x1), (0, x2), (0, x3), (0, 1)] σ2 Q (fun y1 σ3 => Q (0, y1) σ3)))) : fx_Ca 115 [(10, o0), (0, x1), (0, x2), (0, x3)] σ Q := by
  show fx_Wp 115 0 [(10, o0), (0, x1), (0, x2), (0, x3)] [] σ Q
  refine wi_iload_n (pc' := 1) hm115 rfl rfl rfl ?_
  refine wc_V (pc' := 4) (by decide) rfl (by decide) ((fx_wE hm115 rfl).trans (fx_exS (mj := 137) (as := [(0, x1)]) (rest := []) rfl rk137 rfl rfl rfl rfl)) h (fun σ1 h => ?_)
  refine wi_iload_n (pc' := 5) hm115 rfl rfl rfl ?_
  refine wi_iconst (pc' := 6) (v := 2) hm115 rfl rfl rfl ?_
  refine wc_V (pc' := 9) (by decide) rfl (by decide) ((fx_wE hm115 rfl).trans (fx_exS (mj := 142) (as := [(0, x3), (0, 2)]) (rest := []) rfl rk142 rfl rfl rfl rfl)) h (fun σ2 h => ?_)
  refine wi_aload_n (pc' := 10) hm115 rfl rfl rfl (by decide) ?_
  refine wi_iload_n (pc' := 11) hm115 rfl rfl rfl ?_
  refine wi_iload_n (pc' := 12) hm115 rfl rfl rfl ?_
  refine wi_iload_n (pc' := 13) hm115 rfl rfl rfl ?_
  refine wi_iconst (pc' := 14) (v := 1) hm115 rfl rfl rfl ?_
  refine wc_I (pc' := 17) (by decide) rfl (by decide) ((fx_wE hm115 rfl).trans (fx_exV (mj := 145) (as := [(0, x1), (0, x2), (0, x3), (0, 1)]) (rest := []) rfl rk145 rfl rfl rfl rfl rfl)) h (fun y1 σ3 h => ?_)
  exact wi_iret hm115 rfl h
theorem hm116 : fx_code 116 = fx_c116 := rfl
theorem t116_0 {o0 x1 x2 : Int} {σ : fx_S} {Q : fx_V → fx_S → Prop} (h : fx_CV 137 [(0, x1)] σ Q (fun σ1 => fx_CR 36 144 [(10, o0)] σ1 Q (fun y1 σ2 => fx_CI 78 [(36, y1), (0, x1), (0, x2)] σ2 Q (fun y2 σ3 => Q (0, y2) σ3)))) : fx_Ca 116 [(10, o0), (0, x1), (0, x2)] σ Q := by
  show fx_Wp 116 0 [(10, o0), (0, x1), (0, x2)] [] σ Q
  refine wi_iload_n (pc' := 1) hm116 rfl rfl rfl ?_
  refine wc_V (pc' := 4) (by decide) rfl (by decide) ((fx_wE hm116 rfl).trans (fx_exS (mj := 137) (as := [(0, x1)]) (rest := []) rfl rk137 rfl rfl rfl rfl)) h (fun σ1 h => ?_)
  refine wi_aload_n (pc' := 5) hm116 rfl rfl rfl (by decide) ?_
  refine wc_R (pc' := 8) (by decide) rfl (by decide) ((fx_wE hm116 rfl).trans (fx_exV (mj := 144) (as := []) (rest := []) rfl rk144 rfl rfl rfl rfl rfl)) h (fun y1 σ2 h => ?_)
  refine wi_iload_n (pc' := 9) hm116 rfl rfl rfl ?_
  refine wi_iload_n (pc' := 10) hm116 rfl rfl rfl ?_
  refine wc_I (pc' := 13) (by decide) rfl (by decide) ((fx_wE hm116 rfl).trans (fx_exV (mj := 78) (as := [(0, x1), (0, x2)]) (rest := []) rfl rk78 rfl rfl rfl rfl rfl)) h (fun y2 σ3 h => ?_)
  exact wi_iret hm116 rfl h
theorem hm117 : fx_code 117 = fx_c117 := rfl
theorem t117_0 {o0 x1 x2 x3 : Int} {σ : fx_S} {Q : fx_V → fx_S → Prop} (h : fx_CV 138 [(0, x1), (0, x2)] σ Q (fun σ1 => ((x3 = 0 → fx_CR 36 144 [(10, o0)] σ1 Q (fun y1 σ2 => fx_CI 73 [(36, y1), (0, x1), (0, x2)] σ2 Q (fun y2 σ3 => ((1000 ≤ y2 → Q (0, (-1)) σ3) ∧ (y2 < 1000 → Q (0, y2) σ3))))) ∧ (x3 ≠ 0 → fx_CR 36 144 [(10, o0)] σ1 Q (fun y3 σ4 => fx_CI 72 [(36, y3), (0, x1), (0, x2)] σ4 Q (fun y4 σ5 => Q (0, y4) σ5)))))) : fx_Ca 117 [(10, o0), (0, x1), (0, x2), (0, x3)] σ Q := by
  show fx_Wp 117 0 [(10, o0), (0, x1), (0, x2), (0, x3), (3, 0)] [] σ Q
  refine wi_iload_n (pc' := 1) hm117 rfl rfl rfl ?_
  refine wi_iload_n (pc' := 2) hm117 rfl rfl rfl ?_
  refine wc_V (pc' := 5) (by decide) rfl (by decide) ((fx_wE hm117 rfl).trans (fx_exS (mj := 138) (as := [(0, x1), (0, x2)]) (rest := []) rfl rk138 rfl rfl rfl rfl)) h (fun σ1 h => ?_)
  refine wi_iload_n (pc' := 6) hm117 rfl rfl rfl ?_
  refine wi_if_eq (pc' := 9) (t := 19) hm117 rfl rfl rfl (fun hc => ?_) (fun hc => ?_)
  · replace h := h.1 hc
    refine wi_aload_n (pc' := 20) hm117 rfl rfl rfl (by decide) ?_
    refine wc_R (pc' := 23) (by decide) rfl (by decide) ((fx_wE hm117 rfl).trans (fx_exV (mj := 144) (as := []) (rest := []) rfl rk144 rfl rfl rfl rfl rfl)) h (fun y1 σ2 h => ?_)
    refine wi_iload_n (pc' := 24) hm117 rfl rfl rfl ?_
    refine wi_iload_n (pc' := 25) hm117 rfl rfl rfl ?_
    refine wc_I (pc' := 28) (by decide) rfl (by decide) ((fx_wE hm117 rfl).trans (fx_exV (mj := 73) (as := [(0, x1), (0, x2)]) (rest := []) rfl rk73 rfl rfl rfl rfl rfl)) h (fun y2 σ3 h => ?_)
    refine wi_istore (pc' := 30) (L' := [(10, o0), (0, x1), (0, x2), (0, x3), (0, y2)]) hm117 rfl rfl rfl ?_
    refine wi_iload (pc' := 32) hm117 rfl rfl rfl ?_
    refine wi_sipush (pc' := 35) (v := 1000) hm117 rfl rfl rfl ?_
    refine wi_ic_ge (pc' := 38) (t := 43) hm117 rfl rfl rfl (fun hc => ?_) (fun hc => ?_)
    · replace h := h.1 hc
      refine wi_iconst (pc' := 44) (v := (-1)) hm117 rfl rfl rfl ?_
      exact wi_iret hm117 rfl h
    · replace h := h.2 hc
      refine wi_iload (pc' := 40) hm117 rfl rfl rfl ?_
      refine wi_goto (t := 44) hm117 rfl rfl ?_
      exact wi_iret hm117 rfl h
  · replace h := h.2 hc
    refine wi_aload_n (pc' := 10) hm117 rfl rfl rfl (by decide) ?_
    refine wc_R (pc' := 13) (by decide) rfl (by decide) ((fx_wE hm117 rfl).trans (fx_exV (mj := 144) (as := []) (rest := []) rfl rk144 rfl rfl rfl rfl rfl)) h (fun y3 σ4 h => ?_)
    refine wi_iload_n (pc' := 14) hm117 rfl rfl rfl ?_
    refine wi_iload_n (pc' := 15) hm117 rfl rfl rfl ?_
    refine wc_I (pc' := 18) (by decide) rfl (by decide) ((fx_wE hm117 rfl).trans (fx_exV (mj := 72) (as := [(0, x1), (0, x2)]) (rest := []) rfl rk72 rfl rfl rfl rfl rfl)) h (fun y4 σ5 h => ?_)
    exact wi_iret hm117 rfl h
theorem hm118 : fx_code 118 = fx_c118 := rfl
theorem t118_0 {o0 x1 x2 : Int} {σ : fx_S} {Q : fx_V → fx_S → Prop} (h : fx_CV 138 [(0, x1), (0, x2)] σ Q (fun σ1 => fx_CR 36 144 [(10, o0)] σ1 Q (fun y1 σ2 => fx_CI 73 [(36, y1), (0, x1), (0, x2)] σ2 Q (fun y2 σ3 => fx_CR 36 144 [(10, o0)] σ3 Q (fun y3 σ4 => fx_CI 72 [(36, y3), (0, x1), (0, x2)] σ4 Q (fun y4 σ5 => (fx_rg (y2 - y4)) ∧ Q (0, (y2 - y4)) σ5)))))) : fx_Ca 118 [(10, o0), (0, x1), (0, x2)] σ Q := by
  show fx_Wp 118 0 [(10, o0), (0, x1), (0, x2)] [] σ Q
  refine wi_iload_n (pc' := 1) hm118 rfl rfl rfl ?_
  refine wi_iload_n (pc' := 2) hm118 rfl rfl rfl ?_
  refine wc_V (pc' := 5) (by decide) rfl (by decide) ((fx_wE hm118 rfl).trans (fx_exS (mj := 138) (as := [(0, x1), (0, x2)]) (rest := []) rfl rk138 rfl rfl rfl rfl)) h (fun σ1 h => ?_)
  refine wi_aload_n (pc' := 6) hm118 rfl rfl rfl (by decide) ?_
  refine wc_R (pc' := 9) (by decide) rfl (by decide) ((fx_wE hm118 rfl).trans (fx_exV (mj := 144) (as := []) (rest := []) rfl rk144 rfl rfl rfl rfl rfl)) h (fun y1 σ2 h => ?_)
  refine wi_iload_n (pc' := 10) hm118 rfl rfl rfl ?_
  refine wi_iload_n (pc' := 11) hm118 rfl rfl rfl ?_
  refine wc_I (pc' := 14) (by decide) rfl (by decide) ((fx_wE hm118 rfl).trans (fx_exV (mj := 73) (as := [(0, x1), (0, x2)]) (rest := []) rfl rk73 rfl rfl rfl rfl rfl)) h (fun y2 σ3 h => ?_)
  refine wi_aload_n (pc' := 15) hm118 rfl rfl rfl (by decide) ?_
  refine wc_R (pc' := 18) (by decide) rfl (by decide) ((fx_wE hm118 rfl).trans (fx_exV (mj := 144) (as := []) (rest := [(0, y2)]) rfl rk144 rfl rfl rfl rfl rfl)) h (fun y3 σ4 h => ?_)
  refine wi_iload_n (pc' := 19) hm118 rfl rfl rfl ?_
  refine wi_iload_n (pc' := 20) hm118 rfl rfl rfl ?_
  refine wc_I (pc' := 23) (by decide) rfl (by decide) ((fx_wE hm118 rfl).trans (fx_exV (mj := 72) (as := [(0, x1), (0, x2)]) (rest := [(0, y2)]) rfl rk72 rfl rfl rfl rfl rfl)) h (fun y4 σ5 h => ?_)
  obtain ⟨g1, h⟩ := h
  refine wi_isub (pc' := 24) hm118 rfl rfl g1 ?_
  exact wi_iret hm118 rfl h
theorem hm119 : fx_code 119 = fx_c119 := rfl
theorem t119_0 {o0 x1 x2 x3 : Int} {σ : fx_S} {Q : fx_V → fx_S → Prop} (h : fx_CV 138 [(0, x1), (0, x2)] σ Q (fun σ1 => fx_CV 141 [(0, x3), (0, 0), (0, 100)] σ1 Q (fun σ2 => fx_CR 36 144 [(10, o0)] σ2 Q (fun y1 σ3 => fx_CI 79 [(36, y1), (0, x1), (0, x2), (0, x3)] σ3 Q (fun y2 σ4 => Q (0, y2) σ4))))) : fx_Ca 119 [(10, o0), (0, x1), (0, x2), (0, x3)] σ Q := by
  show fx_Wp 119 0 [(10, o0), (0, x1), (0, x2), (0, x3)] [] σ Q
  refine wi_iload_n (pc' := 1) hm119 rfl rfl rfl ?_
  refine wi_iload_n (pc' := 2) hm119 rfl rfl rfl ?_
  refine wc_V (pc' := 5) (by decide) rfl (by decide) ((fx_wE hm119 rfl).trans (fx_exS (mj := 138) (as := [(0, x1), (0, x2)]) (rest := []) rfl rk138 rfl rfl rfl rfl)) h (fun σ1 h => ?_)
  refine wi_iload_n (pc' := 6) hm119 rfl rfl rfl ?_
  refine wi_iconst (pc' := 7) (v := 0) hm119 rfl rfl rfl ?_
  refine wi_bipush (pc' := 9) (v := 100) hm119 rfl rfl rfl ?_
  refine wc_V (pc' := 12) (by decide) rfl (by decide) ((fx_wE hm119 rfl).trans (fx_exS (mj := 141) (as := [(0, x3), (0, 0), (0, 100)]) (rest := []) rfl rk141 rfl rfl rfl rfl)) h (fun σ2 h => ?_)
  refine wi_aload_n (pc' := 13) hm119 rfl rfl rfl (by decide) ?_
  refine wc_R (pc' := 16) (by decide) rfl (by decide) ((fx_wE hm119 rfl).trans (fx_exV (mj := 144) (as := []) (rest := []) rfl rk144 rfl rfl rfl rfl rfl)) h (fun y1 σ3 h => ?_)
  refine wi_iload_n (pc' := 17) hm119 rfl rfl rfl ?_
  refine wi_iload_n (pc' := 18) hm119 rfl rfl rfl ?_
  refine wi_iload_n (pc' := 19) hm119 rfl rfl rfl ?_
  refine wc_I (pc' := 22) (by decide) rfl (by decide) ((fx_wE hm119 rfl).trans (fx_exV (mj := 79) (as := [(0, x1), (0, x2), (0, x3)]) (rest := []) rfl rk79 rfl rfl rfl rfl rfl)) h (fun y2 σ4 h => ?_)
  exact wi_iret hm119 rfl h
theorem hm120 : fx_code 120 = fx_c120 := rfl
theorem t120_0 {o0 x1 x2 : Int} {σ : fx_S} {Q : fx_V → fx_S → Prop} (h : fx_CV 138 [(0, x1), (0, x2)] σ Q (fun σ1 => fx_CR 36 144 [(10, o0)] σ1 Q (fun y1 σ2 => fx_CI 80 [(36, y1), (0, x1), (0, x2)] σ2 Q (fun y2 σ3 => Q (0, y2) σ3)))) : fx_Ca 120 [(10, o0), (0, x1), (0, x2)] σ Q := by
  show fx_Wp 120 0 [(10, o0), (0, x1), (0, x2)] [] σ Q
  refine wi_iload_n (pc' := 1) hm120 rfl rfl rfl ?_
  refine wi_iload_n (pc' := 2) hm120 rfl rfl rfl ?_
  refine wc_V (pc' := 5) (by decide) rfl (by decide) ((fx_wE hm120 rfl).trans (fx_exS (mj := 138) (as := [(0, x1), (0, x2)]) (rest := []) rfl rk138 rfl rfl rfl rfl)) h (fun σ1 h => ?_)
  refine wi_aload_n (pc' := 6) hm120 rfl rfl rfl (by decide) ?_
  refine wc_R (pc' := 9) (by decide) rfl (by decide) ((fx_wE hm120 rfl).trans (fx_exV (mj := 144) (as := []) (rest := []) rfl rk144 rfl rfl rfl rfl rfl)) h (fun y1 σ2 h => ?_)
  refine wi_iload_n (pc' := 10) hm120 rfl rfl rfl ?_
  refine wi_iload_n (pc' := 11) hm120 rfl rfl rfl ?_
  refine wc_I (pc' := 14) (by decide) rfl (by decide) ((fx_wE hm120 rfl).trans (fx_exV (mj := 80) (as := [(0, x1), (0, x2)]) (rest := []) rfl rk80 rfl rfl rfl rfl rfl)) h (fun y2 σ3 h => ?_)
  exact wi_iret hm120 rfl h
theorem hm121 : fx_code 121 = fx_c121 := rfl
theorem t121_0 {o0 x1 x2 : Int} {σ : fx_S} {Q : fx_V → fx_S → Prop} (h : fx_CV 138 [(0, x1), (0, x2)] σ Q (fun σ1 => fx_CR 36 144 [(10, o0)] σ1 Q (fun y1 σ2 => fx_CI 81 [(36, y1), (0, x1), (0, x2)] σ2 Q (fun y2 σ3 => ((y2 ≠ (-1) → (fx_rg (y2 - x2)) ∧ Q (0, (y2 - x2)) σ3) ∧ (y2 = (-1) → Q (0, (-1)) σ3)))))) : fx_Ca 121 [(10, o0), (0, x1), (0, x2)] σ Q := by
  show fx_Wp 121 0 [(10, o0), (0, x1), (0, x2), (3, 0)] [] σ Q
  refine wi_iload_n (pc' := 1) hm121 rfl rfl rfl ?_
  refine wi_iload_n (pc' := 2) hm121 rfl rfl rfl ?_
  refine wc_V (pc' := 5) (by decide) rfl (by decide) ((fx_wE hm121 rfl).trans (fx_exS (mj := 138) (as := [(0, x1), (0, x2)]) (rest := []) rfl rk138 rfl rfl rfl rfl)) h (fun σ1 h => ?_)
  refine wi_aload_n (pc' := 6) hm121 rfl rfl rfl (by decide) ?_
  refine wc_R (pc' := 9) (by decide) rfl (by decide) ((fx_wE hm121 rfl).trans (fx_exV (mj := 144) (as := []) (rest := []) rfl rk144 rfl rfl rfl rfl rfl)) h (fun y1 σ2 h => ?_)
  refine wi_iload_n (pc' := 10) hm121 rfl rfl rfl ?_
  refine wi_iload_n (pc' := 11) hm121 rfl rfl rfl ?_
  refine wc_I (pc' := 14) (by decide) rfl (by decide) ((fx_wE hm121 rfl).trans (fx_exV (mj := 81) (as := [(0, x1), (0, x2)]) (rest := []) rfl rk81 rfl rfl rfl rfl rfl)) h (fun y2 σ3 h => ?_)
  refine wi_istore_n (pc' := 15) (L' := [(10, o0), (0, x1), (0, x2), (0, y2)]) hm121 rfl rfl rfl ?_
  refine wi_iload_n (pc' := 16) hm121 rfl rfl rfl ?_
  refine wi_iconst (pc' := 17) (v := (-1)) hm121 rfl rfl rfl ?_
  refine wi_ic_ne (pc' := 20) (t := 24) hm121 rfl rfl rfl (fun hc => ?_) (fun hc => ?_)
  · replace h := h.1 hc
    refine wi_iload_n (pc' := 25) hm121 rfl rfl rfl ?_
    refine wi_iload_n (pc' := 26) hm121 rfl rfl rfl ?_
    obtain ⟨g1, h⟩ := h
    refine wi_isub (pc' := 27) hm121 rfl rfl g1 ?_
    exact wi_iret hm121 rfl h
  · replace h := h.2 hc
    refine wi_iconst (pc' := 21) (v := (-1)) hm121 rfl rfl rfl ?_
    refine wi_goto (t := 27) hm121 rfl rfl ?_
    exact wi_iret hm121 rfl h
theorem hm122 : fx_code 122 = fx_c122 := rfl
theorem t122_0 {o0 x1 x2 x3 : Int} {σ : fx_S} {Q : fx_V → fx_S → Prop} (h : fx_CV 137 [(0, x1)] σ Q (fun σ1 => fx_CV 137 [(0, x2)] σ1 Q (fun σ2 => fx_CV 141 [(0, x3), (0, 0), (0, 13)] σ2 Q (fun σ3 => fx_CR 36 144 [(10, o0)] σ3 Q (fun y1 σ4 => fx_CI 82 [(36, y1), (0, x1), (0, x2), (0, x3)] σ4 Q (fun y2 σ5 => Q (0, y2) σ5)))))) : fx_Ca 122 [(10, o0), (0, x1), (0, x2), (0, x3)] σ Q := by
  show fx_Wp 122 0 [(10, o0), (0, x1), (0, x2), (0, x3)] [] σ Q
  refine wi_iload_n (pc' := 1) hm122 rfl rfl rfl ?_
  refine wc_V (pc' := 4) (by decide) rfl (by decide) ((fx_wE hm122 rfl).trans (fx_exS (mj := 137) (as := [(0, x1)]) (rest := []) rfl rk137 rfl rfl rfl rfl)) h (fun σ1 h => ?_)
  refine wi_iload_n (pc' := 5) hm122 rfl rfl rfl ?_
  refine wc_V (pc' := 8) (by decide) rfl (by decide) ((fx_wE hm122 rfl).trans (fx_exS (mj := 137) (as := [(0, x2)]) (rest := []) rfl rk137 rfl rfl rfl rfl)) h (fun σ2 h => ?_)
  refine wi_iload_n (pc' := 9) hm122 rfl rfl rfl ?_
  refine wi_iconst (pc' := 10) (v := 0) hm122 rfl rfl rfl ?_
  refine wi_bipush (pc' := 12) (v := 13) hm122 rfl rfl rfl ?_
  refine wc_V (pc' := 15) (by decide) rfl (by decide) ((fx_wE hm122 rfl).trans (fx_exS (mj := 141) (as := [(0, x3), (0, 0), (0, 13)]) (rest := []) rfl rk141 rfl rfl rfl rfl)) h (fun σ3 h => ?_)
  refine wi_aload_n (pc' := 16) hm122 rfl rfl rfl (by decide) ?_
  refine wc_R (pc' := 19) (by decide) rfl (by decide) ((fx_wE hm122 rfl).trans (fx_exV (mj := 144) (as := []) (rest := []) rfl rk144 rfl rfl rfl rfl rfl)) h (fun y1 σ4 h => ?_)
  refine wi_iload_n (pc' := 20) hm122 rfl rfl rfl ?_
  refine wi_iload_n (pc' := 21) hm122 rfl rfl rfl ?_
  refine wi_iload_n (pc' := 22) hm122 rfl rfl rfl ?_
  refine wc_I (pc' := 25) (by decide) rfl (by decide) ((fx_wE hm122 rfl).trans (fx_exV (mj := 82) (as := [(0, x1), (0, x2), (0, x3)]) (rest := []) rfl rk82 rfl rfl rfl rfl rfl)) h (fun y2 σ5 h => ?_)
  exact wi_iret hm122 rfl h
theorem hm123 : fx_code 123 = fx_c123 := rfl
theorem t123_0 {o0 x1 x2 : Int} {σ : fx_S} {Q : fx_V → fx_S → Prop} (h : fx_CV 137 [(0, x1)] σ Q (fun σ1 => fx_CV 137 [(0, x2)] σ1 Q (fun σ2 => fx_CR 36 144 [(10, o0)] σ2 Q (fun y1 σ3 => fx_CI 84 [(36, y1), (0, x1), (0, x2)] σ3 Q (fun y2 σ4 => Q (0, y2) σ4))))) : fx_Ca 123 [(10, o0), (0, x1), (0, x2)] σ Q := by
  show fx_Wp 123 0 [(10, o0), (0, x1), (0, x2)] [] σ Q
  refine wi_iload_n (pc' := 1) hm123 rfl rfl rfl ?_
  refine wc_V (pc' := 4) (by decide) rfl (by decide) ((fx_wE hm123 rfl).trans (fx_exS (mj := 137) (as := [(0, x1)]) (rest := []) rfl rk137 rfl rfl rfl rfl)) h (fun σ1 h => ?_)
  refine wi_iload_n (pc' := 5) hm123 rfl rfl rfl ?_
  refine wc_V (pc' := 8) (by decide) rfl (by decide) ((fx_wE hm123 rfl).trans (fx_exS (mj := 137) (as := [(0, x2)]) (rest := []) rfl rk137 rfl rfl rfl rfl)) h (fun σ2 h => ?_)
  refine wi_aload_n (pc' := 9) hm123 rfl rfl rfl (by decide) ?_
  refine wc_R (pc' := 12) (by decide) rfl (by decide) ((fx_wE hm123 rfl).trans (fx_exV (mj := 144) (as := []) (rest := []) rfl rk144 rfl rfl rfl rfl rfl)) h (fun y1 σ3 h => ?_)
  refine wi_iload_n (pc' := 13) hm123 rfl rfl rfl ?_
  refine wi_iload_n (pc' := 14) hm123 rfl rfl rfl ?_
  refine wc_I (pc' := 17) (by decide) rfl (by decide) ((fx_wE hm123 rfl).trans (fx_exV (mj := 84) (as := [(0, x1), (0, x2)]) (rest := []) rfl rk84 rfl rfl rfl rfl rfl)) h (fun y2 σ4 h => ?_)
  exact wi_iret hm123 rfl h
theorem hm124 : fx_code 124 = fx_c124 := rfl
theorem t124_0 {o0 x1 x2 : Int} {σ : fx_S} {Q : fx_V → fx_S → Prop} (h : fx_CV 137 [(0, x1)] σ Q (fun σ1 => fx_CV 141 [(0, x2), (0, 0), (0, 100)] σ1 Q (fun σ2 => fx_CR 36 144 [(10, o0)] σ2 Q (fun y1 σ3 => fx_CI 85 [(36, y1), (0, x1), (0, x2)] σ3 Q (fun y2 σ4 => Q (0, y2) σ4))))) : fx_Ca 124 [(10, o0), (0, x1), (0, x2)] σ Q := by
  show fx_Wp 124 0 [(10, o0), (0, x1), (0, x2)] [] σ Q
  refine wi_iload_n (pc' := 1) hm124 rfl rfl rfl ?_
  refine wc_V (pc' := 4) (by decide) rfl (by decide) ((fx_wE hm124 rfl).trans (fx_exS (mj := 137) (as := [(0, x1)]) (rest := []) rfl rk137 rfl rfl rfl rfl)) h (fun σ1 h => ?_)
  refine wi_iload_n (pc' := 5) hm124 rfl rfl rfl ?_
  refine wi_iconst (pc' := 6) (v := 0) hm124 rfl rfl rfl ?_
  refine wi_bipush (pc' := 8) (v := 100) hm124 rfl rfl rfl ?_
  refine wc_V (pc' := 11) (by decide) rfl (by decide) ((fx_wE hm124 rfl).trans (fx_exS (mj := 141) (as := [(0, x2), (0, 0), (0, 100)]) (rest := []) rfl rk141 rfl rfl rfl rfl)) h (fun σ2 h => ?_)
  refine wi_aload_n (pc' := 12) hm124 rfl rfl rfl (by decide) ?_
  refine wc_R (pc' := 15) (by decide) rfl (by decide) ((fx_wE hm124 rfl).trans (fx_exV (mj := 144) (as := []) (rest := []) rfl rk144 rfl rfl rfl rfl rfl)) h (fun y1 σ3 h => ?_)
  refine wi_iload_n (pc' := 16) hm124 rfl rfl rfl ?_
  refine wi_iload_n (pc' := 17) hm124 rfl rfl rfl ?_
  refine wc_I (pc' := 20) (by decide) rfl (by decide) ((fx_wE hm124 rfl).trans (fx_exV (mj := 85) (as := [(0, x1), (0, x2)]) (rest := []) rfl rk85 rfl rfl rfl rfl rfl)) h (fun y2 σ4 h => ?_)
  exact wi_iret hm124 rfl h
theorem hm125 : fx_code 125 = fx_c125 := rfl
theorem t125_0 {o0 x1 x2 : Int} {σ : fx_S} {Q : fx_V → fx_S → Prop} (h : fx_CV 137 [(0, x1)] σ Q (fun σ1 => fx_CV 142 [(0, x2), (0, 7)] σ1 Q (fun σ2 => (0 ≤ x1 ∧ x1 < 8) ∧ ((x2 = 0 → fx_CI 44 [(11, 0), (0, x1)] σ2 Q (fun y1 σ3 => Q (0, y1) σ3)) ∧ (x2 ≠ 0 → ((x2 = 1 → fx_CR 36 144 [(10, o0)] σ2 Q (fun y2 σ4 => fx_CI 84 [(36, y2), (0, x1), (0, x1)] σ4 Q (fun y3 σ5 => Q (0, y3) σ5))) ∧ (x2 ≠ 1 → ((x2 = 2 → fx_CR 36 144 [(10, o0)] σ2 Q (fun y4 σ6 => fx_CI 88 [(36, y4), (0, x1)] σ6 Q (fun y5 σ7 => Q (0, y5) σ7))) ∧ (x2 ≠ 2 → ((x2 = 3 → fx_CR 36 144 [(10, o0)] σ2 Q (fun y6 σ8 => fx_CI 87 [(36, y6), (0, x1)] σ8 Q (fun y7 σ9 => Q (0, y7) σ9))) ∧ (x2 ≠ 3 → ((x2 = 4 → fx_CI 3 [(22, x1)] σ2 Q (fun y8 σ10 => ((y8 = 0 → Q (0, (-1)) σ10) ∧ (y8 ≠ 0 → Q (0, (σ10 22 x1 4)) σ10)))) ∧ (x2 ≠ 4 → ((x2 = 5 → Q (0, (σ2 22 x1 5)) σ2) ∧ (x2 ≠ 5 → fx_CR 36 144 [(10, o0)] σ2 Q (fun y9 σ11 => fx_CI 86 [(36, y9), (0, x1)] σ11 Q (fun y10 σ12 => Q (0, y10) σ12))))))))))))))))) : fx_Ca 125 [(10, o0), (0, x1), (0, x2)] σ Q := by
  show fx_Wp 125 0 [(10, o0), (0, x1), (0, x2), (3, 0)] [] σ Q
  refine wi_iload_n (pc' := 1) hm125 rfl rfl rfl ?_
  refine wc_V (pc' := 4) (by decide) rfl (by decide) ((fx_wE hm125 rfl).trans (fx_exS (mj := 137) (as := [(0, x1)]) (rest := []) rfl rk137 rfl rfl rfl rfl)) h (fun σ1 h => ?_)
  refine wi_iload_n (pc' := 5) hm125 rfl rfl rfl ?_
  refine wi_bipush (pc' := 7) (v := 7) hm125 rfl rfl rfl ?_
  refine wc_V (pc' := 10) (by decide) rfl (by decide) ((fx_wE hm125 rfl).trans (fx_exS (mj := 142) (as := [(0, x2), (0, 7)]) (rest := []) rfl rk142 rfl rfl rfl rfl)) h (fun σ2 h => ?_)
  refine wi_aload_n (pc' := 11) hm125 rfl rfl rfl (by decide) ?_
  refine wi_getR (pc' := 14) (x := 0) hm125 rfl rfl rfl (by omega) ?_
  refine wi_getR (pc' := 17) (x := 0) hm125 rfl rfl rfl (by omega) ?_
  refine wi_iload_n (pc' := 18) hm125 rfl rfl rfl ?_
  obtain ⟨g1, h⟩ := h
  refine wi_aaload (pc' := 19) (x := x1) hm125 rfl rfl rfl rfl (N := 8) rfl g1 (by omega) ?_
  refine wi_astore_n (pc' := 20) (L' := [(10, o0), (0, x1), (0, x2), (22, x1)]) hm125 rfl rfl (by decide) rfl ?_
  refine wi_iload_n (pc' := 21) hm125 rfl rfl rfl ?_
  refine wi_tsw hm125 rfl ?_
  refine fx_swc (fun hc => ?_) (fun hc => ?_)
  · replace h := h.1 hc
    refine wi_aload_n (pc' := 61) hm125 rfl rfl rfl (by decide) ?_
    refine wi_getR (pc' := 64) (x := 0) hm125 rfl rfl rfl (by omega) ?_
    refine wi_iload_n (pc' := 65) hm125 rfl rfl rfl ?_
    refine wc_I (pc' := 68) (by decide) rfl (by decide) ((fx_wE hm125 rfl).trans (fx_exV (mj := 44) (as := [(0, x1)]) (rest := []) rfl rk44 rfl rfl rfl rfl rfl)) h (fun y1 σ3 h => ?_)
    exact wi_iret hm125 rfl h
  · replace h := h.2 hc
    refine fx_swc (fun hc => ?_) (fun hc => ?_)
    · replace h := h.1 hc
      refine wi_aload_n (pc' := 70) hm125 rfl rfl rfl (by decide) ?_
      refine wc_R (pc' := 73) (by decide) rfl (by decide) ((fx_wE hm125 rfl).trans (fx_exV (mj := 144) (as := []) (rest := []) rfl rk144 rfl rfl rfl rfl rfl)) h (fun y2 σ4 h => ?_)
      refine wi_iload_n (pc' := 74) hm125 rfl rfl rfl ?_
      refine wi_iload_n (pc' := 75) hm125 rfl rfl rfl ?_
      refine wc_I (pc' := 78) (by decide) rfl (by decide) ((fx_wE hm125 rfl).trans (fx_exV (mj := 84) (as := [(0, x1), (0, x1)]) (rest := []) rfl rk84 rfl rfl rfl rfl rfl)) h (fun y3 σ5 h => ?_)
      exact wi_iret hm125 rfl h
    · replace h := h.2 hc
      refine fx_swc (fun hc => ?_) (fun hc => ?_)
      · replace h := h.1 hc
        refine wi_aload_n (pc' := 80) hm125 rfl rfl rfl (by decide) ?_
        refine wc_R (pc' := 83) (by decide) rfl (by decide) ((fx_wE hm125 rfl).trans (fx_exV (mj := 144) (as := []) (rest := []) rfl rk144 rfl rfl rfl rfl rfl)) h (fun y4 σ6 h => ?_)
        refine wi_iload_n (pc' := 84) hm125 rfl rfl rfl ?_
        refine wc_I (pc' := 87) (by decide) rfl (by decide) ((fx_wE hm125 rfl).trans (fx_exV (mj := 88) (as := [(0, x1)]) (rest := []) rfl rk88 rfl rfl rfl rfl rfl)) h (fun y5 σ7 h => ?_)
        exact wi_iret hm125 rfl h
      · replace h := h.2 hc
        refine fx_swc (fun hc => ?_) (fun hc => ?_)
        · replace h := h.1 hc
          refine wi_aload_n (pc' := 89) hm125 rfl rfl rfl (by decide) ?_
          refine wc_R (pc' := 92) (by decide) rfl (by decide) ((fx_wE hm125 rfl).trans (fx_exV (mj := 144) (as := []) (rest := []) rfl rk144 rfl rfl rfl rfl rfl)) h (fun y6 σ8 h => ?_)
          refine wi_iload_n (pc' := 93) hm125 rfl rfl rfl ?_
          refine wc_I (pc' := 96) (by decide) rfl (by decide) ((fx_wE hm125 rfl).trans (fx_exV (mj := 87) (as := [(0, x1)]) (rest := []) rfl rk87 rfl rfl rfl rfl rfl)) h (fun y7 σ9 h => ?_)
          exact wi_iret hm125 rfl h
        · replace h := h.2 hc
          refine fx_swc (fun hc => ?_) (fun hc => ?_)
          · replace h := h.1 hc
            refine wi_aload_n (pc' := 98) hm125 rfl rfl rfl (by decide) ?_
            refine wc_I (pc' := 101) (by decide) rfl (by decide) ((fx_wE hm125 rfl).trans (fx_exV (mj := 3) (as := []) (rest := []) rfl rk3 rfl rfl rfl rfl rfl)) h (fun y8 σ10 h => ?_)
            refine wi_if_eq (pc' := 104) (t := 111) hm125 rfl rfl rfl (fun hc => ?_) (fun hc => ?_)
            · replace h := h.1 hc
              refine wi_iconst (pc' := 112) (v := (-1)) hm125 rfl rfl rfl ?_
              exact wi_iret hm125 rfl h
            · replace h := h.2 hc
              refine wi_aload_n (pc' := 105) hm125 rfl rfl rfl (by decide) ?_
              refine wi_getI (pc' := 108) hm125 rfl rfl (P := 4) rfl ?_
              refine wi_goto (t := 112) hm125 rfl rfl ?_
              exact wi_iret hm125 rfl h
          · replace h := h.2 hc
            refine fx_swc (fun hc => ?_) (fun hc => ?_)
            · replace h := h.1 hc
              refine wi_aload_n (pc' := 114) hm125 rfl rfl rfl (by decide) ?_
              refine wi_getI (pc' := 117) hm125 rfl rfl (P := 5) rfl ?_
              exact wi_iret hm125 rfl h
            · replace h := h.2 hc
              refine fx_swn ?_
              refine wi_aload_n (pc' := 119) hm125 rfl rfl rfl (by decide) ?_
              refine wc_R (pc' := 122) (by decide) rfl (by decide) ((fx_wE hm125 rfl).trans (fx_exV (mj := 144) (as := []) (rest := []) rfl rk144 rfl rfl rfl rfl rfl)) h (fun y9 σ11 h => ?_)
              refine wi_iload_n (pc' := 123) hm125 rfl rfl rfl ?_
              refine wc_I (pc' := 126) (by decide) rfl (by decide) ((fx_wE hm125 rfl).trans (fx_exV (mj := 86) (as := [(0, x1)]) (rest := []) rfl rk86 rfl rfl rfl rfl rfl)) h (fun y10 σ12 h => ?_)
              exact wi_iret hm125 rfl h
theorem hm126 : fx_code 126 = fx_c126 := rfl
theorem t126_0 {o0 x1 x2 : Int} {σ : fx_S} {Q : fx_V → fx_S → Prop} (h : fx_CV 140 [(10, o0), (0, x1)] σ Q (fun σ1 => fx_CV 142 [(0, x2), (0, 8)] σ1 Q (fun σ2 => ((x2 = 0 → (0 ≤ x1 ∧ x1 < 60) ∧ Q (0, (σ2 15 0 x1)) σ2) ∧ (x2 ≠ 0 → ((x2 = 1 → (0 ≤ x1 ∧ x1 < 60) ∧ Q (0, (σ2 16 0 x1)) σ2) ∧ (x2 ≠ 1 → ((x2 = 2 → (0 ≤ x1 ∧ x1 < 60) ∧ Q (0, (σ2 17 0 x1)) σ2) ∧ (x2 ≠ 2 → ((x2 = 3 → (0 ≤ x1 ∧ x1 < 60) ∧ Q (0, (σ2 18 0 x1)) σ2) ∧ (x2 ≠ 3 → ((x2 = 4 → (0 ≤ x1 ∧ x1 < 60) ∧ Q (0, (σ2 19 0 x1)) σ2) ∧ (x2 ≠ 4 → ((x2 = 5 → (0 ≤ x1 ∧ x1 < 60) ∧ (((σ2 20 0 x1) = 0 → Q (0, 0) σ2) ∧ ((σ2 20 0 x1) ≠ 0 → Q (0, 1) σ2))) ∧ (x2 ≠ 5 → ((x2 = 6 → fx_CR 36 144 [(10, o0)] σ2 Q (fun y1 σ3 => fx_CI 89 [(36, y1), (0, x1)] σ3 Q (fun y2 σ4 => Q (0, y2) σ4))) ∧ (x2 ≠ 6 → fx_CI 146 [(10, o0), (0, x1)] σ2 Q (fun y3 σ5 => Q (0, y3) σ5)))))))))))))))))) : fx_Ca 126 [(10, o0), (0, x1), (0, x2)] σ Q := by
  show fx_Wp 126 0 [(10, o0), (0, x1), (0, x2)] [] σ Q
  refine wi_aload_n (pc' := 1) hm126 rfl rfl rfl (by decide) ?_
  refine wi_iload_n (pc' := 2) hm126 rfl rfl rfl ?_
  refine wc_V (pc' := 5) (by decide) rfl (by decide) ((fx_wE hm126 rfl).trans (fx_exV (mj := 140) (as := [(0, x1)]) (rest := []) rfl rk140 rfl rfl rfl rfl rfl)) h (fun σ1 h => ?_)
  refine wi_iload_n (pc' := 6) hm126 rfl rfl rfl ?_
  refine wi_bipush (pc' := 8) (v := 8) hm126 rfl rfl rfl ?_
  refine wc_V (pc' := 11) (by decide) rfl (by decide) ((fx_wE hm126 rfl).trans (fx_exS (mj := 142) (as := [(0, x2), (0, 8)]) (rest := []) rfl rk142 rfl rfl rfl rfl)) h (fun σ2 h => ?_)
  refine wi_iload_n (pc' := 12) hm126 rfl rfl rfl ?_
  refine wi_tsw hm126 rfl ?_
  refine fx_swc (fun hc => ?_) (fun hc => ?_)
  · replace h := h.1 hc
    refine wi_aload_n (pc' := 57) hm126 rfl rfl rfl (by decide) ?_
    refine wi_getR (pc' := 60) (x := 0) hm126 rfl rfl rfl (by omega) ?_
    refine wi_getR (pc' := 63) (x := 0) hm126 rfl rfl rfl (by omega) ?_
    refine wi_iload_n (pc' := 64) hm126 rfl rfl rfl ?_
    obtain ⟨g1, h⟩ := h
    refine wi_iaload (pc' := 65) hm126 rfl rfl rfl rfl (N := 60) rfl g1 ?_
    exact wi_iret hm126 rfl h
  · replace h := h.2 hc
    refine fx_swc (fun hc => ?_) (fun hc => ?_)
    · replace h := h.1 hc
      refine wi_aload_n (pc' := 67) hm126 rfl rfl rfl (by decide) ?_
      refine wi_getR (pc' := 70) (x := 0) hm126 rfl rfl rfl (by omega) ?_
      refine wi_getR (pc' := 73) (x := 0) hm126 rfl rfl rfl (by omega) ?_
      refine wi_iload_n (pc' := 74) hm126 rfl rfl rfl ?_
      obtain ⟨g1, h⟩ := h
      refine wi_iaload (pc' := 75) hm126 rfl rfl rfl rfl (N := 60) rfl g1 ?_
      exact wi_iret hm126 rfl h
    · replace h := h.2 hc
      refine fx_swc (fun hc => ?_) (fun hc => ?_)
      · replace h := h.1 hc
        refine wi_aload_n (pc' := 77) hm126 rfl rfl rfl (by decide) ?_
        refine wi_getR (pc' := 80) (x := 0) hm126 rfl rfl rfl (by omega) ?_
        refine wi_getR (pc' := 83) (x := 0) hm126 rfl rfl rfl (by omega) ?_
        refine wi_iload_n (pc' := 84) hm126 rfl rfl rfl ?_
        obtain ⟨g1, h⟩ := h
        refine wi_iaload (pc' := 85) hm126 rfl rfl rfl rfl (N := 60) rfl g1 ?_
        exact wi_iret hm126 rfl h
      · replace h := h.2 hc
        refine fx_swc (fun hc => ?_) (fun hc => ?_)
        · replace h := h.1 hc
          refine wi_aload_n (pc' := 87) hm126 rfl rfl rfl (by decide) ?_
          refine wi_getR (pc' := 90) (x := 0) hm126 rfl rfl rfl (by omega) ?_
          refine wi_getR (pc' := 93) (x := 0) hm126 rfl rfl rfl (by omega) ?_
          refine wi_iload_n (pc' := 94) hm126 rfl rfl rfl ?_
          obtain ⟨g1, h⟩ := h
          refine wi_iaload (pc' := 95) hm126 rfl rfl rfl rfl (N := 60) rfl g1 ?_
          exact wi_iret hm126 rfl h
        · replace h := h.2 hc
          refine fx_swc (fun hc => ?_) (fun hc => ?_)
          · replace h := h.1 hc
            refine wi_aload_n (pc' := 97) hm126 rfl rfl rfl (by decide) ?_
            refine wi_getR (pc' := 100) (x := 0) hm126 rfl rfl rfl (by omega) ?_
            refine wi_getR (pc' := 103) (x := 0) hm126 rfl rfl rfl (by omega) ?_
            refine wi_iload_n (pc' := 104) hm126 rfl rfl rfl ?_
            obtain ⟨g1, h⟩ := h
            refine wi_iaload (pc' := 105) hm126 rfl rfl rfl rfl (N := 60) rfl g1 ?_
            exact wi_iret hm126 rfl h
          · replace h := h.2 hc
            refine fx_swc (fun hc => ?_) (fun hc => ?_)
            · replace h := h.1 hc
              refine wi_aload_n (pc' := 107) hm126 rfl rfl rfl (by decide) ?_
              refine wi_getR (pc' := 110) (x := 0) hm126 rfl rfl rfl (by omega) ?_
              refine wi_getR (pc' := 113) (x := 0) hm126 rfl rfl rfl (by omega) ?_
              refine wi_iload_n (pc' := 114) hm126 rfl rfl rfl ?_
              obtain ⟨g1, h⟩ := h
              refine wi_baload (pc' := 115) hm126 rfl rfl rfl (N := 60) rfl g1 ?_
              refine wi_if_eq (pc' := 118) (t := 122) hm126 rfl rfl rfl (fun hc => ?_) (fun hc => ?_)
              · replace h := h.1 hc
                refine wi_iconst (pc' := 123) (v := 0) hm126 rfl rfl rfl ?_
                exact wi_iret hm126 rfl h
              · replace h := h.2 hc
                refine wi_iconst (pc' := 119) (v := 1) hm126 rfl rfl rfl ?_
                refine wi_goto (t := 123) hm126 rfl rfl ?_
                exact wi_iret hm126 rfl h
            · replace h := h.2 hc
              refine fx_swc (fun hc => ?_) (fun hc => ?_)
              · replace h := h.1 hc
                refine wi_aload_n (pc' := 125) hm126 rfl rfl rfl (by decide) ?_
                refine wc_R (pc' := 128) (by decide) rfl (by decide) ((fx_wE hm126 rfl).trans (fx_exV (mj := 144) (as := []) (rest := []) rfl rk144 rfl rfl rfl rfl rfl)) h (fun y1 σ3 h => ?_)
                refine wi_iload_n (pc' := 129) hm126 rfl rfl rfl ?_
                refine wc_I (pc' := 132) (by decide) rfl (by decide) ((fx_wE hm126 rfl).trans (fx_exV (mj := 89) (as := [(0, x1)]) (rest := []) rfl rk89 rfl rfl rfl rfl rfl)) h (fun y2 σ4 h => ?_)
                exact wi_iret hm126 rfl h
              · replace h := h.2 hc
                refine fx_swn ?_
                refine wi_aload_n (pc' := 134) hm126 rfl rfl rfl (by decide) ?_
                refine wi_iload_n (pc' := 135) hm126 rfl rfl rfl ?_
                refine wc_I (pc' := 138) (by decide) rfl (by decide) ((fx_wE hm126 rfl).trans (fx_exV (mj := 146) (as := [(0, x1)]) (rest := []) rfl rk146 rfl rfl rfl rfl rfl)) h (fun y3 σ5 h => ?_)
                exact wi_iret hm126 rfl h
theorem hm127 : fx_code 127 = fx_c127 := rfl
theorem t127_0 {o0 x1 x2 : Int} {σ : fx_S} {Q : fx_V → fx_S → Prop} (h : fx_CV 140 [(10, o0), (0, x1)] σ Q (fun σ1 => fx_CV 140 [(10, o0), (0, x2)] σ1 Q (fun σ2 => ((x1 ≠ x2 → (0 ≤ x1 ∧ x1 < 60) ∧ (0 ≤ x2 ∧ x2 < 60) ∧ fx_CI 147 [(0, (σ2 17 0 x1)), (0, (σ2 18 0 x1)), (0, (σ2 17 0 x2)), (0, (σ2 18 0 x2))] σ2 Q (fun y1 σ3 => Q (0, y1) σ3)) ∧ (x1 = x2 → Q (5, 0) σ2))))) : fx_Ca 127 [(10, o0), (0, x1), (0, x2)] σ Q := by
  show fx_Wp 127 0 [(10, o0), (0, x1), (0, x2)] [] σ Q
  refine wi_aload_n (pc' := 1) hm127 rfl rfl rfl (by decide) ?_
  refine wi_iload_n (pc' := 2) hm127 rfl rfl rfl ?_
  refine wc_V (pc' := 5) (by decide) rfl (by decide) ((fx_wE hm127 rfl).trans (fx_exV (mj := 140) (as := [(0, x1)]) (rest := []) rfl rk140 rfl rfl rfl rfl rfl)) h (fun σ1 h => ?_)
  refine wi_aload_n (pc' := 6) hm127 rfl rfl rfl (by decide) ?_
  refine wi_iload_n (pc' := 7) hm127 rfl rfl rfl ?_
  refine wc_V (pc' := 10) (by decide) rfl (by decide) ((fx_wE hm127 rfl).trans (fx_exV (mj := 140) (as := [(0, x2)]) (rest := []) rfl rk140 rfl rfl rfl rfl rfl)) h (fun σ2 h => ?_)
  refine wi_iload_n (pc' := 11) hm127 rfl rfl rfl ?_
  refine wi_iload_n (pc' := 12) hm127 rfl rfl rfl ?_
  refine wi_ic_ne (pc' := 15) (t := 26) hm127 rfl rfl rfl (fun hc => ?_) (fun hc => ?_)
  · replace h := h.1 hc
    refine wi_aload_n (pc' := 27) hm127 rfl rfl rfl (by decide) ?_
    refine wi_getR (pc' := 30) (x := 0) hm127 rfl rfl rfl (by omega) ?_
    refine wi_getR (pc' := 33) (x := 0) hm127 rfl rfl rfl (by omega) ?_
    refine wi_iload_n (pc' := 34) hm127 rfl rfl rfl ?_
    obtain ⟨g1, h⟩ := h
    refine wi_iaload (pc' := 35) hm127 rfl rfl rfl rfl (N := 60) rfl g1 ?_
    refine wi_aload_n (pc' := 36) hm127 rfl rfl rfl (by decide) ?_
    refine wi_getR (pc' := 39) (x := 0) hm127 rfl rfl rfl (by omega) ?_
    refine wi_getR (pc' := 42) (x := 0) hm127 rfl rfl rfl (by omega) ?_
    refine wi_iload_n (pc' := 43) hm127 rfl rfl rfl ?_
    refine wi_iaload (pc' := 44) hm127 rfl rfl rfl rfl (N := 60) rfl g1 ?_
    refine wi_aload_n (pc' := 45) hm127 rfl rfl rfl (by decide) ?_
    refine wi_getR (pc' := 48) (x := 0) hm127 rfl rfl rfl (by omega) ?_
    refine wi_getR (pc' := 51) (x := 0) hm127 rfl rfl rfl (by omega) ?_
    refine wi_iload_n (pc' := 52) hm127 rfl rfl rfl ?_
    obtain ⟨g2, h⟩ := h
    refine wi_iaload (pc' := 53) hm127 rfl rfl rfl rfl (N := 60) rfl g2 ?_
    refine wi_aload_n (pc' := 54) hm127 rfl rfl rfl (by decide) ?_
    refine wi_getR (pc' := 57) (x := 0) hm127 rfl rfl rfl (by omega) ?_
    refine wi_getR (pc' := 60) (x := 0) hm127 rfl rfl rfl (by omega) ?_
    refine wi_iload_n (pc' := 61) hm127 rfl rfl rfl ?_
    refine wi_iaload (pc' := 62) hm127 rfl rfl rfl rfl (N := 60) rfl g2 ?_
    refine wc_I (pc' := 65) (by decide) rfl (by decide) ((fx_wE hm127 rfl).trans (fx_exS (mj := 147) (as := [(0, (σ2 17 0 x1)), (0, (σ2 18 0 x1)), (0, (σ2 17 0 x2)), (0, (σ2 18 0 x2))]) (rest := []) rfl rk147 rfl rfl rfl rfl)) h (fun y1 σ3 h => ?_)
    exact wi_iret hm127 rfl h
  · replace h := h.2 hc
    exact wi_new (v := 0) hm127 rfl rfl h
theorem hm128 : fx_code 128 = fx_c128 := rfl
theorem t128_0 {o0 x1 x2 : Int} {σ : fx_S} {Q : fx_V → fx_S → Prop} (h : fx_CV 140 [(10, o0), (0, x1)] σ Q (fun σ1 => fx_CV 140 [(10, o0), (0, x2)] σ1 Q (fun σ2 => (0 ≤ x1 ∧ x1 < 60) ∧ (0 ≤ x2 ∧ x2 < 60) ∧ fx_CI 0 [(0, (σ2 17 0 x1)), (0, (σ2 17 0 x2))] σ2 Q (fun y1 σ3 => fx_CI 1 [(0, (σ3 18 0 x1)), (0, (σ3 18 0 x2))] σ3 Q (fun y2 σ4 => (fx_rg (y2 - y1)) ∧ fx_CI 0 [(0, (y2 - y1)), (0, 0)] σ4 Q (fun y3 σ5 => Q (0, y3) σ5)))))) : fx_Ca 128 [(10, o0), (0, x1), (0, x2)] σ Q := by
  show fx_Wp 128 0 [(10, o0), (0, x1), (0, x2), (3, 0), (3, 0)] [] σ Q
  refine wi_aload_n (pc' := 1) hm128 rfl rfl rfl (by decide) ?_
  refine wi_iload_n (pc' := 2) hm128 rfl rfl rfl ?_
  refine wc_V (pc' := 5) (by decide) rfl (by decide) ((fx_wE hm128 rfl).trans (fx_exV (mj := 140) (as := [(0, x1)]) (rest := []) rfl rk140 rfl rfl rfl rfl rfl)) h (fun σ1 h => ?_)
  refine wi_aload_n (pc' := 6) hm128 rfl rfl rfl (by decide) ?_
  refine wi_iload_n (pc' := 7) hm128 rfl rfl rfl ?_
  refine wc_V (pc' := 10) (by decide) rfl (by decide) ((fx_wE hm128 rfl).trans (fx_exV (mj := 140) (as := [(0, x2)]) (rest := []) rfl rk140 rfl rfl rfl rfl rfl)) h (fun σ2 h => ?_)
  refine wi_aload_n (pc' := 11) hm128 rfl rfl rfl (by decide) ?_
  refine wi_getR (pc' := 14) (x := 0) hm128 rfl rfl rfl (by omega) ?_
  refine wi_getR (pc' := 17) (x := 0) hm128 rfl rfl rfl (by omega) ?_
  refine wi_iload_n (pc' := 18) hm128 rfl rfl rfl ?_
  obtain ⟨g1, h⟩ := h
  refine wi_iaload (pc' := 19) hm128 rfl rfl rfl rfl (N := 60) rfl g1 ?_
  refine wi_aload_n (pc' := 20) hm128 rfl rfl rfl (by decide) ?_
  refine wi_getR (pc' := 23) (x := 0) hm128 rfl rfl rfl (by omega) ?_
  refine wi_getR (pc' := 26) (x := 0) hm128 rfl rfl rfl (by omega) ?_
  refine wi_iload_n (pc' := 27) hm128 rfl rfl rfl ?_
  obtain ⟨g2, h⟩ := h
  refine wi_iaload (pc' := 28) hm128 rfl rfl rfl rfl (N := 60) rfl g2 ?_
  refine wc_I (pc' := 31) (by decide) rfl (by decide) ((fx_wE hm128 rfl).trans (fx_exS (mj := 0) (as := [(0, (σ2 17 0 x1)), (0, (σ2 17 0 x2))]) (rest := []) rfl rk0 rfl rfl rfl rfl)) h (fun y1 σ3 h => ?_)
  refine wi_istore_n (pc' := 32) (L' := [(10, o0), (0, x1), (0, x2), (0, y1), (3, 0)]) hm128 rfl rfl rfl ?_
  refine wi_aload_n (pc' := 33) hm128 rfl rfl rfl (by decide) ?_
  refine wi_getR (pc' := 36) (x := 0) hm128 rfl rfl rfl (by omega) ?_
  refine wi_getR (pc' := 39) (x := 0) hm128 rfl rfl rfl (by omega) ?_
  refine wi_iload_n (pc' := 40) hm128 rfl rfl rfl ?_
  refine wi_iaload (pc' := 41) hm128 rfl rfl rfl rfl (N := 60) rfl g1 ?_
  refine wi_aload_n (pc' := 42) hm128 rfl rfl rfl (by decide) ?_
  refine wi_getR (pc' := 45) (x := 0) hm128 rfl rfl rfl (by omega) ?_
  refine wi_getR (pc' := 48) (x := 0) hm128 rfl rfl rfl (by omega) ?_
  refine wi_iload_n (pc' := 49) hm128 rfl rfl rfl ?_
  refine wi_iaload (pc' := 50) hm128 rfl rfl rfl rfl (N := 60) rfl g2 ?_
  refine wc_I (pc' := 53) (by decide) rfl (by decide) ((fx_wE hm128 rfl).trans (fx_exS (mj := 1) (as := [(0, (σ3 18 0 x1)), (0, (σ3 18 0 x2))]) (rest := []) rfl rk1 rfl rfl rfl rfl)) h (fun y2 σ4 h => ?_)
  refine wi_istore (pc' := 55) (L' := [(10, o0), (0, x1), (0, x2), (0, y1), (0, y2)]) hm128 rfl rfl rfl ?_
  refine wi_iload (pc' := 57) hm128 rfl rfl rfl ?_
  refine wi_iload_n (pc' := 58) hm128 rfl rfl rfl ?_
  obtain ⟨g3, h⟩ := h
  refine wi_isub (pc' := 59) hm128 rfl rfl g3 ?_
  refine wi_iconst (pc' := 60) (v := 0) hm128 rfl rfl rfl ?_
  refine wc_I (pc' := 63) (by decide) rfl (by decide) ((fx_wE hm128 rfl).trans (fx_exS (mj := 0) (as := [(0, (y2 - y1)), (0, 0)]) (rest := []) rfl rk0 rfl rfl rfl rfl)) h (fun y3 σ5 h => ?_)
  exact wi_iret hm128 rfl h
theorem hm129 : fx_code 129 = fx_c129 := rfl
theorem t129_0 {o0 x1 x2 : Int} {σ : fx_S} {Q : fx_V → fx_S → Prop} (h : fx_CV 140 [(10, o0), (0, x1)] σ Q (fun σ1 => fx_CV 140 [(10, o0), (0, x2)] σ1 Q (fun σ2 => fx_CI 37 [(11, 0), (0, x1), (0, x2)] σ2 Q (fun y1 σ3 => (y1 = 0 ∨ y1 = 1) ∧ Q (0, y1) σ3)))) : fx_Ca 129 [(10, o0), (0, x1), (0, x2)] σ Q := by
  show fx_Wp 129 0 [(10, o0), (0, x1), (0, x2)] [] σ Q
  refine wi_aload_n (pc' := 1) hm129 rfl rfl rfl (by decide) ?_
  refine wi_iload_n (pc' := 2) hm129 rfl rfl rfl ?_
  refine wc_V (pc' := 5) (by decide) rfl (by decide) ((fx_wE hm129 rfl).trans (fx_exV (mj := 140) (as := [(0, x1)]) (rest := []) rfl rk140 rfl rfl rfl rfl rfl)) h (fun σ1 h => ?_)
  refine wi_aload_n (pc' := 6) hm129 rfl rfl rfl (by decide) ?_
  refine wi_iload_n (pc' := 7) hm129 rfl rfl rfl ?_
  refine wc_V (pc' := 10) (by decide) rfl (by decide) ((fx_wE hm129 rfl).trans (fx_exV (mj := 140) (as := [(0, x2)]) (rest := []) rfl rk140 rfl rfl rfl rfl rfl)) h (fun σ2 h => ?_)
  refine wi_aload_n (pc' := 11) hm129 rfl rfl rfl (by decide) ?_
  refine wi_getR (pc' := 14) (x := 0) hm129 rfl rfl rfl (by omega) ?_
  refine wi_iload_n (pc' := 15) hm129 rfl rfl rfl ?_
  refine wi_iload_n (pc' := 16) hm129 rfl rfl rfl ?_
  refine wc_I (pc' := 19) (by decide) rfl (by decide) ((fx_wE hm129 rfl).trans (fx_exV (mj := 37) (as := [(0, x1), (0, x2)]) (rest := []) rfl rk37 rfl rfl rfl rfl rfl)) h (fun y1 σ3 h => ?_)
  obtain ⟨g1, h⟩ := h
  exact wi_zret hm129 rfl g1 h
theorem hm130 : fx_code 130 = fx_c130 := rfl
theorem t130_0 {o0 x1 : Int} {σ : fx_S} {Q : fx_V → fx_S → Prop} (h : fx_CR 36 144 [(10, o0)] σ Q (fun y1 σ1 => fx_CI 92 [(36, y1), (0, x1)] σ1 Q (fun y2 σ2 => Q (0, y2) σ2))) : fx_Ca 130 [(10, o0), (0, x1)] σ Q := by
  show fx_Wp 130 0 [(10, o0), (0, x1)] [] σ Q
  refine wi_aload_n (pc' := 1) hm130 rfl rfl rfl (by decide) ?_
  refine wc_R (pc' := 4) (by decide) rfl (by decide) ((fx_wE hm130 rfl).trans (fx_exV (mj := 144) (as := []) (rest := []) rfl rk144 rfl rfl rfl rfl rfl)) h (fun y1 σ1 h => ?_)
  refine wi_iload_n (pc' := 5) hm130 rfl rfl rfl ?_
  refine wc_I (pc' := 8) (by decide) rfl (by decide) ((fx_wE hm130 rfl).trans (fx_exV (mj := 92) (as := [(0, x1)]) (rest := []) rfl rk92 rfl rfl rfl rfl rfl)) h (fun y2 σ2 h => ?_)
  exact wi_iret hm130 rfl h
theorem hm131 : fx_code 131 = fx_c131 := rfl
theorem t131_0 {o0 x1 x2 : Int} {σ : fx_S} {Q : fx_V → fx_S → Prop} (h : fx_CV 139 [(10, o0), (0, x1)] σ Q (fun σ1 => fx_CV 142 [(0, x2), (0, 4)] σ1 Q (fun σ2 => ((x2 = 0 → (0 ≤ x1 ∧ x1 < 8) ∧ Q (0, (σ2 13 0 x1)) σ2) ∧ (x2 ≠ 0 → ((x2 = 1 → (0 ≤ x1 ∧ x1 < 8) ∧ (((σ2 14 0 x1) = 0 → Q (0, 0) σ2) ∧ ((σ2 14 0 x1) ≠ 0 → Q (0, 1) σ2))) ∧ (x2 ≠ 1 → ((x2 = 2 → fx_CI 43 [(11, 0), (0, x1)] σ2 Q (fun y1 σ3 => Q (0, y1) σ3)) ∧ (x2 ≠ 2 → fx_CR 36 144 [(10, o0)] σ2 Q (fun y2 σ4 => fx_CI 93 [(36, y2), (0, x1)] σ4 Q (fun y3 σ5 => Q (0, y3) σ5))))))))))) : fx_Ca 131 [(10, o0), (0, x1), (0, x2)] σ Q := by
  show fx_Wp 131 0 [(10, o0), (0, x1), (0, x2)] [] σ Q
  refine wi_aload_n (pc' := 1) hm131 rfl rfl rfl (by decide) ?_
  refine wi_iload_n (pc' := 2) hm131 rfl rfl rfl ?_
  refine wc_V (pc' := 5) (by decide) rfl (by decide) ((fx_wE hm131 rfl).trans (fx_exV (mj := 139) (as := [(0, x1)]) (rest := []) rfl rk139 rfl rfl rfl rfl rfl)) h (fun σ1 h => ?_)
  refine wi_iload_n (pc' := 6) hm131 rfl rfl rfl ?_
  refine wi_iconst (pc' := 7) (v := 4) hm131 rfl rfl rfl ?_
  refine wc_V (pc' := 10) (by decide) rfl (by decide) ((fx_wE hm131 rfl).trans (fx_exS (mj := 142) (as := [(0, x2), (0, 4)]) (rest := []) rfl rk142 rfl rfl rfl rfl)) h (fun σ2 h => ?_)
  refine wi_iload_n (pc' := 11) hm131 rfl rfl rfl ?_
  refine wi_tsw hm131 rfl ?_
  refine fx_swc (fun hc => ?_) (fun hc => ?_)
  · replace h := h.1 hc
    refine wi_aload_n (pc' := 37) hm131 rfl rfl rfl (by decide) ?_
    refine wi_getR (pc' := 40) (x := 0) hm131 rfl rfl rfl (by omega) ?_
    refine wi_getR (pc' := 43) (x := 0) hm131 rfl rfl rfl (by omega) ?_
    refine wi_iload_n (pc' := 44) hm131 rfl rfl rfl ?_
    obtain ⟨g1, h⟩ := h
    refine wi_iaload (pc' := 45) hm131 rfl rfl rfl rfl (N := 8) rfl g1 ?_
    exact wi_iret hm131 rfl h
  · replace h := h.2 hc
    refine fx_swc (fun hc => ?_) (fun hc => ?_)
    · replace h := h.1 hc
      refine wi_aload_n (pc' := 47) hm131 rfl rfl rfl (by decide) ?_
      refine wi_getR (pc' := 50) (x := 0) hm131 rfl rfl rfl (by omega) ?_
      refine wi_getR (pc' := 53) (x := 0) hm131 rfl rfl rfl (by omega) ?_
      refine wi_iload_n (pc' := 54) hm131 rfl rfl rfl ?_
      obtain ⟨g1, h⟩ := h
      refine wi_baload (pc' := 55) hm131 rfl rfl rfl (N := 8) rfl g1 ?_
      refine wi_if_eq (pc' := 58) (t := 62) hm131 rfl rfl rfl (fun hc => ?_) (fun hc => ?_)
      · replace h := h.1 hc
        refine wi_iconst (pc' := 63) (v := 0) hm131 rfl rfl rfl ?_
        exact wi_iret hm131 rfl h
      · replace h := h.2 hc
        refine wi_iconst (pc' := 59) (v := 1) hm131 rfl rfl rfl ?_
        refine wi_goto (t := 63) hm131 rfl rfl ?_
        exact wi_iret hm131 rfl h
    · replace h := h.2 hc
      refine fx_swc (fun hc => ?_) (fun hc => ?_)
      · replace h := h.1 hc
        refine wi_aload_n (pc' := 65) hm131 rfl rfl rfl (by decide) ?_
        refine wi_getR (pc' := 68) (x := 0) hm131 rfl rfl rfl (by omega) ?_
        refine wi_iload_n (pc' := 69) hm131 rfl rfl rfl ?_
        refine wc_I (pc' := 72) (by decide) rfl (by decide) ((fx_wE hm131 rfl).trans (fx_exV (mj := 43) (as := [(0, x1)]) (rest := []) rfl rk43 rfl rfl rfl rfl rfl)) h (fun y1 σ3 h => ?_)
        exact wi_iret hm131 rfl h
      · replace h := h.2 hc
        refine fx_swn ?_
        refine wi_aload_n (pc' := 74) hm131 rfl rfl rfl (by decide) ?_
        refine wc_R (pc' := 77) (by decide) rfl (by decide) ((fx_wE hm131 rfl).trans (fx_exV (mj := 144) (as := []) (rest := []) rfl rk144 rfl rfl rfl rfl rfl)) h (fun y2 σ4 h => ?_)
        refine wi_iload_n (pc' := 78) hm131 rfl rfl rfl ?_
        refine wc_I (pc' := 81) (by decide) rfl (by decide) ((fx_wE hm131 rfl).trans (fx_exV (mj := 93) (as := [(0, x1)]) (rest := []) rfl rk93 rfl rfl rfl rfl rfl)) h (fun y3 σ5 h => ?_)
        exact wi_iret hm131 rfl h
theorem hm132 : fx_code 132 = fx_c132 := rfl
theorem t132_0 {o0 x1 x2 : Int} {σ : fx_S} {Q : fx_V → fx_S → Prop} (h : fx_CV 139 [(10, o0), (0, x1)] σ Q (fun σ1 => fx_CV 139 [(10, o0), (0, x2)] σ1 Q (fun σ2 => ((x1 ≠ x2 → fx_CR 36 144 [(10, o0)] σ2 Q (fun y1 σ3 => fx_CI 94 [(36, y1), (0, x1), (0, x2)] σ3 Q (fun y2 σ4 => Q (0, y2) σ4))) ∧ (x1 = x2 → Q (5, 0) σ2))))) : fx_Ca 132 [(10, o0), (0, x1), (0, x2)] σ Q := by
  show fx_Wp 132 0 [(10, o0), (0, x1), (0, x2)] [] σ Q
  refine wi_aload_n (pc' := 1) hm132 rfl rfl rfl (by decide) ?_
  refine wi_iload_n (pc' := 2) hm132 rfl rfl rfl ?_
  refine wc_V (pc' := 5) (by decide) rfl (by decide) ((fx_wE hm132 rfl).trans (fx_exV (mj := 139) (as := [(0, x1)]) (rest := []) rfl rk139 rfl rfl rfl rfl rfl)) h (fun σ1 h => ?_)
  refine wi_aload_n (pc' := 6) hm132 rfl rfl rfl (by decide) ?_
  refine wi_iload_n (pc' := 7) hm132 rfl rfl rfl ?_
  refine wc_V (pc' := 10) (by decide) rfl (by decide) ((fx_wE hm132 rfl).trans (fx_exV (mj := 139) (as := [(0, x2)]) (rest := []) rfl rk139 rfl rfl rfl rfl rfl)) h (fun σ2 h => ?_)
  refine wi_iload_n (pc' := 11) hm132 rfl rfl rfl ?_
  refine wi_iload_n (pc' := 12) hm132 rfl rfl rfl ?_
  refine wi_ic_ne (pc' := 15) (t := 26) hm132 rfl rfl rfl (fun hc => ?_) (fun hc => ?_)
  · replace h := h.1 hc
    refine wi_aload_n (pc' := 27) hm132 rfl rfl rfl (by decide) ?_
    refine wc_R (pc' := 30) (by decide) rfl (by decide) ((fx_wE hm132 rfl).trans (fx_exV (mj := 144) (as := []) (rest := []) rfl rk144 rfl rfl rfl rfl rfl)) h (fun y1 σ3 h => ?_)
    refine wi_iload_n (pc' := 31) hm132 rfl rfl rfl ?_
    refine wi_iload_n (pc' := 32) hm132 rfl rfl rfl ?_
    refine wc_I (pc' := 35) (by decide) rfl (by decide) ((fx_wE hm132 rfl).trans (fx_exV (mj := 94) (as := [(0, x1), (0, x2)]) (rest := []) rfl rk94 rfl rfl rfl rfl rfl)) h (fun y2 σ4 h => ?_)
    exact wi_iret hm132 rfl h
  · replace h := h.2 hc
    exact wi_new (v := 0) hm132 rfl rfl h
theorem hm133 : fx_code 133 = fx_c133 := rfl
theorem t133_0 {o0 x1 : Int} {σ : fx_S} {Q : fx_V → fx_S → Prop} (h : fx_Wp 133 2 [(10, o0), (0, x1), (0, 0)] [] σ Q) : fx_Ca 133 [(10, o0), (0, x1)] σ Q := by
  show fx_Wp 133 0 [(10, o0), (0, x1), (3, 0)] [] σ Q
  refine wi_iconst (pc' := 1) (v := 0) hm133 rfl rfl rfl ?_
  refine wi_istore_n (pc' := 2) (L' := [(10, o0), (0, x1), (0, 0)]) hm133 rfl rfl rfl ?_
  exact h
theorem t133_2 {o0 x1 x2 : Int} {σ : fx_S} {Q : fx_V → fx_S → Prop} (h : (((σ 11 0 9) ≤ x2 → Q (0, (-1)) σ) ∧ (x2 < (σ 11 0 9) → fx_CI 45 [(11, 0), (0, x2)] σ Q (fun y1 σ1 => ((y1 ≠ x1 → (fx_rg (x2 + 1)) ∧ fx_Wp 133 2 [(10, o0), (0, x1), (0, (x2 + 1))] [] σ1 Q) ∧ (y1 = x1 → Q (0, x2) σ1)))))) : fx_Wp 133 2 [(10, o0), (0, x1), (0, x2)] [] σ Q := by
  refine wi_iload_n (pc' := 3) hm133 rfl rfl rfl ?_
  refine wi_aload_n (pc' := 4) hm133 rfl rfl rfl (by decide) ?_
  refine wi_getR (pc' := 7) (x := 0) hm133 rfl rfl rfl (by omega) ?_
  refine wi_getI (pc' := 10) hm133 rfl rfl (P := 9) rfl ?_
  refine wi_ic_ge (pc' := 13) (t := 33) hm133 rfl rfl rfl (fun hc => ?_) (fun hc => ?_)
  · replace h := h.1 hc
    refine wi_iconst (pc' := 34) (v := (-1)) hm133 rfl rfl rfl ?_
    exact wi_iret hm133 rfl h
  · replace h := h.2 hc
    refine wi_aload_n (pc' := 14) hm133 rfl rfl rfl (by decide) ?_
    refine wi_getR (pc' := 17) (x := 0) hm133 rfl rfl rfl (by omega) ?_
    refine wi_iload_n (pc' := 18) hm133 rfl rfl rfl ?_
    refine wc_I (pc' := 21) (by decide) rfl (by decide) ((fx_wE hm133 rfl).trans (fx_exV (mj := 45) (as := [(0, x2)]) (rest := []) rfl rk45 rfl rfl rfl rfl rfl)) h (fun y1 σ1 h => ?_)
    refine wi_iload_n (pc' := 22) hm133 rfl rfl rfl ?_
    refine wi_ic_ne (pc' := 25) (t := 27) hm133 rfl rfl rfl (fun hc => ?_) (fun hc => ?_)
    · replace h := h.1 hc
      obtain ⟨g1, h⟩ := h
      refine wi_iinc (pc' := 30) (L' := [(10, o0), (0, x1), (0, (x2 + 1))]) hm133 rfl rfl rfl g1 rfl ?_
      refine wi_goto (t := 2) hm133 rfl rfl ?_
      exact h
    · replace h := h.2 hc
      refine wi_iload_n (pc' := 26) hm133 rfl rfl rfl ?_
      exact wi_iret hm133 rfl h
theorem hm134 : fx_code 134 = fx_c134 := rfl
theorem t134_0 {o0 : Int} {σ : fx_S} {Q : fx_V → fx_S → Prop} (h : fx_CV 23 [(11, 2), (11, 0)] σ Q (fun σ1 => Q (4, 0) (fx_up σ1 10 o0 9 1))) : fx_Ca 134 [(10, o0)] σ Q := by
  show fx_Wp 134 0 [(10, o0)] [] σ Q
  refine wi_aload_n (pc' := 1) hm134 rfl rfl rfl (by decide) ?_
  refine wi_getR (pc' := 4) (x := 2) hm134 rfl rfl rfl (by omega) ?_
  refine wi_aload_n (pc' := 5) hm134 rfl rfl rfl (by decide) ?_
  refine wi_getR (pc' := 8) (x := 0) hm134 rfl rfl rfl (by omega) ?_
  refine wc_V (pc' := 11) (by decide) rfl (by decide) ((fx_wE hm134 rfl).trans (fx_exV (mj := 23) (as := [(11, 0)]) (rest := []) rfl rk23 rfl rfl rfl rfl rfl)) h (fun σ1 h => ?_)
  refine wi_aload_n (pc' := 12) hm134 rfl rfl rfl (by decide) ?_
  refine wi_iconst (pc' := 13) (v := 1) hm134 rfl rfl rfl ?_
  refine wi_putZ (pc' := 16) hm134 rfl rfl (P := 9) rfl (by decide) ?_
  exact wi_vret hm134 rfl h
theorem hm135 : fx_code 135 = fx_c135 := rfl
theorem t135_0 {o0 : Int} {σ : fx_S} {Q : fx_V → fx_S → Prop} (h : (((σ 10 o0 9) ≠ 0 → fx_CV 23 [(11, 0), (11, 2)] σ Q (fun σ1 => Q (0, 1) (fx_up (fx_up σ1 10 o0 10 0) 10 o0 11 0))) ∧ ((σ 10 o0 9) = 0 → Q (0, 0) σ))) : fx_Ca 135 [(10, o0)] σ Q := by
  show fx_Wp 135 0 [(10, o0)] [] σ Q
  refine wi_aload_n (pc' := 1) hm135 rfl rfl rfl (by decide) ?_
  refine wi_getI (pc' := 4) hm135 rfl rfl (P := 9) rfl ?_
  refine wi_if_ne (pc' := 7) (t := 9) hm135 rfl rfl rfl (fun hc => ?_) (fun hc => ?_)
  · replace h := h.1 hc
    refine wi_aload_n (pc' := 10) hm135 rfl rfl rfl (by decide) ?_
    refine wi_getR (pc' := 13) (x := 0) hm135 rfl rfl rfl (by omega) ?_
    refine wi_aload_n (pc' := 14) hm135 rfl rfl rfl (by decide) ?_
    refine wi_getR (pc' := 17) (x := 2) hm135 rfl rfl rfl (by omega) ?_
    refine wc_V (pc' := 20) (by decide) rfl (by decide) ((fx_wE hm135 rfl).trans (fx_exV (mj := 23) (as := [(11, 2)]) (rest := []) rfl rk23 rfl rfl rfl rfl rfl)) h (fun σ1 h => ?_)
    refine wi_aload_n (pc' := 21) hm135 rfl rfl rfl (by decide) ?_
    refine wi_iconst (pc' := 22) (v := 0) hm135 rfl rfl rfl ?_
    refine wi_putZ (pc' := 25) hm135 rfl rfl (P := 10) rfl (by decide) ?_
    refine wi_aload_n (pc' := 26) hm135 rfl rfl rfl (by decide) ?_
    refine wi_iconst (pc' := 27) (v := 0) hm135 rfl rfl rfl ?_
    refine wi_putI (pc' := 30) hm135 rfl rfl (P := 11) rfl ?_
    refine wi_iconst (pc' := 31) (v := 1) hm135 rfl rfl rfl ?_
    exact wi_zret hm135 rfl (by decide) h
  · replace h := h.2 hc
    refine wi_iconst (pc' := 8) (v := 0) hm135 rfl rfl rfl ?_
    exact wi_zret hm135 rfl (by decide) h
theorem hm136 : fx_code 136 = fx_c136 := rfl
theorem t136_0 {o0 x1 : Int} {σ : fx_S} {Q : fx_V → fx_S → Prop} (h : ((x1 = 0 → Q (0, (σ 11 0 9)) σ) ∧ (x1 ≠ 0 → ((x1 = 1 → Q (0, (σ 11 0 10)) σ) ∧ (x1 ≠ 1 → ((x1 = 2 → fx_CI 46 [(11, 0)] σ Q (fun y1 σ1 => Q (0, y1) σ1)) ∧ (x1 ≠ 2 → ((x1 = 3 → fx_CI 47 [(11, 0)] σ Q (fun y2 σ2 => Q (0, y2) σ2)) ∧ (x1 ≠ 3 → ((x1 = 4 → fx_CI 48 [(11, 0)] σ Q (fun y3 σ3 => Q (0, y3) σ3)) ∧ (x1 ≠ 4 → ((x1 = 5 → fx_CR 36 144 [(10, o0)] σ Q (fun y4 σ4 => fx_CI 91 [(36, y4)] σ4 Q (fun y5 σ5 => Q (0, y5) σ5))) ∧ (x1 ≠ 5 → ((x1 = 6 → fx_CR 36 144 [(10, o0)] σ Q (fun y6 σ6 => fx_CI 76 [(36, y6)] σ6 Q (fun y7 σ7 => Q (0, y7) σ7))) ∧ (x1 ≠ 6 → ((x1 = 7 → Q (0, (σ 10 o0 11)) σ) ∧ (x1 ≠ 7 → Q (0, (-1)) σ))))))))))))))))) : fx_Ca 136 [(10, o0), (0, x1)] σ Q := by
  show fx_Wp 136 0 [(10, o0), (0, x1)] [] σ Q
  refine wi_iload_n (pc' := 1) hm136 rfl rfl rfl ?_
  refine wi_tsw hm136 rfl ?_
  refine fx_swc (fun hc => ?_) (fun hc => ?_)
  · replace h := h.1 hc
    refine wi_aload_n (pc' := 49) hm136 rfl rfl rfl (by decide) ?_
    refine wi_getR (pc' := 52) (x := 0) hm136 rfl rfl rfl (by omega) ?_
    refine wi_getI (pc' := 55) hm136 rfl rfl (P := 9) rfl ?_
    exact wi_iret hm136 rfl h
  · replace h := h.2 hc
    refine fx_swc (fun hc => ?_) (fun hc => ?_)
    · replace h := h.1 hc
      refine wi_aload_n (pc' := 57) hm136 rfl rfl rfl (by decide) ?_
      refine wi_getR (pc' := 60) (x := 0) hm136 rfl rfl rfl (by omega) ?_
      refine wi_getI (pc' := 63) hm136 rfl rfl (P := 10) rfl ?_
      exact wi_iret hm136 rfl h
    · replace h := h.2 hc
      refine fx_swc (fun hc => ?_) (fun hc => ?_)
      · replace h := h.1 hc
        refine wi_aload_n (pc' := 65) hm136 rfl rfl rfl (by decide) ?_
        refine wi_getR (pc' := 68) (x := 0) hm136 rfl rfl rfl (by omega) ?_
        refine wc_I (pc' := 71) (by decide) rfl (by decide) ((fx_wE hm136 rfl).trans (fx_exV (mj := 46) (as := []) (rest := []) rfl rk46 rfl rfl rfl rfl rfl)) h (fun y1 σ1 h => ?_)
        exact wi_iret hm136 rfl h
      · replace h := h.2 hc
        refine fx_swc (fun hc => ?_) (fun hc => ?_)
        · replace h := h.1 hc
          refine wi_aload_n (pc' := 73) hm136 rfl rfl rfl (by decide) ?_
          refine wi_getR (pc' := 76) (x := 0) hm136 rfl rfl rfl (by omega) ?_
          refine wc_I (pc' := 79) (by decide) rfl (by decide) ((fx_wE hm136 rfl).trans (fx_exV (mj := 47) (as := []) (rest := []) rfl rk47 rfl rfl rfl rfl rfl)) h (fun y2 σ2 h => ?_)
          exact wi_iret hm136 rfl h
        · replace h := h.2 hc
          refine fx_swc (fun hc => ?_) (fun hc => ?_)
          · replace h := h.1 hc
            refine wi_aload_n (pc' := 81) hm136 rfl rfl rfl (by decide) ?_
            refine wi_getR (pc' := 84) (x := 0) hm136 rfl rfl rfl (by omega) ?_
            refine wc_I (pc' := 87) (by decide) rfl (by decide) ((fx_wE hm136 rfl).trans (fx_exV (mj := 48) (as := []) (rest := []) rfl rk48 rfl rfl rfl rfl rfl)) h (fun y3 σ3 h => ?_)
            exact wi_iret hm136 rfl h
          · replace h := h.2 hc
            refine fx_swc (fun hc => ?_) (fun hc => ?_)
            · replace h := h.1 hc
              refine wi_aload_n (pc' := 89) hm136 rfl rfl rfl (by decide) ?_
              refine wc_R (pc' := 92) (by decide) rfl (by decide) ((fx_wE hm136 rfl).trans (fx_exV (mj := 144) (as := []) (rest := []) rfl rk144 rfl rfl rfl rfl rfl)) h (fun y4 σ4 h => ?_)
              refine wc_I (pc' := 95) (by decide) rfl (by decide) ((fx_wE hm136 rfl).trans (fx_exV (mj := 91) (as := []) (rest := []) rfl rk91 rfl rfl rfl rfl rfl)) h (fun y5 σ5 h => ?_)
              exact wi_iret hm136 rfl h
            · replace h := h.2 hc
              refine fx_swc (fun hc => ?_) (fun hc => ?_)
              · replace h := h.1 hc
                refine wi_aload_n (pc' := 97) hm136 rfl rfl rfl (by decide) ?_
                refine wc_R (pc' := 100) (by decide) rfl (by decide) ((fx_wE hm136 rfl).trans (fx_exV (mj := 144) (as := []) (rest := []) rfl rk144 rfl rfl rfl rfl rfl)) h (fun y6 σ6 h => ?_)
                refine wc_I (pc' := 103) (by decide) rfl (by decide) ((fx_wE hm136 rfl).trans (fx_exV (mj := 76) (as := []) (rest := []) rfl rk76 rfl rfl rfl rfl rfl)) h (fun y7 σ7 h => ?_)
                exact wi_iret hm136 rfl h
              · replace h := h.2 hc
                refine fx_swc (fun hc => ?_) (fun hc => ?_)
                · replace h := h.1 hc
                  refine wi_aload_n (pc' := 105) hm136 rfl rfl rfl (by decide) ?_
                  refine wi_getI (pc' := 108) hm136 rfl rfl (P := 11) rfl ?_
                  exact wi_iret hm136 rfl h
                · replace h := h.2 hc
                  refine fx_swn ?_
                  refine wi_iconst (pc' := 110) (v := (-1)) hm136 rfl rfl rfl ?_
                  exact wi_iret hm136 rfl h
theorem hm137 : fx_code 137 = fx_c137 := rfl
theorem t137_0 {x0 : Int} {σ : fx_S} {Q : fx_V → fx_S → Prop} (h : ((x0 < 0 → Q (5, 2) σ) ∧ (0 ≤ x0 → ((x0 < 8 → Q (4, 0) σ) ∧ (8 ≤ x0 → Q (5, 2) σ))))) : fx_Ca 137 [(0, x0)] σ Q := by
  show fx_Wp 137 0 [(0, x0)] [] σ Q
  refine wi_iload_n (pc' := 1) hm137 rfl rfl rfl ?_
  refine wi_if_lt (pc' := 4) (t := 10) hm137 rfl rfl rfl (fun hc => ?_) (fun hc => ?_)
  · replace h := h.1 hc
    exact wi_new (v := 2) hm137 rfl rfl h
  · replace h := h.2 hc
    refine wi_iload_n (pc' := 5) hm137 rfl rfl rfl ?_
    refine wi_bipush (pc' := 7) (v := 8) hm137 rfl rfl rfl ?_
    refine wi_ic_lt (pc' := 10) (t := 21) hm137 rfl rfl rfl (fun hc => ?_) (fun hc => ?_)
    · replace h := h.1 hc
      exact wi_vret hm137 rfl h
    · replace h := h.2 hc
      exact wi_new (v := 2) hm137 rfl rfl h
theorem hm138 : fx_code 138 = fx_c138 := rfl
theorem t138_0 {x0 x1 : Int} {σ : fx_S} {Q : fx_V → fx_S → Prop} (h : fx_CV 137 [(0, x0)] σ Q (fun σ1 => ((x1 < 0 → Q (5, 2) σ1) ∧ (0 ≤ x1 → ((x1 < 1000 → Q (4, 0) σ1) ∧ (1000 ≤ x1 → Q (5, 2) σ1)))))) : fx_Ca 138 [(0, x0), (0, x1)] σ Q := by
  show fx_Wp 138 0 [(0, x0), (0, x1)] [] σ Q
  refine wi_iload_n (pc' := 1) hm138 rfl rfl rfl ?_
  refine wc_V (pc' := 4) (by decide) rfl (by decide) ((fx_wE hm138 rfl).trans (fx_exS (mj := 137) (as := [(0, x0)]) (rest := []) rfl rk137 rfl rfl rfl rfl)) h (fun σ1 h => ?_)
  refine wi_iload_n (pc' := 5) hm138 rfl rfl rfl ?_
  refine wi_if_lt (pc' := 8) (t := 15) hm138 rfl rfl rfl (fun hc => ?_) (fun hc => ?_)
  · replace h := h.1 hc
    exact wi_new (v := 2) hm138 rfl rfl h
  · replace h := h.2 hc
    refine wi_iload_n (pc' := 9) hm138 rfl rfl rfl ?_
    refine wi_sipush (pc' := 12) (v := 1000) hm138 rfl rfl rfl ?_
    refine wi_ic_lt (pc' := 15) (t := 26) hm138 rfl rfl rfl (fun hc => ?_) (fun hc => ?_)
    · replace h := h.1 hc
      exact wi_vret hm138 rfl h
    · replace h := h.2 hc
      exact wi_new (v := 2) hm138 rfl rfl h
theorem hm139 : fx_code 139 = fx_c139 := rfl
theorem t139_0 {o0 x1 : Int} {σ : fx_S} {Q : fx_V → fx_S → Prop} (h : fx_CI 24 [(11, 0), (0, x1)] σ Q (fun y1 σ1 => ((y1 ≠ 0 → Q (4, 0) σ1) ∧ (y1 = 0 → Q (5, 2) σ1)))) : fx_Ca 139 [(10, o0), (0, x1)] σ Q := by
  show fx_Wp 139 0 [(10, o0), (0, x1)] [] σ Q
  refine wi_aload_n (pc' := 1) hm139 rfl rfl rfl (by decide) ?_
  refine wi_getR (pc' := 4) (x := 0) hm139 rfl rfl rfl (by omega) ?_
  refine wi_iload_n (pc' := 5) hm139 rfl rfl rfl ?_
  refine wc_I (pc' := 8) (by decide) rfl (by decide) ((fx_wE hm139 rfl).trans (fx_exV (mj := 24) (as := [(0, x1)]) (rest := []) rfl rk24 rfl rfl rfl rfl rfl)) h (fun y1 σ1 h => ?_)
  refine wi_if_ne (pc' := 11) (t := 22) hm139 rfl rfl rfl (fun hc => ?_) (fun hc => ?_)
  · replace h := h.1 hc
    exact wi_vret hm139 rfl h
  · replace h := h.2 hc
    exact wi_new (v := 2) hm139 rfl rfl h
theorem hm140 : fx_code 140 = fx_c140 := rfl
theorem t140_0 {o0 x1 : Int} {σ : fx_S} {Q : fx_V → fx_S → Prop} (h : fx_CI 25 [(11, 0), (0, x1)] σ Q (fun y1 σ1 => ((y1 ≠ 0 → Q (4, 0) σ1) ∧ (y1 = 0 → Q (5, 2) σ1)))) : fx_Ca 140 [(10, o0), (0, x1)] σ Q := by
  show fx_Wp 140 0 [(10, o0), (0, x1)] [] σ Q
  refine wi_aload_n (pc' := 1) hm140 rfl rfl rfl (by decide) ?_
  refine wi_getR (pc' := 4) (x := 0) hm140 rfl rfl rfl (by omega) ?_
  refine wi_iload_n (pc' := 5) hm140 rfl rfl rfl ?_
  refine wc_I (pc' := 8) (by decide) rfl (by decide) ((fx_wE hm140 rfl).trans (fx_exV (mj := 25) (as := [(0, x1)]) (rest := []) rfl rk25 rfl rfl rfl rfl rfl)) h (fun y1 σ1 h => ?_)
  refine wi_if_ne (pc' := 11) (t := 22) hm140 rfl rfl rfl (fun hc => ?_) (fun hc => ?_)
  · replace h := h.1 hc
    exact wi_vret hm140 rfl h
  · replace h := h.2 hc
    exact wi_new (v := 2) hm140 rfl rfl h
theorem hm141 : fx_code 141 = fx_c141 := rfl
theorem t141_0 {x0 x1 x2 : Int} {σ : fx_S} {Q : fx_V → fx_S → Prop} (h : ((x0 < x1 → Q (5, 0) σ) ∧ (x1 ≤ x0 → ((x0 < x2 → Q (4, 0) σ) ∧ (x2 ≤ x0 → Q (5, 0) σ))))) : fx_Ca 141 [(0, x0), (0, x1), (0, x2)] σ Q := by
  show fx_Wp 141 0 [(0, x0), (0, x1), (0, x2)] [] σ Q
  refine wi_iload_n (pc' := 1) hm141 rfl rfl rfl ?_
  refine wi_iload_n (pc' := 2) hm141 rfl rfl rfl ?_
  refine wi_ic_lt (pc' := 5) (t := 10) hm141 rfl rfl rfl (fun hc => ?_) (fun hc => ?_)
  · replace h := h.1 hc
    exact wi_new (v := 0) hm141 rfl rfl h
  · replace h := h.2 hc
    refine wi_iload_n (pc' := 6) hm141 rfl rfl rfl ?_
    refine wi_iload_n (pc' := 7) hm141 rfl rfl rfl ?_
    refine wi_ic_lt (pc' := 10) (t := 21) hm141 rfl rfl rfl (fun hc => ?_) (fun hc => ?_)
    · replace h := h.1 hc
      exact wi_vret hm141 rfl h
    · replace h := h.2 hc
      exact wi_new (v := 0) hm141 rfl rfl h
theorem hm142 : fx_code 142 = fx_c142 := rfl
theorem t142_0 {x0 x1 : Int} {σ : fx_S} {Q : fx_V → fx_S → Prop} (h : ((x0 < 0 → Q (5, 3) σ) ∧ (0 ≤ x0 → ((x0 < x1 → Q (4, 0) σ) ∧ (x1 ≤ x0 → Q (5, 3) σ))))) : fx_Ca 142 [(0, x0), (0, x1)] σ Q := by
  show fx_Wp 142 0 [(0, x0), (0, x1)] [] σ Q
  refine wi_iload_n (pc' := 1) hm142 rfl rfl rfl ?_
  refine wi_if_lt (pc' := 4) (t := 9) hm142 rfl rfl rfl (fun hc => ?_) (fun hc => ?_)
  · replace h := h.1 hc
    exact wi_new (v := 3) hm142 rfl rfl h
  · replace h := h.2 hc
    refine wi_iload_n (pc' := 5) hm142 rfl rfl rfl ?_
    refine wi_iload_n (pc' := 6) hm142 rfl rfl rfl ?_
    refine wi_ic_lt (pc' := 9) (t := 20) hm142 rfl rfl rfl (fun hc => ?_) (fun hc => ?_)
    · replace h := h.1 hc
      exact wi_vret hm142 rfl h
    · replace h := h.2 hc
      exact wi_new (v := 3) hm142 rfl rfl h
theorem hm143 : fx_code 143 = fx_c143 := rfl
theorem t143_0 {o0 x1 x2 x3 x4 x5 x6 : Int} {σ : fx_S} {Q : fx_V → fx_S → Prop} (h : fx_CV 20 [(26, 0), (0, x1), (0, x2), (0, x3), (0, x4), (0, x5), (0, x6)] σ Q (fun σ1 => fx_CI 26 [(11, 0), (26, 0)] σ1 Q (fun y1 σ2 => ((y1 = 0 → (0 ≤ (σ2 10 o0 12) ∧ (σ2 10 o0 12) < 8) ∧ fx_CV 23 [(11, (3 + (σ2 10 o0 12))), (11, 0)] (fx_up σ2 10 o0 13 y1) Q (fun σ3 => (fx_rg ((σ3 10 o0 12) + 1)) ∧ (fx_rg ((σ3 10 o0 11) + 1)) ∧ fx_CI 1 [(0, ((σ3 10 o0 11) + 1)), (0, 8)] (fx_up σ3 10 o0 12 (fx_rem ((σ3 10 o0 12) + 1) 8)) Q (fun y2 σ4 => fx_CV 31 [(11, 0), (26, 0)] (fx_up σ4 10 o0 11 y2) Q (fun σ5 => Q (4, 0) (fx_up σ5 10 o0 10 0))))) ∧ (y1 ≠ 0 → Q (5, 1) (fx_up σ2 10 o0 13 y1)))))) : fx_Ca 143 [(10, o0), (0, x1), (0, x2), (0, x3), (0, x4), (0, x5), (0, x6)] σ Q := by
  show fx_Wp 143 0 [(10, o0), (0, x1), (0, x2), (0, x3), (0, x4), (0, x5), (0, x6)] [] σ Q
  refine wi_aload_n (pc' := 1) hm143 rfl rfl rfl (by decide) ?_
  refine wi_getR (pc' := 4) (x := 0) hm143 rfl rfl rfl (by omega) ?_
  refine wi_iload_n (pc' := 5) hm143 rfl rfl rfl ?_
  refine wi_iload_n (pc' := 6) hm143 rfl rfl rfl ?_
  refine wi_iload_n (pc' := 7) hm143 rfl rfl rfl ?_
  refine wi_iload (pc' := 9) hm143 rfl rfl rfl ?_
  refine wi_iload (pc' := 11) hm143 rfl rfl rfl ?_
  refine wi_iload (pc' := 13) hm143 rfl rfl rfl ?_
  refine wc_V (pc' := 16) (by decide) rfl (by decide) ((fx_wE hm143 rfl).trans (fx_exV (mj := 20) (as := [(0, x1), (0, x2), (0, x3), (0, x4), (0, x5), (0, x6)]) (rest := []) rfl rk20 rfl rfl rfl rfl rfl)) h (fun σ1 h => ?_)
  refine wi_aload_n (pc' := 17) hm143 rfl rfl rfl (by decide) ?_
  refine wi_aload_n (pc' := 18) hm143 rfl rfl rfl (by decide) ?_
  refine wi_getR (pc' := 21) (x := 0) hm143 rfl rfl rfl (by omega) ?_
  refine wi_aload_n (pc' := 22) hm143 rfl rfl rfl (by decide) ?_
  refine wi_getR (pc' := 25) (x := 0) hm143 rfl rfl rfl (by omega) ?_
  refine wc_I (pc' := 28) (by decide) rfl (by decide) ((fx_wE hm143 rfl).trans (fx_exV (mj := 26) (as := [(26, 0)]) (rest := [(10, o0)]) rfl rk26 rfl rfl rfl rfl rfl)) h (fun y1 σ2 h => ?_)
  refine wi_putI (pc' := 31) hm143 rfl rfl (P := 13) rfl ?_
  refine wi_aload_n (pc' := 32) hm143 rfl rfl rfl (by decide) ?_
  refine wi_getIe (pc' := 35) hm143 rfl rfl (P := 13) rfl (x := y1) fx_upS ?_
  refine wi_if_eq (pc' := 38) (t := 49) hm143 rfl rfl rfl (fun hc => ?_) (fun hc => ?_)
  · replace h := h.1 hc
    refine wi_aload_n (pc' := 50) hm143 rfl rfl rfl (by decide) ?_
    refine wi_getR (pc' := 53) (x := 0) hm143 rfl rfl rfl (by omega) ?_
    refine wi_aload_n (pc' := 54) hm143 rfl rfl rfl (by decide) ?_
    refine wi_getIe (pc' := 57) hm143 rfl rfl (P := 12) rfl (x := (σ2 10 o0 12)) (Eq.trans (fx_upJ (by decide)) rfl) ?_
    obtain ⟨g1, h⟩ := h
    refine wi_aaload (pc' := 58) (x := (3 + (σ2 10 o0 12))) hm143 rfl rfl rfl rfl (N := 8) rfl g1 (by omega) ?_
    refine wi_aload_n (pc' := 59) hm143 rfl rfl rfl (by decide) ?_
    refine wi_getR (pc' := 62) (x := 0) hm143 rfl rfl rfl (by omega) ?_
    refine wc_V (pc' := 65) (by decide) rfl (by decide) ((fx_wE hm143 rfl).trans (fx_exV (mj := 23) (as := [(11, 0)]) (rest := []) rfl rk23 rfl rfl rfl rfl rfl)) h (fun σ3 h => ?_)
    refine wi_aload_n (pc' := 66) hm143 rfl rfl rfl (by decide) ?_
    refine wi_aload_n (pc' := 67) hm143 rfl rfl rfl (by decide) ?_
    refine wi_getI (pc' := 70) hm143 rfl rfl (P := 12) rfl ?_
    refine wi_iconst (pc' := 71) (v := 1) hm143 rfl rfl rfl ?_
    obtain ⟨g2, h⟩ := h
    refine wi_iadd (pc' := 72) hm143 rfl rfl g2 ?_
    refine wi_bipush (pc' := 74) (v := 8) hm143 rfl rfl rfl ?_
    refine wi_irem (pc' := 75) hm143 rfl rfl (by decide) ?_
    refine wi_putI (pc' := 78) hm143 rfl rfl (P := 12) rfl ?_
    refine wi_aload_n (pc' := 79) hm143 rfl rfl rfl (by decide) ?_
    refine wi_aload_n (pc' := 80) hm143 rfl rfl rfl (by decide) ?_
    refine wi_getIe (pc' := 83) hm143 rfl rfl (P := 11) rfl (x := (σ3 10 o0 11)) (Eq.trans (fx_upJ (by decide)) rfl) ?_
    refine wi_iconst (pc' := 84) (v := 1) hm143 rfl rfl rfl ?_
    obtain ⟨g3, h⟩ := h
    refine wi_iadd (pc' := 85) hm143 rfl rfl g3 ?_
    refine wi_bipush (pc' := 87) (v := 8) hm143 rfl rfl rfl ?_
    refine wc_I (pc' := 90) (by decide) rfl (by decide) ((fx_wE hm143 rfl).trans (fx_exS (mj := 1) (as := [(0, ((σ3 10 o0 11) + 1)), (0, 8)]) (rest := [(10, o0)]) rfl rk1 rfl rfl rfl rfl)) h (fun y2 σ4 h => ?_)
    refine wi_putI (pc' := 93) hm143 rfl rfl (P := 11) rfl ?_
    refine wi_aload_n (pc' := 94) hm143 rfl rfl rfl (by decide) ?_
    refine wi_getR (pc' := 97) (x := 0) hm143 rfl rfl rfl (by omega) ?_
    refine wi_aload_n (pc' := 98) hm143 rfl rfl rfl (by decide) ?_
    refine wi_getR (pc' := 101) (x := 0) hm143 rfl rfl rfl (by omega) ?_
    refine wc_V (pc' := 104) (by decide) rfl (by decide) ((fx_wE hm143 rfl).trans (fx_exV (mj := 31) (as := [(26, 0)]) (rest := []) rfl rk31 rfl rfl rfl rfl rfl)) h (fun σ5 h => ?_)
    refine wi_aload_n (pc' := 105) hm143 rfl rfl rfl (by decide) ?_
    refine wi_iconst (pc' := 106) (v := 0) hm143 rfl rfl rfl ?_
    refine wi_putZ (pc' := 109) hm143 rfl rfl (P := 10) rfl (by decide) ?_
    exact wi_vret hm143 rfl h
  · replace h := h.2 hc
    exact wi_new (v := 1) hm143 rfl rfl h
theorem hm144 : fx_code 144 = fx_c144 := rfl
theorem t144_0 {o0 : Int} {σ : fx_S} {Q : fx_V → fx_S → Prop} (h : (((σ 10 o0 10) ≠ 0 → Q (36, 0) σ) ∧ ((σ 10 o0 10) = 0 → fx_CV 62 [(36, 0), (0, (σ 11 0 10)), (0, (-1))] σ Q (fun σ1 => Q (36, 0) (fx_up σ1 10 o0 10 1))))) : fx_Ca 144 [(10, o0)] σ Q := by
  show fx_Wp 144 0 [(10, o0)] [] σ Q
  refine wi_aload_n (pc' := 1) hm144 rfl rfl rfl (by decide) ?_
  refine wi_getI (pc' := 4) hm144 rfl rfl (P := 10) rfl ?_
  refine wi_if_ne (pc' := 7) (t := 27) hm144 rfl rfl rfl (fun hc => ?_) (fun hc => ?_)
  · replace h := h.1 hc
    refine wi_aload_n (pc' := 28) hm144 rfl rfl rfl (by decide) ?_
    refine wi_getR (pc' := 31) (x := 0) hm144 rfl rfl rfl (by omega) ?_
    exact wi_aret hm144 rfl (by decide) h
  · replace h := h.2 hc
    refine wi_aload_n (pc' := 8) hm144 rfl rfl rfl (by decide) ?_
    refine wi_getR (pc' := 11) (x := 0) hm144 rfl rfl rfl (by omega) ?_
    refine wi_aload_n (pc' := 12) hm144 rfl rfl rfl (by decide) ?_
    refine wi_getR (pc' := 15) (x := 0) hm144 rfl rfl rfl (by omega) ?_
    refine wi_getI (pc' := 18) hm144 rfl rfl (P := 10) rfl ?_
    refine wi_iconst (pc' := 19) (v := (-1)) hm144 rfl rfl rfl ?_
    refine wc_V (pc' := 22) (by decide) rfl (by decide) ((fx_wE hm144 rfl).trans (fx_exV (mj := 62) (as := [(0, (σ 11 0 10)), (0, (-1))]) (rest := []) rfl rk62 rfl rfl rfl rfl rfl)) h (fun σ1 h => ?_)
    refine wi_aload_n (pc' := 23) hm144 rfl rfl rfl (by decide) ?_
    refine wi_iconst (pc' := 24) (v := 1) hm144 rfl rfl rfl ?_
    refine wi_putZ (pc' := 27) hm144 rfl rfl (P := 10) rfl (by decide) ?_
    refine wi_aload_n (pc' := 28) hm144 rfl rfl rfl (by decide) ?_
    refine wi_getR (pc' := 31) (x := 0) hm144 rfl rfl rfl (by omega) ?_
    exact wi_aret hm144 rfl (by decide) h
theorem hm145 : fx_code 145 = fx_c145 := rfl
theorem t145_0 {o0 x1 x2 x3 x4 : Int} {σ : fx_S} {Q : fx_V → fx_S → Prop} (h : ((x2 ≠ (-1) → fx_CR 36 144 [(10, o0)] σ Q (fun y1 σ1 => fx_CI 77 [(36, y1), (0, x1), (0, x2), (0, x4)] σ1 Q (fun y2 σ2 => ((y2 ≠ (-1) → ((x3 ≠ 0 → ((x3 ≠ 1 → (0 ≤ x1 ∧ x1 < 8) ∧ (0 ≤ y2 ∧ y2 < 121) ∧ Q (0, (σ2 43 x1 y2)) σ2) ∧ (x3 = 1 → fx_CI 71 [(36, 0), (0, x1), (0, y2)] σ2 Q (fun y3 σ3 => (0 ≤ y3 ∧ y3 < 122) ∧ Q (0, (σ3 37 0 y3)) σ3)))) ∧ (x3 = 0 → (0 ≤ y2 ∧ y2 < 122) ∧ Q (0, (σ2 37 0 y2)) σ2))) ∧ (y2 = (-1) → Q (0, (-1)) σ2))))) ∧ (x2 = (-1) → fx_CR 36 144 [(10, o0)] σ Q (fun y4 σ4 => fx_CI 75 [(36, y4), (0, x1), (0, x4)] σ4 Q (fun y5 σ5 => Q (0, y5) σ5))))) : fx_Ca 145 [(10, o0), (0, x1), (0, x2), (0, x3), (0, x4)] σ Q := by
  show fx_Wp 145 0 [(10, o0), (0, x1), (0, x2), (0, x3), (0, x4), (3, 0)] [] σ Q
  refine wi_iload_n (pc' := 1) hm145 rfl rfl rfl ?_
  refine wi_iconst (pc' := 2) (v := (-1)) hm145 rfl rfl rfl ?_
  refine wi_ic_ne (pc' := 5) (t := 16) hm145 rfl rfl rfl (fun hc => ?_) (fun hc => ?_)
  · replace h := h.1 hc
    refine wi_aload_n (pc' := 17) hm145 rfl rfl rfl (by decide) ?_
    refine wc_R (pc' := 20) (by decide) rfl (by decide) ((fx_wE hm145 rfl).trans (fx_exV (mj := 144) (as := []) (rest := []) rfl rk144 rfl rfl rfl rfl rfl)) h (fun y1 σ1 h => ?_)
    refine wi_iload_n (pc' := 21) hm145 rfl rfl rfl ?_
    refine wi_iload_n (pc' := 22) hm145 rfl rfl rfl ?_
    refine wi_iload (pc' := 24) hm145 rfl rfl rfl ?_
    refine wc_I (pc' := 27) (by decide) rfl (by decide) ((fx_wE hm145 rfl).trans (fx_exV (mj := 77) (as := [(0, x1), (0, x2), (0, x4)]) (rest := []) rfl rk77 rfl rfl rfl rfl rfl)) h (fun y2 σ2 h => ?_)
    refine wi_istore (pc' := 29) (L' := [(10, o0), (0, x1), (0, x2), (0, x3), (0, x4), (0, y2)]) hm145 rfl rfl rfl ?_
    refine wi_iload (pc' := 31) hm145 rfl rfl rfl ?_
    refine wi_iconst (pc' := 32) (v := (-1)) hm145 rfl rfl rfl ?_
    refine wi_ic_ne (pc' := 35) (t := 37) hm145 rfl rfl rfl (fun hc => ?_) (fun hc => ?_)
    · replace h := h.1 hc
      refine wi_iload_n (pc' := 38) hm145 rfl rfl rfl ?_
      refine wi_if_ne (pc' := 41) (t := 52) hm145 rfl rfl rfl (fun hc => ?_) (fun hc => ?_)
      · replace h := h.1 hc
        refine wi_iload_n (pc' := 53) hm145 rfl rfl rfl ?_
        refine wi_iconst (pc' := 54) (v := 1) hm145 rfl rfl rfl ?_
        refine wi_ic_ne (pc' := 57) (t := 78) hm145 rfl rfl rfl (fun hc => ?_) (fun hc => ?_)
        · replace h := h.1 hc
          refine wi_aload_n (pc' := 79) hm145 rfl rfl rfl (by decide) ?_
          refine wi_getR (pc' := 82) (x := 0) hm145 rfl rfl rfl (by omega) ?_
          refine wi_getR (pc' := 85) (x := 0) hm145 rfl rfl rfl (by omega) ?_
          refine wi_iload_n (pc' := 86) hm145 rfl rfl rfl ?_
          obtain ⟨g1, h⟩ := h
          refine wi_aaload (pc' := 87) (x := x1) hm145 rfl rfl rfl rfl (N := 8) rfl g1 (by omega) ?_
          refine wi_iload (pc' := 89) hm145 rfl rfl rfl ?_
          obtain ⟨g2, h⟩ := h
          refine wi_iaload (pc' := 90) hm145 rfl rfl rfl rfl (N := 121) rfl g2 ?_
          exact wi_iret hm145 rfl h
        · replace h := h.2 hc
          refine wi_aload_n (pc' := 58) hm145 rfl rfl rfl (by decide) ?_
          refine wi_getR (pc' := 61) (x := 0) hm145 rfl rfl rfl (by omega) ?_
          refine wi_getR (pc' := 64) (x := 0) hm145 rfl rfl rfl (by omega) ?_
          refine wi_aload_n (pc' := 65) hm145 rfl rfl rfl (by decide) ?_
          refine wi_getR (pc' := 68) (x := 0) hm145 rfl rfl rfl (by omega) ?_
          refine wi_iload_n (pc' := 69) hm145 rfl rfl rfl ?_
          refine wi_iload (pc' := 71) hm145 rfl rfl rfl ?_
          refine wc_I (pc' := 74) (by decide) rfl (by decide) ((fx_wE hm145 rfl).trans (fx_exV (mj := 71) (as := [(0, x1), (0, y2)]) (rest := [(37, 0)]) rfl rk71 rfl rfl rfl rfl rfl)) h (fun y3 σ3 h => ?_)
          obtain ⟨g1, h⟩ := h
          refine wi_iaload (pc' := 75) hm145 rfl rfl rfl rfl (N := 122) rfl g1 ?_
          refine wi_goto (t := 90) hm145 rfl rfl ?_
          exact wi_iret hm145 rfl h
      · replace h := h.2 hc
        refine wi_aload_n (pc' := 42) hm145 rfl rfl rfl (by decide) ?_
        refine wi_getR (pc' := 45) (x := 0) hm145 rfl rfl rfl (by omega) ?_
        refine wi_getR (pc' := 48) (x := 0) hm145 rfl rfl rfl (by omega) ?_
        refine wi_iload (pc' := 50) hm145 rfl rfl rfl ?_
        obtain ⟨g1, h⟩ := h
        refine wi_iaload (pc' := 51) hm145 rfl rfl rfl rfl (N := 122) rfl g1 ?_
        exact wi_iret hm145 rfl h
    · replace h := h.2 hc
      refine wi_iconst (pc' := 36) (v := (-1)) hm145 rfl rfl rfl ?_
      exact wi_iret hm145 rfl h
  · replace h := h.2 hc
    refine wi_aload_n (pc' := 6) hm145 rfl rfl rfl (by decide) ?_
    refine wc_R (pc' := 9) (by decide) rfl (by decide) ((fx_wE hm145 rfl).trans (fx_exV (mj := 144) (as := []) (rest := []) rfl rk144 rfl rfl rfl rfl rfl)) h (fun y4 σ4 h => ?_)
    refine wi_iload_n (pc' := 10) hm145 rfl rfl rfl ?_
    refine wi_iload (pc' := 12) hm145 rfl rfl rfl ?_
    refine wc_I (pc' := 15) (by decide) rfl (by decide) ((fx_wE hm145 rfl).trans (fx_exV (mj := 75) (as := [(0, x1), (0, x4)]) (rest := []) rfl rk75 rfl rfl rfl rfl rfl)) h (fun y5 σ5 h => ?_)
    exact wi_iret hm145 rfl h
theorem hm146 : fx_code 146 = fx_c146 := rfl
theorem t146_0 {o0 x1 : Int} {σ : fx_S} {Q : fx_V → fx_S → Prop} (h : (0 ≤ x1 ∧ x1 < 60) ∧ (((σ 20 0 x1) = 0 → fx_CV 62 [(36, 1), (0, (σ 11 0 10)), (0, x1)] σ Q (fun σ1 => fx_CR 36 144 [(10, o0)] σ1 Q (fun y1 σ2 => fx_CI 95 [(36, y1), (36, 1)] σ2 Q (fun y2 σ3 => Q (0, y2) σ3)))) ∧ ((σ 20 0 x1) ≠ 0 → Q (0, (-1)) σ))) : fx_Ca 146 [(10, o0), (0, x1)] σ Q := by
  show fx_Wp 146 0 [(10, o0), (0, x1)] [] σ Q
  refine wi_aload_n (pc' := 1) hm146 rfl rfl rfl (by decide) ?_
  refine wi_getR (pc' := 4) (x := 0) hm146 rfl rfl rfl (by omega) ?_
  refine wi_getR (pc' := 7) (x := 0) hm146 rfl rfl rfl (by omega) ?_
  refine wi_iload_n (pc' := 8) hm146 rfl rfl rfl ?_
  obtain ⟨g1, h⟩ := h
  refine wi_baload (pc' := 9) hm146 rfl rfl rfl (N := 60) rfl g1 ?_
  refine wi_if_eq (pc' := 12) (t := 14) hm146 rfl rfl rfl (fun hc => ?_) (fun hc => ?_)
  · replace h := h.1 hc
    refine wi_aload_n (pc' := 15) hm146 rfl rfl rfl (by decide) ?_
    refine wi_getR (pc' := 18) (x := 1) hm146 rfl rfl rfl (by omega) ?_
    refine wi_aload_n (pc' := 19) hm146 rfl rfl rfl (by decide) ?_
    refine wi_getR (pc' := 22) (x := 0) hm146 rfl rfl rfl (by omega) ?_
    refine wi_getI (pc' := 25) hm146 rfl rfl (P := 10) rfl ?_
    refine wi_iload_n (pc' := 26) hm146 rfl rfl rfl ?_
    refine wc_V (pc' := 29) (by decide) rfl (by decide) ((fx_wE hm146 rfl).trans (fx_exV (mj := 62) (as := [(0, (σ 11 0 10)), (0, x1)]) (rest := []) rfl rk62 rfl rfl rfl rfl rfl)) h (fun σ1 h => ?_)
    refine wi_aload_n (pc' := 30) hm146 rfl rfl rfl (by decide) ?_
    refine wc_R (pc' := 33) (by decide) rfl (by decide) ((fx_wE hm146 rfl).trans (fx_exV (mj := 144) (as := []) (rest := []) rfl rk144 rfl rfl rfl rfl rfl)) h (fun y1 σ2 h => ?_)
    refine wi_aload_n (pc' := 34) hm146 rfl rfl rfl (by decide) ?_
    refine wi_getR (pc' := 37) (x := 1) hm146 rfl rfl rfl (by omega) ?_
    refine wc_I (pc' := 40) (by decide) rfl (by decide) ((fx_wE hm146 rfl).trans (fx_exV (mj := 95) (as := [(36, 1)]) (rest := []) rfl rk95 rfl rfl rfl rfl rfl)) h (fun y2 σ3 h => ?_)
    exact wi_iret hm146 rfl h
  · replace h := h.2 hc
    refine wi_iconst (pc' := 13) (v := (-1)) hm146 rfl rfl rfl ?_
    exact wi_iret hm146 rfl h
theorem hm147 : fx_code 147 = fx_c147 := rfl
theorem t147_0 {x0 x1 x2 x3 : Int} {σ : fx_S} {Q : fx_V → fx_S → Prop} (h : ((x2 < x1 → ((x0 < x3 → fx_CI 2 [(0, x0), (0, x2)] σ Q (fun y1 σ1 => (fx_rg (3 * y1)) ∧ (fx_rg (6 + (3 * y1))) ∧ fx_CI 2 [(0, x1), (0, x3)] σ1 Q (fun y2 σ2 => (fx_rg ((6 + (3 * y1)) + y2)) ∧ Q (0, ((6 + (3 * y1)) + y2)) σ2))) ∧ (x3 ≤ x0 → ((x0 ≤ x3 → Q (0, 11) σ) ∧ (x3 < x0 → Q (0, 12) σ))))) ∧ (x1 ≤ x2 → ((x2 ≤ x1 → Q (0, 1) σ) ∧ (x1 < x2 → Q (0, 0) σ))))) : fx_Ca 147 [(0, x0), (0, x1), (0, x2), (0, x3)] σ Q := by
  show fx_Wp 147 0 [(0, x0), (0, x1), (0, x2), (0, x3)] [] σ Q
  refine wi_iload_n (pc' := 1) hm147 rfl rfl rfl ?_
  refine wi_iload_n (pc' := 2) hm147 rfl rfl rfl ?_
  refine wi_ic_gt (pc' := 5) (t := 16) hm147 rfl rfl rfl (fun hc => ?_) (fun hc => ?_)
  · replace h := h.1 hc
    refine wi_iload_n (pc' := 17) hm147 rfl rfl rfl ?_
    refine wi_iload_n (pc' := 18) hm147 rfl rfl rfl ?_
    refine wi_ic_lt (pc' := 21) (t := 34) hm147 rfl rfl rfl (fun hc => ?_) (fun hc => ?_)
    · replace h := h.1 hc
      refine wi_bipush (pc' := 36) (v := 6) hm147 rfl rfl rfl ?_
      refine wi_iconst (pc' := 37) (v := 3) hm147 rfl rfl rfl ?_
      refine wi_iload_n (pc' := 38) hm147 rfl rfl rfl ?_
      refine wi_iload_n (pc' := 39) hm147 rfl rfl rfl ?_
      refine wc_I (pc' := 42) (by decide) rfl (by decide) ((fx_wE hm147 rfl).trans (fx_exS (mj := 2) (as := [(0, x0), (0, x2)]) (rest := [(0, 3), (0, 6)]) rfl rk2 rfl rfl rfl rfl)) h (fun y1 σ1 h => ?_)
      obtain ⟨g1, h⟩ := h
      refine wi_imul (pc' := 43) hm147 rfl rfl g1 ?_
      obtain ⟨g2, h⟩ := h
      refine wi_iadd (pc' := 44) hm147 rfl rfl g2 ?_
      refine wi_iload_n (pc' := 45) hm147 rfl rfl rfl ?_
      refine wi_iload_n (pc' := 46) hm147 rfl rfl rfl ?_
      refine wc_I (pc' := 49) (by decide) rfl (by decide) ((fx_wE hm147 rfl).trans (fx_exS (mj := 2) (as := [(0, x1), (0, x3)]) (rest := [(0, (6 + (3 * y1)))]) rfl rk2 rfl rfl rfl rfl)) h (fun y2 σ2 h => ?_)
      obtain ⟨g3, h⟩ := h
      refine wi_iadd (pc' := 50) hm147 rfl rfl g3 ?_
      exact wi_iret hm147 rfl h
    · replace h := h.2 hc
      refine wi_iload_n (pc' := 22) hm147 rfl rfl rfl ?_
      refine wi_iload_n (pc' := 23) hm147 rfl rfl rfl ?_
      refine wi_ic_le (pc' := 26) (t := 31) hm147 rfl rfl rfl (fun hc => ?_) (fun hc => ?_)
      · replace h := h.1 hc
        refine wi_bipush (pc' := 33) (v := 11) hm147 rfl rfl rfl ?_
        exact wi_iret hm147 rfl h
      · replace h := h.2 hc
        refine wi_bipush (pc' := 28) (v := 12) hm147 rfl rfl rfl ?_
        refine wi_goto (t := 33) hm147 rfl rfl ?_
        exact wi_iret hm147 rfl h
  · replace h := h.2 hc
    refine wi_iload_n (pc' := 6) hm147 rfl rfl rfl ?_
    refine wi_iload_n (pc' := 7) hm147 rfl rfl rfl ?_
    refine wi_ic_ge (pc' := 10) (t := 14) hm147 rfl rfl rfl (fun hc => ?_) (fun hc => ?_)
    · replace h := h.1 hc
      refine wi_iconst (pc' := 15) (v := 1) hm147 rfl rfl rfl ?_
      exact wi_iret hm147 rfl h
    · replace h := h.2 hc
      refine wi_iconst (pc' := 11) (v := 0) hm147 rfl rfl rfl ?_
      refine wi_goto (t := 15) hm147 rfl rfl ?_
      exact wi_iret hm147 rfl h
theorem hm148 : fx_code 148 = fx_c148 := rfl
theorem t148_0 {o0 : Int} {σ : fx_S} {Q : fx_V → fx_S → Prop} (h : Q (0, (σ 46 o0 0)) σ) : fx_Ca 148 [(46, o0)] σ Q := by
  show fx_Wp 148 0 [(46, o0)] [] σ Q
  refine wi_aload_n (pc' := 1) hm148 rfl rfl rfl (by decide) ?_
  refine wi_getI (pc' := 4) hm148 rfl rfl (P := 0) rfl ?_
  exact wi_iret hm148 rfl h
theorem hm149 : fx_code 149 = fx_c149 := rfl
theorem t149_0 {x0 x1 x2 : Int} {σ : fx_S} {Q : fx_V → fx_S → Prop} (h : ((x0 < x1 → Q (0, 0) σ) ∧ (x1 ≤ x0 → ((x2 < x0 → Q (0, 0) σ) ∧ (x0 ≤ x2 → Q (0, 1) σ))))) : fx_Ca 149 [(0, x0), (0, x1), (0, x2)] σ Q := by
  show fx_Wp 149 0 [(0, x0), (0, x1), (0, x2)] [] σ Q
  refine wi_iload_n (pc' := 1) hm149 rfl rfl rfl ?_
  refine wi_iload_n (pc' := 2) hm149 rfl rfl rfl ?_
  refine wi_ic_lt (pc' := 5) (t := 14) hm149 rfl rfl rfl (fun hc => ?_) (fun hc => ?_)
  · replace h := h.1 hc
    refine wi_iconst (pc' := 15) (v := 0) hm149 rfl rfl rfl ?_
    exact wi_zret hm149 rfl (by decide) h
  · replace h := h.2 hc
    refine wi_iload_n (pc' := 6) hm149 rfl rfl rfl ?_
    refine wi_iload_n (pc' := 7) hm149 rfl rfl rfl ?_
    refine wi_ic_gt (pc' := 10) (t := 14) hm149 rfl rfl rfl (fun hc => ?_) (fun hc => ?_)
    · replace h := h.1 hc
      refine wi_iconst (pc' := 15) (v := 0) hm149 rfl rfl rfl ?_
      exact wi_zret hm149 rfl (by decide) h
    · replace h := h.2 hc
      refine wi_iconst (pc' := 11) (v := 1) hm149 rfl rfl rfl ?_
      refine wi_goto (t := 15) hm149 rfl rfl ?_
      exact wi_zret hm149 rfl (by decide) h
theorem hm150 : fx_code 150 = fx_c150 := rfl
theorem t150_0 {o0 : Int} {σ : fx_S} {Q : fx_V → fx_S → Prop} (h : Q (4, 0) (fx_up σ 46 o0 5 0)) : fx_Ca 150 [(46, o0)] σ Q := by
  show fx_Wp 150 0 [(46, o0)] [] σ Q
  refine wi_aload_n (pc' := 1) hm150 rfl rfl rfl (by decide) ?_
  refine wi_iconst (pc' := 2) (v := 0) hm150 rfl rfl rfl ?_
  refine wi_putI (pc' := 5) hm150 rfl rfl (P := 5) rfl ?_
  exact wi_vret hm150 rfl h
theorem hm151 : fx_code 151 = fx_c151 := rfl
theorem t151_0 {o0 x1 x2 : Int} {σ : fx_S} {Q : fx_V → fx_S → Prop} (h : (fx_rg (6 * x1)) ∧ (fx_rg (18 + (6 * x1))) ∧ (fx_rg ((18 + (6 * x1)) + x2)) ∧ (0 ≤ ((18 + (6 * x1)) + x2) ∧ ((18 + (6 * x1)) + x2) < 1130) ∧ Q (0, (σ 47 0 ((18 + (6 * x1)) + x2))) σ) : fx_Ca 151 [(46, o0), (0, x1), (0, x2)] σ Q := by
  show fx_Wp 151 0 [(46, o0), (0, x1), (0, x2)] [] σ Q
  refine wi_aload_n (pc' := 1) hm151 rfl rfl rfl (by decide) ?_
  refine wi_getR (pc' := 4) (x := 0) hm151 rfl rfl rfl (by omega) ?_
  refine wi_bipush (pc' := 6) (v := 18) hm151 rfl rfl rfl ?_
  refine wi_bipush (pc' := 8) (v := 6) hm151 rfl rfl rfl ?_
  refine wi_iload_n (pc' := 9) hm151 rfl rfl rfl ?_
  obtain ⟨g1, h⟩ := h
  refine wi_imul (pc' := 10) hm151 rfl rfl g1 ?_
  obtain ⟨g2, h⟩ := h
  refine wi_iadd (pc' := 11) hm151 rfl rfl g2 ?_
  refine wi_iload_n (pc' := 12) hm151 rfl rfl rfl ?_
  obtain ⟨g3, h⟩ := h
  refine wi_iadd (pc' := 13) hm151 rfl rfl g3 ?_
  obtain ⟨g4, h⟩ := h
  refine wi_iaload (pc' := 14) hm151 rfl rfl rfl rfl (N := 1130) rfl g4 ?_
  exact wi_iret hm151 rfl h
theorem hm152 : fx_code 152 = fx_c152 := rfl
theorem t152_0 {o0 x1 : Int} {σ : fx_S} {Q : fx_V → fx_S → Prop} (h : (fx_rg ((σ 47 0 0) - 1)) ∧ fx_CI 149 [(0, x1), (0, 0), (0, ((σ 47 0 0) - 1))] σ Q (fun y1 σ1 => (y1 = 0 ∨ y1 = 1) ∧ Q (0, y1) σ1)) : fx_Ca 152 [(46, o0), (0, x1)] σ Q := by
  show fx_Wp 152 0 [(46, o0), (0, x1)] [] σ Q
  refine wi_iload_n (pc' := 1) hm152 rfl rfl rfl ?_
  refine wi_iconst (pc' := 2) (v := 0) hm152 rfl rfl rfl ?_
  refine wi_aload_n (pc' := 3) hm152 rfl rfl rfl (by decide) ?_
  refine wi_getR (pc' := 6) (x := 0) hm152 rfl rfl rfl (by omega) ?_
  refine wi_iconst (pc' := 7) (v := 0) hm152 rfl rfl rfl ?_
  refine wi_iaload (pc' := 8) hm152 rfl rfl rfl rfl (N := 1130) rfl (by decide) ?_
  refine wi_iconst (pc' := 9) (v := 1) hm152 rfl rfl rfl ?_
  obtain ⟨g1, h⟩ := h
  refine wi_isub (pc' := 10) hm152 rfl rfl g1 ?_
  refine wc_I (pc' := 13) (by decide) rfl (by decide) ((fx_wE hm152 rfl).trans (fx_exS (mj := 149) (as := [(0, x1), (0, 0), (0, ((σ 47 0 0) - 1))]) (rest := []) rfl rk149 rfl rfl rfl rfl)) h (fun y1 σ1 h => ?_)
  obtain ⟨g2, h⟩ := h
  exact wi_zret hm152 rfl g2 h
theorem hm153 : fx_code 153 = fx_c153 := rfl
theorem t153_0 {o0 x1 : Int} {σ : fx_S} {Q : fx_V → fx_S → Prop} (h : (fx_rg ((σ 47 0 1) - 1)) ∧ fx_CI 149 [(0, x1), (0, 0), (0, ((σ 47 0 1) - 1))] σ Q (fun y1 σ1 => (y1 = 0 ∨ y1 = 1) ∧ Q (0, y1) σ1)) : fx_Ca 153 [(46, o0), (0, x1)] σ Q := by
  show fx_Wp 153 0 [(46, o0), (0, x1)] [] σ Q
  refine wi_iload_n (pc' := 1) hm153 rfl rfl rfl ?_
  refine wi_iconst (pc' := 2) (v := 0) hm153 rfl rfl rfl ?_
  refine wi_aload_n (pc' := 3) hm153 rfl rfl rfl (by decide) ?_
  refine wi_getR (pc' := 6) (x := 0) hm153 rfl rfl rfl (by omega) ?_
  refine wi_iconst (pc' := 7) (v := 1) hm153 rfl rfl rfl ?_
  refine wi_iaload (pc' := 8) hm153 rfl rfl rfl rfl (N := 1130) rfl (by decide) ?_
  refine wi_iconst (pc' := 9) (v := 1) hm153 rfl rfl rfl ?_
  obtain ⟨g1, h⟩ := h
  refine wi_isub (pc' := 10) hm153 rfl rfl g1 ?_
  refine wc_I (pc' := 13) (by decide) rfl (by decide) ((fx_wE hm153 rfl).trans (fx_exS (mj := 149) (as := [(0, x1), (0, 0), (0, ((σ 47 0 1) - 1))]) (rest := []) rfl rk149 rfl rfl rfl rfl)) h (fun y1 σ1 h => ?_)
  obtain ⟨g2, h⟩ := h
  exact wi_zret hm153 rfl g2 h
theorem hm154 : fx_code 154 = fx_c154 := rfl
theorem t154_0 {x0 : Int} {σ : fx_S} {Q : fx_V → fx_S → Prop} (h : fx_CI 149 [(0, x0), (0, 0), (0, 7)] σ Q (fun y1 σ1 => (y1 = 0 ∨ y1 = 1) ∧ Q (0, y1) σ1)) : fx_Ca 154 [(0, x0)] σ Q := by
  show fx_Wp 154 0 [(0, x0)] [] σ Q
  refine wi_iload_n (pc' := 1) hm154 rfl rfl rfl ?_
  refine wi_iconst (pc' := 2) (v := 0) hm154 rfl rfl rfl ?_
  refine wi_bipush (pc' := 4) (v := 7) hm154 rfl rfl rfl ?_
  refine wc_I (pc' := 7) (by decide) rfl (by decide) ((fx_wE hm154 rfl).trans (fx_exS (mj := 149) (as := [(0, x0), (0, 0), (0, 7)]) (rest := []) rfl rk149 rfl rfl rfl rfl)) h (fun y1 σ1 h => ?_)
  obtain ⟨g1, h⟩ := h
  exact wi_zret hm154 rfl g1 h
theorem hm155 : fx_code 155 = fx_c155 := rfl
theorem t155_0 {x0 : Int} {σ : fx_S} {Q : fx_V → fx_S → Prop} (h : fx_CI 149 [(0, x0), (0, 0), (0, 999)] σ Q (fun y1 σ1 => (y1 = 0 ∨ y1 = 1) ∧ Q (0, y1) σ1)) : fx_Ca 155 [(0, x0)] σ Q := by
  show fx_Wp 155 0 [(0, x0)] [] σ Q
  refine wi_iload_n (pc' := 1) hm155 rfl rfl rfl ?_
  refine wi_iconst (pc' := 2) (v := 0) hm155 rfl rfl rfl ?_
  refine wi_sipush (pc' := 5) (v := 999) hm155 rfl rfl rfl ?_
  refine wc_I (pc' := 8) (by decide) rfl (by decide) ((fx_wE hm155 rfl).trans (fx_exS (mj := 149) (as := [(0, x0), (0, 0), (0, 999)]) (rest := []) rfl rk149 rfl rfl rfl rfl)) h (fun y1 σ1 h => ?_)
  obtain ⟨g1, h⟩ := h
  exact wi_zret hm155 rfl g1 h
theorem hm156 : fx_code 156 = fx_c156 := rfl
theorem t156_0 {o0 x1 x2 : Int} {σ : fx_S} {Q : fx_V → fx_S → Prop} (h : (((σ 46 o0 21) ≤ x1 → Q (0, 0) σ) ∧ (x1 < (σ 46 o0 21) → fx_CI 151 [(46, o0), (0, x1), (0, 5)] σ Q (fun y1 σ1 => ((y1 ≠ 0 → Q (0, 0) σ1) ∧ (y1 = 0 → fx_CI 151 [(46, o0), (0, x1), (0, 1)] σ1 Q (fun y2 σ2 => (fx_rg (10 + y2)) ∧ (0 ≤ (10 + y2) ∧ (10 + y2) < 1130) ∧ (((σ2 47 0 (10 + y2)) ≠ 0 → Q (0, 0) σ2) ∧ ((σ2 47 0 (10 + y2)) = 0 → fx_CI 151 [(46, o0), (0, x1), (0, 2)] σ2 Q (fun y3 σ3 => fx_CI 151 [(46, o0), (0, x1), (0, 3)] σ3 Q (fun y4 σ4 => (fx_rg (y4 - 1)) ∧ fx_CI 149 [(0, x2), (0, y3), (0, (y4 - 1))] σ4 Q (fun y5 σ5 => ((y5 = 0 → Q (0, 0) σ5) ∧ (y5 ≠ 0 → Q (0, 1) σ5)))))))))))))) : fx_Ca 156 [(46, o0), (0, x1), (0, x2)] σ Q := by
  show fx_Wp 156 0 [(46, o0), (0, x1), (0, x2)] [] σ Q
  refine wi_iload_n (pc' := 1) hm156 rfl rfl rfl ?_
  refine wi_aload_n (pc' := 2) hm156 rfl rfl rfl (by decide) ?_
  refine wi_getI (pc' := 5) hm156 rfl rfl (P := 21) rfl ?_
  refine wi_ic_ge (pc' := 8) (t := 59) hm156 rfl rfl rfl (fun hc => ?_) (fun hc => ?_)
  · replace h := h.1 hc
    refine wi_iconst (pc' := 60) (v := 0) hm156 rfl rfl rfl ?_
    exact wi_zret hm156 rfl (by decide) h
  · replace h := h.2 hc
    refine wi_aload_n (pc' := 9) hm156 rfl rfl rfl (by decide) ?_
    refine wi_iload_n (pc' := 10) hm156 rfl rfl rfl ?_
    refine wi_iconst (pc' := 11) (v := 5) hm156 rfl rfl rfl ?_
    refine wc_I (pc' := 14) (by decide) rfl (by decide) ((fx_wE hm156 rfl).trans (fx_exV (mj := 151) (as := [(0, x1), (0, 5)]) (rest := []) rfl rk151 rfl rfl rfl rfl rfl)) h (fun y1 σ1 h => ?_)
    refine wi_if_ne (pc' := 17) (t := 59) hm156 rfl rfl rfl (fun hc => ?_) (fun hc => ?_)
    · replace h := h.1 hc
      refine wi_iconst (pc' := 60) (v := 0) hm156 rfl rfl rfl ?_
      exact wi_zret hm156 rfl (by decide) h
    · replace h := h.2 hc
      refine wi_aload_n (pc' := 18) hm156 rfl rfl rfl (by decide) ?_
      refine wi_getR (pc' := 21) (x := 0) hm156 rfl rfl rfl (by omega) ?_
      refine wi_bipush (pc' := 23) (v := 10) hm156 rfl rfl rfl ?_
      refine wi_aload_n (pc' := 24) hm156 rfl rfl rfl (by decide) ?_
      refine wi_iload_n (pc' := 25) hm156 rfl rfl rfl ?_
      refine wi_iconst (pc' := 26) (v := 1) hm156 rfl rfl rfl ?_
      refine wc_I (pc' := 29) (by decide) rfl (by decide) ((fx_wE hm156 rfl).trans (fx_exV (mj := 151) (as := [(0, x1), (0, 1)]) (rest := [(0, 10), (47, 0)]) rfl rk151 rfl rfl rfl rfl rfl)) h (fun y2 σ2 h => ?_)
      obtain ⟨g1, h⟩ := h
      refine wi_iadd (pc' := 30) hm156 rfl rfl g1 ?_
      obtain ⟨g2, h⟩ := h
      refine wi_iaload (pc' := 31) hm156 rfl rfl rfl rfl (N := 1130) rfl g2 ?_
      refine wi_if_ne (pc' := 34) (t := 59) hm156 rfl rfl rfl (fun hc => ?_) (fun hc => ?_)
      · replace h := h.1 hc
        refine wi_iconst (pc' := 60) (v := 0) hm156 rfl rfl rfl ?_
        exact wi_zret hm156 rfl (by decide) h
      · replace h := h.2 hc
        refine wi_iload_n (pc' := 35) hm156 rfl rfl rfl ?_
        refine wi_aload_n (pc' := 36) hm156 rfl rfl rfl (by decide) ?_
        refine wi_iload_n (pc' := 37) hm156 rfl rfl rfl ?_
        refine wi_iconst (pc' := 38) (v := 2) hm156 rfl rfl rfl ?_
        refine wc_I (pc' := 41) (by decide) rfl (by decide) ((fx_wE hm156 rfl).trans (fx_exV (mj := 151) (as := [(0, x1), (0, 2)]) (rest := [(0, x2)]) rfl rk151 rfl rfl rfl rfl rfl)) h (fun y3 σ3 h => ?_)
        refine wi_aload_n (pc' := 42) hm156 rfl rfl rfl (by decide) ?_
        refine wi_iload_n (pc' := 43) hm156 rfl rfl rfl ?_
        refine wi_iconst (pc' := 44) (v := 3) hm156 rfl rfl rfl ?_
        refine wc_I (pc' := 47) (by decide) rfl (by decide) ((fx_wE hm156 rfl).trans (fx_exV (mj := 151) (as := [(0, x1), (0, 3)]) (rest := [(0, y3), (0, x2)]) rfl rk151 rfl rfl rfl rfl rfl)) h (fun y4 σ4 h => ?_)
        refine wi_iconst (pc' := 48) (v := 1) hm156 rfl rfl rfl ?_
        obtain ⟨g3, h⟩ := h
        refine wi_isub (pc' := 49) hm156 rfl rfl g3 ?_
        refine wc_I (pc' := 52) (by decide) rfl (by decide) ((fx_wE hm156 rfl).trans (fx_exS (mj := 149) (as := [(0, x2), (0, y3), (0, (y4 - 1))]) (rest := []) rfl rk149 rfl rfl rfl rfl)) h (fun y5 σ5 h => ?_)
        refine wi_if_eq (pc' := 55) (t := 59) hm156 rfl rfl rfl (fun hc => ?_) (fun hc => ?_)
        · replace h := h.1 hc
          refine wi_iconst (pc' := 60) (v := 0) hm156 rfl rfl rfl ?_
          exact wi_zret hm156 rfl (by decide) h
        · replace h := h.2 hc
          refine wi_iconst (pc' := 56) (v := 1) hm156 rfl rfl rfl ?_
          refine wi_goto (t := 60) hm156 rfl rfl ?_
          exact wi_zret hm156 rfl (by decide) h
theorem hm157 : fx_code 157 = fx_c157 := rfl
theorem t157_0 {o0 x1 : Int} {σ : fx_S} {Q : fx_V → fx_S → Prop} (h : fx_CI 151 [(46, o0), (0, x1), (0, 3)] σ Q (fun y1 σ1 => fx_CI 151 [(46, o0), (0, x1), (0, 2)] σ1 Q (fun y2 σ2 => (fx_rg (y1 - y2)) ∧ Q (0, (y1 - y2)) σ2))) : fx_Ca 157 [(46, o0), (0, x1)] σ Q := by
  show fx_Wp 157 0 [(46, o0), (0, x1)] [] σ Q
  refine wi_aload_n (pc' := 1) hm157 rfl rfl rfl (by decide) ?_
  refine wi_iload_n (pc' := 2) hm157 rfl rfl rfl ?_
  refine wi_iconst (pc' := 3) (v := 3) hm157 rfl rfl rfl ?_
  refine wc_I (pc' := 6) (by decide) rfl (by decide) ((fx_wE hm157 rfl).trans (fx_exV (mj := 151) (as := [(0, x1), (0, 3)]) (rest := []) rfl rk151 rfl rfl rfl rfl rfl)) h (fun y1 σ1 h => ?_)
  refine wi_aload_n (pc' := 7) hm157 rfl rfl rfl (by decide) ?_
  refine wi_iload_n (pc' := 8) hm157 rfl rfl rfl ?_
  refine wi_iconst (pc' := 9) (v := 2) hm157 rfl rfl rfl ?_
  refine wc_I (pc' := 12) (by decide) rfl (by decide) ((fx_wE hm157 rfl).trans (fx_exV (mj := 151) (as := [(0, x1), (0, 2)]) (rest := [(0, y1)]) rfl rk151 rfl rfl rfl rfl rfl)) h (fun y2 σ2 h => ?_)
  obtain ⟨g1, h⟩ := h
  refine wi_isub (pc' := 13) hm157 rfl rfl g1 ?_
  exact wi_iret hm157 rfl h
theorem hm158 : fx_code 158 = fx_c158 := rfl
theorem t158_0 {o0 x1 x2 : Int} {σ : fx_S} {Q : fx_V → fx_S → Prop} (h : fx_CI 151 [(46, o0), (0, x1), (0, 1)] σ Q (fun y1 σ1 => fx_CI 151 [(46, o0), (0, x2), (0, 1)] σ1 Q (fun y2 σ2 => (fx_rg (2 + y1)) ∧ (0 ≤ (2 + y1) ∧ (2 + y1) < 1130) ∧ (fx_rg (2 + y2)) ∧ (0 ≤ (2 + y2) ∧ (2 + y2) < 1130) ∧ (((σ2 47 0 (2 + y1)) = (σ2 47 0 (2 + y2)) → ((y1 = y2 → fx_CI 157 [(46, o0), (0, x1)] σ2 Q (fun y3 σ3 => fx_CI 157 [(46, o0), (0, x2)] σ3 Q (fun y4 σ4 => ((y3 = y4 → fx_CI 151 [(46, o0), (0, x1), (0, 2)] σ4 Q (fun y5 σ5 => fx_CI 151 [(46, o0), (0, x2), (0, 2)] σ5 Q (fun y6 σ6 => ((y5 = y6 → fx_CI 151 [(46, o0), (0, x1), (0, 4)] σ6 Q (fun y7 σ7 => fx_CI 151 [(46, o0), (0, x2), (0, 4)] σ7 Q (fun y8 σ8 => ((y7 = y8 → ((x2 ≤ x1 → Q (0, 0) σ8) ∧ (x1 < x2 → Q (0, 1) σ8))) ∧ (y7 ≠ y8 → fx_CI 151 [(46, o0), (0, x1), (0, 4)] σ8 Q (fun y9 σ9 => fx_CI 151 [(46, o0), (0, x2), (0, 4)] σ9 Q (fun y10 σ10 => ((y9 ≤ y10 → Q (0, 0) σ10) ∧ (y10 < y9 → Q (0, 1) σ10))))))))) ∧ (y5 ≠ y6 → fx_CI 151 [(46, o0), (0, x1), (0, 2)] σ6 Q (fun y11 σ11 => fx_CI 151 [(46, o0), (0, x2), (0, 2)] σ11 Q (fun y12 σ12 => ((y11 ≤ y12 → Q (0, 0) σ12) ∧ (y12 < y11 → Q (0, 1) σ12))))))))) ∧ (y3 ≠ y4 → fx_CI 157 [(46, o0), (0, x1)] σ4 Q (fun y13 σ13 => fx_CI 157 [(46, o0), (0, x2)] σ13 Q (fun y14 σ14 => ((y14 ≤ y13 → Q (0, 0) σ14) ∧ (y13 < y14 → Q (0, 1) σ14))))))))) ∧ (y1 ≠ y2 → ((y2 ≤ y1 → Q (0, 0) σ2) ∧ (y1 < y2 → Q (0, 1) σ2))))) ∧ ((σ2 47 0 (2 + y1)) ≠ (σ2 47 0 (2 + y2)) → (((σ2 47 0 (2 + y1)) ≤ (σ2 47 0 (2 + y2)) → Q (0, 0) σ2) ∧ ((σ2 47 0 (2 + y2)) < (σ2 47 0 (2 + y1)) → Q (0, 1) σ2))))))) : fx_Ca 158 [(46, o0), (0, x1), (0, x2)] σ Q := by
  show fx_Wp 158 0 [(46, o0), (0, x1), (0, x2), (3, 0), (3, 0)] [] σ Q
  refine wi_aload_n (pc' := 1) hm158 rfl rfl rfl (by decide) ?_
  refine wi_iload_n (pc' := 2) hm158 rfl rfl rfl ?_
  refine wi_iconst (pc' := 3) (v := 1) hm158 rfl rfl rfl ?_
  refine wc_I (pc' := 6) (by decide) rfl (by decide) ((fx_wE hm158 rfl).trans (fx_exV (mj := 151) (as := [(0, x1), (0, 1)]) (rest := []) rfl rk151 rfl rfl rfl rfl rfl)) h (fun y1 σ1 h => ?_)
  refine wi_istore_n (pc' := 7) (L' := [(46, o0), (0, x1), (0, x2), (0, y1), (3, 0)]) hm158 rfl rfl rfl ?_
  refine wi_aload_n (pc' := 8) hm158 rfl rfl rfl (by decide) ?_
  refine wi_iload_n (pc' := 9) hm158 rfl rfl rfl ?_
  refine wi_iconst (pc' := 10) (v := 1) hm158 rfl rfl rfl ?_
  refine wc_I (pc' := 13) (by decide) rfl (by decide) ((fx_wE hm158 rfl).trans (fx_exV (mj := 151) (as := [(0, x2), (0, 1)]) (rest := []) rfl rk151 rfl rfl rfl rfl rfl)) h (fun y2 σ2 h => ?_)
  refine wi_istore (pc' := 15) (L' := [(46, o0), (0, x1), (0, x2), (0, y1), (0, y2)]) hm158 rfl rfl rfl ?_
  refine wi_aload_n (pc' := 16) hm158 rfl rfl rfl (by decide) ?_
  refine wi_getR (pc' := 19) (x := 0) hm158 rfl rfl rfl (by omega) ?_
  refine wi_iconst (pc' := 20) (v := 2) hm158 rfl rfl rfl ?_
  refine wi_iload_n (pc' := 21) hm158 rfl rfl rfl ?_
  obtain ⟨g1, h⟩ := h
  refine wi_iadd (pc' := 22) hm158 rfl rfl g1 ?_
  obtain ⟨g2, h⟩ := h
  refine wi_iaload (pc' := 23) hm158 rfl rfl rfl rfl (N := 1130) rfl g2 ?_
  refine wi_aload_n (pc' := 24) hm158 rfl rfl rfl (by decide) ?_
  refine wi_getR (pc' := 27) (x := 0) hm158 rfl rfl rfl (by omega) ?_
  refine wi_iconst (pc' := 28) (v := 2) hm158 rfl rfl rfl ?_
  refine wi_iload (pc' := 30) hm158 rfl rfl rfl ?_
  obtain ⟨g3, h⟩ := h
  refine wi_iadd (pc' := 31) hm158 rfl rfl g3 ?_
  obtain ⟨g4, h⟩ := h
  refine wi_iaload (pc' := 32) hm158 rfl rfl rfl rfl (N := 1130) rfl g4 ?_
  refine wi_ic_eq (pc' := 35) (t := 61) hm158 rfl rfl rfl (fun hc => ?_) (fun hc => ?_)
  · replace h := h.1 hc
    refine wi_iload_n (pc' := 62) hm158 rfl rfl rfl ?_
    refine wi_iload (pc' := 64) hm158 rfl rfl rfl ?_
    refine wi_ic_eq (pc' := 67) (t := 79) hm158 rfl rfl rfl (fun hc => ?_) (fun hc => ?_)
    · replace h := h.1 hc
      refine wi_aload_n (pc' := 80) hm158 rfl rfl rfl (by decide) ?_
      refine wi_iload_n (pc' := 81) hm158 rfl rfl rfl ?_
      refine wc_I (pc' := 84) (by decide) rfl (by decide) ((fx_wE hm158 rfl).trans (fx_exV (mj := 157) (as := [(0, x1)]) (rest := []) rfl rk157 rfl rfl rfl rfl rfl)) h (fun y3 σ3 h => ?_)
      refine wi_aload_n (pc' := 85) hm158 rfl rfl rfl (by decide) ?_
      refine wi_iload_n (pc' := 86) hm158 rfl rfl rfl ?_
      refine wc_I (pc' := 89) (by decide) rfl (by decide) ((fx_wE hm158 rfl).trans (fx_exV (mj := 157) (as := [(0, x2)]) (rest := [(0, y3)]) rfl rk157 rfl rfl rfl rfl rfl)) h (fun y4 σ4 h => ?_)
      refine wi_ic_eq (pc' := 92) (t := 111) hm158 rfl rfl rfl (fun hc => ?_) (fun hc => ?_)
      · replace h := h.1 hc
        refine wi_aload_n (pc' := 112) hm158 rfl rfl rfl (by decide) ?_
        refine wi_iload_n (pc' := 113) hm158 rfl rfl rfl ?_
        refine wi_iconst (pc' := 114) (v := 2) hm158 rfl rfl rfl ?_
        refine wc_I (pc' := 117) (by decide) rfl (by decide) ((fx_wE hm158 rfl).trans (fx_exV (mj := 151) (as := [(0, x1), (0, 2)]) (rest := []) rfl rk151 rfl rfl rfl rfl rfl)) h (fun y5 σ5 h => ?_)
        refine wi_aload_n (pc' := 118) hm158 rfl rfl rfl (by decide) ?_
        refine wi_iload_n (pc' := 119) hm158 rfl rfl rfl ?_
        refine wi_iconst (pc' := 120) (v := 2) hm158 rfl rfl rfl ?_
        refine wc_I (pc' := 123) (by decide) rfl (by decide) ((fx_wE hm158 rfl).trans (fx_exV (mj := 151) (as := [(0, x2), (0, 2)]) (rest := [(0, y5)]) rfl rk151 rfl rfl rfl rfl rfl)) h (fun y6 σ6 h => ?_)
        refine wi_ic_eq (pc' := 126) (t := 147) hm158 rfl rfl rfl (fun hc => ?_) (fun hc => ?_)
        · replace h := h.1 hc
          refine wi_aload_n (pc' := 148) hm158 rfl rfl rfl (by decide) ?_
          refine wi_iload_n (pc' := 149) hm158 rfl rfl rfl ?_
          refine wi_iconst (pc' := 150) (v := 4) hm158 rfl rfl rfl ?_
          refine wc_I (pc' := 153) (by decide) rfl (by decide) ((fx_wE hm158 rfl).trans (fx_exV (mj := 151) (as := [(0, x1), (0, 4)]) (rest := []) rfl rk151 rfl rfl rfl rfl rfl)) h (fun y7 σ7 h => ?_)
          refine wi_aload_n (pc' := 154) hm158 rfl rfl rfl (by decide) ?_
          refine wi_iload_n (pc' := 155) hm158 rfl rfl rfl ?_
          refine wi_iconst (pc' := 156) (v := 4) hm158 rfl rfl rfl ?_
          refine wc_I (pc' := 159) (by decide) rfl (by decide) ((fx_wE hm158 rfl).trans (fx_exV (mj := 151) (as := [(0, x2), (0, 4)]) (rest := [(0, y7)]) rfl rk151 rfl rfl rfl rfl rfl)) h (fun y8 σ8 h => ?_)
          refine wi_ic_eq (pc' := 162) (t := 183) hm158 rfl rfl rfl (fun hc => ?_) (fun hc => ?_)
          · replace h := h.1 hc
            refine wi_iload_n (pc' := 184) hm158 rfl rfl rfl ?_
            refine wi_iload_n (pc' := 185) hm158 rfl rfl rfl ?_
            refine wi_ic_ge (pc' := 188) (t := 192) hm158 rfl rfl rfl (fun hc => ?_) (fun hc => ?_)
            · replace h := h.1 hc
              refine wi_iconst (pc' := 193) (v := 0) hm158 rfl rfl rfl ?_
              exact wi_zret hm158 rfl (by decide) h
            · replace h := h.2 hc
              refine wi_iconst (pc' := 189) (v := 1) hm158 rfl rfl rfl ?_
              refine wi_goto (t := 193) hm158 rfl rfl ?_
              exact wi_zret hm158 rfl (by decide) h
          · replace h := h.2 hc
            refine wi_aload_n (pc' := 163) hm158 rfl rfl rfl (by decide) ?_
            refine wi_iload_n (pc' := 164) hm158 rfl rfl rfl ?_
            refine wi_iconst (pc' := 165) (v := 4) hm158 rfl rfl rfl ?_
            refine wc_I (pc' := 168) (by decide) rfl (by decide) ((fx_wE hm158 rfl).trans (fx_exV (mj := 151) (as := [(0, x1), (0, 4)]) (rest := []) rfl rk151 rfl rfl rfl rfl rfl)) h (fun y9 σ9 h => ?_)
            refine wi_aload_n (pc' := 169) hm158 rfl rfl rfl (by decide) ?_
            refine wi_iload_n (pc' := 170) hm158 rfl rfl rfl ?_
            refine wi_iconst (pc' := 171) (v := 4) hm158 rfl rfl rfl ?_
            refine wc_I (pc' := 174) (by decide) rfl (by decide) ((fx_wE hm158 rfl).trans (fx_exV (mj := 151) (as := [(0, x2), (0, 4)]) (rest := [(0, y9)]) rfl rk151 rfl rfl rfl rfl rfl)) h (fun y10 σ10 h => ?_)
            refine wi_ic_le (pc' := 177) (t := 181) hm158 rfl rfl rfl (fun hc => ?_) (fun hc => ?_)
            · replace h := h.1 hc
              refine wi_iconst (pc' := 182) (v := 0) hm158 rfl rfl rfl ?_
              exact wi_zret hm158 rfl (by decide) h
            · replace h := h.2 hc
              refine wi_iconst (pc' := 178) (v := 1) hm158 rfl rfl rfl ?_
              refine wi_goto (t := 182) hm158 rfl rfl ?_
              exact wi_zret hm158 rfl (by decide) h
        · replace h := h.2 hc
          refine wi_aload_n (pc' := 127) hm158 rfl rfl rfl (by decide) ?_
          refine wi_iload_n (pc' := 128) hm158 rfl rfl rfl ?_
          refine wi_iconst (pc' := 129) (v := 2) hm158 rfl rfl rfl ?_
          refine wc_I (pc' := 132) (by decide) rfl (by decide) ((fx_wE hm158 rfl).trans (fx_exV (mj := 151) (as := [(0, x1), (0, 2)]) (rest := []) rfl rk151 rfl rfl rfl rfl rfl)) h (fun y11 σ11 h => ?_)
          refine wi_aload_n (pc' := 133) hm158 rfl rfl rfl (by decide) ?_
          refine wi_iload_n (pc' := 134) hm158 rfl rfl rfl ?_
          refine wi_iconst (pc' := 135) (v := 2) hm158 rfl rfl rfl ?_
          refine wc_I (pc' := 138) (by decide) rfl (by decide) ((fx_wE hm158 rfl).trans (fx_exV (mj := 151) (as := [(0, x2), (0, 2)]) (rest := [(0, y11)]) rfl rk151 rfl rfl rfl rfl rfl)) h (fun y12 σ12 h => ?_)
          refine wi_ic_le (pc' := 141) (t := 145) hm158 rfl rfl rfl (fun hc => ?_) (fun hc => ?_)
          · replace h := h.1 hc
            refine wi_iconst (pc' := 146) (v := 0) hm158 rfl rfl rfl ?_
            exact wi_zret hm158 rfl (by decide) h
          · replace h := h.2 hc
            refine wi_iconst (pc' := 142) (v := 1) hm158 rfl rfl rfl ?_
            refine wi_goto (t := 146) hm158 rfl rfl ?_
            exact wi_zret hm158 rfl (by decide) h
      · replace h := h.2 hc
        refine wi_aload_n (pc' := 93) hm158 rfl rfl rfl (by decide) ?_
        refine wi_iload_n (pc' := 94) hm158 rfl rfl rfl ?_
        refine wc_I (pc' := 97) (by decide) rfl (by decide) ((fx_wE hm158 rfl).trans (fx_exV (mj := 157) (as := [(0, x1)]) (rest := []) rfl rk157 rfl rfl rfl rfl rfl)) h (fun y13 σ13 h => ?_)
        refine wi_aload_n (pc' := 98) hm158 rfl rfl rfl (by decide) ?_
        refine wi_iload_n (pc' := 99) hm158 rfl rfl rfl ?_
        refine wc_I (pc' := 102) (by decide) rfl (by decide) ((fx_wE hm158 rfl).trans (fx_exV (mj := 157) (as := [(0, x2)]) (rest := [(0, y13)]) rfl rk157 rfl rfl rfl rfl rfl)) h (fun y14 σ14 h => ?_)
        refine wi_ic_ge (pc' := 105) (t := 109) hm158 rfl rfl rfl (fun hc => ?_) (fun hc => ?_)
        · replace h := h.1 hc
          refine wi_iconst (pc' := 110) (v := 0) hm158 rfl rfl rfl ?_
          exact wi_zret hm158 rfl (by decide) h
        · replace h := h.2 hc
          refine wi_iconst (pc' := 106) (v := 1) hm158 rfl rfl rfl ?_
          refine wi_goto (t := 110) hm158 rfl rfl ?_
          exact wi_zret hm158 rfl (by decide) h
    · replace h := h.2 hc
      refine wi_iload_n (pc' := 68) hm158 rfl rfl rfl ?_
      refine wi_iload (pc' := 70) hm158 rfl rfl rfl ?_
      refine wi_ic_ge (pc' := 73) (t := 77) hm158 rfl rfl rfl (fun hc => ?_) (fun hc => ?_)
      · replace h := h.1 hc
        refine wi_iconst (pc' := 78) (v := 0) hm158 rfl rfl rfl ?_
        exact wi_zret hm158 rfl (by decide) h
      · replace h := h.2 hc
        refine wi_iconst (pc' := 74) (v := 1) hm158 rfl rfl rfl ?_
        refine wi_goto (t := 78) hm158 rfl rfl ?_
        exact wi_zret hm158 rfl (by decide) h
  · replace h := h.2 hc
    refine wi_aload_n (pc' := 36) hm158 rfl rfl rfl (by decide) ?_
    refine wi_getR (pc' := 39) (x := 0) hm158 rfl rfl rfl (by omega) ?_
    refine wi_iconst (pc' := 40) (v := 2) hm158 rfl rfl rfl ?_
    refine wi_iload_n (pc' := 41) hm158 rfl rfl rfl ?_
    refine wi_iadd (pc' := 42) hm158 rfl rfl g1 ?_
    refine wi_iaload (pc' := 43) hm158 rfl rfl rfl rfl (N := 1130) rfl g2 ?_
    refine wi_aload_n (pc' := 44) hm158 rfl rfl rfl (by decide) ?_
    refine wi_getR (pc' := 47) (x := 0) hm158 rfl rfl rfl (by omega) ?_
    refine wi_iconst (pc' := 48) (v := 2) hm158 rfl rfl rfl ?_
    refine wi_iload (pc' := 50) hm158 rfl rfl rfl ?_
    refine wi_iadd (pc' := 51) hm158 rfl rfl g3 ?_
    refine wi_iaload (pc' := 52) hm158 rfl rfl rfl rfl (N := 1130) rfl g4 ?_
    refine wi_ic_le (pc' := 55) (t := 59) hm158 rfl rfl rfl (fun hc => ?_) (fun hc => ?_)
    · replace h := h.1 hc
      refine wi_iconst (pc' := 60) (v := 0) hm158 rfl rfl rfl ?_
      exact wi_zret hm158 rfl (by decide) h
    · replace h := h.2 hc
      refine wi_iconst (pc' := 56) (v := 1) hm158 rfl rfl rfl ?_
      refine wi_goto (t := 60) hm158 rfl rfl ?_
      exact wi_zret hm158 rfl (by decide) h
theorem hm159 : fx_code 159 = fx_c159 := rfl
theorem t159_0 {o0 x1 x2 x3 : Int} {σ : fx_S} {Q : fx_V → fx_S → Prop} (h : fx_Wp 159 6 [(46, o0), (0, x1), (0, x2), (0, x3), (0, (-1)), (0, 0)] [] σ Q) : fx_Ca 159 [(46, o0), (0, x1), (0, x2), (0, x3)] σ Q := by
  show fx_Wp 159 0 [(46, o0), (0, x1), (0, x2), (0, x3), (3, 0), (3, 0)] [] σ Q
  refine wi_iconst (pc' := 1) (v := (-1)) hm159 rfl rfl rfl ?_
  refine wi_istore (pc' := 3) (L' := [(46, o0), (0, x1), (0, x2), (0, x3), (0, (-1)), (3, 0)]) hm159 rfl rfl rfl ?_
  refine wi_iconst (pc' := 4) (v := 0) hm159 rfl rfl rfl ?_
  refine wi_istore (pc' := 6) (L' := [(46, o0), (0, x1), (0, x2), (0, x3), (0, (-1)), (0, 0)]) hm159 rfl rfl rfl ?_
  exact h
theorem t159_6 {o0 x1 x2 x3 x4 x5 : Int} {σ : fx_S} {Q : fx_V → fx_S → Prop} (h : (((σ 47 0 1) ≤ x5 → Q (0, x4) σ) ∧ (x5 < (σ 47 0 1) → fx_CI 151 [(46, o0), (0, x5), (0, 0)] σ Q (fun y1 σ1 => ((y1 ≠ x1 → (fx_rg (x5 + 1)) ∧ fx_Wp 159 6 [(46, o0), (0, x1), (0, x2), (0, x3), (0, x4), (0, (x5 + 1))] [] σ1 Q) ∧ (y1 = x1 → ((x3 = (-1) → fx_Wp 159 44 [(46, o0), (0, x1), (0, x2), (0, x3), (0, x4), (0, x5)] [] σ1 Q) ∧ (x3 ≠ (-1) → fx_CI 151 [(46, o0), (0, x5), (0, 1)] σ1 Q (fun y2 σ2 => ((y2 ≠ x3 → (fx_rg (x5 + 1)) ∧ fx_Wp 159 6 [(46, o0), (0, x1), (0, x2), (0, x3), (0, x4), (0, (x5 + 1))] [] σ2 Q) ∧ (y2 = x3 → fx_Wp 159 44 [(46, o0), (0, x1), (0, x2), (0, x3), (0, x4), (0, x5)] [] σ2 Q))))))))))) : fx_Wp 159 6 [(46, o0), (0, x1), (0, x2), (0, x3), (0, x4), (0, x5)] [] σ Q := by
  refine wi_iload (pc' := 8) hm159 rfl rfl rfl ?_
  refine wi_aload_n (pc' := 9) hm159 rfl rfl rfl (by decide) ?_
  refine wi_getR (pc' := 12) (x := 0) hm159 rfl rfl rfl (by omega) ?_
  refine wi_iconst (pc' := 13) (v := 1) hm159 rfl rfl rfl ?_
  refine wi_iaload (pc' := 14) hm159 rfl rfl rfl rfl (N := 1130) rfl (by decide) ?_
  refine wi_ic_ge (pc' := 17) (t := 84) hm159 rfl rfl rfl (fun hc => ?_) (fun hc => ?_)
  · replace h := h.1 hc
    refine wi_iload (pc' := 86) hm159 rfl rfl rfl ?_
    exact wi_iret hm159 rfl h
  · replace h := h.2 hc
    refine wi_aload_n (pc' := 18) hm159 rfl rfl rfl (by decide) ?_
    refine wi_iload (pc' := 20) hm159 rfl rfl rfl ?_
    refine wi_iconst (pc' := 21) (v := 0) hm159 rfl rfl rfl ?_
    refine wc_I (pc' := 24) (by decide) rfl (by decide) ((fx_wE hm159 rfl).trans (fx_exV (mj := 151) (as := [(0, x5), (0, 0)]) (rest := []) rfl rk151 rfl rfl rfl rfl rfl)) h (fun y1 σ1 h => ?_)
    refine wi_iload_n (pc' := 25) hm159 rfl rfl rfl ?_
    refine wi_ic_ne (pc' := 28) (t := 78) hm159 rfl rfl rfl (fun hc => ?_) (fun hc => ?_)
    · replace h := h.1 hc
      obtain ⟨g1, h⟩ := h
      refine wi_iinc (pc' := 81) (L' := [(46, o0), (0, x1), (0, x2), (0, x3), (0, x4), (0, (x5 + 1))]) hm159 rfl rfl rfl g1 rfl ?_
      refine wi_goto (t := 6) hm159 rfl rfl ?_
      exact h
    · replace h := h.2 hc
      refine wi_iload_n (pc' := 29) hm159 rfl rfl rfl ?_
      refine wi_iconst (pc' := 30) (v := (-1)) hm159 rfl rfl rfl ?_
      refine wi_ic_eq (pc' := 33) (t := 44) hm159 rfl rfl rfl (fun hc => ?_) (fun hc => ?_)
      · replace h := h.1 hc
        exact h
      · replace h := h.2 hc
        refine wi_aload_n (pc' := 34) hm159 rfl rfl rfl (by decide) ?_
        refine wi_iload (pc' := 36) hm159 rfl rfl rfl ?_
        refine wi_iconst (pc' := 37) (v := 1) hm159 rfl rfl rfl ?_
        refine wc_I (pc' := 40) (by decide) rfl (by decide) ((fx_wE hm159 rfl).trans (fx_exV (mj := 151) (as := [(0, x5), (0, 1)]) (rest := []) rfl rk151 rfl rfl rfl rfl rfl)) h (fun y2 σ2 h => ?_)
        refine wi_iload_n (pc' := 41) hm159 rfl rfl rfl ?_
        refine wi_ic_ne (pc' := 44) (t := 78) hm159 rfl rfl rfl (fun hc => ?_) (fun hc => ?_)
        · replace h := h.1 hc
          obtain ⟨g1, h⟩ := h
          refine wi_iinc (pc' := 81) (L' := [(46, o0), (0, x1), (0, x2), (0, x3), (0, x4), (0, (x5 + 1))]) hm159 rfl rfl rfl g1 rfl ?_
          refine wi_goto (t := 6) hm159 rfl rfl ?_
          exact h
        · replace h := h.2 hc
          exact h
theorem t159_44 {o0 x1 x2 x3 x4 x5 : Int} {σ : fx_S} {Q : fx_V → fx_S → Prop} (h : fx_CI 156 [(46, o0), (0, x5), (0, x2)] σ Q (fun y1 σ1 => ((y1 ≠ 0 → ((x4 = (-1) → (fx_rg (x5 + 1)) ∧ fx_Wp 159 6 [(46, o0), (0, x1), (0, x2), (0, x3), (0, x5), (0, (x5 + 1))] [] σ1 Q) ∧ (x4 ≠ (-1) → fx_CI 158 [(46, o0), (0, x5), (0, x4)] σ1 Q (fun y2 σ2 => ((y2 = 0 → (fx_rg (x5 + 1)) ∧ fx_Wp 159 6 [(46, o0), (0, x1), (0, x2), (0, x3), (0, x4), (0, (x5 + 1))] [] σ2 Q) ∧ (y2 ≠ 0 → (fx_rg (x5 + 1)) ∧ fx_Wp 159 6 [(46, o0), (0, x1), (0, x2), (0, x3), (0, x5), (0, (x5 + 1))] [] σ2 Q)))))) ∧ (y1 = 0 → (fx_rg (x5 + 1)) ∧ fx_Wp 159 6 [(46, o0), (0, x1), (0, x2), (0, x3), (0, x4), (0, (x5 + 1))] [] σ1 Q)))) : fx_Wp 159 44 [(46, o0), (0, x1), (0, x2), (0, x3), (0, x4), (0, x5)] [] σ Q := by
  refine wi_aload_n (pc' := 45) hm159 rfl rfl rfl (by decide) ?_
  refine wi_iload (pc' := 47) hm159 rfl rfl rfl ?_
  refine wi_iload_n (pc' := 48) hm159 rfl rfl rfl ?_
  refine wc_I (pc' := 51) (by decide) rfl (by decide) ((fx_wE hm159 rfl).trans (fx_exV (mj := 156) (as := [(0, x5), (0, x2)]) (rest := []) rfl rk156 rfl rfl rfl rfl rfl)) h (fun y1 σ1 h => ?_)
  refine wi_if_ne (pc' := 54) (t := 57) hm159 rfl rfl rfl (fun hc => ?_) (fun hc => ?_)
  · replace h := h.1 hc
    refine wi_iload (pc' := 59) hm159 rfl rfl rfl ?_
    refine wi_iconst (pc' := 60) (v := (-1)) hm159 rfl rfl rfl ?_
    refine wi_ic_eq (pc' := 63) (t := 74) hm159 rfl rfl rfl (fun hc => ?_) (fun hc => ?_)
    · replace h := h.1 hc
      refine wi_iload (pc' := 76) hm159 rfl rfl rfl ?_
      refine wi_istore (pc' := 78) (L' := [(46, o0), (0, x1), (0, x2), (0, x3), (0, x5), (0, x5)]) hm159 rfl rfl rfl ?_
      obtain ⟨g1, h⟩ := h
      refine wi_iinc (pc' := 81) (L' := [(46, o0), (0, x1), (0, x2), (0, x3), (0, x5), (0, (x5 + 1))]) hm159 rfl rfl rfl g1 rfl ?_
      refine wi_goto (t := 6) hm159 rfl rfl ?_
      exact h
    · replace h := h.2 hc
      refine wi_aload_n (pc' := 64) hm159 rfl rfl rfl (by decide) ?_
      refine wi_iload (pc' := 66) hm159 rfl rfl rfl ?_
      refine wi_iload (pc' := 68) hm159 rfl rfl rfl ?_
      refine wc_I (pc' := 71) (by decide) rfl (by decide) ((fx_wE hm159 rfl).trans (fx_exV (mj := 158) (as := [(0, x5), (0, x4)]) (rest := []) rfl rk158 rfl rfl rfl rfl rfl)) h (fun y2 σ2 h => ?_)
      refine wi_if_eq (pc' := 74) (t := 78) hm159 rfl rfl rfl (fun hc => ?_) (fun hc => ?_)
      · replace h := h.1 hc
        obtain ⟨g1, h⟩ := h
        refine wi_iinc (pc' := 81) (L' := [(46, o0), (0, x1), (0, x2), (0, x3), (0, x4), (0, (x5 + 1))]) hm159 rfl rfl rfl g1 rfl ?_
        refine wi_goto (t := 6) hm159 rfl rfl ?_
        exact h
      · replace h := h.2 hc
        refine wi_iload (pc' := 76) hm159 rfl rfl rfl ?_
        refine wi_istore (pc' := 78) (L' := [(46, o0), (0, x1), (0, x2), (0, x3), (0, x5), (0, x5)]) hm159 rfl rfl rfl ?_
        obtain ⟨g1, h⟩ := h
        refine wi_iinc (pc' := 81) (L' := [(46, o0), (0, x1), (0, x2), (0, x3), (0, x5), (0, (x5 + 1))]) hm159 rfl rfl rfl g1 rfl ?_
        refine wi_goto (t := 6) hm159 rfl rfl ?_
        exact h
  · replace h := h.2 hc
    refine wi_goto (t := 78) hm159 rfl rfl ?_
    obtain ⟨g1, h⟩ := h
    refine wi_iinc (pc' := 81) (L' := [(46, o0), (0, x1), (0, x2), (0, x3), (0, x4), (0, (x5 + 1))]) hm159 rfl rfl rfl g1 rfl ?_
    refine wi_goto (t := 6) hm159 rfl rfl ?_
    exact h
theorem hm160 : fx_code 160 = fx_c160 := rfl
theorem t160_0 {o0 x1 x2 : Int} {σ : fx_S} {Q : fx_V → fx_S → Prop} (h : (fx_rg (94 * x1)) ∧ (fx_rg (378 + (94 * x1))) ∧ (fx_rg ((378 + (94 * x1)) + x2)) ∧ (0 ≤ ((378 + (94 * x1)) + x2) ∧ ((378 + (94 * x1)) + x2) < 1130) ∧ Q (0, (σ 47 0 ((378 + (94 * x1)) + x2))) σ) : fx_Ca 160 [(46, o0), (0, x1), (0, x2)] σ Q := by
  show fx_Wp 160 0 [(46, o0), (0, x1), (0, x2)] [] σ Q
  refine wi_aload_n (pc' := 1) hm160 rfl rfl rfl (by decide) ?_
  refine wi_getR (pc' := 4) (x := 0) hm160 rfl rfl rfl (by omega) ?_
  refine wi_sipush (pc' := 7) (v := 378) hm160 rfl rfl rfl ?_
  refine wi_bipush (pc' := 9) (v := 94) hm160 rfl rfl rfl ?_
  refine wi_iload_n (pc' := 10) hm160 rfl rfl rfl ?_
  obtain ⟨g1, h⟩ := h
  refine wi_imul (pc' := 11) hm160 rfl rfl g1 ?_
  obtain ⟨g2, h⟩ := h
  refine wi_iadd (pc' := 12) hm160 rfl rfl g2 ?_
  refine wi_iload_n (pc' := 13) hm160 rfl rfl rfl ?_
  obtain ⟨g3, h⟩ := h
  refine wi_iadd (pc' := 14) hm160 rfl rfl g3 ?_
  obtain ⟨g4, h⟩ := h
  refine wi_iaload (pc' := 15) hm160 rfl rfl rfl rfl (N := 1130) rfl g4 ?_
  exact wi_iret hm160 rfl h
theorem hm161 : fx_code 161 = fx_c161 := rfl
theorem t161_0 {o0 x1 x2 x3 : Int} {σ : fx_S} {Q : fx_V → fx_S → Prop} (h : (fx_rg (94 * x1)) ∧ (fx_rg (378 + (94 * x1))) ∧ (fx_rg ((378 + (94 * x1)) + 2)) ∧ (fx_rg (4 * x2)) ∧ (fx_rg (((378 + (94 * x1)) + 2) + (4 * x2))) ∧ (fx_rg ((((378 + (94 * x1)) + 2) + (4 * x2)) + x3)) ∧ (0 ≤ ((((378 + (94 * x1)) + 2) + (4 * x2)) + x3) ∧ ((((378 + (94 * x1)) + 2) + (4 * x2)) + x3) < 1130) ∧ Q (0, (σ 47 0 ((((378 + (94 * x1)) + 2) + (4 * x2)) + x3))) σ) : fx_Ca 161 [(46, o0), (0, x1), (0, x2), (0, x3)] σ Q := by
  show fx_Wp 161 0 [(46, o0), (0, x1), (0, x2), (0, x3)] [] σ Q
  refine wi_aload_n (pc' := 1) hm161 rfl rfl rfl (by decide) ?_
  refine wi_getR (pc' := 4) (x := 0) hm161 rfl rfl rfl (by omega) ?_
  refine wi_sipush (pc' := 7) (v := 378) hm161 rfl rfl rfl ?_
  refine wi_bipush (pc' := 9) (v := 94) hm161 rfl rfl rfl ?_
  refine wi_iload_n (pc' := 10) hm161 rfl rfl rfl ?_
  obtain ⟨g1, h⟩ := h
  refine wi_imul (pc' := 11) hm161 rfl rfl g1 ?_
  obtain ⟨g2, h⟩ := h
  refine wi_iadd (pc' := 12) hm161 rfl rfl g2 ?_
  refine wi_iconst (pc' := 13) (v := 2) hm161 rfl rfl rfl ?_
  obtain ⟨g3, h⟩ := h
  refine wi_iadd (pc' := 14) hm161 rfl rfl g3 ?_
  refine wi_iconst (pc' := 15) (v := 4) hm161 rfl rfl rfl ?_
  refine wi_iload_n (pc' := 16) hm161 rfl rfl rfl ?_
  obtain ⟨g4, h⟩ := h
  refine wi_imul (pc' := 17) hm161 rfl rfl g4 ?_
  obtain ⟨g5, h⟩ := h
  refine wi_iadd (pc' := 18) hm161 rfl rfl g5 ?_
  refine wi_iload_n (pc' := 19) hm161 rfl rfl rfl ?_
  obtain ⟨g6, h⟩ := h
  refine wi_iadd (pc' := 20) hm161 rfl rfl g6 ?_
  obtain ⟨g7, h⟩ := h
  refine wi_iaload (pc' := 21) hm161 rfl rfl rfl rfl (N := 1130) rfl g7 ?_
  exact wi_iret hm161 rfl h
theorem hm162 : fx_code 162 = fx_c162 := rfl
theorem t162_0 {o0 x1 : Int} {σ : fx_S} {Q : fx_V → fx_S → Prop} (h : fx_CI 160 [(46, o0), (0, x1), (0, 0)] σ Q (fun y1 σ1 => ((y1 ≤ 0 → Q (0, 0) σ1) ∧ (0 < y1 → Q (0, 1) σ1)))) : fx_Ca 162 [(46, o0), (0, x1)] σ Q := by
  show fx_Wp 162 0 [(46, o0), (0, x1)] [] σ Q
  refine wi_aload_n (pc' := 1) hm162 rfl rfl rfl (by decide) ?_
  refine wi_iload_n (pc' := 2) hm162 rfl rfl rfl ?_
  refine wi_iconst (pc' := 3) (v := 0) hm162 rfl rfl rfl ?_
  refine wc_I (pc' := 6) (by decide) rfl (by decide) ((fx_wE hm162 rfl).trans (fx_exV (mj := 160) (as := [(0, x1), (0, 0)]) (rest := []) rfl rk160 rfl rfl rfl rfl rfl)) h (fun y1 σ1 h => ?_)
  refine wi_if_le (pc' := 9) (t := 13) hm162 rfl rfl rfl (fun hc => ?_) (fun hc => ?_)
  · replace h := h.1 hc
    refine wi_iconst (pc' := 14) (v := 0) hm162 rfl rfl rfl ?_
    exact wi_zret hm162 rfl (by decide) h
  · replace h := h.2 hc
    refine wi_iconst (pc' := 10) (v := 1) hm162 rfl rfl rfl ?_
    refine wi_goto (t := 14) hm162 rfl rfl ?_
    exact wi_zret hm162 rfl (by decide) h
