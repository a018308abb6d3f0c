set_option maxRecDepth 100000 in
theorem rk261 : fx_rk 261 = (0, 2) := rfl
set_option maxRecDepth 100000 in
theorem rk262 : fx_rk 262 = (0, 3) := rfl
set_option maxRecDepth 100000 in
theorem rk263 : fx_rk 263 = (0, 7) := rfl
set_option maxRecDepth 100000 in
theorem rk264 : fx_rk 264 = (0, 3) := rfl
set_option maxRecDepth 100000 in
theorem rk265 : fx_rk 265 = (0, 4) := rfl
set_option maxRecDepth 100000 in
theorem rk266 : fx_rk 266 = (0, 4) := rfl
set_option maxRecDepth 100000 in
theorem rk267 : fx_rk 267 = (0, 4) := rfl
set_option maxRecDepth 100000 in
theorem rk268 : fx_rk 268 = (0, 3) := rfl
set_option maxRecDepth 100000 in
theorem rk269 : fx_rk 269 = (0, 2) := rfl
set_option maxRecDepth 100000 in
theorem rk270 : fx_rk 270 = (0, 4) := rfl
set_option maxRecDepth 100000 in
theorem rk271 : fx_rk 271 = (0, 5) := rfl
set_option maxRecDepth 100000 in
theorem rk272 : fx_rk 272 = (0, 5) := rfl
set_option maxRecDepth 100000 in
theorem rk273 : fx_rk 273 = (0, 5) := rfl
set_option maxRecDepth 100000 in
theorem rk274 : fx_rk 274 = (0, 5) := rfl
set_option maxRecDepth 100000 in
theorem rk275 : fx_rk 275 = (0, 5) := rfl
set_option maxRecDepth 100000 in
theorem rk276 : fx_rk 276 = (0, 5) := rfl
set_option maxRecDepth 100000 in
theorem rk277 : fx_rk 277 = (0, 4) := rfl
set_option maxRecDepth 100000 in
theorem rk278 : fx_rk 278 = (0, 5) := rfl
set_option maxRecDepth 100000 in
theorem rk279 : fx_rk 279 = (0, 4) := rfl
set_option maxRecDepth 100000 in
theorem rk280 : fx_rk 280 = (0, 4) := rfl
set_option maxRecDepth 100000 in
theorem rk281 : fx_rk 281 = (0, 4) := rfl
set_option maxRecDepth 100000 in
theorem rk282 : fx_rk 282 = (0, 4) := rfl
set_option maxRecDepth 100000 in
theorem rk283 : fx_rk 283 = (0, 4) := rfl
set_option maxRecDepth 100000 in
theorem rk284 : fx_rk 284 = (0, 4) := rfl
set_option maxRecDepth 100000 in
theorem rk285 : fx_rk 285 = (0, 4) := rfl
set_option maxRecDepth 100000 in
theorem rk286 : fx_rk 286 = (0, 4) := rfl
set_option maxRecDepth 100000 in
theorem rk287 : fx_rk 287 = (0, 4) := rfl
set_option maxRecDepth 100000 in
theorem rk288 : fx_rk 288 = (0, 4) := rfl
set_option maxRecDepth 100000 in
theorem rk289 : fx_rk 289 = (0, 4) := rfl
set_option maxRecDepth 100000 in
theorem rk290 : fx_rk 290 = (0, 4) := rfl
set_option maxRecDepth 100000 in
theorem rk291 : fx_rk 291 = (0, 5) := rfl
set_option maxRecDepth 100000 in
theorem rk292 : fx_rk 292 = (0, 5) := rfl
set_option maxRecDepth 100000 in
theorem hm261 : fx_code 261 = fx_c261 := rfl
theorem t261_0 {o0 o1 : Int} {σ : fx_S} {Q : fx_V → fx_S → Prop} (h : fx_CI 98 [(10, o0)] σ (fun v σ1 => (v.2 = 0 → Q (0, 1) σ1) ∧ (v.2 ≠ 0 → Q v σ1)) (fun y1 σ1 => Q (0, 0) (fx_up σ1 61 o1 0 y1))) : fx_Ca 261 [(10, o0), (61, o1)] σ Q := by
  show fx_Wp 261 0 [(10, o0), (61, o1), (3, 0)] [] σ Q
  refine wi_aload_n (pc' := 1) hm261 rfl rfl rfl (by decide) ?_
  refine wi_iconst (pc' := 2) (v := 0) hm261 rfl rfl rfl ?_
  refine wi_aload_n (pc' := 3) hm261 rfl rfl rfl (by decide) ?_
  refine wc_Ih (pc' := 6) rfl (by decide) ((fx_wE hm261 rfl).trans (fx_exV (mj := 98) (as := []) (rest := [(0, 0), (61, o1)]) rfl rk98 rfl rfl rfl rfl rfl)) h (fun y1 σ1 h => ?_) (fun v σ1 hv h => ?_)
  · refine wi_i2l (pc' := 7) hm261 rfl rfl ?_
    refine wi_lastore (pc' := 8) hm261 rfl rfl rfl (N := 1) rfl (by decide) ?_
    refine wi_goto (t := 14) hm261 rfl rfl ?_
    refine wi_iconst (pc' := 15) (v := 0) hm261 rfl rfl rfl ?_
    exact wi_iret hm261 rfl h
  · replace h := h
    by_cases e1 : v.2 = 0
    · refine Or.inr ⟨12, 2, by rw [e1]; rfl, ?_⟩
      replace h := h.1 e1
      show fx_Wp 261 12 [(10, o0), (61, o1), (3, 0)] [] σ1 Q
      refine wi_iconst (pc' := 13) (v := 1) hm261 rfl rfl rfl ?_
      exact wi_iret hm261 rfl h
    exact Or.inl ⟨by show fx_hf v.2 [(0, 11, 2, 1)] = none; unfold fx_hf; simp only; rw [if_neg (fun e => e1 e.symm)]; rfl, h.2 e1⟩
set_option maxRecDepth 100000 in
theorem hm262 : fx_code 262 = fx_c262 := rfl
theorem t262_0 {o0 x1 o2 : Int} {σ : fx_S} {Q : fx_V → fx_S → Prop} (h : fx_CI 101 [(10, o0), (0, x1)] σ (fun v σ1 => (v.2 = 0 → Q (0, 1) σ1) ∧ (v.2 = 1 → Q (0, 2) σ1) ∧ (v.2 ≠ 0 → v.2 ≠ 1 → Q v σ1)) (fun y1 σ1 => Q (0, 0) (fx_up σ1 61 o2 0 y1))) : fx_Ca 262 [(10, o0), (0, x1), (61, o2)] σ Q := by
  show fx_Wp 262 0 [(10, o0), (0, x1), (61, o2), (3, 0)] [] σ Q
  refine wi_aload_n (pc' := 1) hm262 rfl rfl rfl (by decide) ?_
  refine wi_iconst (pc' := 2) (v := 0) hm262 rfl rfl rfl ?_
  refine wi_aload_n (pc' := 3) hm262 rfl rfl rfl (by decide) ?_
  refine wi_iload_n (pc' := 4) hm262 rfl rfl rfl ?_
  refine wc_Ih (pc' := 7) rfl (by decide) ((fx_wE hm262 rfl).trans (fx_exV (mj := 101) (as := [(0, x1)]) (rest := [(0, 0), (61, o2)]) rfl rk101 rfl rfl rfl rfl rfl)) h (fun y1 σ1 h => ?_) (fun v σ1 hv h => ?_)
  · refine wi_i2l (pc' := 8) hm262 rfl rfl ?_
    refine wi_lastore (pc' := 9) hm262 rfl rfl rfl (N := 1) rfl (by decide) ?_
    refine wi_goto (t := 18) hm262 rfl rfl ?_
    refine wi_iconst (pc' := 19) (v := 0) hm262 rfl rfl rfl ?_
    exact wi_iret hm262 rfl h
  · replace h := h
    by_cases e1 : v.2 = 0
    · refine Or.inr ⟨13, 3, by rw [e1]; rfl, ?_⟩
      replace h := h.1 e1
      show fx_Wp 262 13 [(10, o0), (0, x1), (61, o2), (3, 0)] [] σ1 Q
      refine wi_iconst (pc' := 14) (v := 1) hm262 rfl rfl rfl ?_
      exact wi_iret hm262 rfl h
    by_cases e2 : v.2 = 1
    · refine Or.inr ⟨16, 3, by rw [e2]; rfl, ?_⟩
      replace h := h.2.1 e2
      show fx_Wp 262 16 [(10, o0), (0, x1), (61, o2), (3, 0)] [] σ1 Q
      refine wi_iconst (pc' := 17) (v := 2) hm262 rfl rfl rfl ?_
      exact wi_iret hm262 rfl h
    exact Or.inl ⟨by show fx_hf v.2 [(0, 12, 3, 1), (1, 15, 3, 1)] = none; unfold fx_hf; simp only; rw [if_neg (fun e => e1 e.symm)]; unfold fx_hf; simp only; rw [if_neg (fun e => e2 e.symm)]; rfl, h.2.2 e1 e2⟩
set_option maxRecDepth 100000 in
theorem hm263 : fx_code 263 = fx_c263 := rfl
theorem t263_0 {o0 x1 x2 x3 x4 x5 o6 : Int} {σ : fx_S} {Q : fx_V → fx_S → Prop} (h : fx_CI 102 [(10, o0), (0, x1), (0, x2), (0, x3), (0, x4), (0, x5)] σ (fun v σ1 => (v.2 = 2 → Q (0, 1) σ1) ∧ (v.2 = 0 → Q (0, 2) σ1) ∧ (v.2 = 1 → Q (0, 3) σ1) ∧ (v.2 ≠ 2 → v.2 ≠ 0 → v.2 ≠ 1 → Q v σ1)) (fun y1 σ1 => Q (0, 0) (fx_up σ1 61 o6 0 y1))) : fx_Ca 263 [(10, o0), (0, x1), (0, x2), (0, x3), (0, x4), (0, x5), (61, o6)] σ Q := by
  show fx_Wp 263 0 [(10, o0), (0, x1), (0, x2), (0, x3), (0, x4), (0, x5), (61, o6), (3, 0)] [] σ Q
  refine wi_aload (pc' := 2) hm263 rfl rfl rfl (by decide) ?_
  refine wi_iconst (pc' := 3) (v := 0) hm263 rfl rfl rfl ?_
  refine wi_aload_n (pc' := 4) hm263 rfl rfl rfl (by decide) ?_
  refine wi_iload_n (pc' := 5) hm263 rfl rfl rfl ?_
  refine wi_iload_n (pc' := 6) hm263 rfl rfl rfl ?_
  refine wi_iload_n (pc' := 7) hm263 rfl rfl rfl ?_
  refine wi_iload (pc' := 9) hm263 rfl rfl rfl ?_
  refine wi_iload (pc' := 11) hm263 rfl rfl rfl ?_
  refine wc_Ih (pc' := 14) rfl (by decide) ((fx_wE hm263 rfl).trans (fx_exV (mj := 102) (as := [(0, x1), (0, x2), (0, x3), (0, x4), (0, x5)]) (rest := [(0, 0), (61, o6)]) rfl rk102 rfl rfl rfl rfl rfl)) h (fun y1 σ1 h => ?_) (fun v σ1 hv h => ?_)
  · refine wi_i2l (pc' := 15) hm263 rfl rfl ?_
    refine wi_lastore (pc' := 16) hm263 rfl rfl rfl (N := 1) rfl (by decide) ?_
    refine wi_goto (t := 31) hm263 rfl rfl ?_
    refine wi_iconst (pc' := 32) (v := 0) hm263 rfl rfl rfl ?_
    exact wi_iret hm263 rfl h
  · replace h := h
    by_cases e1 : v.2 = 2
    · refine Or.inr ⟨21, 7, by rw [e1]; rfl, ?_⟩
      replace h := h.1 e1
      show fx_Wp 263 21 [(10, o0), (0, x1), (0, x2), (0, x3), (0, x4), (0, x5), (61, o6), (3, 0)] [] σ1 Q
      refine wi_iconst (pc' := 22) (v := 1) hm263 rfl rfl rfl ?_
      exact wi_iret hm263 rfl h
    by_cases e2 : v.2 = 0
    · refine Or.inr ⟨25, 7, by rw [e2]; rfl, ?_⟩
      replace h := h.2.1 e2
      show fx_Wp 263 25 [(10, o0), (0, x1), (0, x2), (0, x3), (0, x4), (0, x5), (61, o6), (3, 0)] [] σ1 Q
      refine wi_iconst (pc' := 26) (v := 2) hm263 rfl rfl rfl ?_
      exact wi_iret hm263 rfl h
    by_cases e3 : v.2 = 1
    · refine Or.inr ⟨29, 7, by rw [e3]; rfl, ?_⟩
      replace h := h.2.2.1 e3
      show fx_Wp 263 29 [(10, o0), (0, x1), (0, x2), (0, x3), (0, x4), (0, x5), (61, o6), (3, 0)] [] σ1 Q
      refine wi_iconst (pc' := 30) (v := 3) hm263 rfl rfl rfl ?_
      exact wi_iret hm263 rfl h
    exact Or.inl ⟨by show fx_hf v.2 [(2, 19, 7, 2), (0, 23, 7, 2), (1, 27, 7, 2)] = none; unfold fx_hf; simp only; rw [if_neg (fun e => e1 e.symm)]; unfold fx_hf; simp only; rw [if_neg (fun e => e2 e.symm)]; unfold fx_hf; simp only; rw [if_neg (fun e => e3 e.symm)]; rfl, h.2.2.2 e1 e2 e3⟩
set_option maxRecDepth 100000 in
theorem hm264 : fx_code 264 = fx_c264 := rfl
theorem t264_0 {o0 x1 o2 : Int} {σ : fx_S} {Q : fx_V → fx_S → Prop} (h : fx_CI 103 [(10, o0), (0, x1)] σ (fun v σ1 => (v.2 = 1 → Q (0, 1) σ1) ∧ (v.2 ≠ 1 → Q v σ1)) (fun y1 σ1 => Q (0, 0) (fx_up σ1 61 o2 0 y1))) : fx_Ca 264 [(10, o0), (0, x1), (61, o2)] σ Q := by
  show fx_Wp 264 0 [(10, o0), (0, x1), (61, o2), (3, 0)] [] σ Q
  refine wi_aload_n (pc' := 1) hm264 rfl rfl rfl (by decide) ?_
  refine wi_iconst (pc' := 2) (v := 0) hm264 rfl rfl rfl ?_
  refine wi_aload_n (pc' := 3) hm264 rfl rfl rfl (by decide) ?_
  refine wi_iload_n (pc' := 4) hm264 rfl rfl rfl ?_
  refine wc_Ih (pc' := 7) rfl (by decide) ((fx_wE hm264 rfl).trans (fx_exV (mj := 103) (as := [(0, x1)]) (rest := [(0, 0), (61, o2)]) rfl rk103 rfl rfl rfl rfl rfl)) h (fun y1 σ1 h => ?_) (fun v σ1 hv h => ?_)
  · refine wi_i2l (pc' := 8) hm264 rfl rfl ?_
    refine wi_lastore (pc' := 9) hm264 rfl rfl rfl (N := 1) rfl (by decide) ?_
    refine wi_goto (t := 15) hm264 rfl rfl ?_
    refine wi_iconst (pc' := 16) (v := 0) hm264 rfl rfl rfl ?_
    exact wi_iret hm264 rfl h
  · replace h := h
    by_cases e1 : v.2 = 1
    · refine Or.inr ⟨13, 3, by rw [e1]; rfl, ?_⟩
      replace h := h.1 e1
      show fx_Wp 264 13 [(10, o0), (0, x1), (61, o2), (3, 0)] [] σ1 Q
      refine wi_iconst (pc' := 14) (v := 1) hm264 rfl rfl rfl ?_
      exact wi_iret hm264 rfl h
    exact Or.inl ⟨by show fx_hf v.2 [(1, 12, 3, 1)] = none; unfold fx_hf; simp only; rw [if_neg (fun e => e1 e.symm)]; rfl, h.2 e1⟩
set_option maxRecDepth 100000 in
theorem hm265 : fx_code 265 = fx_c265 := rfl
theorem t265_0 {o0 x1 x2 o3 : Int} {σ : fx_S} {Q : fx_V → fx_S → Prop} (h : fx_CI 104 [(10, o0), (0, x1), (0, x2)] σ (fun v σ1 => (v.2 = 1 → Q (0, 1) σ1) ∧ (v.2 ≠ 1 → Q v σ1)) (fun y1 σ1 => Q (0, 0) (fx_up σ1 61 o3 0 y1))) : fx_Ca 265 [(10, o0), (0, x1), (0, x2), (61, o3)] σ Q := by
  show fx_Wp 265 0 [(10, o0), (0, x1), (0, x2), (61, o3), (3, 0)] [] σ Q
  refine wi_aload_n (pc' := 1) hm265 rfl rfl rfl (by decide) ?_
  refine wi_iconst (pc' := 2) (v := 0) hm265 rfl rfl rfl ?_
  refine wi_aload_n (pc' := 3) hm265 rfl rfl rfl (by decide) ?_
  refine wi_iload_n (pc' := 4) hm265 rfl rfl rfl ?_
  refine wi_iload_n (pc' := 5) hm265 rfl rfl rfl ?_
  refine wc_Ih (pc' := 8) rfl (by decide) ((fx_wE hm265 rfl).trans (fx_exV (mj := 104) (as := [(0, x1), (0, x2)]) (rest := [(0, 0), (61, o3)]) rfl rk104 rfl rfl rfl rfl rfl)) h (fun y1 σ1 h => ?_) (fun v σ1 hv h => ?_)
  · refine wi_i2l (pc' := 9) hm265 rfl rfl ?_
    refine wi_lastore (pc' := 10) hm265 rfl rfl rfl (N := 1) rfl (by decide) ?_
    refine wi_goto (t := 17) hm265 rfl rfl ?_
    refine wi_iconst (pc' := 18) (v := 0) hm265 rfl rfl rfl ?_
    exact wi_iret hm265 rfl h
  · replace h := h
    by_cases e1 : v.2 = 1
    · refine Or.inr ⟨15, 4, by rw [e1]; rfl, ?_⟩
      replace h := h.1 e1
      show fx_Wp 265 15 [(10, o0), (0, x1), (0, x2), (61, o3), (3, 0)] [] σ1 Q
      refine wi_iconst (pc' := 16) (v := 1) hm265 rfl rfl rfl ?_
      exact wi_iret hm265 rfl h
    exact Or.inl ⟨by show fx_hf v.2 [(1, 13, 4, 2)] = none; unfold fx_hf; simp only; rw [if_neg (fun e => e1 e.symm)]; rfl, h.2 e1⟩
set_option maxRecDepth 100000 in
theorem hm266 : fx_code 266 = fx_c266 := rfl
theorem t266_0 {o0 x1 x2 o3 : Int} {σ : fx_S} {Q : fx_V → fx_S → Prop} (h : fx_CI 105 [(10, o0), (0, x1), (0, x2)] σ (fun v σ1 => (v.2 = 0 → Q (0, 1) σ1) ∧ (v.2 = 1 → Q (0, 2) σ1) ∧ (v.2 ≠ 0 → v.2 ≠ 1 → Q v σ1)) (fun y1 σ1 => Q (0, 0) (fx_up σ1 61 o3 0 y1))) : fx_Ca 266 [(10, o0), (0, x1), (0, x2), (61, o3)] σ Q := by
  show fx_Wp 266 0 [(10, o0), (0, x1), (0, x2), (61, o3), (3, 0)] [] σ Q
  refine wi_aload_n (pc' := 1) hm266 rfl rfl rfl (by decide) ?_
  refine wi_iconst (pc' := 2) (v := 0) hm266 rfl rfl rfl ?_
  refine wi_aload_n (pc' := 3) hm266 rfl rfl rfl (by decide) ?_
  refine wi_iload_n (pc' := 4) hm266 rfl rfl rfl ?_
  refine wi_iload_n (pc' := 5) hm266 rfl rfl rfl ?_
  refine wc_Ih (pc' := 8) rfl (by decide) ((fx_wE hm266 rfl).trans (fx_exV (mj := 105) (as := [(0, x1), (0, x2)]) (rest := [(0, 0), (61, o3)]) rfl rk105 rfl rfl rfl rfl rfl)) h (fun y1 σ1 h => ?_) (fun v σ1 hv h => ?_)
  · refine wi_i2l (pc' := 9) hm266 rfl rfl ?_
    refine wi_lastore (pc' := 10) hm266 rfl rfl rfl (N := 1) rfl (by decide) ?_
    refine wi_goto (t := 21) hm266 rfl rfl ?_
    refine wi_iconst (pc' := 22) (v := 0) hm266 rfl rfl rfl ?_
    exact wi_iret hm266 rfl h
  · replace h := h
    by_cases e1 : v.2 = 0
    · refine Or.inr ⟨15, 4, by rw [e1]; rfl, ?_⟩
      replace h := h.1 e1
      show fx_Wp 266 15 [(10, o0), (0, x1), (0, x2), (61, o3), (3, 0)] [] σ1 Q
      refine wi_iconst (pc' := 16) (v := 1) hm266 rfl rfl rfl ?_
      exact wi_iret hm266 rfl h
    by_cases e2 : v.2 = 1
    · refine Or.inr ⟨19, 4, by rw [e2]; rfl, ?_⟩
      replace h := h.2.1 e2
      show fx_Wp 266 19 [(10, o0), (0, x1), (0, x2), (61, o3), (3, 0)] [] σ1 Q
      refine wi_iconst (pc' := 20) (v := 2) hm266 rfl rfl rfl ?_
      exact wi_iret hm266 rfl h
    exact Or.inl ⟨by show fx_hf v.2 [(0, 13, 4, 2), (1, 17, 4, 2)] = none; unfold fx_hf; simp only; rw [if_neg (fun e => e1 e.symm)]; unfold fx_hf; simp only; rw [if_neg (fun e => e2 e.symm)]; rfl, h.2.2 e1 e2⟩
set_option maxRecDepth 100000 in
theorem hm267 : fx_code 267 = fx_c267 := rfl
theorem t267_0 {o0 x1 x2 o3 : Int} {σ : fx_S} {Q : fx_V → fx_S → Prop} (h : fx_CI 106 [(10, o0), (0, x1), (0, x2)] σ (fun v σ1 => (v.2 = 2 → Q (0, 1) σ1) ∧ (v.2 = 0 → Q (0, 2) σ1) ∧ (v.2 = 1 → Q (0, 3) σ1) ∧ (v.2 ≠ 2 → v.2 ≠ 0 → v.2 ≠ 1 → Q v σ1)) (fun y1 σ1 => Q (0, 0) (fx_up σ1 61 o3 0 y1))) : fx_Ca 267 [(10, o0), (0, x1), (0, x2), (61, o3)] σ Q := by
  show fx_Wp 267 0 [(10, o0), (0, x1), (0, x2), (61, o3), (3, 0)] [] σ Q
  refine wi_aload_n (pc' := 1) hm267 rfl rfl rfl (by decide) ?_
  refine wi_iconst (pc' := 2) (v := 0) hm267 rfl rfl rfl ?_
  refine wi_aload_n (pc' := 3) hm267 rfl rfl rfl (by decide) ?_
  refine wi_iload_n (pc' := 4) hm267 rfl rfl rfl ?_
  refine wi_iload_n (pc' := 5) hm267 rfl rfl rfl ?_
  refine wc_Ih (pc' := 8) rfl (by decide) ((fx_wE hm267 rfl).trans (fx_exV (mj := 106) (as := [(0, x1), (0, x2)]) (rest := [(0, 0), (61, o3)]) rfl rk106 rfl rfl rfl rfl rfl)) h (fun y1 σ1 h => ?_) (fun v σ1 hv h => ?_)
  · refine wi_i2l (pc' := 9) hm267 rfl rfl ?_
    refine wi_lastore (pc' := 10) hm267 rfl rfl rfl (N := 1) rfl (by decide) ?_
    refine wi_goto (t := 25) hm267 rfl rfl ?_
    refine wi_iconst (pc' := 26) (v := 0) hm267 rfl rfl rfl ?_
    exact wi_iret hm267 rfl h
  · replace h := h
    by_cases e1 : v.2 = 2
    · refine Or.inr ⟨15, 4, by rw [e1]; rfl, ?_⟩
      replace h := h.1 e1
      show fx_Wp 267 15 [(10, o0), (0, x1), (0, x2), (61, o3), (3, 0)] [] σ1 Q
      refine wi_iconst (pc' := 16) (v := 1) hm267 rfl rfl rfl ?_
      exact wi_iret hm267 rfl h
    by_cases e2 : v.2 = 0
    · refine Or.inr ⟨19, 4, by rw [e2]; rfl, ?_⟩
      replace h := h.2.1 e2
      show fx_Wp 267 19 [(10, o0), (0, x1), (0, x2), (61, o3), (3, 0)] [] σ1 Q
      refine wi_iconst (pc' := 20) (v := 2) hm267 rfl rfl rfl ?_
      exact wi_iret hm267 rfl h
    by_cases e3 : v.2 = 1
    · refine Or.inr ⟨23, 4, by rw [e3]; rfl, ?_⟩
      replace h := h.2.2.1 e3
      show fx_Wp 267 23 [(10, o0), (0, x1), (0, x2), (61, o3), (3, 0)] [] σ1 Q
      refine wi_iconst (pc' := 24) (v := 3) hm267 rfl rfl rfl ?_
      exact wi_iret hm267 rfl h
    exact Or.inl ⟨by show fx_hf v.2 [(2, 13, 4, 2), (0, 17, 4, 2), (1, 21, 4, 2)] = none; unfold fx_hf; simp only; rw [if_neg (fun e => e1 e.symm)]; unfold fx_hf; simp only; rw [if_neg (fun e => e2 e.symm)]; unfold fx_hf; simp only; rw [if_neg (fun e => e3 e.symm)]; rfl, h.2.2.2 e1 e2 e3⟩
set_option maxRecDepth 100000 in
theorem hm268 : fx_code 268 = fx_c268 := rfl
theorem t268_0 {o0 x1 o2 : Int} {σ : fx_S} {Q : fx_V → fx_S → Prop} (h : fx_CI 107 [(10, o0), (0, x1)] σ (fun v σ1 => (v.2 = 2 → Q (0, 1) σ1) ∧ (v.2 = 1 → Q (0, 2) σ1) ∧ (v.2 ≠ 2 → v.2 ≠ 1 → Q v σ1)) (fun y1 σ1 => Q (0, 0) (fx_up σ1 61 o2 0 y1))) : fx_Ca 268 [(10, o0), (0, x1), (61, o2)] σ Q := by
  show fx_Wp 268 0 [(10, o0), (0, x1), (61, o2), (3, 0)] [] σ Q
  refine wi_aload_n (pc' := 1) hm268 rfl rfl rfl (by decide) ?_
  refine wi_iconst (pc' := 2) (v := 0) hm268 rfl rfl rfl ?_
  refine wi_aload_n (pc' := 3) hm268 rfl rfl rfl (by decide) ?_
  refine wi_iload_n (pc' := 4) hm268 rfl rfl rfl ?_
  refine wc_Ih (pc' := 7) rfl (by decide) ((fx_wE hm268 rfl).trans (fx_exV (mj := 107) (as := [(0, x1)]) (rest := [(0, 0), (61, o2)]) rfl rk107 rfl rfl rfl rfl rfl)) h (fun y1 σ1 h => ?_) (fun v σ1 hv h => ?_)
  · refine wi_i2l (pc' := 8) hm268 rfl rfl ?_
    refine wi_lastore (pc' := 9) hm268 rfl rfl rfl (N := 1) rfl (by decide) ?_
    refine wi_goto (t := 18) hm268 rfl rfl ?_
    refine wi_iconst (pc' := 19) (v := 0) hm268 rfl rfl rfl ?_
    exact wi_iret hm268 rfl h
  · replace h := h
    by_cases e1 : v.2 = 2
    · refine Or.inr ⟨13, 3, by rw [e1]; rfl, ?_⟩
      replace h := h.1 e1
      show fx_Wp 268 13 [(10, o0), (0, x1), (61, o2), (3, 0)] [] σ1 Q
      refine wi_iconst (pc' := 14) (v := 1) hm268 rfl rfl rfl ?_
      exact wi_iret hm268 rfl h
    by_cases e2 : v.2 = 1
    · refine Or.inr ⟨16, 3, by rw [e2]; rfl, ?_⟩
      replace h := h.2.1 e2
      show fx_Wp 268 16 [(10, o0), (0, x1), (61, o2), (3, 0)] [] σ1 Q
      refine wi_iconst (pc' := 17) (v := 2) hm268 rfl rfl rfl ?_
      exact wi_iret hm268 rfl h
    exact Or.inl ⟨by show fx_hf v.2 [(2, 12, 3, 1), (1, 15, 3, 1)] = none; unfold fx_hf; simp only; rw [if_neg (fun e => e1 e.symm)]; unfold fx_hf; simp only; rw [if_neg (fun e => e2 e.symm)]; rfl, h.2.2 e1 e2⟩
set_option maxRecDepth 100000 in
theorem hm269 : fx_code 269 = fx_c269 := rfl
theorem t269_0 {o0 o1 : Int} {σ : fx_S} {Q : fx_V → fx_S → Prop} (h : fx_CI 108 [(10, o0)] σ (fun v σ1 => (v.2 = 1 → Q (0, 1) σ1) ∧ (v.2 ≠ 1 → Q v σ1)) (fun y1 σ1 => Q (0, 0) (fx_up σ1 61 o1 0 y1))) : fx_Ca 269 [(10, o0), (61, o1)] σ Q := by
  show fx_Wp 269 0 [(10, o0), (61, o1), (3, 0)] [] σ Q
  refine wi_aload_n (pc' := 1) hm269 rfl rfl rfl (by decide) ?_
  refine wi_iconst (pc' := 2) (v := 0) hm269 rfl rfl rfl ?_
  refine wi_aload_n (pc' := 3) hm269 rfl rfl rfl (by decide) ?_
  refine wc_Ih (pc' := 6) rfl (by decide) ((fx_wE hm269 rfl).trans (fx_exV (mj := 108) (as := []) (rest := [(0, 0), (61, o1)]) rfl rk108 rfl rfl rfl rfl rfl)) h (fun y1 σ1 h => ?_) (fun v σ1 hv h => ?_)
  · refine wi_i2l (pc' := 7) hm269 rfl rfl ?_
    refine wi_lastore (pc' := 8) hm269 rfl rfl rfl (N := 1) rfl (by decide) ?_
    refine wi_goto (t := 14) hm269 rfl rfl ?_
    refine wi_iconst (pc' := 15) (v := 0) hm269 rfl rfl rfl ?_
    exact wi_iret hm269 rfl h
  · replace h := h
    by_cases e1 : v.2 = 1
    · refine Or.inr ⟨12, 2, by rw [e1]; rfl, ?_⟩
      replace h := h.1 e1
      show fx_Wp 269 12 [(10, o0), (61, o1), (3, 0)] [] σ1 Q
      refine wi_iconst (pc' := 13) (v := 1) hm269 rfl rfl rfl ?_
      exact wi_iret hm269 rfl h
    exact Or.inl ⟨by show fx_hf v.2 [(1, 11, 2, 1)] = none; unfold fx_hf; simp only; rw [if_neg (fun e => e1 e.symm)]; rfl, h.2 e1⟩
set_option maxRecDepth 100000 in
theorem hm270 : fx_code 270 = fx_c270 := rfl
theorem t270_0 {o0 x1 x2 o3 : Int} {σ : fx_S} {Q : fx_V → fx_S → Prop} (h : fx_CI 109 [(10, o0), (0, x1), (0, x2)] σ (fun v σ1 => (v.2 = 2 → Q (0, 1) σ1) ∧ (v.2 ≠ 2 → Q v σ1)) (fun y1 σ1 => Q (0, 0) (fx_up σ1 61 o3 0 y1))) : fx_Ca 270 [(10, o0), (0, x1), (0, x2), (61, o3)] σ Q := by
  show fx_Wp 270 0 [(10, o0), (0, x1), (0, x2), (61, o3), (3, 0)] [] σ Q
  refine wi_aload_n (pc' := 1) hm270 rfl rfl rfl (by decide) ?_
  refine wi_iconst (pc' := 2) (v := 0) hm270 rfl rfl rfl ?_
  refine wi_aload_n (pc' := 3) hm270 rfl rfl rfl (by decide) ?_
  refine wi_iload_n (pc' := 4) hm270 rfl rfl rfl ?_
  refine wi_iload_n (pc' := 5) hm270 rfl rfl rfl ?_
  refine wc_Ih (pc' := 8) rfl (by decide) ((fx_wE hm270 rfl).trans (fx_exV (mj := 109) (as := [(0, x1), (0, x2)]) (rest := [(0, 0), (61, o3)]) rfl rk109 rfl rfl rfl rfl rfl)) h (fun y1 σ1 h => ?_) (fun v σ1 hv h => ?_)
  · refine wi_i2l (pc' := 9) hm270 rfl rfl ?_
    refine wi_lastore (pc' := 10) hm270 rfl rfl rfl (N := 1) rfl (by decide) ?_
    refine wi_goto (t := 17) hm270 rfl rfl ?_
    refine wi_iconst (pc' := 18) (v := 0) hm270 rfl rfl rfl ?_
    exact wi_iret hm270 rfl h
  · replace h := h
    by_cases e1 : v.2 = 2
    · refine Or.inr ⟨15, 4, by rw [e1]; rfl, ?_⟩
      replace h := h.1 e1
      show fx_Wp 270 15 [(10, o0), (0, x1), (0, x2), (61, o3), (3, 0)] [] σ1 Q
      refine wi_iconst (pc' := 16) (v := 1) hm270 rfl rfl rfl ?_
      exact wi_iret hm270 rfl h
    exact Or.inl ⟨by show fx_hf v.2 [(2, 13, 4, 2)] = none; unfold fx_hf; simp only; rw [if_neg (fun e => e1 e.symm)]; rfl, h.2 e1⟩
set_option maxRecDepth 100000 in
theorem hm271 : fx_code 271 = fx_c271 := rfl
theorem t271_0 {o0 x1 x2 x3 o4 : Int} {σ : fx_S} {Q : fx_V → fx_S → Prop} (h : fx_CI 110 [(10, o0), (0, x1), (0, x2), (0, x3)] σ (fun v σ1 => (v.2 = 2 → Q (0, 1) σ1) ∧ (v.2 = 3 → Q (0, 2) σ1) ∧ (v.2 ≠ 2 → v.2 ≠ 3 → Q v σ1)) (fun y1 σ1 => Q (0, 0) (fx_up σ1 61 o4 0 y1))) : fx_Ca 271 [(10, o0), (0, x1), (0, x2), (0, x3), (61, o4)] σ Q := by
  show fx_Wp 271 0 [(10, o0), (0, x1), (0, x2), (0, x3), (61, o4), (3, 0)] [] σ Q
  refine wi_aload (pc' := 2) hm271 rfl rfl rfl (by decide) ?_
  refine wi_iconst (pc' := 3) (v := 0) hm271 rfl rfl rfl ?_
  refine wi_aload_n (pc' := 4) hm271 rfl rfl rfl (by decide) ?_
  refine wi_iload_n (pc' := 5) hm271 rfl rfl rfl ?_
  refine wi_iload_n (pc' := 6) hm271 rfl rfl rfl ?_
  refine wi_iload_n (pc' := 7) hm271 rfl rfl rfl ?_
  refine wc_Ih (pc' := 10) rfl (by decide) ((fx_wE hm271 rfl).trans (fx_exV (mj := 110) (as := [(0, x1), (0, x2), (0, x3)]) (rest := [(0, 0), (61, o4)]) rfl rk110 rfl rfl rfl rfl rfl)) h (fun y1 σ1 h => ?_) (fun v σ1 hv h => ?_)
  · refine wi_i2l (pc' := 11) hm271 rfl rfl ?_
    refine wi_lastore (pc' := 12) hm271 rfl rfl rfl (N := 1) rfl (by decide) ?_
    refine wi_goto (t := 23) hm271 rfl rfl ?_
    refine wi_iconst (pc' := 24) (v := 0) hm271 rfl rfl rfl ?_
    exact wi_iret hm271 rfl h
  · replace h := h
    by_cases e1 : v.2 = 2
    · refine Or.inr ⟨17, 5, by rw [e1]; rfl, ?_⟩
      replace h := h.1 e1
      show fx_Wp 271 17 [(10, o0), (0, x1), (0, x2), (0, x3), (61, o4), (3, 0)] [] σ1 Q
      refine wi_iconst (pc' := 18) (v := 1) hm271 rfl rfl rfl ?_
      exact wi_iret hm271 rfl h
    by_cases e2 : v.2 = 3
    · refine Or.inr ⟨21, 5, by rw [e2]; rfl, ?_⟩
      replace h := h.2.1 e2
      show fx_Wp 271 21 [(10, o0), (0, x1), (0, x2), (0, x3), (61, o4), (3, 0)] [] σ1 Q
      refine wi_iconst (pc' := 22) (v := 2) hm271 rfl rfl rfl ?_
      exact wi_iret hm271 rfl h
    exact Or.inl ⟨by show fx_hf v.2 [(2, 15, 5, 2), (3, 19, 5, 2)] = none; unfold fx_hf; simp only; rw [if_neg (fun e => e1 e.symm)]; unfold fx_hf; simp only; rw [if_neg (fun e => e2 e.symm)]; rfl, h.2.2 e1 e2⟩
set_option maxRecDepth 100000 in
theorem hm272 : fx_code 272 = fx_c272 := rfl
theorem t272_0 {o0 x1 x2 x3 o4 : Int} {σ : fx_S} {Q : fx_V → fx_S → Prop} (h : fx_CI 111 [(10, o0), (0, x1), (0, x2), (0, x3)] σ (fun v σ1 => (v.2 = 2 → Q (0, 1) σ1) ∧ (v.2 ≠ 2 → Q v σ1)) (fun y1 σ1 => Q (0, 0) (fx_up σ1 61 o4 0 y1))) : fx_Ca 272 [(10, o0), (0, x1), (0, x2), (0, x3), (61, o4)] σ Q := by
  show fx_Wp 272 0 [(10, o0), (0, x1), (0, x2), (0, x3), (61, o4), (3, 0)] [] σ Q
  refine wi_aload (pc' := 2) hm272 rfl rfl rfl (by decide) ?_
  refine wi_iconst (pc' := 3) (v := 0) hm272 rfl rfl rfl ?_
  refine wi_aload_n (pc' := 4) hm272 rfl rfl rfl (by decide) ?_
  refine wi_iload_n (pc' := 5) hm272 rfl rfl rfl ?_
  refine wi_iload_n (pc' := 6) hm272 rfl rfl rfl ?_
  refine wi_iload_n (pc' := 7) hm272 rfl rfl rfl ?_
  refine wc_Ih (pc' := 10) rfl (by decide) ((fx_wE hm272 rfl).trans (fx_exV (mj := 111) (as := [(0, x1), (0, x2), (0, x3)]) (rest := [(0, 0), (61, o4)]) rfl rk111 rfl rfl rfl rfl rfl)) h (fun y1 σ1 h => ?_) (fun v σ1 hv h => ?_)
  · refine wi_i2l (pc' := 11) hm272 rfl rfl ?_
    refine wi_lastore (pc' := 12) hm272 rfl rfl rfl (N := 1) rfl (by decide) ?_
    refine wi_goto (t := 19) hm272 rfl rfl ?_
    refine wi_iconst (pc' := 20) (v := 0) hm272 rfl rfl rfl ?_
    exact wi_iret hm272 rfl h
  · replace h := h
    by_cases e1 : v.2 = 2
    · refine Or.inr ⟨17, 5, by rw [e1]; rfl, ?_⟩
      replace h := h.1 e1
      show fx_Wp 272 17 [(10, o0), (0, x1), (0, x2), (0, x3), (61, o4), (3, 0)] [] σ1 Q
      refine wi_iconst (pc' := 18) (v := 1) hm272 rfl rfl rfl ?_
      exact wi_iret hm272 rfl h
    exact Or.inl ⟨by show fx_hf v.2 [(2, 15, 5, 2)] = none; unfold fx_hf; simp only; rw [if_neg (fun e => e1 e.symm)]; rfl, h.2 e1⟩
set_option maxRecDepth 100000 in
theorem hm273 : fx_code 273 = fx_c273 := rfl
theorem t273_0 {o0 x1 x2 x3 o4 : Int} {σ : fx_S} {Q : fx_V → fx_S → Prop} (h : fx_CI 114 [(10, o0), (0, x1), (0, x2), (0, x3)] σ (fun v σ1 => (v.2 = 2 → Q (0, 1) σ1) ∧ (v.2 = 3 → Q (0, 2) σ1) ∧ (v.2 ≠ 2 → v.2 ≠ 3 → Q v σ1)) (fun y1 σ1 => Q (0, 0) (fx_up σ1 61 o4 0 y1))) : fx_Ca 273 [(10, o0), (0, x1), (0, x2), (0, x3), (61, o4)] σ Q := by
  show fx_Wp 273 0 [(10, o0), (0, x1), (0, x2), (0, x3), (61, o4), (3, 0)] [] σ Q
  refine wi_aload (pc' := 2) hm273 rfl rfl rfl (by decide) ?_
  refine wi_iconst (pc' := 3) (v := 0) hm273 rfl rfl rfl ?_
  refine wi_aload_n (pc' := 4) hm273 rfl rfl rfl (by decide) ?_
  refine wi_iload_n (pc' := 5) hm273 rfl rfl rfl ?_
  refine wi_iload_n (pc' := 6) hm273 rfl rfl rfl ?_
  refine wi_iload_n (pc' := 7) hm273 rfl rfl rfl ?_
  refine wc_Ih (pc' := 10) rfl (by decide) ((fx_wE hm273 rfl).trans (fx_exV (mj := 114) (as := [(0, x1), (0, x2), (0, x3)]) (rest := [(0, 0), (61, o4)]) rfl rk114 rfl rfl rfl rfl rfl)) h (fun y1 σ1 h => ?_) (fun v σ1 hv h => ?_)
  · refine wi_i2l (pc' := 11) hm273 rfl rfl ?_
    refine wi_lastore (pc' := 12) hm273 rfl rfl rfl (N := 1) rfl (by decide) ?_
    refine wi_goto (t := 23) hm273 rfl rfl ?_
    refine wi_iconst (pc' := 24) (v := 0) hm273 rfl rfl rfl ?_
    exact wi_iret hm273 rfl h
  · replace h := h
    by_cases e1 : v.2 = 2
    · refine Or.inr ⟨17, 5, by rw [e1]; rfl, ?_⟩
      replace h := h.1 e1
      show fx_Wp 273 17 [(10, o0), (0, x1), (0, x2), (0, x3), (61, o4), (3, 0)] [] σ1 Q
      refine wi_iconst (pc' := 18) (v := 1) hm273 rfl rfl rfl ?_
      exact wi_iret hm273 rfl h
    by_cases e2 : v.2 = 3
    · refine Or.inr ⟨21, 5, by rw [e2]; rfl, ?_⟩
      replace h := h.2.1 e2
      show fx_Wp 273 21 [(10, o0), (0, x1), (0, x2), (0, x3), (61, o4), (3, 0)] [] σ1 Q
      refine wi_iconst (pc' := 22) (v := 2) hm273 rfl rfl rfl ?_
      exact wi_iret hm273 rfl h
    exact Or.inl ⟨by show fx_hf v.2 [(2, 15, 5, 2), (3, 19, 5, 2)] = none; unfold fx_hf; simp only; rw [if_neg (fun e => e1 e.symm)]; unfold fx_hf; simp only; rw [if_neg (fun e => e2 e.symm)]; rfl, h.2.2 e1 e2⟩
set_option maxRecDepth 100000 in
theorem hm274 : fx_code 274 = fx_c274 := rfl
theorem t274_0 {o0 x1 x2 x3 o4 : Int} {σ : fx_S} {Q : fx_V → fx_S → Prop} (h : fx_CI 115 [(10, o0), (0, x1), (0, x2), (0, x3)] σ (fun v σ1 => (v.2 = 2 → Q (0, 1) σ1) ∧ (v.2 = 3 → Q (0, 2) σ1) ∧ (v.2 ≠ 2 → v.2 ≠ 3 → Q v σ1)) (fun y1 σ1 => Q (0, 0) (fx_up σ1 61 o4 0 y1))) : fx_Ca 274 [(10, o0), (0, x1), (0, x2), (0, x3), (61, o4)] σ Q := by
  show fx_Wp 274 0 [(10, o0), (0, x1), (0, x2), (0, x3), (61, o4), (3, 0)] [] σ Q
  refine wi_aload (pc' := 2) hm274 rfl rfl rfl (by decide) ?_
  refine wi_iconst (pc' := 3) (v := 0) hm274 rfl rfl rfl ?_
  refine wi_aload_n (pc' := 4) hm274 rfl rfl rfl (by decide) ?_
  refine wi_iload_n (pc' := 5) hm274 rfl rfl rfl ?_
  refine wi_iload_n (pc' := 6) hm274 rfl rfl rfl ?_
  refine wi_iload_n (pc' := 7) hm274 rfl rfl rfl ?_
  refine wc_Ih (pc' := 10) rfl (by decide) ((fx_wE hm274 rfl).trans (fx_exV (mj := 115) (as := [(0, x1), (0, x2), (0, x3)]) (rest := [(0, 0), (61, o4)]) rfl rk115 rfl rfl rfl rfl rfl)) h (fun y1 σ1 h => ?_) (fun v σ1 hv h => ?_)
  · refine wi_i2l (pc' := 11) hm274 rfl rfl ?_
    refine wi_lastore (pc' := 12) hm274 rfl rfl rfl (N := 1) rfl (by decide) ?_
    refine wi_goto (t := 23) hm274 rfl rfl ?_
    refine wi_iconst (pc' := 24) (v := 0) hm274 rfl rfl rfl ?_
    exact wi_iret hm274 rfl h
  · replace h := h
    by_cases e1 : v.2 = 2
    · refine Or.inr ⟨17, 5, by rw [e1]; rfl, ?_⟩
      replace h := h.1 e1
      show fx_Wp 274 17 [(10, o0), (0, x1), (0, x2), (0, x3), (61, o4), (3, 0)] [] σ1 Q
      refine wi_iconst (pc' := 18) (v := 1) hm274 rfl rfl rfl ?_
      exact wi_iret hm274 rfl h
    by_cases e2 : v.2 = 3
    · refine Or.inr ⟨21, 5, by rw [e2]; rfl, ?_⟩
      replace h := h.2.1 e2
      show fx_Wp 274 21 [(10, o0), (0, x1), (0, x2), (0, x3), (61, o4), (3, 0)] [] σ1 Q
      refine wi_iconst (pc' := 22) (v := 2) hm274 rfl rfl rfl ?_
      exact wi_iret hm274 rfl h
    exact Or.inl ⟨by show fx_hf v.2 [(2, 15, 5, 2), (3, 19, 5, 2)] = none; unfold fx_hf; simp only; rw [if_neg (fun e => e1 e.symm)]; unfold fx_hf; simp only; rw [if_neg (fun e => e2 e.symm)]; rfl, h.2.2 e1 e2⟩
set_option maxRecDepth 100000 in
theorem hm275 : fx_code 275 = fx_c275 := rfl
theorem t275_0 {o0 x1 x2 x3 o4 : Int} {σ : fx_S} {Q : fx_V → fx_S → Prop} (h : fx_CI 113 [(10, o0), (0, x1), (0, x2), (0, x3)] σ (fun v σ1 => (v.2 = 2 → Q (0, 1) σ1) ∧ (v.2 ≠ 2 → Q v σ1)) (fun y1 σ1 => Q (0, 0) (fx_up σ1 61 o4 0 y1))) : fx_Ca 275 [(10, o0), (0, x1), (0, x2), (0, x3), (61, o4)] σ Q := by
  show fx_Wp 275 0 [(10, o0), (0, x1), (0, x2), (0, x3), (61, o4), (3, 0)] [] σ Q
  refine wi_aload (pc' := 2) hm275 rfl rfl rfl (by decide) ?_
  refine wi_iconst (pc' := 3) (v := 0) hm275 rfl rfl rfl ?_
  refine wi_aload_n (pc' := 4) hm275 rfl rfl rfl (by decide) ?_
  refine wi_iload_n (pc' := 5) hm275 rfl rfl rfl ?_
  refine wi_iload_n (pc' := 6) hm275 rfl rfl rfl ?_
  refine wi_iload_n (pc' := 7) hm275 rfl rfl rfl ?_
  refine wc_Ih (pc' := 10) rfl (by decide) ((fx_wE hm275 rfl).trans (fx_exV (mj := 113) (as := [(0, x1), (0, x2), (0, x3)]) (rest := [(0, 0), (61, o4)]) rfl rk113 rfl rfl rfl rfl rfl)) h (fun y1 σ1 h => ?_) (fun v σ1 hv h => ?_)
  · refine wi_i2l (pc' := 11) hm275 rfl rfl ?_
    refine wi_lastore (pc' := 12) hm275 rfl rfl rfl (N := 1) rfl (by decide) ?_
    refine wi_goto (t := 19) hm275 rfl rfl ?_
    refine wi_iconst (pc' := 20) (v := 0) hm275 rfl rfl rfl ?_
    exact wi_iret hm275 rfl h
  · replace h := h
    by_cases e1 : v.2 = 2
    · refine Or.inr ⟨17, 5, by rw [e1]; rfl, ?_⟩
      replace h := h.1 e1
      show fx_Wp 275 17 [(10, o0), (0, x1), (0, x2), (0, x3), (61, o4), (3, 0)] [] σ1 Q
      refine wi_iconst (pc' := 18) (v := 1) hm275 rfl rfl rfl ?_
      exact wi_iret hm275 rfl h
    exact Or.inl ⟨by show fx_hf v.2 [(2, 15, 5, 2)] = none; unfold fx_hf; simp only; rw [if_neg (fun e => e1 e.symm)]; rfl, h.2 e1⟩
set_option maxRecDepth 100000 in
theorem hm276 : fx_code 276 = fx_c276 := rfl
theorem t276_0 {o0 x1 x2 x3 o4 : Int} {σ : fx_S} {Q : fx_V → fx_S → Prop} (h : fx_CI 117 [(10, o0), (0, x1), (0, x2), (0, x3)] σ (fun v σ1 => (v.2 = 2 → Q (0, 1) σ1) ∧ (v.2 ≠ 2 → Q v σ1)) (fun y1 σ1 => Q (0, 0) (fx_up σ1 61 o4 0 y1))) : fx_Ca 276 [(10, o0), (0, x1), (0, x2), (0, x3), (61, o4)] σ Q := by
  show fx_Wp 276 0 [(10, o0), (0, x1), (0, x2), (0, x3), (61, o4), (3, 0)] [] σ Q
  refine wi_aload (pc' := 2) hm276 rfl rfl rfl (by decide) ?_
  refine wi_iconst (pc' := 3) (v := 0) hm276 rfl rfl rfl ?_
  refine wi_aload_n (pc' := 4) hm276 rfl rfl rfl (by decide) ?_
  refine wi_iload_n (pc' := 5) hm276 rfl rfl rfl ?_
  refine wi_iload_n (pc' := 6) hm276 rfl rfl rfl ?_
  refine wi_iload_n (pc' := 7) hm276 rfl rfl rfl ?_
  refine wc_Ih (pc' := 10) rfl (by decide) ((fx_wE hm276 rfl).trans (fx_exV (mj := 117) (as := [(0, x1), (0, x2), (0, x3)]) (rest := [(0, 0), (61, o4)]) rfl rk117 rfl rfl rfl rfl rfl)) h (fun y1 σ1 h => ?_) (fun v σ1 hv h => ?_)
  · refine wi_i2l (pc' := 11) hm276 rfl rfl ?_
    refine wi_lastore (pc' := 12) hm276 rfl rfl rfl (N := 1) rfl (by decide) ?_
    refine wi_goto (t := 19) hm276 rfl rfl ?_
    refine wi_iconst (pc' := 20) (v := 0) hm276 rfl rfl rfl ?_
    exact wi_iret hm276 rfl h
  · replace h := h
    by_cases e1 : v.2 = 2
    · refine Or.inr ⟨17, 5, by rw [e1]; rfl, ?_⟩
      replace h := h.1 e1
      show fx_Wp 276 17 [(10, o0), (0, x1), (0, x2), (0, x3), (61, o4), (3, 0)] [] σ1 Q
      refine wi_iconst (pc' := 18) (v := 1) hm276 rfl rfl rfl ?_
      exact wi_iret hm276 rfl h
    exact Or.inl ⟨by show fx_hf v.2 [(2, 15, 5, 2)] = none; unfold fx_hf; simp only; rw [if_neg (fun e => e1 e.symm)]; rfl, h.2 e1⟩
set_option maxRecDepth 100000 in
theorem hm277 : fx_code 277 = fx_c277 := rfl
theorem t277_0 {o0 x1 x2 o3 : Int} {σ : fx_S} {Q : fx_V → fx_S → Prop} (h : fx_CI 118 [(10, o0), (0, x1), (0, x2)] σ (fun v σ1 => (v.2 = 2 → Q (0, 1) σ1) ∧ (v.2 ≠ 2 → Q v σ1)) (fun y1 σ1 => Q (0, 0) (fx_up σ1 61 o3 0 y1))) : fx_Ca 277 [(10, o0), (0, x1), (0, x2), (61, o3)] σ Q := by
  show fx_Wp 277 0 [(10, o0), (0, x1), (0, x2), (61, o3), (3, 0)] [] σ Q
  refine wi_aload_n (pc' := 1) hm277 rfl rfl rfl (by decide) ?_
  refine wi_iconst (pc' := 2) (v := 0) hm277 rfl rfl rfl ?_
  refine wi_aload_n (pc' := 3) hm277 rfl rfl rfl (by decide) ?_
  refine wi_iload_n (pc' := 4) hm277 rfl rfl rfl ?_
  refine wi_iload_n (pc' := 5) hm277 rfl rfl rfl ?_
  refine wc_Ih (pc' := 8) rfl (by decide) ((fx_wE hm277 rfl).trans (fx_exV (mj := 118) (as := [(0, x1), (0, x2)]) (rest := [(0, 0), (61, o3)]) rfl rk118 rfl rfl rfl rfl rfl)) h (fun y1 σ1 h => ?_) (fun v σ1 hv h => ?_)
  · refine wi_i2l (pc' := 9) hm277 rfl rfl ?_
    refine wi_lastore (pc' := 10) hm277 rfl rfl rfl (N := 1) rfl (by decide) ?_
    refine wi_goto (t := 17) hm277 rfl rfl ?_
    refine wi_iconst (pc' := 18) (v := 0) hm277 rfl rfl rfl ?_
    exact wi_iret hm277 rfl h
  · replace h := h
    by_cases e1 : v.2 = 2
    · refine Or.inr ⟨15, 4, by rw [e1]; rfl, ?_⟩
      replace h := h.1 e1
      show fx_Wp 277 15 [(10, o0), (0, x1), (0, x2), (61, o3), (3, 0)] [] σ1 Q
      refine wi_iconst (pc' := 16) (v := 1) hm277 rfl rfl rfl ?_
      exact wi_iret hm277 rfl h
    exact Or.inl ⟨by show fx_hf v.2 [(2, 13, 4, 2)] = none; unfold fx_hf; simp only; rw [if_neg (fun e => e1 e.symm)]; rfl, h.2 e1⟩
set_option maxRecDepth 100000 in
theorem hm278 : fx_code 278 = fx_c278 := rfl
theorem t278_0 {o0 x1 x2 x3 o4 : Int} {σ : fx_S} {Q : fx_V → fx_S → Prop} (h : fx_CI 119 [(10, o0), (0, x1), (0, x2), (0, x3)] σ (fun v σ1 => (v.2 = 2 → Q (0, 1) σ1) ∧ (v.2 = 0 → Q (0, 2) σ1) ∧ (v.2 ≠ 2 → v.2 ≠ 0 → Q v σ1)) (fun y1 σ1 => Q (0, 0) (fx_up σ1 61 o4 0 y1))) : fx_Ca 278 [(10, o0), (0, x1), (0, x2), (0, x3), (61, o4)] σ Q := by
  show fx_Wp 278 0 [(10, o0), (0, x1), (0, x2), (0, x3), (61, o4), (3, 0)] [] σ Q
  refine wi_aload (pc' := 2) hm278 rfl rfl rfl (by decide) ?_
  refine wi_iconst (pc' := 3) (v := 0) hm278 rfl rfl rfl ?_
  refine wi_aload_n (pc' := 4) hm278 rfl rfl rfl (by decide) ?_
  refine wi_iload_n (pc' := 5) hm278 rfl rfl rfl ?_
  refine wi_iload_n (pc' := 6) hm278 rfl rfl rfl ?_
  refine wi_iload_n (pc' := 7) hm278 rfl rfl rfl ?_
  refine wc_Ih (pc' := 10) rfl (by decide) ((fx_wE hm278 rfl).trans (fx_exV (mj := 119) (as := [(0, x1), (0, x2), (0, x3)]) (rest := [(0, 0), (61, o4)]) rfl rk119 rfl rfl rfl rfl rfl)) h (fun y1 σ1 h => ?_) (fun v σ1 hv h => ?_)
  · refine wi_i2l (pc' := 11) hm278 rfl rfl ?_
    refine wi_lastore (pc' := 12) hm278 rfl rfl rfl (N := 1) rfl (by decide) ?_
    refine wi_goto (t := 23) hm278 rfl rfl ?_
    refine wi_iconst (pc' := 24) (v := 0) hm278 rfl rfl rfl ?_
    exact wi_iret hm278 rfl h
  · replace h := h
    by_cases e1 : v.2 = 2
    · refine Or.inr ⟨17, 5, by rw [e1]; rfl, ?_⟩
      replace h := h.1 e1
      show fx_Wp 278 17 [(10, o0), (0, x1), (0, x2), (0, x3), (61, o4), (3, 0)] [] σ1 Q
      refine wi_iconst (pc' := 18) (v := 1) hm278 rfl rfl rfl ?_
      exact wi_iret hm278 rfl h
    by_cases e2 : v.2 = 0
    · refine Or.inr ⟨21, 5, by rw [e2]; rfl, ?_⟩
      replace h := h.2.1 e2
      show fx_Wp 278 21 [(10, o0), (0, x1), (0, x2), (0, x3), (61, o4), (3, 0)] [] σ1 Q
      refine wi_iconst (pc' := 22) (v := 2) hm278 rfl rfl rfl ?_
      exact wi_iret hm278 rfl h
    exact Or.inl ⟨by show fx_hf v.2 [(2, 15, 5, 2), (0, 19, 5, 2)] = none; unfold fx_hf; simp only; rw [if_neg (fun e => e1 e.symm)]; unfold fx_hf; simp only; rw [if_neg (fun e => e2 e.symm)]; rfl, h.2.2 e1 e2⟩
set_option maxRecDepth 100000 in
theorem hm279 : fx_code 279 = fx_c279 := rfl
theorem t279_0 {o0 x1 x2 o3 : Int} {σ : fx_S} {Q : fx_V → fx_S → Prop} (h : fx_CI 126 [(10, o0), (0, x1), (0, x2)] σ (fun v σ1 => (v.2 = 2 → Q (0, 1) σ1) ∧ (v.2 = 3 → Q (0, 2) σ1) ∧ (v.2 ≠ 2 → v.2 ≠ 3 → Q v σ1)) (fun y1 σ1 => Q (0, 0) (fx_up σ1 61 o3 0 y1))) : fx_Ca 279 [(10, o0), (0, x1), (0, x2), (61, o3)] σ Q := by
  show fx_Wp 279 0 [(10, o0), (0, x1), (0, x2), (61, o3), (3, 0)] [] σ Q
  refine wi_aload_n (pc' := 1) hm279 rfl rfl rfl (by decide) ?_
  refine wi_iconst (pc' := 2) (v := 0) hm279 rfl rfl rfl ?_
  refine wi_aload_n (pc' := 3) hm279 rfl rfl rfl (by decide) ?_
  refine wi_iload_n (pc' := 4) hm279 rfl rfl rfl ?_
  refine wi_iload_n (pc' := 5) hm279 rfl rfl rfl ?_
  refine wc_Ih (pc' := 8) rfl (by decide) ((fx_wE hm279 rfl).trans (fx_exV (mj := 126) (as := [(0, x1), (0, x2)]) (rest := [(0, 0), (61, o3)]) rfl rk126 rfl rfl rfl rfl rfl)) h (fun y1 σ1 h => ?_) (fun v σ1 hv h => ?_)
  · refine wi_i2l (pc' := 9) hm279 rfl rfl ?_
    refine wi_lastore (pc' := 10) hm279 rfl rfl rfl (N := 1) rfl (by decide) ?_
    refine wi_goto (t := 21) hm279 rfl rfl ?_
    refine wi_iconst (pc' := 22) (v := 0) hm279 rfl rfl rfl ?_
    exact wi_iret hm279 rfl h
  · replace h := h
    by_cases e1 : v.2 = 2
    · refine Or.inr ⟨15, 4, by rw [e1]; rfl, ?_⟩
      replace h := h.1 e1
      show fx_Wp 279 15 [(10, o0), (0, x1), (0, x2), (61, o3), (3, 0)] [] σ1 Q
      refine wi_iconst (pc' := 16) (v := 1) hm279 rfl rfl rfl ?_
      exact wi_iret hm279 rfl h
    by_cases e2 : v.2 = 3
    · refine Or.inr ⟨19, 4, by rw [e2]; rfl, ?_⟩
      replace h := h.2.1 e2
      show fx_Wp 279 19 [(10, o0), (0, x1), (0, x2), (61, o3), (3, 0)] [] σ1 Q
      refine wi_iconst (pc' := 20) (v := 2) hm279 rfl rfl rfl ?_
      exact wi_iret hm279 rfl h
    exact Or.inl ⟨by show fx_hf v.2 [(2, 13, 4, 2), (3, 17, 4, 2)] = none; unfold fx_hf; simp only; rw [if_neg (fun e => e1 e.symm)]; unfold fx_hf; simp only; rw [if_neg (fun e => e2 e.symm)]; rfl, h.2.2 e1 e2⟩
set_option maxRecDepth 100000 in
theorem hm280 : fx_code 280 = fx_c280 := rfl
theorem t280_0 {o0 x1 x2 o3 : Int} {σ : fx_S} {Q : fx_V → fx_S → Prop} (h : fx_CI 127 [(10, o0), (0, x1), (0, x2)] σ (fun v σ1 => (v.2 = 2 → Q (0, 1) σ1) ∧ (v.2 = 0 → Q (0, 2) σ1) ∧ (v.2 ≠ 2 → v.2 ≠ 0 → Q v σ1)) (fun y1 σ1 => Q (0, 0) (fx_up σ1 61 o3 0 y1))) : fx_Ca 280 [(10, o0), (0, x1), (0, x2), (61, o3)] σ Q := by
  show fx_Wp 280 0 [(10, o0), (0, x1), (0, x2), (61, o3), (3, 0)] [] σ Q
  refine wi_aload_n (pc' := 1) hm280 rfl rfl rfl (by decide) ?_
  refine wi_iconst (pc' := 2) (v := 0) hm280 rfl rfl rfl ?_
  refine wi_aload_n (pc' := 3) hm280 rfl rfl rfl (by decide) ?_
  refine wi_iload_n (pc' := 4) hm280 rfl rfl rfl ?_
  refine wi_iload_n (pc' := 5) hm280 rfl rfl rfl ?_
  refine wc_Ih (pc' := 8) rfl (by decide) ((fx_wE hm280 rfl).trans (fx_exV (mj := 127) (as := [(0, x1), (0, x2)]) (rest := [(0, 0), (61, o3)]) rfl rk127 rfl rfl rfl rfl rfl)) h (fun y1 σ1 h => ?_) (fun v σ1 hv h => ?_)
  · refine wi_i2l (pc' := 9) hm280 rfl rfl ?_
    refine wi_lastore (pc' := 10) hm280 rfl rfl rfl (N := 1) rfl (by decide) ?_
    refine wi_goto (t := 21) hm280 rfl rfl ?_
    refine wi_iconst (pc' := 22) (v := 0) hm280 rfl rfl rfl ?_
    exact wi_iret hm280 rfl h
  · replace h := h
    by_cases e1 : v.2 = 2
    · refine Or.inr ⟨15, 4, by rw [e1]; rfl, ?_⟩
      replace h := h.1 e1
      show fx_Wp 280 15 [(10, o0), (0, x1), (0, x2), (61, o3), (3, 0)] [] σ1 Q
      refine wi_iconst (pc' := 16) (v := 1) hm280 rfl rfl rfl ?_
      exact wi_iret hm280 rfl h
    by_cases e2 : v.2 = 0
    · refine Or.inr ⟨19, 4, by rw [e2]; rfl, ?_⟩
      replace h := h.2.1 e2
      show fx_Wp 280 19 [(10, o0), (0, x1), (0, x2), (61, o3), (3, 0)] [] σ1 Q
      refine wi_iconst (pc' := 20) (v := 2) hm280 rfl rfl rfl ?_
      exact wi_iret hm280 rfl h
    exact Or.inl ⟨by show fx_hf v.2 [(2, 13, 4, 2), (0, 17, 4, 2)] = none; unfold fx_hf; simp only; rw [if_neg (fun e => e1 e.symm)]; unfold fx_hf; simp only; rw [if_neg (fun e => e2 e.symm)]; rfl, h.2.2 e1 e2⟩
set_option maxRecDepth 100000 in
theorem hm281 : fx_code 281 = fx_c281 := rfl
theorem t281_0 {o0 x1 x2 o3 : Int} {σ : fx_S} {Q : fx_V → fx_S → Prop} (h : fx_CI 131 [(10, o0), (0, x1), (0, x2)] σ (fun v σ1 => (v.2 = 2 → Q (0, 1) σ1) ∧ (v.2 = 3 → Q (0, 2) σ1) ∧ (v.2 ≠ 2 → v.2 ≠ 3 → Q v σ1)) (fun y1 σ1 => Q (0, 0) (fx_up σ1 61 o3 0 y1))) : fx_Ca 281 [(10, o0), (0, x1), (0, x2), (61, o3)] σ Q := by
  show fx_Wp 281 0 [(10, o0), (0, x1), (0, x2), (61, o3), (3, 0)] [] σ Q
  refine wi_aload_n (pc' := 1) hm281 rfl rfl rfl (by decide) ?_
  refine wi_iconst (pc' := 2) (v := 0) hm281 rfl rfl rfl ?_
  refine wi_aload_n (pc' := 3) hm281 rfl rfl rfl (by decide) ?_
  refine wi_iload_n (pc' := 4) hm281 rfl rfl rfl ?_
  refine wi_iload_n (pc' := 5) hm281 rfl rfl rfl ?_
  refine wc_Ih (pc' := 8) rfl (by decide) ((fx_wE hm281 rfl).trans (fx_exV (mj := 131) (as := [(0, x1), (0, x2)]) (rest := [(0, 0), (61, o3)]) rfl rk131 rfl rfl rfl rfl rfl)) h (fun y1 σ1 h => ?_) (fun v σ1 hv h => ?_)
  · refine wi_i2l (pc' := 9) hm281 rfl rfl ?_
    refine wi_lastore (pc' := 10) hm281 rfl rfl rfl (N := 1) rfl (by decide) ?_
    refine wi_goto (t := 21) hm281 rfl rfl ?_
    refine wi_iconst (pc' := 22) (v := 0) hm281 rfl rfl rfl ?_
    exact wi_iret hm281 rfl h
  · replace h := h
    by_cases e1 : v.2 = 2
    · refine Or.inr ⟨15, 4, by rw [e1]; rfl, ?_⟩
      replace h := h.1 e1
      show fx_Wp 281 15 [(10, o0), (0, x1), (0, x2), (61, o3), (3, 0)] [] σ1 Q
      refine wi_iconst (pc' := 16) (v := 1) hm281 rfl rfl rfl ?_
      exact wi_iret hm281 rfl h
    by_cases e2 : v.2 = 3
    · refine Or.inr ⟨19, 4, by rw [e2]; rfl, ?_⟩
      replace h := h.2.1 e2
      show fx_Wp 281 19 [(10, o0), (0, x1), (0, x2), (61, o3), (3, 0)] [] σ1 Q
      refine wi_iconst (pc' := 20) (v := 2) hm281 rfl rfl rfl ?_
      exact wi_iret hm281 rfl h
    exact Or.inl ⟨by show fx_hf v.2 [(2, 13, 4, 2), (3, 17, 4, 2)] = none; unfold fx_hf; simp only; rw [if_neg (fun e => e1 e.symm)]; unfold fx_hf; simp only; rw [if_neg (fun e => e2 e.symm)]; rfl, h.2.2 e1 e2⟩
set_option maxRecDepth 100000 in
theorem hm282 : fx_code 282 = fx_c282 := rfl
theorem t282_0 {o0 x1 x2 o3 : Int} {σ : fx_S} {Q : fx_V → fx_S → Prop} (h : fx_CI 132 [(10, o0), (0, x1), (0, x2)] σ (fun v σ1 => (v.2 = 2 → Q (0, 1) σ1) ∧ (v.2 = 0 → Q (0, 2) σ1) ∧ (v.2 ≠ 2 → v.2 ≠ 0 → Q v σ1)) (fun y1 σ1 => Q (0, 0) (fx_up σ1 61 o3 0 y1))) : fx_Ca 282 [(10, o0), (0, x1), (0, x2), (61, o3)] σ Q := by
  show fx_Wp 282 0 [(10, o0), (0, x1), (0, x2), (61, o3), (3, 0)] [] σ Q
  refine wi_aload_n (pc' := 1) hm282 rfl rfl rfl (by decide) ?_
  refine wi_iconst (pc' := 2) (v := 0) hm282 rfl rfl rfl ?_
  refine wi_aload_n (pc' := 3) hm282 rfl rfl rfl (by decide) ?_
  refine wi_iload_n (pc' := 4) hm282 rfl rfl rfl ?_
  refine wi_iload_n (pc' := 5) hm282 rfl rfl rfl ?_
  refine wc_Ih (pc' := 8) rfl (by decide) ((fx_wE hm282 rfl).trans (fx_exV (mj := 132) (as := [(0, x1), (0, x2)]) (rest := [(0, 0), (61, o3)]) rfl rk132 rfl rfl rfl rfl rfl)) h (fun y1 σ1 h => ?_) (fun v σ1 hv h => ?_)
  · refine wi_i2l (pc' := 9) hm282 rfl rfl ?_
    refine wi_lastore (pc' := 10) hm282 rfl rfl rfl (N := 1) rfl (by decide) ?_
    refine wi_goto (t := 21) hm282 rfl rfl ?_
    refine wi_iconst (pc' := 22) (v := 0) hm282 rfl rfl rfl ?_
    exact wi_iret hm282 rfl h
  · replace h := h
    by_cases e1 : v.2 = 2
    · refine Or.inr ⟨15, 4, by rw [e1]; rfl, ?_⟩
      replace h := h.1 e1
      show fx_Wp 282 15 [(10, o0), (0, x1), (0, x2), (61, o3), (3, 0)] [] σ1 Q
      refine wi_iconst (pc' := 16) (v := 1) hm282 rfl rfl rfl ?_
      exact wi_iret hm282 rfl h
    by_cases e2 : v.2 = 0
    · refine Or.inr ⟨19, 4, by rw [e2]; rfl, ?_⟩
      replace h := h.2.1 e2
      show fx_Wp 282 19 [(10, o0), (0, x1), (0, x2), (61, o3), (3, 0)] [] σ1 Q
      refine wi_iconst (pc' := 20) (v := 2) hm282 rfl rfl rfl ?_
      exact wi_iret hm282 rfl h
    exact Or.inl ⟨by show fx_hf v.2 [(2, 13, 4, 2), (0, 17, 4, 2)] = none; unfold fx_hf; simp only; rw [if_neg (fun e => e1 e.symm)]; unfold fx_hf; simp only; rw [if_neg (fun e => e2 e.symm)]; rfl, h.2.2 e1 e2⟩
set_option maxRecDepth 100000 in
theorem hm283 : fx_code 283 = fx_c283 := rfl
theorem t283_0 {o0 x1 x2 o3 : Int} {σ : fx_S} {Q : fx_V → fx_S → Prop} (h : fx_CI 123 [(10, o0), (0, x1), (0, x2)] σ (fun v σ1 => (v.2 = 2 → Q (0, 1) σ1) ∧ (v.2 ≠ 2 → Q v σ1)) (fun y1 σ1 => Q (0, 0) (fx_up σ1 61 o3 0 y1))) : fx_Ca 283 [(10, o0), (0, x1), (0, x2), (61, o3)] σ Q := by
  show fx_Wp 283 0 [(10, o0), (0, x1), (0, x2), (61, o3), (3, 0)] [] σ Q
  refine wi_aload_n (pc' := 1) hm283 rfl rfl rfl (by decide) ?_
  refine wi_iconst (pc' := 2) (v := 0) hm283 rfl rfl rfl ?_
  refine wi_aload_n (pc' := 3) hm283 rfl rfl rfl (by decide) ?_
  refine wi_iload_n (pc' := 4) hm283 rfl rfl rfl ?_
  refine wi_iload_n (pc' := 5) hm283 rfl rfl rfl ?_
  refine wc_Ih (pc' := 8) rfl (by decide) ((fx_wE hm283 rfl).trans (fx_exV (mj := 123) (as := [(0, x1), (0, x2)]) (rest := [(0, 0), (61, o3)]) rfl rk123 rfl rfl rfl rfl rfl)) h (fun y1 σ1 h => ?_) (fun v σ1 hv h => ?_)
  · refine wi_i2l (pc' := 9) hm283 rfl rfl ?_
    refine wi_lastore (pc' := 10) hm283 rfl rfl rfl (N := 1) rfl (by decide) ?_
    refine wi_goto (t := 17) hm283 rfl rfl ?_
    refine wi_iconst (pc' := 18) (v := 0) hm283 rfl rfl rfl ?_
    exact wi_iret hm283 rfl h
  · replace h := h
    by_cases e1 : v.2 = 2
    · refine Or.inr ⟨15, 4, by rw [e1]; rfl, ?_⟩
      replace h := h.1 e1
      show fx_Wp 283 15 [(10, o0), (0, x1), (0, x2), (61, o3), (3, 0)] [] σ1 Q
      refine wi_iconst (pc' := 16) (v := 1) hm283 rfl rfl rfl ?_
      exact wi_iret hm283 rfl h
    exact Or.inl ⟨by show fx_hf v.2 [(2, 13, 4, 2)] = none; unfold fx_hf; simp only; rw [if_neg (fun e => e1 e.symm)]; rfl, h.2 e1⟩
set_option maxRecDepth 100000 in
theorem hm284 : fx_code 284 = fx_c284 := rfl
theorem t284_0 {o0 x1 x2 o3 : Int} {σ : fx_S} {Q : fx_V → fx_S → Prop} (h : fx_CI 125 [(10, o0), (0, x1), (0, x2)] σ (fun v σ1 => (v.2 = 2 → Q (0, 1) σ1) ∧ (v.2 = 3 → Q (0, 2) σ1) ∧ (v.2 ≠ 2 → v.2 ≠ 3 → Q v σ1)) (fun y1 σ1 => Q (0, 0) (fx_up σ1 61 o3 0 y1))) : fx_Ca 284 [(10, o0), (0, x1), (0, x2), (61, o3)] σ Q := by
  show fx_Wp 284 0 [(10, o0), (0, x1), (0, x2), (61, o3), (3, 0)] [] σ Q
  refine wi_aload_n (pc' := 1) hm284 rfl rfl rfl (by decide) ?_
  refine wi_iconst (pc' := 2) (v := 0) hm284 rfl rfl rfl ?_
  refine wi_aload_n (pc' := 3) hm284 rfl rfl rfl (by decide) ?_
  refine wi_iload_n (pc' := 4) hm284 rfl rfl rfl ?_
  refine wi_iload_n (pc' := 5) hm284 rfl rfl rfl ?_
  refine wc_Ih (pc' := 8) rfl (by decide) ((fx_wE hm284 rfl).trans (fx_exV (mj := 125) (as := [(0, x1), (0, x2)]) (rest := [(0, 0), (61, o3)]) rfl rk125 rfl rfl rfl rfl rfl)) h (fun y1 σ1 h => ?_) (fun v σ1 hv h => ?_)
  · refine wi_i2l (pc' := 9) hm284 rfl rfl ?_
    refine wi_lastore (pc' := 10) hm284 rfl rfl rfl (N := 1) rfl (by decide) ?_
    refine wi_goto (t := 21) hm284 rfl rfl ?_
    refine wi_iconst (pc' := 22) (v := 0) hm284 rfl rfl rfl ?_
    exact wi_iret hm284 rfl h
  · replace h := h
    by_cases e1 : v.2 = 2
    · refine Or.inr ⟨15, 4, by rw [e1]; rfl, ?_⟩
      replace h := h.1 e1
      show fx_Wp 284 15 [(10, o0), (0, x1), (0, x2), (61, o3), (3, 0)] [] σ1 Q
      refine wi_iconst (pc' := 16) (v := 1) hm284 rfl rfl rfl ?_
      exact wi_iret hm284 rfl h
    by_cases e2 : v.2 = 3
    · refine Or.inr ⟨19, 4, by rw [e2]; rfl, ?_⟩
      replace h := h.2.1 e2
      show fx_Wp 284 19 [(10, o0), (0, x1), (0, x2), (61, o3), (3, 0)] [] σ1 Q
      refine wi_iconst (pc' := 20) (v := 2) hm284 rfl rfl rfl ?_
      exact wi_iret hm284 rfl h
    exact Or.inl ⟨by show fx_hf v.2 [(2, 13, 4, 2), (3, 17, 4, 2)] = none; unfold fx_hf; simp only; rw [if_neg (fun e => e1 e.symm)]; unfold fx_hf; simp only; rw [if_neg (fun e => e2 e.symm)]; rfl, h.2.2 e1 e2⟩
set_option maxRecDepth 100000 in
theorem hm285 : fx_code 285 = fx_c285 := rfl
theorem t285_0 {o0 x1 x2 o3 : Int} {σ : fx_S} {Q : fx_V → fx_S → Prop} (h : fx_CI 124 [(10, o0), (0, x1), (0, x2)] σ (fun v σ1 => (v.2 = 2 → Q (0, 1) σ1) ∧ (v.2 = 0 → Q (0, 2) σ1) ∧ (v.2 ≠ 2 → v.2 ≠ 0 → Q v σ1)) (fun y1 σ1 => Q (0, 0) (fx_up σ1 61 o3 0 y1))) : fx_Ca 285 [(10, o0), (0, x1), (0, x2), (61, o3)] σ Q := by
  show fx_Wp 285 0 [(10, o0), (0, x1), (0, x2), (61, o3), (3, 0)] [] σ Q
  refine wi_aload_n (pc' := 1) hm285 rfl rfl rfl (by decide) ?_
  refine wi_iconst (pc' := 2) (v := 0) hm285 rfl rfl rfl ?_
  refine wi_aload_n (pc' := 3) hm285 rfl rfl rfl (by decide) ?_
  refine wi_iload_n (pc' := 4) hm285 rfl rfl rfl ?_
  refine wi_iload_n (pc' := 5) hm285 rfl rfl rfl ?_
  refine wc_Ih (pc' := 8) rfl (by decide) ((fx_wE hm285 rfl).trans (fx_exV (mj := 124) (as := [(0, x1), (0, x2)]) (rest := [(0, 0), (61, o3)]) rfl rk124 rfl rfl rfl rfl rfl)) h (fun y1 σ1 h => ?_) (fun v σ1 hv h => ?_)
  · refine wi_i2l (pc' := 9) hm285 rfl rfl ?_
    refine wi_lastore (pc' := 10) hm285 rfl rfl rfl (N := 1) rfl (by decide) ?_
    refine wi_goto (t := 21) hm285 rfl rfl ?_
    refine wi_iconst (pc' := 22) (v := 0) hm285 rfl rfl rfl ?_
    exact wi_iret hm285 rfl h
  · replace h := h
    by_cases e1 : v.2 = 2
    · refine Or.inr ⟨15, 4, by rw [e1]; rfl, ?_⟩
      replace h := h.1 e1
      show fx_Wp 285 15 [(10, o0), (0, x1), (0, x2), (61, o3), (3, 0)] [] σ1 Q
      refine wi_iconst (pc' := 16) (v := 1) hm285 rfl rfl rfl ?_
      exact wi_iret hm285 rfl h
    by_cases e2 : v.2 = 0
    · refine Or.inr ⟨19, 4, by rw [e2]; rfl, ?_⟩
      replace h := h.2.1 e2
      show fx_Wp 285 19 [(10, o0), (0, x1), (0, x2), (61, o3), (3, 0)] [] σ1 Q
      refine wi_iconst (pc' := 20) (v := 2) hm285 rfl rfl rfl ?_
      exact wi_iret hm285 rfl h
    exact Or.inl ⟨by show fx_hf v.2 [(2, 13, 4, 2), (0, 17, 4, 2)] = none; unfold fx_hf; simp only; rw [if_neg (fun e => e1 e.symm)]; unfold fx_hf; simp only; rw [if_neg (fun e => e2 e.symm)]; rfl, h.2.2 e1 e2⟩
set_option maxRecDepth 100000 in
theorem hm286 : fx_code 286 = fx_c286 := rfl
theorem t286_0 {o0 x1 x2 o3 : Int} {σ : fx_S} {Q : fx_V → fx_S → Prop} (h : fx_CI 120 [(10, o0), (0, x1), (0, x2)] σ (fun v σ1 => (v.2 = 2 → Q (0, 1) σ1) ∧ (v.2 ≠ 2 → Q v σ1)) (fun y1 σ1 => Q (0, 0) (fx_up σ1 61 o3 0 y1))) : fx_Ca 286 [(10, o0), (0, x1), (0, x2), (61, o3)] σ Q := by
  show fx_Wp 286 0 [(10, o0), (0, x1), (0, x2), (61, o3), (3, 0)] [] σ Q
  refine wi_aload_n (pc' := 1) hm286 rfl rfl rfl (by decide) ?_
  refine wi_iconst (pc' := 2) (v := 0) hm286 rfl rfl rfl ?_
  refine wi_aload_n (pc' := 3) hm286 rfl rfl rfl (by decide) ?_
  refine wi_iload_n (pc' := 4) hm286 rfl rfl rfl ?_
  refine wi_iload_n (pc' := 5) hm286 rfl rfl rfl ?_
  refine wc_Ih (pc' := 8) rfl (by decide) ((fx_wE hm286 rfl).trans (fx_exV (mj := 120) (as := [(0, x1), (0, x2)]) (rest := [(0, 0), (61, o3)]) rfl rk120 rfl rfl rfl rfl rfl)) h (fun y1 σ1 h => ?_) (fun v σ1 hv h => ?_)
  · refine wi_i2l (pc' := 9) hm286 rfl rfl ?_
    refine wi_lastore (pc' := 10) hm286 rfl rfl rfl (N := 1) rfl (by decide) ?_
    refine wi_goto (t := 17) hm286 rfl rfl ?_
    refine wi_iconst (pc' := 18) (v := 0) hm286 rfl rfl rfl ?_
    exact wi_iret hm286 rfl h
  · replace h := h
    by_cases e1 : v.2 = 2
    · refine Or.inr ⟨15, 4, by rw [e1]; rfl, ?_⟩
      replace h := h.1 e1
      show fx_Wp 286 15 [(10, o0), (0, x1), (0, x2), (61, o3), (3, 0)] [] σ1 Q
      refine wi_iconst (pc' := 16) (v := 1) hm286 rfl rfl rfl ?_
      exact wi_iret hm286 rfl h
    exact Or.inl ⟨by show fx_hf v.2 [(2, 13, 4, 2)] = none; unfold fx_hf; simp only; rw [if_neg (fun e => e1 e.symm)]; rfl, h.2 e1⟩
set_option maxRecDepth 100000 in
theorem hm287 : fx_code 287 = fx_c287 := rfl
theorem t287_0 {o0 x1 x2 o3 : Int} {σ : fx_S} {Q : fx_V → fx_S → Prop} (h : fx_CI 128 [(10, o0), (0, x1), (0, x2)] σ (fun v σ1 => (v.2 = 2 → Q (0, 1) σ1) ∧ (v.2 ≠ 2 → Q v σ1)) (fun y1 σ1 => Q (0, 0) (fx_up σ1 61 o3 0 y1))) : fx_Ca 287 [(10, o0), (0, x1), (0, x2), (61, o3)] σ Q := by
  show fx_Wp 287 0 [(10, o0), (0, x1), (0, x2), (61, o3), (3, 0)] [] σ Q
  refine wi_aload_n (pc' := 1) hm287 rfl rfl rfl (by decide) ?_
  refine wi_iconst (pc' := 2) (v := 0) hm287 rfl rfl rfl ?_
  refine wi_aload_n (pc' := 3) hm287 rfl rfl rfl (by decide) ?_
  refine wi_iload_n (pc' := 4) hm287 rfl rfl rfl ?_
  refine wi_iload_n (pc' := 5) hm287 rfl rfl rfl ?_
  refine wc_Ih (pc' := 8) rfl (by decide) ((fx_wE hm287 rfl).trans (fx_exV (mj := 128) (as := [(0, x1), (0, x2)]) (rest := [(0, 0), (61, o3)]) rfl rk128 rfl rfl rfl rfl rfl)) h (fun y1 σ1 h => ?_) (fun v σ1 hv h => ?_)
  · refine wi_i2l (pc' := 9) hm287 rfl rfl ?_
    refine wi_lastore (pc' := 10) hm287 rfl rfl rfl (N := 1) rfl (by decide) ?_
    refine wi_goto (t := 17) hm287 rfl rfl ?_
    refine wi_iconst (pc' := 18) (v := 0) hm287 rfl rfl rfl ?_
    exact wi_iret hm287 rfl h
  · replace h := h
    by_cases e1 : v.2 = 2
    · refine Or.inr ⟨15, 4, by rw [e1]; rfl, ?_⟩
      replace h := h.1 e1
      show fx_Wp 287 15 [(10, o0), (0, x1), (0, x2), (61, o3), (3, 0)] [] σ1 Q
      refine wi_iconst (pc' := 16) (v := 1) hm287 rfl rfl rfl ?_
      exact wi_iret hm287 rfl h
    exact Or.inl ⟨by show fx_hf v.2 [(2, 13, 4, 2)] = none; unfold fx_hf; simp only; rw [if_neg (fun e => e1 e.symm)]; rfl, h.2 e1⟩
set_option maxRecDepth 100000 in
theorem hm288 : fx_code 288 = fx_c288 := rfl
theorem t288_0 {o0 x1 x2 o3 : Int} {σ : fx_S} {Q : fx_V → fx_S → Prop} (h : fx_CI 121 [(10, o0), (0, x1), (0, x2)] σ (fun v σ1 => (v.2 = 2 → Q (0, 1) σ1) ∧ (v.2 ≠ 2 → Q v σ1)) (fun y1 σ1 => Q (0, 0) (fx_up σ1 61 o3 0 y1))) : fx_Ca 288 [(10, o0), (0, x1), (0, x2), (61, o3)] σ Q := by
  show fx_Wp 288 0 [(10, o0), (0, x1), (0, x2), (61, o3), (3, 0)] [] σ Q
  refine wi_aload_n (pc' := 1) hm288 rfl rfl rfl (by decide) ?_
  refine wi_iconst (pc' := 2) (v := 0) hm288 rfl rfl rfl ?_
  refine wi_aload_n (pc' := 3) hm288 rfl rfl rfl (by decide) ?_
  refine wi_iload_n (pc' := 4) hm288 rfl rfl rfl ?_
  refine wi_iload_n (pc' := 5) hm288 rfl rfl rfl ?_
  refine wc_Ih (pc' := 8) rfl (by decide) ((fx_wE hm288 rfl).trans (fx_exV (mj := 121) (as := [(0, x1), (0, x2)]) (rest := [(0, 0), (61, o3)]) rfl rk121 rfl rfl rfl rfl rfl)) h (fun y1 σ1 h => ?_) (fun v σ1 hv h => ?_)
  · refine wi_i2l (pc' := 9) hm288 rfl rfl ?_
    refine wi_lastore (pc' := 10) hm288 rfl rfl rfl (N := 1) rfl (by decide) ?_
    refine wi_goto (t := 17) hm288 rfl rfl ?_
    refine wi_iconst (pc' := 18) (v := 0) hm288 rfl rfl rfl ?_
    exact wi_iret hm288 rfl h
  · replace h := h
    by_cases e1 : v.2 = 2
    · refine Or.inr ⟨15, 4, by rw [e1]; rfl, ?_⟩
      replace h := h.1 e1
      show fx_Wp 288 15 [(10, o0), (0, x1), (0, x2), (61, o3), (3, 0)] [] σ1 Q
      refine wi_iconst (pc' := 16) (v := 1) hm288 rfl rfl rfl ?_
      exact wi_iret hm288 rfl h
    exact Or.inl ⟨by show fx_hf v.2 [(2, 13, 4, 2)] = none; unfold fx_hf; simp only; rw [if_neg (fun e => e1 e.symm)]; rfl, h.2 e1⟩
set_option maxRecDepth 100000 in
theorem hm289 : fx_code 289 = fx_c289 := rfl
theorem t289_0 {o0 x1 x2 o3 : Int} {σ : fx_S} {Q : fx_V → fx_S → Prop} (h : fx_CI 129 [(10, o0), (0, x1), (0, x2)] σ (fun v σ1 => (v.2 = 2 → Q (0, 1) σ1) ∧ (v.2 ≠ 2 → Q v σ1)) (fun y1 σ1 => ((y1 = 0 → Q (0, 0) (fx_up σ1 61 o3 0 0)) ∧ (y1 ≠ 0 → Q (0, 0) (fx_up σ1 61 o3 0 1))))) : fx_Ca 289 [(10, o0), (0, x1), (0, x2), (61, o3)] σ Q := by
  show fx_Wp 289 0 [(10, o0), (0, x1), (0, x2), (61, o3), (3, 0)] [] σ Q
  refine wi_aload_n (pc' := 1) hm289 rfl rfl rfl (by decide) ?_
  refine wi_iconst (pc' := 2) (v := 0) hm289 rfl rfl rfl ?_
  refine wi_aload_n (pc' := 3) hm289 rfl rfl rfl (by decide) ?_
  refine wi_iload_n (pc' := 4) hm289 rfl rfl rfl ?_
  refine wi_iload_n (pc' := 5) hm289 rfl rfl rfl ?_
  refine wc_Ih (pc' := 8) rfl (by decide) ((fx_wE hm289 rfl).trans (fx_exV (mj := 129) (as := [(0, x1), (0, x2)]) (rest := [(0, 0), (61, o3)]) rfl rk129 rfl rfl rfl rfl rfl)) h (fun y1 σ1 h => ?_) (fun v σ1 hv h => ?_)
  · refine wi_if_eq (pc' := 11) (t := 15) hm289 rfl rfl rfl (fun hc => ?_) (fun hc => ?_)
    · replace h := h.1 hc
      refine wi_lconst (pc' := 16) (v := 0) hm289 rfl rfl rfl ?_
      refine wi_lastore (pc' := 17) hm289 rfl rfl rfl (N := 1) rfl (by decide) ?_
      refine wi_goto (t := 24) hm289 rfl rfl ?_
      refine wi_iconst (pc' := 25) (v := 0) hm289 rfl rfl rfl ?_
      exact wi_iret hm289 rfl h
    · replace h := h.2 hc
      refine wi_lconst (pc' := 12) (v := 1) hm289 rfl rfl rfl ?_
      refine wi_goto (t := 16) hm289 rfl rfl ?_
      refine wi_lastore (pc' := 17) hm289 rfl rfl rfl (N := 1) rfl (by decide) ?_
      refine wi_goto (t := 24) hm289 rfl rfl ?_
      refine wi_iconst (pc' := 25) (v := 0) hm289 rfl rfl rfl ?_
      exact wi_iret hm289 rfl h
  · replace h := h
    by_cases e1 : v.2 = 2
    · refine Or.inr ⟨22, 4, by rw [e1]; rfl, ?_⟩
      replace h := h.1 e1
      show fx_Wp 289 22 [(10, o0), (0, x1), (0, x2), (61, o3), (3, 0)] [] σ1 Q
      refine wi_iconst (pc' := 23) (v := 1) hm289 rfl rfl rfl ?_
      exact wi_iret hm289 rfl h
    exact Or.inl ⟨by show fx_hf v.2 [(2, 20, 4, 2)] = none; unfold fx_hf; simp only; rw [if_neg (fun e => e1 e.symm)]; rfl, h.2 e1⟩
set_option maxRecDepth 100000 in
theorem hm290 : fx_code 290 = fx_c290 := rfl
theorem t290_0 {o0 x1 x2 o3 : Int} {σ : fx_S} {Q : fx_V → fx_S → Prop} (h : fx_CI 116 [(10, o0), (0, x1), (0, x2)] σ (fun v σ1 => (v.2 = 2 → Q (0, 1) σ1) ∧ (v.2 ≠ 2 → Q v σ1)) (fun y1 σ1 => Q (0, 0) (fx_up σ1 61 o3 0 y1))) : fx_Ca 290 [(10, o0), (0, x1), (0, x2), (61, o3)] σ Q := by
  show fx_Wp 290 0 [(10, o0), (0, x1), (0, x2), (61, o3), (3, 0)] [] σ Q
  refine wi_aload_n (pc' := 1) hm290 rfl rfl rfl (by decide) ?_
  refine wi_iconst (pc' := 2) (v := 0) hm290 rfl rfl rfl ?_
  refine wi_aload_n (pc' := 3) hm290 rfl rfl rfl (by decide) ?_
  refine wi_iload_n (pc' := 4) hm290 rfl rfl rfl ?_
  refine wi_iload_n (pc' := 5) hm290 rfl rfl rfl ?_
  refine wc_Ih (pc' := 8) rfl (by decide) ((fx_wE hm290 rfl).trans (fx_exV (mj := 116) (as := [(0, x1), (0, x2)]) (rest := [(0, 0), (61, o3)]) rfl rk116 rfl rfl rfl rfl rfl)) h (fun y1 σ1 h => ?_) (fun v σ1 hv h => ?_)
  · refine wi_i2l (pc' := 9) hm290 rfl rfl ?_
    refine wi_lastore (pc' := 10) hm290 rfl rfl rfl (N := 1) rfl (by decide) ?_
    refine wi_goto (t := 17) hm290 rfl rfl ?_
    refine wi_iconst (pc' := 18) (v := 0) hm290 rfl rfl rfl ?_
    exact wi_iret hm290 rfl h
  · replace h := h
    by_cases e1 : v.2 = 2
    · refine Or.inr ⟨15, 4, by rw [e1]; rfl, ?_⟩
      replace h := h.1 e1
      show fx_Wp 290 15 [(10, o0), (0, x1), (0, x2), (61, o3), (3, 0)] [] σ1 Q
      refine wi_iconst (pc' := 16) (v := 1) hm290 rfl rfl rfl ?_
      exact wi_iret hm290 rfl h
    exact Or.inl ⟨by show fx_hf v.2 [(2, 13, 4, 2)] = none; unfold fx_hf; simp only; rw [if_neg (fun e => e1 e.symm)]; rfl, h.2 e1⟩
set_option maxRecDepth 100000 in
theorem hm291 : fx_code 291 = fx_c291 := rfl
theorem t291_0 {o0 x1 x2 x3 o4 : Int} {σ : fx_S} {Q : fx_V → fx_S → Prop} (h : fx_CI 122 [(10, o0), (0, x1), (0, x2), (0, x3)] σ (fun v σ1 => (v.2 = 2 → Q (0, 1) σ1) ∧ (v.2 = 0 → Q (0, 2) σ1) ∧ (v.2 ≠ 2 → v.2 ≠ 0 → Q v σ1)) (fun y1 σ1 => Q (0, 0) (fx_up σ1 61 o4 0 y1))) : fx_Ca 291 [(10, o0), (0, x1), (0, x2), (0, x3), (61, o4)] σ Q := by
  show fx_Wp 291 0 [(10, o0), (0, x1), (0, x2), (0, x3), (61, o4), (3, 0)] [] σ Q
  refine wi_aload (pc' := 2) hm291 rfl rfl rfl (by decide) ?_
  refine wi_iconst (pc' := 3) (v := 0) hm291 rfl rfl rfl ?_
  refine wi_aload_n (pc' := 4) hm291 rfl rfl rfl (by decide) ?_
  refine wi_iload_n (pc' := 5) hm291 rfl rfl rfl ?_
  refine wi_iload_n (pc' := 6) hm291 rfl rfl rfl ?_
  refine wi_iload_n (pc' := 7) hm291 rfl rfl rfl ?_
  refine wc_Ih (pc' := 10) rfl (by decide) ((fx_wE hm291 rfl).trans (fx_exV (mj := 122) (as := [(0, x1), (0, x2), (0, x3)]) (rest := [(0, 0), (61, o4)]) rfl rk122 rfl rfl rfl rfl rfl)) h (fun y1 σ1 h => ?_) (fun v σ1 hv h => ?_)
  · refine wi_i2l (pc' := 11) hm291 rfl rfl ?_
    refine wi_lastore (pc' := 12) hm291 rfl rfl rfl (N := 1) rfl (by decide) ?_
    refine wi_goto (t := 23) hm291 rfl rfl ?_
    refine wi_iconst (pc' := 24) (v := 0) hm291 rfl rfl rfl ?_
    exact wi_iret hm291 rfl h
  · replace h := h
    by_cases e1 : v.2 = 2
    · refine Or.inr ⟨17, 5, by rw [e1]; rfl, ?_⟩
      replace h := h.1 e1
      show fx_Wp 291 17 [(10, o0), (0, x1), (0, x2), (0, x3), (61, o4), (3, 0)] [] σ1 Q
      refine wi_iconst (pc' := 18) (v := 1) hm291 rfl rfl rfl ?_
      exact wi_iret hm291 rfl h
    by_cases e2 : v.2 = 0
    · refine Or.inr ⟨21, 5, by rw [e2]; rfl, ?_⟩
      replace h := h.2.1 e2
      show fx_Wp 291 21 [(10, o0), (0, x1), (0, x2), (0, x3), (61, o4), (3, 0)] [] σ1 Q
      refine wi_iconst (pc' := 22) (v := 2) hm291 rfl rfl rfl ?_
      exact wi_iret hm291 rfl h
    exact Or.inl ⟨by show fx_hf v.2 [(2, 15, 5, 2), (0, 19, 5, 2)] = none; unfold fx_hf; simp only; rw [if_neg (fun e => e1 e.symm)]; unfold fx_hf; simp only; rw [if_neg (fun e => e2 e.symm)]; rfl, h.2.2 e1 e2⟩
set_option maxRecDepth 100000 in
theorem hm292 : fx_code 292 = fx_c292 := rfl
theorem t292_0 {o0 x1 x2 x3 o4 : Int} {σ : fx_S} {Q : fx_V → fx_S → Prop} (h : fx_CI 112 [(10, o0), (0, x1), (0, x2), (0, x3)] σ (fun v σ1 => (v.2 = 2 → Q (0, 1) σ1) ∧ (v.2 = 0 → Q (0, 2) σ1) ∧ (v.2 ≠ 2 → v.2 ≠ 0 → Q v σ1)) (fun y1 σ1 => Q (0, 0) (fx_up σ1 61 o4 0 y1))) : fx_Ca 292 [(10, o0), (0, x1), (0, x2), (0, x3), (61, o4)] σ Q := by
  show fx_Wp 292 0 [(10, o0), (0, x1), (0, x2), (0, x3), (61, o4), (3, 0)] [] σ Q
  refine wi_aload (pc' := 2) hm292 rfl rfl rfl (by decide) ?_
  refine wi_iconst (pc' := 3) (v := 0) hm292 rfl rfl rfl ?_
  refine wi_aload_n (pc' := 4) hm292 rfl rfl rfl (by decide) ?_
  refine wi_iload_n (pc' := 5) hm292 rfl rfl rfl ?_
  refine wi_iload_n (pc' := 6) hm292 rfl rfl rfl ?_
  refine wi_iload_n (pc' := 7) hm292 rfl rfl rfl ?_
  refine wc_Ih (pc' := 10) rfl (by decide) ((fx_wE hm292 rfl).trans (fx_exV (mj := 112) (as := [(0, x1), (0, x2), (0, x3)]) (rest := [(0, 0), (61, o4)]) rfl rk112 rfl rfl rfl rfl rfl)) h (fun y1 σ1 h => ?_) (fun v σ1 hv h => ?_)
  · refine wi_i2l (pc' := 11) hm292 rfl rfl ?_
    refine wi_lastore (pc' := 12) hm292 rfl rfl rfl (N := 1) rfl (by decide) ?_
    refine wi_goto (t := 23) hm292 rfl rfl ?_
    refine wi_iconst (pc' := 24) (v := 0) hm292 rfl rfl rfl ?_
    exact wi_iret hm292 rfl h
  · replace h := h
    by_cases e1 : v.2 = 2
    · refine Or.inr ⟨17, 5, by rw [e1]; rfl, ?_⟩
      replace h := h.1 e1
      show fx_Wp 292 17 [(10, o0), (0, x1), (0, x2), (0, x3), (61, o4), (3, 0)] [] σ1 Q
      refine wi_iconst (pc' := 18) (v := 1) hm292 rfl rfl rfl ?_
      exact wi_iret hm292 rfl h
    by_cases e2 : v.2 = 0
    · refine Or.inr ⟨21, 5, by rw [e2]; rfl, ?_⟩
      replace h := h.2.1 e2
      show fx_Wp 292 21 [(10, o0), (0, x1), (0, x2), (0, x3), (61, o4), (3, 0)] [] σ1 Q
      refine wi_iconst (pc' := 22) (v := 2) hm292 rfl rfl rfl ?_
      exact wi_iret hm292 rfl h
    exact Or.inl ⟨by show fx_hf v.2 [(2, 15, 5, 2), (0, 19, 5, 2)] = none; unfold fx_hf; simp only; rw [if_neg (fun e => e1 e.symm)]; unfold fx_hf; simp only; rw [if_neg (fun e => e2 e.symm)]; rfl, h.2.2 e1 e2⟩
