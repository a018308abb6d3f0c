/-- only the numbers that an act has count -/
theorem fs_nn_eq {k a b c d e a' b' c' d' e' : Int} (h0 : a = a') (h1 : 2 ≤ fr_nn k → b = b') (h2 : fr_nn k = 5 → c = c' ∧ d = d' ∧ e = e') : (∀ R, fs_par k a b c d e R ↔ fs_par k a' b' c' d' e' R) ∧ (∀ S, fs_ref S k a b c d = fs_ref S k a' b' c' d') ∧ ∀ S R, fs_do S k a b c d e R = fs_do S k a' b' c' d' e' R := by
  subst h0
  by_cases h18 : k = 18
  · subst h18
    obtain ⟨rfl, rfl, rfl⟩ := h2 (by decide)
    obtain rfl := h1 (by decide)
    exact ⟨fun _ => Iff.rfl, fun _ => rfl, fun _ _ => rfl⟩
  · by_cases h22 : k = 22
    · subst h22
      obtain rfl := h1 (by decide)
      exact ⟨fun _ => by simp [fs_par], fun _ => by simp [fs_ref], fun _ _ => by simp [fs_do]⟩
    · by_cases h23 : k = 23
      · subst h23
        obtain rfl := h1 (by decide)
        exact ⟨fun _ => by simp [fs_par], fun _ => by simp [fs_ref], fun _ _ => by simp [fs_do]⟩
      · exact ⟨fun _ => by simp [fs_par, h18, h22, h23], fun _ => by simp [fs_ref, h18, h23], fun _ _ => by simp [fs_do, h18, h22, h23]⟩
theorem fr_nn1 {k : Int} : 1 ≤ fr_nn k := by
  unfold fr_nn
  repeat' split
  all_goals omega
theorem fs_okr_rr {τ R : fx_S} {t : Int} (h : fs_rr τ R) (g : fs_okr R t) : fs_okr (fs_ra τ 1) t := by
  obtain ⟨h3, h4, hk, -⟩ := h
  obtain ⟨g1, g2, g3, g4⟩ := g
  have e9 : fs_ra τ 1 9 0 0 = R 9 0 0 := h3
  have e10 : fs_ra τ 1 10 0 0 = R 10 0 0 := h4
  refine ⟨by rw [e9]; exact g1, by rw [e10]; exact g2, fun k k0 k1 => ?_, by rw [e9, e10]; exact g4⟩
  rw [e9] at k1
  obtain ⟨a, b, c⟩ := hk k k0 k1
  have e11 : fs_ra τ 1 11 0 k = R 11 0 k := a
  have e12 : fs_ra τ 1 12 0 k = R 12 0 k := b
  have e13 : fs_ra τ 1 13 0 k = R 13 0 k := c
  rw [e11, e12, e13]
  exact g3 k k0 k1
theorem fs_bit_rr {τ R : fx_S} (h : fs_rr τ R) : τ 22 (1 + 88) 5 = fs_bit (fs_ra τ 1) 0 (τ 22 (1 + 88) 3).toNat := by
  obtain ⟨h3, h4, hk, h5⟩ := h
  have e3 : τ 22 (1 + 88) 3 = R 9 0 0 := h3
  have e5 : τ 22 (1 + 88) 5 = fs_bit R 0 (R 9 0 0).toNat := h5
  rw [e3, e5]
  refine fs_bit_k2 _ (fun k k0 k1 => ?_)
  obtain ⟨a, b, -⟩ := hk k k0 (by omega)
  exact ⟨a.symm, b.symm⟩
section FXAQ
variable {T : Int → Int} {N : Int} {m i : Nat}
/-- what was read, is an act -/
theorem fr_par (hN : 0 ≤ N) (hm : fs_a T N m = N) (h : (fr_ac T N m i).1 = true) : fs_par (fr_kk T N i) (fr_w T N i 0) (fr_w T N i 1) (fr_w T N i 2) (fr_w T N i 3) (fr_w T N i 4) (fr_ac T N m i).2.2 := by
  by_cases k17 : fr_K T N i = 17
  · have kk := fr_kk_o k17 (by omega)
    have w0 : fr_w T N i 0 = fr_V T N (i + 1) := by simp [fr_w, fr_vv, fr_nn, kk, k17]
    rw [kk, w0]
    by_cases q1 : fr_K T N (i + 1) = 1 ∧ 0 ≤ fr_V T N (i + 1) ∧ fr_V T N (i + 1) < 100
    · exact ⟨⟨by omega, by omega⟩, fun z => by omega, fun z => q1.2, fun z => by omega, fun z => by omega, fun z => by omega, fun z => absurd z (by decide)⟩
    · simp [fr_ac, fr_args, k17, q1] at h
  by_cases k18 : fr_K T N i = 18
  · have kk := fr_kk_o k18 (by omega)
    have w0 : fr_w T N i 0 = fr_V T N (i + 1) := by simp [fr_w, fr_vv, fr_nn, kk, k18]
    have w1 : fr_w T N i 1 = fr_V T N (i + 2) := by simp [fr_w, fr_vv, fr_nn, kk, k18]
    have w2 : fr_w T N i 2 = fr_V T N (i + 3) := by simp [fr_w, fr_vv, fr_nn, kk, k18]
    have w3 : fr_w T N i 3 = fr_V T N (i + 4) := by simp [fr_w, fr_vv, fr_nn, kk, k18]
    have w4 : fr_w T N i 4 = fr_V T N (i + 5) := by simp [fr_w, fr_vv, fr_nn, kk, k18]
    rw [kk, w0, w1, w2, w3, w4]
    have e1 : (fr_ac T N m i).1 = (fr_args T N [(0, 8), (0, 8), (0, 1000), (1, 1001), (0, 100)] (i + 1)).1 := by simp [fr_ac, k18]
    rw [e1] at h
    simp only [fr_args] at h
    by_cases q1 : fr_K T N (i + 1) = 1 ∧ 0 ≤ fr_V T N (i + 1) ∧ fr_V T N (i + 1) < 8
    · rw [if_pos q1] at h
      by_cases q2 : fr_K T N (i + 1 + 1) = 1 ∧ 0 ≤ fr_V T N (i + 1 + 1) ∧ fr_V T N (i + 1 + 1) < 8
      · rw [if_pos q2] at h
        by_cases q3 : fr_K T N (i + 1 + 1 + 1) = 1 ∧ 0 ≤ fr_V T N (i + 1 + 1 + 1) ∧ fr_V T N (i + 1 + 1 + 1) < 1000
        · rw [if_pos q3] at h
          by_cases q4 : fr_K T N (i + 1 + 1 + 1 + 1) = 1 ∧ 1 ≤ fr_V T N (i + 1 + 1 + 1 + 1) ∧ fr_V T N (i + 1 + 1 + 1 + 1) < 1001
          · rw [if_pos q4] at h
            by_cases q5 : fr_K T N (i + 1 + 1 + 1 + 1 + 1) = 1 ∧ 0 ≤ fr_V T N (i + 1 + 1 + 1 + 1 + 1) ∧ fr_V T N (i + 1 + 1 + 1 + 1 + 1) < 100
            · have q3 : fr_K T N (i + 3) = 1 ∧ 0 ≤ fr_V T N (i + 3) ∧ fr_V T N (i + 3) < 1000 := q3
              have q4 : fr_K T N (i + 4) = 1 ∧ 1 ≤ fr_V T N (i + 4) ∧ fr_V T N (i + 4) < 1001 := q4
              have q5 : fr_K T N (i + 5) = 1 ∧ 0 ≤ fr_V T N (i + 5) ∧ fr_V T N (i + 5) < 100 := q5
              exact ⟨⟨by omega, by omega⟩, fun z => by omega, fun z => by omega, fun z => ⟨q1.2, q3.2.1, by omega, q5.2.1, q5.2.2⟩, fun z => by omega, fun z => by omega, fun z => absurd z (by decide)⟩
            · rw [if_neg q5] at h; exact absurd h Bool.false_ne_true
          · rw [if_neg q4] at h; exact absurd h Bool.false_ne_true
        · rw [if_neg q3] at h; exact absurd h Bool.false_ne_true
      · rw [if_neg q2] at h; exact absurd h Bool.false_ne_true
    · rw [if_neg q1] at h; exact absurd h Bool.false_ne_true
  by_cases k19 : fr_K T N i = 19
  · have kk := fr_kk_o k19 (by omega)
    rw [kk]
    exact ⟨⟨by omega, by omega⟩, fun z => by omega, fun z => by omega, fun z => by omega, fun z => by omega, fun z => by omega, fun z => absurd z (by decide)⟩
  by_cases k20 : fr_K T N i = 20 ∨ fr_K T N i = 21
  · have kk := fr_kk_o (T := T) (N := N) (i := i) rfl (by omega)
    rw [kk]
    exact ⟨⟨by omega, by omega⟩, fun z => by omega, fun z => by omega, fun z => by omega, fun z => by omega, fun z => by omega, fun z => by omega⟩
  by_cases k22 : fr_K T N i = 22
  · have kk := fr_kk_o k22 (by omega)
    have w1 : fr_w T N i 1 = fr_V T N (i + 2) := by simp [fr_w, fr_vv, fr_nn, kk, k22]
    rw [kk, w1]
    have e1 : (fr_ac T N m i).1 = (fr_args T N [(0, 8), (0, 100)] (i + 1)).1 := by simp [fr_ac, k22]
    rw [e1] at h
    simp only [fr_args] at h
    by_cases q1 : fr_K T N (i + 1) = 1 ∧ 0 ≤ fr_V T N (i + 1) ∧ fr_V T N (i + 1) < 8
    · rw [if_pos q1] at h
      by_cases q2 : fr_K T N (i + 1 + 1) = 1 ∧ 0 ≤ fr_V T N (i + 1 + 1) ∧ fr_V T N (i + 1 + 1) < 100
      · have q2 : fr_K T N (i + 2) = 1 ∧ 0 ≤ fr_V T N (i + 2) ∧ fr_V T N (i + 2) < 100 := q2
        exact ⟨⟨by omega, by omega⟩, fun z => by omega, fun z => by omega, fun z => by omega, fun z => q2.2, fun z => by omega, fun z => absurd z (by decide)⟩
      · rw [if_neg q2] at h; exact absurd h Bool.false_ne_true
    · rw [if_neg q1] at h; exact absurd h Bool.false_ne_true
  by_cases k23 : fr_K T N i = 23
  · have kk := fr_kk_o k23 (by omega)
    have w0 : fr_w T N i 0 = fr_V T N (i + 1) := by simp [fr_w, fr_vv, fr_nn, kk, k23]
    have w1 : fr_w T N i 1 = fr_V T N (i + 3) := by simp [fr_w, fr_vv, fr_nn, kk, k23]
    rw [kk, w0, w1]
    by_cases q1 : fr_K T N (i + 1) = 1 ∧ 0 ≤ fr_V T N (i + 1) ∧ fr_V T N (i + 1) < 8
    · by_cases q2 : fr_K T N (i + 2) = 15
      · by_cases q3 : fr_K T N (i + 3) = 1 ∧ 1 ≤ fr_V T N (i + 3) ∧ fr_V T N (i + 3) < 1000
        · exact ⟨⟨by omega, by omega⟩, fun z => by omega, fun z => by omega, fun z => by omega, fun z => by omega, fun z => ⟨q1.2, by omega, by omega⟩, fun z => absurd z (by decide)⟩
        · simp [fr_ac, fr_args, k23, q1, q2, q3] at h
      · simp [fr_ac, fr_args, k23, q1, q2] at h
    · simp [fr_ac, fr_args, k23, q1] at h
  by_cases k24 : fr_K T N i = 24
  · have w0 : fr_w T N i 0 = fr_V T N (i + 1) := by
      have := @fr_nn1 (fr_kk T N i)
      unfold fr_w
      rw [if_pos (by omega), fr_vv_o (Or.inr (by omega))]
    rw [w0]
    by_cases q1 : fr_K T N (i + 1) = 1 ∧ 0 ≤ fr_V T N (i + 1) ∧ fr_V T N (i + 1) < 8
    · by_cases q2 : fr_K T N (i + 2) = 16
      · have kk : fr_kk T N i = 16 := if_pos ⟨k24, q2⟩
        rw [kk]
        exact ⟨⟨by omega, by omega⟩, fun z => q1.2, fun z => by omega, fun z => by omega, fun z => by omega, fun z => by omega, fun z => absurd z (by decide)⟩
      · by_cases q3 : fr_K T N (i + 2) = 14
        · have kk : fr_kk T N i = 24 := by unfold fr_kk; rw [if_neg (fun z => q2 z.2)]; exact k24
          have e : fr_ac T N m i = fs_pr T N (fr_V T N (i + 1)) (m + 1) true (i + 3) 0 [] [] fr_R0 := by simp [fr_ac, fr_args, k24, q1, q3]
          have hj := fr_K_M hm (j := i + 2) (by omega)
          rw [kk]
          refine ⟨⟨by omega, by omega⟩, fun z => by omega, fun z => by omega, fun z => by omega, fun z => by omega, fun z => by omega, fun z => ⟨q1.2, ?_⟩⟩
          rw [e] at h ⊢
          exact (fs_pr_ok (t := fr_V T N (i + 1)) hN hm (m + 1) true (i + 3) 0 [] [] fr_R0 ⟨⟨by decide, by decide, by decide, by decide⟩, fun k k0 k1 => by have : k < 0 := k1; omega, fun x hx => by simp at hx⟩ trivial rfl (by decide) (by omega)).2 h
        · simp [fr_ac, fr_args, k24, q1, q2, q3] at h
    · simp [fr_ac, fr_args, k24, q1] at h
  · have e : fr_ac T N m i = (false, i, fr_R0) := by
      have : ¬ fr_K T N i = 20 := fun z => k20 (Or.inl z)
      have : ¬ fr_K T N i = 21 := fun z => k20 (Or.inr z)
      simp [fr_ac, *]
    rw [e] at h
    exact absurd h Bool.false_ne_true
end FXAQ
