theorem fs_fct_ok {S : fx_S} (ho : fs_ok S) (h : S 0 1 0 < 60) {th s a b v : Int} (h1 : 0 ≤ th ∧ th < 8) (h2 : 0 ≤ s ∧ s < S 0 0 0) (h3 : 0 ≤ a ∧ a < b ∧ b ≤ 1000) (h4 : 0 ≤ v ∧ v < 100) : fs_ok (fs_fct S th s a b v) := by
  obtain ⟨o0, o1, os, of, orr⟩ := ho
  refine ⟨?_, ?_, fun q a b => ?_, fun f a b => ?_, fun t a b => ?_⟩
  · simpa [fs_fct, fx_up] using o0
  · simp [fs_fct, fx_up]; omega
  · have := os q a (by simpa [fs_fct, fx_up] using b)
    simpa [fs_fct, fx_up] using this
  · have hb : f < S 0 1 0 + 1 := by simpa [fs_fct, fx_up] using b
    by_cases e : f = S 0 1 0
    · subst e
      simp [fs_fct, fx_up]
      omega
    · have := of f a (by omega)
      simp [fs_fct, fx_up, e]
      omega
  · have := orr t a b
    simpa [fs_fct, fx_up, fs_okn] using this
theorem fs_fct_c {S T : fx_S} (h : fs_eq S T) {th s a b v : Int} : fs_eq (fs_fct S th s a b v) (fs_fct T th s a b v) := by
  obtain ⟨h0, h1, hs, hf, hr⟩ := h
  refine ⟨?_, ?_, fun q a b => ?_, fun f a b => ?_, fun t a b => ?_⟩
  · simpa [fs_fct, fx_up] using h0
  · simpa [fs_fct, fx_up] using h1
  · have := hs q a (by simpa [fs_fct, fx_up] using b)
    simpa [fs_fct, fx_up] using this
  · have hb : f < S 0 1 0 + 1 := by simpa [fs_fct, fx_up] using b
    by_cases e : f = S 0 1 0
    · have e2 : f = T 0 1 0 := by omega
      simp [fs_fct, fx_up, ← e, ← e2]
    · have e2 : f ≠ T 0 1 0 := by omega
      have := hf f a (by omega)
      simpa [fs_fct, fx_up, e, e2] using this
  · have := hr t a b
    simpa [fs_fct, fx_up] using this
theorem fs_cut_c {S T : fx_S} {f th time : Int} (h3 : S 3 f 0 = T 3 f 0) (h8 : S 8 f 0 = T 8 f 0) (h5 : S 5 f 0 = T 5 f 0) (h6 : S 6 f 0 = T 6 f 0) : fs_cut S f th time = fs_cut T f th time := by
  unfold fs_cut
  rw [h3, h8, h5, h6]
theorem fs_cutS_p {S : fx_S} (ho : fs_ok S) {th time : Int} (h1 : 0 ≤ th ∧ th < 8) (h2 : 0 ≤ time ∧ time ≤ 1000) : ∀ n : Nat, (n : Int) ≤ S 0 1 0 → S 0 1 0 + fs_cnt (fun f => fs_cut S f th time) n ≤ 60 →
    fs_ok (fs_cutS S th time n) ∧ fs_cutS S th time n 0 0 0 = S 0 0 0 ∧ fs_cutS S th time n 0 1 0 = S 0 1 0 + fs_cnt (fun f => fs_cut S f th time) n ∧
    ∀ f : Int, n ≤ f → f < S 0 1 0 → fs_cutS S th time n 3 f 0 = S 3 f 0 ∧ fs_cutS S th time n 4 f 0 = S 4 f 0 ∧ fs_cutS S th time n 5 f 0 = S 5 f 0 ∧ fs_cutS S th time n 6 f 0 = S 6 f 0 ∧ fs_cutS S th time n 7 f 0 = S 7 f 0 ∧ fs_cutS S th time n 8 f 0 = S 8 f 0
  | 0, _, _ => ⟨ho, rfl, by simp [fs_cutS, fs_cnt], fun _ _ _ => ⟨rfl, rfl, rfl, rfl, rfl, rfl⟩⟩
  | n + 1, hn, hr => by
    have hc := fs_b01 (fs_cut S n th time)
    have hr' : S 0 1 0 + fs_cnt (fun f => fs_cut S f th time) n ≤ 60 := by
      have := fs_cnt_le (fun f => fs_cut S f th time) n
      rw [fs_cnt] at hr
      omega
    obtain ⟨i1, i2, i3, i4⟩ := fs_cutS_p ho h1 h2 n (by omega) hr'
    obtain ⟨a3, a4, a5, a6, a7, a8⟩ := i4 n (by omega) (by omega)
    have ec : fs_cut (fs_cutS S th time n) n th time = fs_cut S n th time := fs_cut_c a3 a8 a5 a6
    rw [fs_cnt] at hr ⊢
    have hle := (fs_cnt_le (fun f => fs_cut S f th time) n).1
    rw [fs_cutS, ec]
    cases hcut : fs_cut S n th time with
    | false =>
      simp only [fs_b, cond_false, Int.add_zero, Bool.false_eq_true, if_false]
      exact ⟨i1, i2, i3, fun f f0 f1 => i4 f (by omega) f1⟩
    | true =>
      rw [hcut] at hr
      simp only [fs_b, cond_true, if_true] at hr ⊢
      have hf := ho.2.2.2.1 n (by omega) (by omega)
      have hx : S 5 n 0 < time ∧ time < S 6 n 0 := by
        unfold fs_cut at hcut
        simp only [Bool.and_eq_true, decide_eq_true_eq] at hcut
        omega
      have hok : fs_ok (fs_fct (fs_cutS S th time n) th (fs_cutS S th time n 4 n 0) time (fs_cutS S th time n 6 n 0) (fs_cutS S th time n 7 n 0)) := by
        refine fs_fct_ok i1 (by omega) h1 ?_ ?_ ?_
        · rw [a4, i2]; omega
        · rw [a6]; omega
        · rw [a7]; omega
      generalize fs_cutS S th time n = T at i1 i2 i3 i4 a3 a4 a5 a6 a7 a8 ec hok ⊢
      refine ⟨?_, ?_, ?_, fun f f0 f1 => ?_⟩
      · obtain ⟨o0, o1, os, of, orr⟩ := hok
        refine ⟨?_, ?_, fun q a b => ?_, fun f a b => ?_, fun t a b => ?_⟩
        · simpa [fx_up] using o0
        · simpa [fx_up] using o1
        · have := os q a (by simpa [fx_up] using b)
          simpa [fx_up] using this
        · have := of f a (by simpa [fx_up] using b)
          by_cases e : f = n
          · subst e
            have e5 : fs_fct T th (T 4 n 0) time (T 6 n 0) (T 7 n 0) 5 n 0 = S 5 n 0 := by
              have : (n : Int) ≠ T 0 1 0 := by omega
              simp [fs_fct, fx_up, this, a5]
            rw [e5] at this
            simp only [fx_upE]
            simp
            simp only [e5]
            omega
          · simpa [fx_up, e] using this
        · have := orr t a b
          simpa [fx_up, fs_okn] using this
      · simp [fs_fct, fx_up, i2]
      · simp [fs_fct, fx_up, i3]; omega
      · have hx := i4 f (by omega) f1
        have e1 : f ≠ T 0 1 0 := by omega
        have e2 : f ≠ n := by omega
        simpa [fs_fct, fx_up, e1, e2] using hx
theorem fs_cnt_mono (P : Int → Bool) {m n : Nat} (h : m ≤ n) : fs_cnt P m ≤ fs_cnt P n := by
  induction h with
  | refl => exact Int.le_refl _
  | step _ ih => have := fs_b01 (P ‹Nat›); rw [fs_cnt]; omega
