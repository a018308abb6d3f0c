/-- the rule that was read, in the row -/
theorem fr_rul {σ τ R : fx_S} {t : Int} (ht : 0 ≤ t ∧ t < 8) (ho : fs_ok (fs_m σ 47 0)) (hR : fs_okr R t) (hm : fr_mn τ R) (h1 : ∀ p, ¬ (378 + 94 * t ≤ p ∧ p < 378 + 94 * t + 94) → τ 47 0 p = σ 47 0 p) (h2 : ∀ p, 0 ≤ p → p < 94 → τ 47 0 (378 + 94 * t + p) = τ 52 0 p) : fs_eq (fs_rul (fs_m σ 47 0) t R) (fs_m τ 47 0) := by
  obtain ⟨m0, m1, m2⟩ := hm
  have hn := fs_mn ho
  have h92 := hR.1
  have e0 : fs_rul (fs_m σ 47 0) t R 0 0 0 = σ 47 0 0 := rfl
  have e1 : fs_rul (fs_m σ 47 0) t R 0 1 0 = σ 47 0 1 := rfl
  refine ⟨?_, ?_, fun s s0 s1 => ⟨?_, ?_⟩, fun f f0 f1 => ⟨?_, ?_, ?_, ?_, ?_, ?_⟩, fun u u0 u1 => ?_⟩
  · show σ 47 0 0 = τ 47 0 0
    exact (h1 0 (by omega)).symm
  · show σ 47 0 1 = τ 47 0 1
    exact (h1 1 (by omega)).symm
  · rw [e0] at s1
    show σ 47 0 (0 + 2 + s) = τ 47 0 (0 + 2 + s)
    exact (h1 _ (by omega)).symm
  · rw [e0] at s1
    show σ 47 0 (0 + 10 + s) = τ 47 0 (0 + 10 + s)
    exact (h1 _ (by omega)).symm
  · rw [e1] at f1
    show σ 47 0 (0 + 18 + 6 * f) = τ 47 0 (0 + 18 + 6 * f)
    exact (h1 _ (by omega)).symm
  · rw [e1] at f1
    show σ 47 0 (0 + 18 + 6 * f + 1) = τ 47 0 (0 + 18 + 6 * f + 1)
    exact (h1 _ (by omega)).symm
  · rw [e1] at f1
    show σ 47 0 (0 + 18 + 6 * f + 2) = τ 47 0 (0 + 18 + 6 * f + 2)
    exact (h1 _ (by omega)).symm
  · rw [e1] at f1
    show σ 47 0 (0 + 18 + 6 * f + 3) = τ 47 0 (0 + 18 + 6 * f + 3)
    exact (h1 _ (by omega)).symm
  · rw [e1] at f1
    show σ 47 0 (0 + 18 + 6 * f + 4) = τ 47 0 (0 + 18 + 6 * f + 4)
    exact (h1 _ (by omega)).symm
  · rw [e1] at f1
    show σ 47 0 (0 + 18 + 6 * f + 5) = τ 47 0 (0 + 18 + 6 * f + 5)
    exact (h1 _ (by omega)).symm
  · by_cases e : u = t
    · subst e
      have c0 : τ 47 0 (0 + 378 + 94 * u) = R 9 0 0 := by rw [show 0 + 378 + 94 * u = 378 + 94 * u + 0 by omega, h2 0 (by omega) (by omega)]; exact m0
      have c1 : τ 47 0 (0 + 378 + 94 * u + 1) = R 10 0 0 := by rw [show 0 + 378 + 94 * u + 1 = 378 + 94 * u + 1 by omega, h2 1 (by omega) (by omega)]; exact m1
      refine ⟨?_, ?_, fun k k0 k1 => ?_⟩
      · simp only [fs_rul, fs_m]; simp; rw [show 378 + 94 * u = 0 + 378 + 94 * u by omega]; exact c0.symm
      · simp only [fs_rul, fs_m]; simp; rw [show 378 + 94 * u + 1 = 0 + 378 + 94 * u + 1 by omega]; exact c1.symm
      · have k1 : k < R 9 0 0 := by simpa [fs_rul] using k1
        obtain ⟨d1, d2, d3⟩ := m2 k k0 k1
        have z0 := h2 (2 + 4 * k) (by omega) (by omega)
        have z1 := h2 (2 + 4 * k + 1) (by omega) (by omega)
        have z2 := h2 (2 + 4 * k + 2) (by omega) (by omega)
        have z3 := h2 (2 + 4 * k + 3) (by omega) (by omega)
        rw [← z0] at d1 d2
        rw [← z1, ← z2] at d2
        rw [← z3] at d3
        have i0 : 378 + 94 * u + (2 + 4 * k) = 0 + 378 + 94 * u + 2 + 4 * k := by omega
        have i1 : 378 + 94 * u + (2 + 4 * k + 1) = 0 + 378 + 94 * u + 2 + 4 * k + 1 := by omega
        have i2 : 378 + 94 * u + (2 + 4 * k + 2) = 0 + 378 + 94 * u + 2 + 4 * k + 2 := by omega
        have i3 : 378 + 94 * u + (2 + 4 * k + 3) = 0 + 378 + 94 * u + 2 + 4 * k + 3 := by omega
        rw [i0] at d1 d2
        rw [i1, i2] at d2
        rw [i3] at d3
        have f11 : fs_rul (fs_m σ 47 0) u R 11 u k = R 11 0 k := if_pos ⟨by omega, by omega, rfl⟩
        have f12 : fs_rul (fs_m σ 47 0) u R 12 u k = R 12 0 k := if_pos ⟨by omega, by omega, rfl⟩
        have f13 : fs_rul (fs_m σ 47 0) u R 13 u k = R 13 0 k := if_pos ⟨by omega, by omega, rfl⟩
        rw [f11, f12, f13]
        exact ⟨d1.symm, d2.symm, fun _ => d3.symm⟩
    · have f9 : ∀ k j, 9 ≤ k → k ≤ 13 → fs_rul (fs_m σ 47 0) t R k u j = fs_m σ 47 0 k u j := fun k j _ _ => if_neg (fun z => e z.2.2)
      have q : ∀ p, 0 ≤ p → p < 94 → τ 47 0 (0 + 378 + 94 * u + p) = σ 47 0 (0 + 378 + 94 * u + p) := fun p p0 p1 => h1 _ (by omega)
      have ho9 : 0 ≤ fs_m σ 47 0 9 u 0 ∧ fs_m σ 47 0 9 u 0 ≤ 23 := (ho.2.2.2.2 u u0 u1).1
      rw [f9 9 0 (by omega) (by omega), f9 10 0 (by omega) (by omega)]
      refine ⟨?_, ?_, fun k k0 k1 => ?_⟩
      · show σ 47 0 (0 + 378 + 94 * u) = τ 47 0 (0 + 378 + 94 * u)
        exact (h1 _ (by omega)).symm
      · show σ 47 0 (0 + 378 + 94 * u + 1) = τ 47 0 (0 + 378 + 94 * u + 1)
        exact (h1 _ (by omega)).symm
      · rw [f9 11 k (by omega) (by omega), f9 12 k (by omega) (by omega), f9 13 k (by omega) (by omega)]
        have w0 := h1 (0 + 378 + 94 * u + 2 + 4 * k) (by omega)
        have w1 := h1 (0 + 378 + 94 * u + 2 + 4 * k + 1) (by omega)
        have w2 := h1 (0 + 378 + 94 * u + 2 + 4 * k + 2) (by omega)
        have w3 := h1 (0 + 378 + 94 * u + 2 + 4 * k + 3) (by omega)
        refine ⟨?_, ?_, fun _ => ?_⟩
        · simp only [fs_m]; rw [w0]
        · simp only [fs_m]; rw [w0, w1, w2]
        · simp only [fs_m]; rw [w3]
