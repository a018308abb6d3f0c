section FXAO
variable {T : Int → Int} {N : Int} {m i : Nat} {σ : fx_S}
theorem r197 (h : fs_tp σ T N) (hm : fs_a T N m = N) (hf : σ 46 0 12 = -1) (ha : fr_at σ T N i) (ho : fs_ok (fs_m σ 47 0)) {R : fx_S} : fx_Ca 197 [(46, 0)] σ (fun v τ => (¬ (fr_K T N i = 1 ∧ 0 ≤ fr_V T N i ∧ fr_V T N i < 8) ∧ fr_no T N σ i v τ) ∨ ((fr_K T N i = 1 ∧ 0 ≤ fr_V T N i ∧ fr_V T N i < 8) ∧ fr_K T N (i + 1) = 16 ∧ fr_yes T N σ (i + 2) 16 (fr_V T N i) 0 0 0 0 R v τ) ∨ ((fr_K T N i = 1 ∧ 0 ≤ fr_V T N i ∧ fr_V T N i < 8) ∧ fr_K T N (i + 1) ≠ 16 ∧ fr_K T N (i + 1) ≠ 14 ∧ fr_no T N σ (i + 1) v τ) ∨ ((fr_K T N i = 1 ∧ 0 ≤ fr_V T N i ∧ fr_V T N i < 8) ∧ fr_K T N (i + 1) = 14 ∧ (((fs_pr T N (fr_V T N i) (m + 1) true (i + 2) 0 [] [] fr_R0).1 = false ∧ fr_no T N σ (fs_pr T N (fr_V T N i) (m + 1) true (i + 2) 0 [] [] fr_R0).2.1 v τ) ∨ ((fs_pr T N (fr_V T N i) (m + 1) true (i + 2) 0 [] [] fr_R0).1 = true ∧ fr_yes T N σ (fs_pr T N (fr_V T N i) (m + 1) true (i + 2) 0 [] [] fr_R0).2.1 24 (fr_V T N i) 0 0 0 0 (fs_pr T N (fr_V T N i) (m + 1) true (i + 2) 0 [] [] fr_R0).2.2 v τ)))) := by
  have hN := h.1.1
  refine t197_0 (fx_CI_of (r187 (lo := 0) (hi := 7) h hf ha) ?_)
  rintro v τ1 (⟨⟨q1, q2, q3⟩, rfl, r1⟩ | ⟨q1, y, c, rfl, ⟨c0, cN⟩, r1⟩)
  · have hq : fr_K T N i = 1 ∧ 0 ≤ fr_V T N i ∧ fr_V T N i < 8 := ⟨q1, q2, by omega⟩
    have a1 := fr_at_y hN r1
    refine Or.inl ⟨rfl, fx_CI_of (r183 (o := 16) (by omega) (r1.tp h) r1.2.2 a1) ?_⟩
    rintro v τ2 (⟨k16, rfl, r2⟩ | ⟨k16, rfl, r2⟩)
    · have k16 : fr_K T N (i + 1) = 16 := k16
      have rr := r1.trans r2
      refine Or.inl ⟨rfl, fun z => absurd z (by decide), fun _ => fx_CI_of (c175 (σ := τ2) (by rw [fs_m_c (fun q => rr.1 47 0 q (by omega))]; exact ho) hq.2.1 hq.2.2) ?_⟩
      intro v ρ hv
      have hv' := hv
      obtain ⟨rfl, -⟩ := hv
      exact Or.inl ⟨rfl, Or.inr (Or.inl ⟨hq, k16, fr_yes_ma rr (fr_at_y hN r2) (by omega) hv'⟩)⟩
    · have k16 : fr_K T N (i + 1) ≠ 16 := k16
      have rr := r1.trans r2
      obtain ⟨c, b1, b2, b3, b4⟩ := fr_at_n hN r2
      have c184 := c184 (o := 14) (by omega) (rr.tp h) b1 b2 b3
      rw [b4] at c184
      refine Or.inl ⟨rfl, fun _ => fx_CV_of c184 ?_, fun z => absurd rfl z⟩
      rintro v τ3 ⟨rfl, ⟨g1, -⟩ | ⟨-, g2, r3⟩ | ⟨-, g2, r3⟩⟩
      · exact absurd r2.2.2 g1
      · have k14 : fr_K T N (i + 1) = 14 := g2
        have r3 := rr.trans r3
        have hj := fr_K_M hm (j := i + 1) (by omega)
        refine Or.inl ⟨rfl, fun z => absurd r3.2.2 z, fun _ => fx_CV_of (r196 (m := m) hq.2 (r3.tp h) hm (by omega) r3.2.2 (fr_at_y hN r3)) ?_⟩
        rintro v τ4 ⟨rfl, p2, ⟨f1, f2, f3, f3'⟩ | ⟨f1, f2, f3, f4, f5⟩⟩
        · exact Or.inl ⟨rfl, Or.inr (Or.inr (Or.inr ⟨hq, k14, Or.inl ⟨f1, ⟨0, rfl⟩, fun K o p hK => by rw [p2 K o p (by omega)]; exact r3.1 K o p (by omega), f2, fun q => (f3 q).trans (r3.1 47 0 q (by omega)), f3'⟩⟩))⟩
        · have okr := (fs_pr_ok (t := fr_V T N i) hN hm (m + 1) true (i + 1 + 1) 0 [] [] fr_R0 ⟨⟨by decide, by decide, by decide, by decide⟩, fun k k0 k1 => by have : k < 0 := k1; omega, fun x hx => by simp at hx⟩ trivial rfl (by decide) (by omega)).2 f1
          have em : fs_m τ3 47 0 = fs_m σ 47 0 := fs_m_c (fun q => r3.1 47 0 q (by omega))
          have r0 : fs_ref (fs_m σ 47 0) 24 (fr_V T N i) 0 0 0 = 0 := by simp [fs_ref]
          have e := fr_rul (σ := τ3) hq.2 (by rw [em]; exact ho) okr f4 (fun p hp => p2 47 0 p (by omega)) f5
          rw [em] at e
          refine Or.inl ⟨rfl, Or.inr (Or.inr (Or.inr ⟨hq, k14, Or.inr ⟨f1, by rw [r0], fun K o p hK => by rw [p2 K o p (by omega)]; exact r3.1 K o p (by omega), f2, f3, fun _ => ?_, fun z => absurd r0 z⟩⟩))⟩
          have d : ∀ X, fs_do (fs_m σ 47 0) 24 (fr_V T N i) 0 0 0 0 X = fs_rul (fs_m σ 47 0) (fr_V T N i) X := fun X => by simp [fs_do]
          rw [d]
          exact e
      · have k14 : fr_K T N (i + 1) ≠ 14 := g2
        have r3' : fs_rp σ τ3 (fs_a T N (i + 1)) (fs_a T N (i + 1)) := rr.trans r3
        exact Or.inl ⟨rfl, fun _ => Or.inr (Or.inr (Or.inl ⟨hq, k16, k14, fr_no0 (fs_a_r (T := T) hN (i + 1)).1 r3'⟩)), fun z => absurd z (fr_a_f hN r3')⟩
  · have hq : ¬ (fr_K T N i = 1 ∧ 0 ≤ fr_V T N i ∧ fr_V T N i < 8) := fun z => q1 ⟨z.1, z.2.1, by omega⟩
    have hb := fr_a_f hN r1
    refine Or.inl ⟨rfl, fx_CI_of (c183 (o := 16) (by omega) (r1.tp h) r1.2.1 c0 cN) ?_⟩
    rintro v τ2 (⟨g1, -⟩ | ⟨-, rfl, r2⟩)
    · exact absurd g1 hb
    · rw [r1.2.2] at r2
      have rr := r1.trans r2
      have e : fx_Rt 184 [(46, 0), (62, 14)] τ2 (4, 0) τ2 := t184_0 ⟨fun _ => ⟨rfl, rfl⟩, fun z => absurd z (fr_a_f hN rr)⟩
      exact Or.inl ⟨rfl, fun _ => e.V ⟨fun _ => Or.inl ⟨hq, fr_no0 (by have := fs_sk_r (T := T) cN; omega) rr⟩, fun z => absurd z (fr_a_f hN rr)⟩, fun z => absurd rfl z⟩
end FXAO
