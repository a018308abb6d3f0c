section FXAN
variable {T : Int → Int} {N : Int} {i : Nat} {σ : fx_S}
theorem r199 (h : fs_tp σ T N) (hf : σ 46 0 12 = -1) (ha : fr_at σ T N i) (ho : fs_ok (fs_m σ 47 0)) {R : fx_S} : fx_Ca 199 [(46, 0)] σ (fun v τ => ((fr_K T N i = 1 ∧ 0 ≤ fr_V T N i ∧ fr_V T N i < 8) ∧ fr_K T N (i + 1) = 15 ∧ (fr_K T N (i + 2) = 1 ∧ 1 ≤ fr_V T N (i + 2) ∧ fr_V T N (i + 2) < 1000) ∧ fr_yes T N σ (i + 3) 23 (fr_V T N i) (fr_V T N (i + 2)) 0 0 0 R v τ) ∨ (¬ (fr_K T N i = 1 ∧ 0 ≤ fr_V T N i ∧ fr_V T N i < 8) ∧ fr_no T N σ i v τ) ∨ ((fr_K T N i = 1 ∧ 0 ≤ fr_V T N i ∧ fr_V T N i < 8) ∧ fr_K T N (i + 1) ≠ 15 ∧ fr_no T N σ (i + 1) v τ) ∨ ((fr_K T N i = 1 ∧ 0 ≤ fr_V T N i ∧ fr_V T N i < 8) ∧ fr_K T N (i + 1) = 15 ∧ ¬ (fr_K T N (i + 2) = 1 ∧ 1 ≤ fr_V T N (i + 2) ∧ fr_V T N (i + 2) < 1000) ∧ fr_no T N σ (i + 2) v τ)) := by
  have hN := h.1.1
  refine t199_0 (k187 8 rfl h hf ha (fun q1 τ1 r1 a1 => ?_) (fun q1 y τ1 c c0 r1 => ?_))
  · obtain ⟨c, b1, b2, b3, b4⟩ := a1
    have c184 := c184 (o := 15) (by omega) (r1.tp h) b1 b2 b3
    rw [b4] at c184
    refine fx_CV_of c184 ?_
    rintro v τ2 ⟨rfl, ⟨g1, -⟩ | ⟨-, g2, r2⟩ | ⟨-, g2, r2⟩⟩
    · exact absurd r1.2.2 g1
    · have rr := r1.trans r2
      have k15 : fr_K T N (i + 1) = 15 := g2
      refine Or.inl ⟨rfl, k187 1000 rfl (rr.tp h) rr.2.2 (fr_at_y hN r2) (fun q3 τ3 r3 a3 => ?_) (fun q3 y τ3 c c0 r3 => ?_)⟩
      · have r3 := rr.trans r3
        have em : fs_m τ3 47 0 = fs_m σ 47 0 := fs_m_c (fun q => r3.1 47 0 q (by omega))
        refine ⟨fun z => absurd r3.2.2 z, fun _ => fx_CI_of (c174 (σ := τ3) (by rw [em]; exact ho) ⟨q1.2.1, q1.2.2⟩ ⟨by omega, by omega⟩) ?_⟩
        rintro v ρ ⟨rfl, p1, -, p2, p3⟩
        rw [em] at p2 p3 ⊢
        refine Or.inl ⟨rfl, Or.inl ⟨q1, k15, q3, rfl, fun K o p hK => ?_, ?_, a3.k (p1 46 0 11 (by omega)), fun z => ?_, fun z q => ?_⟩⟩
        · rw [p1 K o p (by omega)]; exact r3.1 K o p (by omega)
        · rw [p1 46 0 12 (by omega)]; exact r3.2.2
        · have := p2 z
          rwa [fs_do_R (R' := R) ⟨by omega, by omega⟩] at this
        · rw [p3 z q]; exact r3.1 47 0 q (by omega)
      · have r3 := rr.trans r3
        exact ⟨fun _ => Or.inr (Or.inr (Or.inr ⟨q1, k15, q3, fr_no0 c0 r3⟩)), fun z => absurd z (fr_a_f hN r3)⟩
    · have rr := r1.trans r2
      have k15 : fr_K T N (i + 1) ≠ 15 := g2
      have rr' : fs_rp σ τ2 (fs_a T N (i + 1)) (fs_a T N (i + 1)) := rr
      exact Or.inl ⟨rfl, x187 (fr_a_f hN rr') ⟨fun _ => Or.inr (Or.inr (Or.inl ⟨q1, k15, fr_no0 (fs_a_r (T := T) hN (i + 1)).1 rr'⟩)), fun z => absurd z (fr_a_f hN rr')⟩⟩
  · have e : fx_Rt 184 [(46, 0), (62, 15)] τ1 (4, 0) τ1 := t184_0 ⟨fun _ => ⟨rfl, rfl⟩, fun z => absurd z (fr_a_f hN r1)⟩
    exact e.V (x187 (fr_a_f hN r1) ⟨fun _ => Or.inr (Or.inl ⟨q1, fr_no0 c0 r1⟩), fun z => absurd z (fr_a_f hN r1)⟩)
end FXAN
