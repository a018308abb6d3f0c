def fr_fz (σ τ : fx_S) : Prop := ∀ K o p, ¬ (K = 47 ∨ K = 52 ∨ K = 53 ∨ K = 54 ∨ (K = 46 ∧ o = 0 ∧ (p = 11 ∨ p = 12 ∨ p = 15 ∨ p = 17 ∨ p = 18 ∨ p = 29))) → τ K o p = σ K o p
theorem fr_fz.trans {σ τ ρ : fx_S} (h : fr_fz σ τ) (g : fr_fz τ ρ) : fr_fz σ ρ := fun K o p hK => (g K o p hK).trans (h K o p hK)
theorem fs_rp.z {σ τ : fx_S} {c f : Int} (h : fs_rp σ τ c f) : fr_fz σ τ := fun K o p hK => h.1 K o p (by omega)
/-- an act told and carried to the row; an act's wrong token -/
def fr_yes (T : Int → Int) (N : Int) (σ : fx_S) (j : Nat) (k a b c d e : Int) (R : fx_S) : fx_V → fx_S → Prop := fun v τ => v = (0, fs_ref (fs_m σ 47 0) k a b c d) ∧ fr_fz σ τ ∧ τ 46 0 12 = -1 ∧ fr_at τ T N j ∧ (fs_ref (fs_m σ 47 0) k a b c d = 0 → fs_eq (fs_do (fs_m σ 47 0) k a b c d e R) (fs_m τ 47 0)) ∧ (fs_ref (fs_m σ 47 0) k a b c d ≠ 0 → ∀ q, τ 47 0 q = σ 47 0 q)
def fr_no (T : Int → Int) (N : Int) (σ : fx_S) (j : Nat) : fx_V → fx_S → Prop := fun v τ => (∃ y, v = (0, y)) ∧ fr_fz σ τ ∧ τ 46 0 12 = fs_a T N j ∧ (∀ q, τ 47 0 q = σ 47 0 q) ∧ 0 ≤ τ 46 0 11
section FXAM
variable {T : Int → Int} {N : Int} {m i j : Nat} {σ τ ρ : fx_S} {Q : fx_V → fx_S → Prop} {C : Int → fx_S → Prop}
theorem fr_no0 {y c : Int} (hc : 0 ≤ c) (h : fs_rp σ τ c (fs_a T N j)) : fr_no T N σ j (0, y) τ := ⟨⟨y, rfl⟩, h.z, h.2.2, fun q => h.1 47 0 q (by omega), by rw [h.2.1]; exact hc⟩
theorem fr_yes_ma {k a b c d e : Int} {R : fx_S} {v : fx_V} {p : Int} (hr : fs_rp σ τ p (-1)) (ha : fr_at τ T N j) (hk : 16 ≤ k ∧ k ≤ 23) {X : fx_S} (h : fs_ma 0 τ k a b c d e X v ρ) : fr_yes T N σ j k a b c d e R v ρ := by
  obtain ⟨h1, h2, h3, h4⟩ := h
  have em : fs_m τ 47 0 = fs_m σ 47 0 := fs_m_c (fun q => hr.1 47 0 q (by omega))
  rw [em] at h1 h3 h4
  refine ⟨h1, fun K o p hK => ?_, ?_, ha.k (h2 46 0 11 (by omega)), fun z => ?_, fun z q => ?_⟩
  · rw [h2 K o p (by omega)]; exact hr.1 K o p (by omega)
  · rw [h2 46 0 12 (by omega)]; exact hr.2.2
  · have := h3 z
    rwa [fs_do_R (R' := R) hk] at this
  · rw [h4 z q]; exact hr.1 47 0 q (by omega)
theorem k187 {lo hi : Int} (b : Int) (hb : hi + 1 = b) (h : fs_tp σ T N) (hf : σ 46 0 12 = -1) (ha : fr_at σ T N i) (yes : (fr_K T N i = 1 ∧ lo ≤ fr_V T N i ∧ fr_V T N i < b) → ∀ τ, fs_rp σ τ (fs_te T N (fs_a T N i)) (-1) → fr_at τ T N (i + 1) → C (fr_V T N i) τ) (no : ¬ (fr_K T N i = 1 ∧ lo ≤ fr_V T N i ∧ fr_V T N i < b) → ∀ y τ c, 0 ≤ c → fs_rp σ τ c (fs_a T N i) → C y τ) : fx_CI 187 [(46, 0), (0, lo), (0, hi)] σ Q C := by
  refine fx_CI_of (r187 h hf ha) ?_
  rintro v τ (⟨⟨q1, q2, q3⟩, rfl, r⟩ | ⟨q1, y, c', rfl, h0, r⟩)
  · exact Or.inl ⟨rfl, yes ⟨q1, q2, by omega⟩ τ r (fr_at_y h.1.1 r)⟩
  · exact Or.inl ⟨rfl, no (fun z => q1 ⟨z.1, z.2.1, by omega⟩) y τ c' h0.1 r⟩
theorem fr_a_f (hN : 0 ≤ N) {c : Int} (h : fs_rp σ τ c (fs_a T N j)) : τ 46 0 12 ≠ -1 := by
  have := fs_a_r (T := T) hN j
  rw [h.2.2]; omega
/-- once wrong, no number is read -/
theorem x187 {lo hi : Int} (hf : σ 46 0 12 ≠ -1) (k : C 0 σ) : fx_CI 187 [(46, 0), (0, lo), (0, hi)] σ Q C := (r187f hf).I k
theorem r198 (h : fs_tp σ T N) (hf : σ 46 0 12 = -1) (ha : fr_at σ T N i) (ho : fs_ok (fs_m σ 47 0)) {R : fx_S} : fx_Ca 198 [(46, 0)] σ (fun v τ => ((fr_args T N [(0, 8), (0, 8), (0, 1000), (1, 1001), (0, 100)] i).1 = true ∧ fr_yes T N σ (i + 5) 18 (fr_V T N i) (fr_V T N (i + 1)) (fr_V T N (i + 2)) (fr_V T N (i + 3)) (fr_V T N (i + 4)) R v τ) ∨ ((fr_args T N [(0, 8), (0, 8), (0, 1000), (1, 1001), (0, 100)] i).1 = false ∧ fr_no T N σ (fr_args T N [(0, 8), (0, 8), (0, 1000), (1, 1001), (0, 100)] i).2 v τ)) := by
  have hN := h.1.1
  refine t198_0 (k187 8 rfl h hf ha (fun q1 τ1 r1 a1 => ?_) (fun q1 y τ1 c c0 r1 => ?_))
  · refine k187 8 rfl (r1.tp h) r1.2.2 a1 (fun q2 τ2 r2 a2 => ?_) (fun q2 y τ2 c c0 r2 => ?_)
    · have r2 := r1.trans r2
      refine k187 1000 rfl (r2.tp h) r2.2.2 a2 (fun q3 τ3 r3 a3 => ?_) (fun q3 y τ3 c c0 r3 => ?_)
      · have r3 := r2.trans r3
        refine k187 1001 rfl (r3.tp h) r3.2.2 a3 (fun q4 τ4 r4 a4 => ?_) (fun q4 y τ4 c c0 r4 => ?_)
        · have r4 := r3.trans r4
          refine k187 100 rfl (r4.tp h) r4.2.2 a4 (fun q5 τ5 r5 a5 => ?_) (fun q5 y τ5 c c0 r5 => ?_)
          · have r5 := r4.trans r5
            refine ⟨fun z => absurd r5.2.2 z, fun _ => fx_CI_of (c169 (σ := τ5) (by rw [fs_m_c (fun q => r5.1 47 0 q (by omega))]; exact ho)) ?_⟩
            intro v ρ hv
            have hv' := hv
            obtain ⟨rfl, -⟩ := hv
            exact Or.inl ⟨rfl, Or.inl ⟨by simp [fr_args, q1, q2, q3, q4, q5], fr_yes_ma r5 a5 (by omega) hv'⟩⟩
          · have r5 := r4.trans r5
            exact ⟨fun _ => Or.inr ⟨by simp [fr_args, q1, q2, q3, q4, q5], by simp only [fr_args, q1, q2, q3, q4, q5, if_true, if_false]; exact fr_no0 c0 r5⟩, fun z => absurd z (fr_a_f hN r5)⟩
        · have r4 := r3.trans r4
          exact x187 (fr_a_f hN r4) ⟨fun _ => Or.inr ⟨by simp [fr_args, q1, q2, q3, q4], by simp only [fr_args, q1, q2, q3, q4, if_true, if_false]; exact fr_no0 c0 r4⟩, fun z => absurd z (fr_a_f hN r4)⟩
      · have r3 := r2.trans r3
        exact x187 (fr_a_f hN r3) (x187 (fr_a_f hN r3) ⟨fun _ => Or.inr ⟨by simp [fr_args, q1, q2, q3], by simp only [fr_args, q1, q2, q3, if_true, if_false]; exact fr_no0 c0 r3⟩, fun z => absurd z (fr_a_f hN r3)⟩)
    · have r2 := r1.trans r2
      exact x187 (fr_a_f hN r2) (x187 (fr_a_f hN r2) (x187 (fr_a_f hN r2) ⟨fun _ => Or.inr ⟨by simp [fr_args, q1, q2], by simp only [fr_args, q1, q2, if_true, if_false]; exact fr_no0 c0 r2⟩, fun z => absurd z (fr_a_f hN r2)⟩))
  · exact x187 (fr_a_f hN r1) (x187 (fr_a_f hN r1) (x187 (fr_a_f hN r1) (x187 (fr_a_f hN r1) ⟨fun _ => Or.inr ⟨by simp [fr_args, q1], by simp only [fr_args, q1, if_false]; exact fr_no0 c0 r1⟩, fun z => absurd z (fr_a_f hN r1)⟩)))
theorem r200 (h : fs_tp σ T N) (hf : σ 46 0 12 = -1) (ha : fr_at σ T N i) (ho : fs_ok (fs_m σ 47 0)) {R : fx_S} {k v : Int} (hk : (k = 20 ∧ v = 1) ∨ (k = 21 ∧ v = 0)) : fx_Ca 200 [(46, 0), (0, v)] σ (fun v τ => ((fr_args T N [(0, 8)] i).1 = true ∧ fr_yes T N σ (i + 1) k (fr_V T N i) 0 0 0 0 R v τ) ∨ ((fr_args T N [(0, 8)] i).1 = false ∧ fr_no T N σ (fr_args T N [(0, 8)] i).2 v τ)) := by
  have hN := h.1.1
  refine t200_0 (k187 8 rfl h hf ha (fun q1 τ1 r1 a1 => ⟨fun z => absurd r1.2.2 z, fun _ => fx_CI_of (c171 (σ := τ1) (by rw [fs_m_c (fun q => r1.1 47 0 q (by omega))]; exact ho) hk) ?_⟩) (fun q1 y τ1 c c0 r1 => ⟨fun _ => Or.inr ⟨by simp [fr_args, q1], by simp only [fr_args, q1, if_false]; exact fr_no0 c0 r1⟩, fun z => absurd z (fr_a_f hN r1)⟩))
  intro v ρ hv
  have hv' := hv
  obtain ⟨rfl, -⟩ := hv
  exact Or.inl ⟨rfl, Or.inl ⟨by simp [fr_args, q1], fr_yes_ma r1 a1 (by omega) hv'⟩⟩
theorem r201 (h : fs_tp σ T N) (hf : σ 46 0 12 = -1) (ha : fr_at σ T N i) (ho : fs_ok (fs_m σ 47 0)) {R : fx_S} : fx_Ca 201 [(46, 0)] σ (fun v τ => ((fr_args T N [(0, 8), (0, 100)] i).1 = true ∧ fr_yes T N σ (i + 2) 22 (fr_V T N i) (fr_V T N (i + 1)) 0 0 0 R v τ) ∨ ((fr_args T N [(0, 8), (0, 100)] i).1 = false ∧ fr_no T N σ (fr_args T N [(0, 8), (0, 100)] i).2 v τ)) := by
  have hN := h.1.1
  refine t201_0 (k187 8 rfl h hf ha (fun q1 τ1 r1 a1 => ?_) (fun q1 y τ1 c c0 r1 => ?_))
  · refine k187 100 rfl (r1.tp h) r1.2.2 a1 (fun q2 τ2 r2 a2 => ?_) (fun q2 y τ2 c c0 r2 => ?_)
    · have r2 := r1.trans r2
      refine ⟨fun z => absurd r2.2.2 z, fun _ => fx_CI_of (c172 (σ := τ2) (by rw [fs_m_c (fun q => r2.1 47 0 q (by omega))]; exact ho)) ?_⟩
      intro v ρ hv
      have hv' := hv
      obtain ⟨rfl, -⟩ := hv
      exact Or.inl ⟨rfl, Or.inl ⟨by simp [fr_args, q1, q2], fr_yes_ma r2 a2 (by omega) hv'⟩⟩
    · have r2 := r1.trans r2
      exact ⟨fun _ => Or.inr ⟨by simp [fr_args, q1, q2], by simp only [fr_args, q1, q2, if_true, if_false]; exact fr_no0 c0 r2⟩, fun z => absurd z (fr_a_f hN r2)⟩
  · exact x187 (fr_a_f hN r1) ⟨fun _ => Or.inr ⟨by simp [fr_args, q1], by simp only [fr_args, q1, if_false]; exact fr_no0 c0 r1⟩, fun z => absurd z (fr_a_f hN r1)⟩
end FXAM
