/-- all but the reference's rows of reckoning is as it was -/
def fs_sc (σ τ : fx_S) : Prop := ∀ K p q, ¬ (55 ≤ K ∧ K ≤ 60) → τ K p q = σ K p q
theorem fs_sc.trans {σ τ ρ : fx_S} (h : fs_sc σ τ) (g : fs_sc τ ρ) : fs_sc σ ρ := fun K p q hK => (g K p q hK).trans (h K p q hK)
theorem fs_sc.rfl {σ : fx_S} : fs_sc σ σ := fun _ _ _ _ => Eq.refl _
theorem fs_sc.m {σ τ : fx_S} (h : fs_sc σ τ) {K : Nat} {b0 : Int} (hK : K < 55) : fs_m τ K b0 = fs_m σ K b0 := fs_m_c (fun p => h K 0 p (by omega))
theorem fs_sc.up {σ τ : fx_S} (h : fs_sc σ τ) {K : Nat} {p q v : Int} (hK : 55 ≤ K ∧ K ≤ 60) : fs_sc σ (fx_up τ K p q v) := by
  intro K' p' q' hn
  rw [fx_upE, if_neg (by omega)]
  exact h K' p' q' hn
def fs_lim (σ : fx_S) (o : Int) : Int → Bool := fun f => decide (f < σ 46 o 21)
theorem fs_sc.lim {σ τ : fx_S} (h : fs_sc σ τ) {o : Int} : fs_lim τ o = fs_lim σ o := by
  unfold fs_lim
  rw [h 46 o 21 (by omega)]
section FXO
variable {σ : fx_S} {o : Int}
theorem c165' (ho : fs_ok (fs_m σ 47 0)) {time : Int} : fx_Ca 165 [(46, o), (0, time)] σ (fun v τ => v = (4, 0) ∧ fs_sc σ τ ∧ (∀ K p q, 58 ≤ K → τ K p q = σ K p q) ∧ ∀ a, 0 ≤ a → a < 8 → τ 55 0 a = fs_is (fs_m σ 47 0) (fs_lim σ o) a time ∧ τ 56 0 a = fs_bs (fs_m σ 47 0) (fs_lim σ o) a time) :=
  fx_Wp.mono (c165 ho) (fun v τ h => ⟨h.1, fun K p q hK => h.2.1 K p q (by omega), fun K p q hK => h.2.1 K p q (by omega), h.2.2⟩)
theorem c166 (ho : fs_ok (fs_m σ 47 0)) {t r : Int} (t0 : 0 ≤ t) (t1 : t < 8) : fx_Ca 166 [(46, o), (0, t), (59, r)] σ (fun v τ => v = (4, 0) ∧ fs_sc σ τ ∧ (∀ K p q, 58 ≤ K → ¬ (K = 59 ∧ p = r) → τ K p q = σ K p q) ∧ ∀ x, 0 ≤ x → x < 1000 → τ 59 r x = fs_is (fs_m σ 47 0) (fs_lim σ o) t x) := by
  refine t166_0 ?_
  refine fx_whl (X := Int × fx_S) (fun x => [(46, o), (0, t), (59, r), (0, x.1)]) (fun x => x.2) (fun x => (0 ≤ x.1 ∧ x.1 ≤ 1000) ∧ fs_sc σ x.2 ∧ (∀ K p q, 58 ≤ K → ¬ (K = 59 ∧ p = r) → x.2 K p q = σ K p q) ∧ ∀ y, 0 ≤ y → y < x.1 → x.2 59 r y = fs_is (fs_m σ 47 0) (fs_lim σ o) t y) (fun x => (1000 - x.1).toNat) ?_ (0, σ) ⟨⟨by simp, by simp⟩, fs_sc.rfl, fun _ _ _ _ _ => rfl, fun a a0 a1 => absurd a1 (by simp only; omega)⟩
  rintro ⟨x, τ⟩ ⟨⟨x0, x1⟩, hf, hg, ha⟩ ih
  simp only at x0 x1 hf hg ha
  show fx_Wp 166 2 [(46, o), (0, t), (59, r), (0, x)] [] τ _
  refine t166_2 ⟨fun a => ⟨rfl, hf, hg, fun y y0 y1 => ha y y0 (by omega)⟩, fun a => ?_⟩
  refine fx_CV_of (c165' (σ := τ) (o := o) (by rw [hf.m (by omega)]; exact ho)) ?_
  rintro v τ1 ⟨rfl, h1, h2, h3⟩
  rw [hf.m (by omega), hf.lim] at h3
  refine Or.inl ⟨rfl, by omega, by omega, ⟨by omega, by omega⟩, ?_⟩
  generalize hE : fx_up τ1 59 r x (τ1 55 0 t) = τ2
  refine ih (x + 1, τ2) ⟨⟨by simp only; omega, by simp only; omega⟩, ?_, ?_, ?_⟩ (by simp only; omega)
  · show fs_sc σ τ2
    rw [← hE]
    exact (hf.trans h1).up (by omega)
  · intro K p q hK hn
    simp only [← hE]
    rw [fx_upE, if_neg (fun e => hn ⟨e.1, e.2.1⟩), h2 K p q hK]
    exact hg K p q hK hn
  · intro y y0 y1
    simp only at y1
    simp only [← hE]
    by_cases e : y = x
    · rw [e, fx_upS]
      exact (h3 t t0 t1).1
    · rw [fx_upJ e, h2 59 r y (by omega)]
      exact ha y y0 (by omega)
end FXO
