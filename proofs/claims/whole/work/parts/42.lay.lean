/-- all but a row of bests is as it was -/
def fs_lr (K0 : Nat) (r : Int) (σ τ : fx_S) : Prop := ∀ K o p, ¬ (K = K0 ∧ o = r) → τ K o p = σ K o p
section FXQ
variable {σ : fx_S}
theorem c64 (ho : fs_ok (fs_c σ 0)) {l f : Int} (f0 : 0 ≤ f) (f1 : f < σ 11 0 10) (hb : 0 ≤ σ 38 l (σ 17 0 f)) (he : σ 38 l (σ 18 0 f) ≤ 121)
    (hv : ∀ p, 0 ≤ p → p < σ 38 l (σ 18 0 f) → σ 41 (8 * l + σ 15 0 f) p = -1 ∨ (0 ≤ σ 41 (8 * l + σ 15 0 f) p ∧ σ 41 (8 * l + σ 15 0 f) p < σ 11 0 10)) :
    fx_Ca 64 [(36, l), (0, f)] σ (fun v ρ => v = (4, 0) ∧ fs_lr 41 (8 * l + σ 15 0 f) σ ρ ∧ ∀ p, ρ 41 (8 * l + σ 15 0 f) p = if σ 38 l (σ 17 0 f) ≤ p ∧ p < σ 38 l (σ 18 0 f) ∧ (σ 41 (8 * l + σ 15 0 f) p = -1 ∨ fs_better (fs_c σ 0) f (σ 41 (8 * l + σ 15 0 f) p) = true) then f else σ 41 (8 * l + σ 15 0 f) p) := by
  have hn := fs_cn ho
  have hf := fs_cf ho f0 f1
  refine t64_0 ⟨by omega, by omega, by omega, by omega, ?_⟩
  rw [show 8 * l + 0 + σ 15 0 f = 8 * l + σ 15 0 f by omega]
  generalize hR : 8 * l + σ 15 0 f = R at hv
  generalize hB : σ 38 l (σ 17 0 f) = b at hb
  generalize hE : σ 38 l (σ 18 0 f) = e at he hv
  refine fx_whl (X := Int × fx_S) (fun x => [(36, l), (0, f), (41, R), (0, e), (0, x.1)]) (fun x => x.2) (fun x => b ≤ x.1 ∧ fs_lr 41 R σ x.2 ∧ ∀ p, x.2 41 R p = if b ≤ p ∧ p < x.1 ∧ p < e ∧ (σ 41 R p = -1 ∨ fs_better (fs_c σ 0) f (σ 41 R p) = true) then f else σ 41 R p) (fun x => (e - x.1).toNat) ?_ (b, σ) ⟨Int.le_refl _, fun _ _ _ _ => rfl, fun p => by rw [if_neg (by simp only; omega)]⟩
  rintro ⟨k, τ⟩ ⟨k0, hfr, hp⟩ ih
  simp only at k0 hfr hp
  show fx_Wp 64 46 [(36, l), (0, f), (41, R), (0, e), (0, k)] [] τ _
  have hc : fs_c τ 0 = fs_c σ 0 := by
    funext a b c
    unfold fs_c
    split <;> exact hfr _ _ _ (by omega)
  have e10 : τ 11 0 10 = σ 11 0 10 := hfr 11 0 10 (by omega)
  refine t64_46 ⟨fun a => ⟨rfl, hfr, fun p => ?_⟩, fun a => ⟨by omega, ?_⟩⟩
  · rw [hp p]
    by_cases h : b ≤ p ∧ p < e ∧ (σ 41 R p = -1 ∨ fs_better (fs_c σ 0) f (σ 41 R p) = true)
    · rw [if_pos h, if_pos ⟨h.1, by omega, h.2⟩]
    · rw [if_neg h, if_neg (fun g => h ⟨g.1, g.2.2⟩)]
  · have hk : τ 41 R k = σ 41 R k := by rw [hp k, if_neg (by omega)]
    rw [hk]
    have setf : (σ 41 R k = -1 ∨ fs_better (fs_c σ 0) f (σ 41 R k) = true) → fx_Wp 64 46 [(36, l), (0, f), (41, R), (0, e), (0, k + 1)] [] (fx_up τ 41 R k f) (fun v ρ => v = (4, 0) ∧ fs_lr 41 R σ ρ ∧ ∀ p, ρ 41 R p = if b ≤ p ∧ p < e ∧ (σ 41 R p = -1 ∨ fs_better (fs_c σ 0) f (σ 41 R p) = true) then f else σ 41 R p) := by
      intro hh
      generalize hE2 : fx_up τ 41 R k f = τ'
      refine ih (k + 1, τ') ⟨by simp only; omega, ?_, ?_⟩ (by simp only; omega)
      · intro K o p hK
        simp only [← hE2]
        rw [fx_upE, if_neg (fun g => hK ⟨g.1, g.2.1⟩)]
        exact hfr K o p hK
      · intro p
        simp only [← hE2]
        by_cases g : p = k
        · rw [g, fx_upS, if_pos ⟨k0, by omega, a, hh⟩]
        · rw [fx_upJ g, hp p]
          by_cases h : b ≤ p ∧ p < k ∧ p < e ∧ (σ 41 R p = -1 ∨ fs_better (fs_c σ 0) f (σ 41 R p) = true)
          · rw [if_pos h, if_pos ⟨h.1, by omega, h.2.2⟩]
          · rw [if_neg h, if_neg (fun q => h ⟨q.1, by omega, q.2.2⟩)]
    refine ⟨fun h => ⟨⟨by omega, by omega⟩, setf (Or.inl h)⟩, fun h => ?_⟩
    have hvk := hv k (by omega) (by omega)
    refine (c37 (σ := τ) (by rw [hc]; exact ho) f0 (by omega) (by omega) (by omega)).I ?_
    rw [hc]
    refine ⟨fun d => ⟨⟨by omega, by omega⟩, ?_⟩, fun d => ⟨⟨by omega, by omega⟩, setf (Or.inr (fs_b1.mp d))⟩⟩
    refine ih (k + 1, τ) ⟨by simp only; omega, hfr, ?_⟩ (by simp only; omega)
    intro p
    simp only
    rw [hp p]
    by_cases g : p = k
    · rw [g, if_neg (by omega), if_neg]
      rintro ⟨-, -, -, q | q⟩
      · exact h q
      · rw [fs_b0.mp d] at q; cases q
    · by_cases hh : b ≤ p ∧ p < k ∧ p < e ∧ (σ 41 R p = -1 ∨ fs_better (fs_c σ 0) f (σ 41 R p) = true)
      · rw [if_pos hh, if_pos ⟨hh.1, by omega, hh.2.2⟩]
      · rw [if_neg hh, if_neg (fun q => hh ⟨q.1, by omega, q.2.2⟩)]
end FXQ
