section FXT
variable {σ : fx_S} {l : Int}
theorem c68 {t x : Int} (t0 : 0 ≤ t) (t1 : t < 8) (x0 : 0 ≤ x) (x1 : x ≤ 1000) (p0 : 0 ≤ σ 38 l x) (p1 : σ 38 l x < 121) : fx_Rt 68 [(36, l), (0, t), (0, x)] σ (0, σ 43 (8 * l + t) (σ 38 l x)) σ := by
  refine t68_0 ?_
  rw [show 8 * l + 0 + t = 8 * l + t by omega]
  repeat' (first | refine And.intro ?_ ?_)
  all_goals first | omega | rfl
theorem c69 {t x : Int} (t0 : 0 ≤ t) (t1 : t < 8) (x0 : 0 ≤ x) (x1 : x ≤ 1000) (p0 : 0 ≤ σ 38 l x) (p1 : σ 38 l x < 121) : fx_Rt 69 [(36, l), (0, t), (0, x)] σ (0, σ 41 (8 * l + t) (σ 38 l x)) σ := by
  refine t69_0 ?_
  rw [show 8 * l + 0 + t = 8 * l + t by omega]
  repeat' (first | refine And.intro ?_ ?_)
  all_goals first | omega | rfl
theorem c70 {p : Int} (p0 : 0 ≤ p) (p1 : p < 121) (h0 : 0 ≤ σ 37 l p) (h1 : σ 37 l p ≤ 1000) (h2 : 0 ≤ σ 37 l (p + 1)) (h3 : σ 37 l (p + 1) ≤ 1000) : fx_Rt 70 [(36, l), (0, p)] σ (0, σ 37 l (p + 1) - σ 37 l p) σ := by
  refine t70_0 ?_
  repeat' (first | refine And.intro ?_ ?_)
  all_goals first | omega | rfl | exact ⟨by omega, by omega⟩
end FXT
