section FXJ
variable {σ : fx_S}
theorem c0 {a b : Int} : fx_Rt 0 [(0, a), (0, b)] σ (0, if a ≤ b then b else a) σ := by
  refine t0_0 ⟨fun h => ⟨by rw [if_pos (by omega)], rfl⟩, fun h => ⟨?_, rfl⟩⟩
  by_cases e : a = b
  · rw [if_pos (by omega), e]
  · rw [if_neg (by omega)]
theorem c1 {a b : Int} : fx_Rt 1 [(0, a), (0, b)] σ (0, if a ≤ b then a else b) σ :=
  t1_0 ⟨fun h => ⟨by rw [if_neg (by omega)], rfl⟩, fun h => ⟨by rw [if_pos (by omega)], rfl⟩⟩
theorem c8 {k a b : Int} (k0 : 6 ≤ k) (k1 : k ≤ 12) (a0 : -1 ≤ a) (a1 : a ≤ 99) (b0 : -1 ≤ b) (b1 : b ≤ 99) : fx_Rt 8 [(0, k), (0, a), (0, b)] σ (0, fs_join k a b) σ := by
  generalize hJ : fs_join k a b = J
  unfold fs_join at hJ
  refine t8_0 ?_
  repeat' (first | refine And.intro ?_ ?_ | intro _ | refine c0.I ?_ | refine c1.I ?_)
  all_goals first
    | trivial
    | exact ⟨by omega, by omega⟩
    | (refine Prod.ext rfl ?_; simp only; grind)
    | rfl
    | omega
end FXJ
