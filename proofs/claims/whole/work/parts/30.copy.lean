/-- copied rows -/
def fx_cp (σ : fx_S) (lo hi : Nat) (i j n : Int) : fx_S := fun K o p => if lo ≤ K ∧ K ≤ hi ∧ o = i ∧ 0 ≤ p ∧ p < n then σ K j p else σ K o p
theorem fx_cp0 {σ : fx_S} {lo hi : Nat} {i j : Int} : fx_cp σ lo hi i j 0 = σ := by
  funext K o p
  unfold fx_cp
  rw [if_neg (by omega)]
theorem fx_cpK {σ : fx_S} {lo hi K : Nat} {i j n o p : Int} (h : K < lo ∨ hi < K) : fx_cp σ lo hi i j n K o p = σ K o p := if_neg (by omega)
theorem fx_cpP {σ : fx_S} {lo hi K : Nat} {i j n o p : Int} (h : n ≤ p) : fx_cp σ lo hi i j n K o p = σ K o p := if_neg (by omega)
theorem fx_cpI {σ : fx_S} {lo hi K : Nat} {i j n o p : Int} (h : lo ≤ K ∧ K ≤ hi) (h0 : 0 ≤ p) (h1 : p < n) : fx_cp σ lo hi i j n K i p = σ K j p := if_pos ⟨h.1, h.2, rfl, h0, h1⟩
theorem fx_cpO {σ : fx_S} {lo hi K : Nat} {i j n o p : Int} (h : o ≠ i) : fx_cp σ lo hi i j n K o p = σ K o p := if_neg (fun e => h e.2.2.1)
section FXC
variable {σ : fx_S} {i j : Int}
theorem c4 {r : Int} : fx_Rt 4 [(22, r)] σ (4, 0) (fx_up (fx_up (fx_up σ 22 r 3 0) 22 r 4 0) 22 r 5 0) := t4_0 ⟨rfl, rfl⟩
theorem c5 (hn : σ 22 j 3 ≤ 23) (h0 : 0 ≤ σ 22 j 3) : fx_Rt 5 [(22, i), (22, j)] σ (4, 0) (fx_up (fx_up (fx_up (fx_cp σ 23 25 i j (σ 22 j 3)) 22 i 3 (σ 22 j 3)) 22 i 4 (σ 22 j 4)) 22 i 5 (σ 22 j 5)) := by
  refine t5_0 ?_
  have main := fx_for (mi := 5) (pc := 2) (Q := fun v t => v = (4, 0) ∧ t = fx_up (fx_up (fx_up (fx_cp σ 23 25 i j (σ 22 j 3)) 22 i 3 (σ 22 j 3)) 22 i 4 (σ 22 j 4)) 22 i 5 (σ 22 j 5)) (fun k => [(22, i), (22, j), (0, k)]) (fun k => fx_cp σ 23 25 i j k) 0 (σ 22 j 3) (fun _ => True) h0 trivial
  simp only [fx_cp0] at main
  refine main ?_ ?_
  · intro k h0 h1 _ ih
    have ih := ih trivial
    refine t5_2 ⟨fun a => ?_, fun a => ⟨by omega, ⟨by omega, by omega⟩, ?_⟩⟩
    · rw [fx_cpK (by omega)] at a; omega
    · have e : fx_up (fx_up (fx_up (fx_cp σ 23 25 i j k) 23 i k (fx_cp σ 23 25 i j k 23 j k)) 24 i k (fx_cp σ 23 25 i j k 24 j k)) 25 i k (fx_cp σ 23 25 i j k 25 j k) = fx_cp σ 23 25 i j (k + 1) := by
        rw [fx_cpP (Int.le_refl _), fx_cpP (Int.le_refl _), fx_cpP (Int.le_refl _)]
        funext K o p
        unfold fx_up fx_cp
        grind
      rw [e]
      exact ih
  · intro _
    refine t5_2 ⟨fun a => ⟨rfl, ?_⟩, fun a => ?_⟩
    · rw [fx_cpK (by omega), fx_cpK (by omega), fx_cpK (by omega)]
    · rw [fx_cpK (by omega)] at a; omega
end FXC
