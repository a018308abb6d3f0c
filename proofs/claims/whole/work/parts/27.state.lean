theorem fs_r1 {b : Bool} (h : b = true) : ((0, 1) : fx_V) = (0, fs_b b) := by rw [h]; rfl
theorem fs_r0 {b : Bool} (h : ¬ b = true) : ((0, 0) : fx_V) = (0, fs_b b) := by
  cases b with
  | false => rfl
  | true => exact absurd rfl h
section FXS
variable {σ : fx_S} {i : Int}
theorem fs_cn (ho : fs_ok (fs_c σ i)) : (0 ≤ σ 11 i 9 ∧ σ 11 i 9 ≤ 8) ∧ (0 ≤ σ 11 i 10 ∧ σ 11 i 10 ≤ 60) := ⟨ho.1, ho.2.1⟩
theorem fs_cs (ho : fs_ok (fs_c σ i)) {s : Int} (h0 : 0 ≤ s) (h1 : s < σ 11 i 9) : 0 ≤ σ 13 i s ∧ σ 13 i s < 100 ∧ (σ 14 i s = 0 ∨ σ 14 i s = 1) := ho.2.2.1 s h0 h1
theorem fs_cf (ho : fs_ok (fs_c σ i)) {f : Int} (h0 : 0 ≤ f) (h1 : f < σ 11 i 10) : (0 ≤ σ 15 i f ∧ σ 15 i f < 8) ∧ (0 ≤ σ 16 i f ∧ σ 16 i f < σ 11 i 9) ∧ (0 ≤ σ 17 i f ∧ σ 17 i f < σ 18 i f ∧ σ 18 i f ≤ 1000) ∧ (0 ≤ σ 19 i f ∧ σ 19 i f < 100) ∧ (σ 20 i f = 0 ∨ σ 20 i f = 1) := ho.2.2.2.1 f h0 h1
theorem c3 {r : Int} : fx_Rt 3 [(22, r)] σ (0, fs_b (decide (0 < σ 22 r 3))) σ := by
  refine t3_0 ?_
  repeat' (first | refine And.intro ?_ ?_ | intro _)
  all_goals first
    | rfl
    | exact fs_r1 (by simp only [decide_eq_true_eq]; omega)
    | exact fs_r0 (by simp only [decide_eq_true_eq]; omega)
theorem c24 {s : Int} : fx_Rt 24 [(11, i), (0, s)] σ (0, fs_b (decide (0 ≤ s) && decide (s < σ 11 i 9))) σ := by
  refine t24_0 ?_
  repeat' (first | refine And.intro ?_ ?_ | intro _)
  all_goals first
    | rfl
    | exact fs_r1 (by simp only [Bool.and_eq_true, decide_eq_true_eq]; omega)
    | exact fs_r0 (by simp only [Bool.and_eq_true, decide_eq_true_eq]; omega)
theorem c25 {s : Int} : fx_Rt 25 [(11, i), (0, s)] σ (0, fs_b (decide (0 ≤ s) && decide (s < σ 11 i 10))) σ := by
  refine t25_0 ?_
  repeat' (first | refine And.intro ?_ ?_ | intro _)
  all_goals first
    | rfl
    | exact fs_r1 (by simp only [Bool.and_eq_true, decide_eq_true_eq]; omega)
    | exact fs_r0 (by simp only [Bool.and_eq_true, decide_eq_true_eq]; omega)
def fs_cut (S : fx_S) (f th time : Int) : Bool := decide (S 3 f 0 = th) && decide (S 8 f 0 = 0) && decide (S 5 f 0 < time) && decide (time < S 6 f 0)
theorem c30 {f th time : Int} (h0 : 0 ≤ f) (h1 : f < 60) : fx_Rt 30 [(11, i), (0, f), (0, th), (0, time)] σ (0, fs_b (fs_cut (fs_c σ i) f th time)) σ := by
  refine t30_0 ?_
  repeat' (first | refine And.intro ?_ ?_ | intro _)
  all_goals first
    | omega
    | rfl
    | exact fs_r1 (by simp only [fs_cut, fs_c, Bool.and_eq_true, decide_eq_true_eq]; omega)
    | exact fs_r0 (by simp only [fs_cut, fs_c, Bool.and_eq_true, decide_eq_true_eq]; omega)
theorem c35 (ho : fs_ok (fs_c σ i)) {f : Int} (h0 : 0 ≤ f) (h1 : f < σ 11 i 10) : fx_Rt 35 [(11, i), (0, f)] σ (0, fs_b (decide (σ 20 i f = 0) && decide (σ 14 i (σ 16 i f) = 0))) σ := by
  have hn := fs_cn ho
  have hf := fs_cf ho h0 h1
  refine t35_0 ?_
  repeat' (first | refine And.intro ?_ ?_ | intro _)
  all_goals first
    | omega
    | rfl
    | exact fs_r1 (by simp only [Bool.and_eq_true, decide_eq_true_eq]; omega)
    | exact fs_r0 (by simp only [Bool.and_eq_true, decide_eq_true_eq]; omega)
theorem c36 (ho : fs_ok (fs_c σ i)) {f th time : Int} (h0 : 0 ≤ f) (h1 : f < σ 11 i 10) : fx_Rt 36 [(11, i), (0, f), (0, th), (0, time)] σ (0, fs_b (fs_hold (fs_c σ i) f th time)) σ := by
  have hn := fs_cn ho
  have hf := fs_cf ho h0 h1
  refine t36_0 ?_
  repeat' (first | refine And.intro ?_ ?_ | refine (c35 ho h0 h1).I ?_ | intro _)
  all_goals first
    | omega
    | rfl
    | exact fs_r1 (by simp only [fs_b1, fs_hold, fs_holds, fs_c, Bool.and_eq_true, decide_eq_true_eq] at *; omega)
    | exact fs_r0 (by simp only [fs_b0, fs_hold, fs_holds, fs_c, Bool.and_eq_true, Bool.and_eq_false_iff, decide_eq_false_iff_not, decide_eq_true_eq] at *; omega)
theorem c37 (ho : fs_ok (fs_c σ i)) {f g : Int} (h0 : 0 ≤ f) (h1 : f < σ 11 i 10) (h2 : 0 ≤ g) (h3 : g < σ 11 i 10) : fx_Rt 37 [(11, i), (0, f), (0, g)] σ (0, fs_b (fs_better (fs_c σ i) f g)) σ := by
  have hn := fs_cn ho
  have hf := fs_cf ho h0 h1
  have hg := fs_cf ho h2 h3
  refine t37_0 ?_
  repeat' (first | refine And.intro ?_ ?_ | intro _)
  all_goals first
    | omega
    | rfl
    | exact fs_r1 (by simp only [fs_better, fs_c, decide_eq_true_eq]; omega)
    | exact fs_r0 (by simp only [fs_better, fs_c, decide_eq_true_eq]; omega)
theorem c27 {s f t : Int} : fx_Rt 27 [(11, i), (0, s), (0, f), (0, t)] σ (0, if 0 ≤ s ∧ s < σ 11 i 9 then (if f < t then (if σ 11 i 10 < 60 then 0 else 4) else 3) else 2) σ := by
  refine t27_0 (c24.I ?_)
  simp only [fs_b1, fs_b0, Bool.and_eq_true, Bool.and_eq_false_iff, decide_eq_true_eq, decide_eq_false_iff_not]
  repeat' (first | refine And.intro ?_ ?_ | intro _)
  all_goals first
    | rfl
    | trivial
    | (rw [if_neg (by omega)])
    | (rw [if_pos (by omega), if_neg (by omega)])
    | (rw [if_pos (by omega), if_pos (by omega), if_neg (by omega)])
    | (rw [if_pos (by omega), if_pos (by omega), if_pos (by omega)])
theorem c28 (ho : fs_ok (fs_c σ i)) {s q : Int} : fx_Rt 28 [(11, i), (0, s), (0, q)] σ (0, if 0 ≤ s ∧ s < σ 11 i 9 then (if σ 14 i s = q then 6 else 0) else 2) σ := by
  have hn := fs_cn ho
  refine t28_0 (c24.I ?_)
  simp only [fs_b1, fs_b0, Bool.and_eq_true, Bool.and_eq_false_iff, decide_eq_true_eq, decide_eq_false_iff_not]
  repeat' (first | refine And.intro ?_ ?_ | intro _)
  all_goals first
    | omega
    | rfl
    | trivial
    | (rw [if_neg (by omega)])
    | (rw [if_pos (by omega), if_neg (by omega)])
    | (rw [if_pos (by omega), if_pos (by omega)])
/-- a count grows by one or stays -/
theorem c38 (ho : fs_ok (fs_c σ i)) {th time : Int} : fx_Rt 38 [(11, i), (0, th), (0, time)] σ (0, fs_cnt (fun f => fs_hold (fs_c σ i) f th time) (σ 11 i 10).toNat) σ := by
  have hn := fs_cn ho
  refine t38_0 (fx_for (fun k => [(11, i), (0, th), (0, time), (0, fs_cnt (fun f => fs_hold (fs_c σ i) f th time) k.toNat), (0, k)]) (fun _ => σ) 0 (σ 11 i 10) (fun _ => True) (by omega) trivial ?_ ?_)
  · intro k h0 h1 _ ih
    have ih := ih trivial
    rw [fs_cnt_s _ h0] at ih
    have hb := fs_cnt_b (fun f => fs_hold (fs_c σ i) f th time) k h0
    refine t38_5 ⟨fun a => by omega, fun a => (c36 ho h0 h1).I ⟨fun b => ?_, fun b => ?_⟩⟩
    · simp only [b, Int.add_zero] at ih
      exact ⟨⟨by omega, by omega⟩, ih⟩
    · simp only [fs_bT (fs_b1.mp b)] at ih
      exact ⟨⟨by omega, by omega⟩, ⟨by omega, by omega⟩, ih⟩
  · intro _
    exact t38_5 ⟨fun a => ⟨rfl, rfl⟩, fun a => by omega⟩
theorem c40 (ho : fs_ok (fs_c σ i)) {f time : Int} (h2 : 0 ≤ f) (h3 : f < σ 11 i 10) : fx_Rt 40 [(11, i), (0, f), (0, time)] σ (0, fs_cnt (fun g => fs_hold (fs_c σ i) g (σ 15 i f) time && fs_better (fs_c σ i) g f) (σ 11 i 10).toNat) σ := by
  have hn := fs_cn ho
  refine t40_0 (fx_for (fun k => [(11, i), (0, f), (0, time), (0, fs_cnt (fun g => fs_hold (fs_c σ i) g (σ 15 i f) time && fs_better (fs_c σ i) g f) k.toNat), (0, k)]) (fun _ => σ) 0 (σ 11 i 10) (fun _ => True) (by omega) trivial ?_ ?_)
  · intro k h0 h1 _ ih
    have ih := ih trivial
    rw [fs_cnt_s _ h0] at ih
    have hb := fs_cnt_b (fun g => fs_hold (fs_c σ i) g (σ 15 i f) time && fs_better (fs_c σ i) g f) k h0
    refine t40_5 ⟨fun a => by omega, fun a => ⟨by omega, (c36 ho h0 h1).I ⟨fun b => ?_, fun b => (c37 ho h0 h1 h2 h3).I ⟨fun d => ?_, fun d => ?_⟩⟩⟩⟩
    · simp only [fs_b0.mp b, Bool.false_and, fs_b, cond_false, Int.add_zero] at ih
      exact ⟨⟨by omega, by omega⟩, ih⟩
    · simp only [fs_b0.mp d, Bool.and_false, fs_b, cond_false, Int.add_zero] at ih
      exact ⟨⟨by omega, by omega⟩, ih⟩
    · simp only [fs_b1.mp b, fs_b1.mp d, Bool.and_true, fs_b, cond_true] at ih
      exact ⟨⟨by omega, by omega⟩, ⟨by omega, by omega⟩, ih⟩
  · intro _
    exact t40_5 ⟨fun a => ⟨rfl, rfl⟩, fun a => by omega⟩
end FXS
