theorem fs_n0 {b : Bool} (h : ¬ b = true) : fs_b b = 0 := by
  cases b with
  | false => rfl
  | true => exact absurd rfl h
theorem fs_n1 {b : Bool} (h : b = true) : fs_b b = 1 := by rw [h]; rfl
section FXS
variable {σ : fx_S} {i : Int}
theorem c29 (ho : fs_ok (fs_c σ i)) {th time : Int} : fx_Rt 29 [(11, i), (0, th), (0, time)] σ (0, if fs_cnt (fun f => fs_cut (fs_c σ i) f th time) (σ 11 i 10).toNat = 0 then 6 else if σ 11 i 10 + fs_cnt (fun f => fs_cut (fs_c σ i) f th time) (σ 11 i 10).toNat ≤ 60 then 0 else 4) σ := by
  have hn := fs_cn ho
  refine t29_0 (fx_for (fun k => [(11, i), (0, th), (0, time), (0, fs_cnt (fun f => fs_cut (fs_c σ i) f th time) k.toNat), (0, k)]) (fun _ => σ) 0 (σ 11 i 10) (fun _ => True) (by omega) trivial ?_ ?_)
  · intro k h0 h1 _ ih
    have ih := ih trivial
    rw [fs_cnt_s _ h0] at ih
    have hb := fs_cnt_b (fun f => fs_cut (fs_c σ i) f th time) k h0
    refine t29_5 ⟨fun a => by omega, fun a => (c30 h0 (by omega)).I ⟨fun b => ?_, fun b => ?_⟩⟩
    · simp only [b, Int.add_zero] at ih
      exact ⟨⟨by omega, by omega⟩, ih⟩
    · simp only [fs_bT (fs_b1.mp b)] at ih
      exact ⟨⟨by omega, by omega⟩, ⟨by omega, by omega⟩, ih⟩
  · intro _
    have hb := fs_cnt_b (fun f => fs_cut (fs_c σ i) f th time) (σ 11 i 10) (by omega)
    refine t29_5 ⟨fun a => ⟨fun b => ⟨⟨by omega, by omega⟩, fun d => ⟨?_, rfl⟩, fun d => ⟨?_, rfl⟩⟩, fun b => ⟨?_, rfl⟩⟩, fun a => by omega⟩
    · rw [if_neg b, if_neg (by omega)]
    · rw [if_neg b, if_pos (by omega)]
    · rw [if_pos b]
theorem c41 (ho : fs_ok (fs_c σ i)) {s th time : Int} : fx_Rt 41 [(11, i), (0, s), (0, th), (0, time)] σ (0, fs_best (fun f => decide (σ 16 i f = s) && fs_hold (fs_c σ i) f th time) (fs_better (fs_c σ i)) (σ 11 i 10).toNat) σ := by
  have hn := fs_cn ho
  refine t41_0 (fx_for (fun k => [(11, i), (0, s), (0, th), (0, time), (0, fs_best (fun f => decide (σ 16 i f = s) && fs_hold (fs_c σ i) f th time) (fs_better (fs_c σ i)) k.toNat), (0, k)]) (fun _ => σ) 0 (σ 11 i 10) (fun _ => True) (by omega) trivial ?_ ?_)
  · intro k h0 h1 _ ih
    have ih := ih trivial
    rw [fs_best_s _ _ h0] at ih
    have hb := fs_best_in (fun f => decide (σ 16 i f = s) && fs_hold (fs_c σ i) f th time) (fs_better (fs_c σ i)) k.toNat
    refine t41_6 ⟨fun a => by omega, fun a => ⟨by omega, fun a2 => ⟨⟨by omega, by omega⟩, ?_⟩, fun a2 => (c36 ho h0 h1).I ⟨fun b => ⟨⟨by omega, by omega⟩, ?_⟩, fun b => ⟨fun d => ⟨⟨by omega, by omega⟩, ?_⟩, fun d => (c37 ho h0 h1 (by omega) (by omega)).I ⟨fun g => ⟨⟨by omega, by omega⟩, ?_⟩, fun g => ⟨⟨by omega, by omega⟩, ?_⟩⟩⟩⟩⟩⟩
    · simp only [decide_eq_false a2, Bool.false_and, Bool.false_eq_true, if_false] at ih
      exact ih
    · simp only [fs_b0.mp b, Bool.and_false, Bool.false_and, Bool.false_eq_true, if_false] at ih
      exact ih
    · simp only [decide_eq_true a2, decide_eq_true d, fs_b1.mp b, Bool.and_true, Bool.true_or, if_true] at ih
      exact ih
    · simp only [decide_eq_true a2, decide_eq_false d, fs_b1.mp b, fs_b0.mp g, Bool.and_true, Bool.or_false, Bool.true_and, Bool.false_eq_true, if_false] at ih
      exact ih
    · simp only [decide_eq_true a2, decide_eq_false d, fs_b1.mp b, fs_b1.mp g, Bool.and_true, Bool.or_true, if_true] at ih
      exact ih
  · intro _
    exact t41_6 ⟨fun a => ⟨rfl, rfl⟩, fun a => by omega⟩
theorem c43 (ho : fs_ok (fs_c σ i)) {s : Int} : fx_Rt 43 [(11, i), (0, s)] σ (0, fs_cnt (fun f => decide (σ 16 i f = s) && decide (σ 20 i f = 0)) (σ 11 i 10).toNat) σ := by
  have hn := fs_cn ho
  refine t43_0 (fx_for (fun k => [(11, i), (0, s), (0, fs_cnt (fun f => decide (σ 16 i f = s) && decide (σ 20 i f = 0)) k.toNat), (0, k)]) (fun _ => σ) 0 (σ 11 i 10) (fun _ => True) (by omega) trivial ?_ ?_)
  · intro k h0 h1 _ ih
    have ih := ih trivial
    rw [fs_cnt_s _ h0] at ih
    have hb := fs_cnt_b (fun f => decide (σ 16 i f = s) && decide (σ 20 i f = 0)) k h0
    refine t43_4 ?_
    repeat' (first | refine And.intro ?_ ?_ | intro _)
    all_goals first
      | omega
      | (rw [fs_n0 (by simp only [Bool.and_eq_true, decide_eq_true_eq]; omega), Int.add_zero] at ih; exact ih)
      | (rw [fs_n1 (by simp only [Bool.and_eq_true, decide_eq_true_eq]; omega)] at ih; exact ih)
  · intro _
    exact t43_4 ⟨fun a => ⟨rfl, rfl⟩, fun a => by omega⟩
theorem c44 (ho : fs_ok (fs_c σ i)) {s : Int} : fx_Rt 44 [(11, i), (0, s)] σ (0, fs_cnt (fun f => decide (σ 15 i f = s) && decide (σ 20 i f = 0)) (σ 11 i 10).toNat) σ := by
  have hn := fs_cn ho
  refine t44_0 (fx_for (fun k => [(11, i), (0, s), (0, fs_cnt (fun f => decide (σ 15 i f = s) && decide (σ 20 i f = 0)) k.toNat), (0, k)]) (fun _ => σ) 0 (σ 11 i 10) (fun _ => True) (by omega) trivial ?_ ?_)
  · intro k h0 h1 _ ih
    have ih := ih trivial
    rw [fs_cnt_s _ h0] at ih
    have hb := fs_cnt_b (fun f => decide (σ 15 i f = s) && decide (σ 20 i f = 0)) k h0
    refine t44_4 ?_
    repeat' (first | refine And.intro ?_ ?_ | intro _)
    all_goals first
      | omega
      | (rw [fs_n0 (by simp only [Bool.and_eq_true, decide_eq_true_eq]; omega), Int.add_zero] at ih; exact ih)
      | (rw [fs_n1 (by simp only [Bool.and_eq_true, decide_eq_true_eq]; omega)] at ih; exact ih)
  · intro _
    exact t44_4 ⟨fun a => ⟨rfl, rfl⟩, fun a => by omega⟩
def fs_above (S : fx_S) (s o : Int) : Bool := decide (S 1 s 0 < S 1 o 0 ∨ (S 1 o 0 = S 1 s 0 ∧ o < s))
theorem c45 (ho : fs_ok (fs_c σ i)) {s : Int} (g0 : 0 ≤ s) (g1 : s < σ 11 i 9) : fx_Rt 45 [(11, i), (0, s)] σ (0, fs_cnt (fs_above (fs_c σ i) s) (σ 11 i 9).toNat) σ := by
  have hn := fs_cn ho
  have main : ∀ (k : Int) (w : fx_V), 0 ≤ k → k ≤ σ 11 i 9 → fx_Wp 45 4 [(11, i), (0, s), (0, fs_cnt (fs_above (fs_c σ i) s) k.toNat), (0, k), w] [] σ (fun v t => v = (0, fs_cnt (fs_above (fs_c σ i) s) (σ 11 i 9).toNat) ∧ t = σ) := by
    intro k w
    refine fun q1 q2 => ?_
    refine fx_whl (X := Int × fx_V) (fun x => [(11, i), (0, s), (0, fs_cnt (fs_above (fs_c σ i) s) x.1.toNat), (0, x.1), x.2]) (fun _ => σ) (fun x => 0 ≤ x.1 ∧ x.1 ≤ σ 11 i 9) (fun x => (σ 11 i 9 - x.1).toNat) ?_ (k, w) ⟨q1, q2⟩
    rintro ⟨k, w⟩ ⟨h0, h1⟩ ih
    simp only at h0 h1
    have ih : ∀ w', k < σ 11 i 9 → fx_Wp 45 4 [(11, i), (0, s), (0, fs_cnt (fs_above (fs_c σ i) s) k.toNat + fs_b (fs_above (fs_c σ i) s k)), (0, k + 1), w'] [] σ (fun v t => v = (0, fs_cnt (fs_above (fs_c σ i) s) (σ 11 i 9).toNat) ∧ t = σ) := by
      intro w' hk
      have := ih (k + 1, w') ⟨by simp only; omega, by simp only; omega⟩ (by simp only; omega)
      simp only at this
      rwa [fs_cnt_s _ h0] at this
    have hb := fs_cnt_b (fs_above (fs_c σ i) s) k h0
    show fx_Wp 45 4 [(11, i), (0, s), (0, fs_cnt (fs_above (fs_c σ i) s) k.toNat), (0, k), w] [] σ _
    refine t45_4 ⟨fun a => ?_, fun a => ?_⟩
    · have e : k = σ 11 i 9 := by omega
      rw [e]; exact ⟨rfl, rfl⟩
    · have ih := fun w' => ih w' a
      repeat' (first | refine And.intro ?_ ?_ | intro _)
      all_goals first
        | omega
        | (rw [fs_n0 (by simp only [fs_above, fs_c, decide_eq_true_eq]; omega), Int.add_zero] at ih; exact ih _)
        | (rw [fs_n1 (by simp only [fs_above, fs_c, decide_eq_true_eq]; omega)] at ih; exact ih _)
  exact t45_0 (main 0 _ (by omega) (by omega))
theorem c46 (ho : fs_ok (fs_c σ i)) : fx_Rt 46 [(11, i)] σ (0, fs_cnt (fun f => decide (σ 20 i f ≠ 0)) (σ 11 i 10).toNat) σ := by
  have hn := fs_cn ho
  refine t46_0 (fx_for (fun k => [(11, i), (0, fs_cnt (fun f => decide (σ 20 i f ≠ 0)) k.toNat), (0, k)]) (fun _ => σ) 0 (σ 11 i 10) (fun _ => True) (by omega) trivial ?_ ?_)
  · intro k h0 h1 _ ih
    have ih := ih trivial
    rw [fs_cnt_s _ h0] at ih
    have hb := fs_cnt_b (fun f => decide (σ 20 i f ≠ 0)) k h0
    refine t46_4 ?_
    repeat' (first | refine And.intro ?_ ?_ | intro _)
    all_goals first
      | omega
      | (rw [fs_n0 (by simp only [decide_eq_true_eq]; omega), Int.add_zero] at ih; exact ih)
      | (rw [fs_n1 (by simp only [decide_eq_true_eq]; omega)] at ih; exact ih)
  · intro _
    exact t46_4 ⟨fun a => ⟨rfl, rfl⟩, fun a => by omega⟩
theorem c47 (ho : fs_ok (fs_c σ i)) : fx_Rt 47 [(11, i)] σ (0, fs_cnt (fun f => decide (σ 14 i f ≠ 0)) (σ 11 i 9).toNat) σ := by
  have hn := fs_cn ho
  refine t47_0 (fx_for (fun k => [(11, i), (0, fs_cnt (fun f => decide (σ 14 i f ≠ 0)) k.toNat), (0, k)]) (fun _ => σ) 0 (σ 11 i 9) (fun _ => True) (by omega) trivial ?_ ?_)
  · intro k h0 h1 _ ih
    have ih := ih trivial
    rw [fs_cnt_s _ h0] at ih
    have hb := fs_cnt_b (fun f => decide (σ 14 i f ≠ 0)) k h0
    refine t47_4 ?_
    repeat' (first | refine And.intro ?_ ?_ | intro _)
    all_goals first
      | omega
      | (rw [fs_n0 (by simp only [decide_eq_true_eq]; omega), Int.add_zero] at ih; exact ih)
      | (rw [fs_n1 (by simp only [decide_eq_true_eq]; omega)] at ih; exact ih)
  · intro _
    exact t47_4 ⟨fun a => ⟨rfl, rfl⟩, fun a => by omega⟩
theorem c48 : fx_Rt 48 [(11, i)] σ (0, fs_cnt (fun t => decide (0 < σ 22 (8 * i + t) 3)) 8) σ := by
  refine t48_0 (fx_for (fun k => [(11, i), (0, fs_cnt (fun t => decide (0 < σ 22 (8 * i + t) 3)) k.toNat), (0, k)]) (fun _ => σ) 0 8 (fun _ => True) (by omega) trivial ?_ ?_)
  · intro k h0 h1 _ ih
    have ih := ih trivial
    rw [fs_cnt_s _ h0] at ih
    have hb := fs_cnt_b (fun t => decide (0 < σ 22 (8 * i + t) 3)) k h0
    have e : 8 * i + 0 + k = 8 * i + k := by omega
    refine t48_4 ⟨fun a => by omega, fun a => ⟨by omega, c3.I ?_⟩⟩
    rw [e]
    refine ⟨fun b => ⟨⟨by omega, by omega⟩, ?_⟩, fun b => ⟨⟨by omega, by omega⟩, ⟨by omega, by omega⟩, ?_⟩⟩
    · rw [b, Int.add_zero] at ih; exact ih
    · rw [fs_bT (fs_b1.mp b)] at ih; exact ih
  · intro _
    exact t48_4 ⟨fun a => ⟨rfl, rfl⟩, fun a => by omega⟩
end FXS
