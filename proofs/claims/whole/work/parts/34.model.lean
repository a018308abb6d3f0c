section FXM
variable {σ : fx_S} {o : Int}
theorem c149 {v a b : Int} : fx_Rt 149 [(0, v), (0, a), (0, b)] σ (0, fs_b (decide (a ≤ v) && decide (v ≤ b))) σ := by
  refine t149_0 ?_
  repeat' (first | refine And.intro ?_ ?_ | intro _)
  all_goals first
    | rfl
    | exact fs_r1 (by simp only [Bool.and_eq_true, decide_eq_true_eq]; omega)
    | exact fs_r0 (by simp only [Bool.and_eq_true, decide_eq_true_eq]; omega)
theorem c151 {f w x : Int} (h0 : 0 ≤ f) (h1 : f < 60) (w0 : 0 ≤ w) (w1 : w < 6) (hx : σ 47 0 (18 + 6 * f + w) = x) : fx_Rt 151 [(46, o), (0, f), (0, w)] σ (0, x) σ := by
  subst hx
  exact t151_0 ⟨⟨by omega, by omega⟩, ⟨by omega, by omega⟩, ⟨by omega, by omega⟩, by omega, rfl, rfl⟩
theorem fs_mi {a b : Int} (h : a = b) : σ 47 0 a = σ 47 0 b := by rw [h]
theorem c151a {f : Int} (h0 : 0 ≤ f) (h1 : f < 60) : fx_Rt 151 [(46, o), (0, f), (0, 0)] σ (0, fs_m σ 47 0 3 f 0) σ := c151 h0 h1 (by omega) (by omega) (fs_mi (by omega))
theorem c151b {f : Int} (h0 : 0 ≤ f) (h1 : f < 60) : fx_Rt 151 [(46, o), (0, f), (0, 1)] σ (0, fs_m σ 47 0 4 f 0) σ := c151 h0 h1 (by omega) (by omega) (fs_mi (by omega))
theorem c151c {f : Int} (h0 : 0 ≤ f) (h1 : f < 60) : fx_Rt 151 [(46, o), (0, f), (0, 2)] σ (0, fs_m σ 47 0 5 f 0) σ := c151 h0 h1 (by omega) (by omega) (fs_mi (by omega))
theorem c151d {f : Int} (h0 : 0 ≤ f) (h1 : f < 60) : fx_Rt 151 [(46, o), (0, f), (0, 3)] σ (0, fs_m σ 47 0 6 f 0) σ := c151 h0 h1 (by omega) (by omega) (fs_mi (by omega))
theorem c151e {f : Int} (h0 : 0 ≤ f) (h1 : f < 60) : fx_Rt 151 [(46, o), (0, f), (0, 4)] σ (0, fs_m σ 47 0 7 f 0) σ := c151 h0 h1 (by omega) (by omega) (fs_mi (by omega))
theorem c151f {f : Int} (h0 : 0 ≤ f) (h1 : f < 60) : fx_Rt 151 [(46, o), (0, f), (0, 5)] σ (0, fs_m σ 47 0 8 f 0) σ := c151 h0 h1 (by omega) (by omega) (fs_mi (by omega))
theorem fs_mn (ho : fs_ok (fs_m σ 47 0)) : (0 ≤ σ 47 0 0 ∧ σ 47 0 0 ≤ 8) ∧ (0 ≤ σ 47 0 1 ∧ σ 47 0 1 ≤ 60) := ⟨ho.1, ho.2.1⟩
theorem c152 (ho : fs_ok (fs_m σ 47 0)) {s : Int} : fx_Rt 152 [(46, o), (0, s)] σ (0, fs_b (decide (0 ≤ s) && decide (s < σ 47 0 0))) σ := by
  have hn := fs_mn ho
  refine t152_0 ⟨⟨by omega, by omega⟩, c149.I ⟨fs_b01 _, ?_, rfl⟩⟩
  have e : (decide (0 ≤ s) && decide (s ≤ σ 47 0 0 - 1)) = (decide (0 ≤ s) && decide (s < σ 47 0 0)) := by
    congr 1; rw [decide_eq_decide]; omega
  rw [e]
theorem c153 (ho : fs_ok (fs_m σ 47 0)) {f : Int} : fx_Rt 153 [(46, o), (0, f)] σ (0, fs_b (decide (0 ≤ f) && decide (f < σ 47 0 1))) σ := by
  have hn := fs_mn ho
  refine t153_0 ⟨⟨by omega, by omega⟩, c149.I ⟨fs_b01 _, ?_, rfl⟩⟩
  have e : (decide (0 ≤ f) && decide (f ≤ σ 47 0 1 - 1)) = (decide (0 ≤ f) && decide (f < σ 47 0 1)) := by
    congr 1; rw [decide_eq_decide]; omega
  rw [e]
theorem c154 {t : Int} : fx_Rt 154 [(0, t)] σ (0, fs_b (decide (0 ≤ t) && decide (t < 8))) σ := by
  refine t154_0 (c149.I ⟨fs_b01 _, ?_, rfl⟩)
  have e : (decide (0 ≤ t) && decide (t ≤ 7)) = (decide (0 ≤ t) && decide (t < 8)) := by
    congr 1; rw [decide_eq_decide]; omega
  rw [e]
theorem c155 {t : Int} : fx_Rt 155 [(0, t)] σ (0, fs_b (decide (0 ≤ t) && decide (t < 1000))) σ := by
  refine t155_0 (c149.I ⟨fs_b01 _, ?_, rfl⟩)
  have e : (decide (0 ≤ t) && decide (t ≤ 999)) = (decide (0 ≤ t) && decide (t < 1000)) := by
    congr 1; rw [decide_eq_decide]; omega
  rw [e]
theorem c156 (ho : fs_ok (fs_m σ 47 0)) {f time : Int} (h0 : 0 ≤ f) (h1 : f < σ 47 0 1) : fx_Rt 156 [(46, o), (0, f), (0, time)] σ (0, fs_b (decide (f < σ 46 o 21) && fs_holds (fs_m σ 47 0) f time)) σ := by
  have hn := fs_mn ho
  have hf := ho.2.2.2.1 f h0 h1
  have e2 : fs_m σ 47 0 2 (fs_m σ 47 0 4 f 0) 0 = σ 47 0 (10 + fs_m σ 47 0 4 f 0) := fs_mi (by omega)
  have e0 : fs_m σ 47 0 0 0 0 = σ 47 0 0 := rfl
  rw [e0] at hf
  unfold fs_holds
  rw [e2]
  refine t156_0 ⟨fun a => ⟨fs_r0 (by simp only [Bool.and_eq_true, decide_eq_true_eq]; omega), rfl⟩, fun a => (c151f h0 (by omega)).I ⟨fun b => ⟨fs_r0 (by simp only [Bool.and_eq_true, decide_eq_true_eq]; omega), rfl⟩, fun b => (c151b h0 (by omega)).I ⟨⟨by omega, by omega⟩, by omega, fun d => ⟨fs_r0 (by simp only [Bool.and_eq_true, decide_eq_true_eq]; omega), rfl⟩, fun d => (c151c h0 (by omega)).I ((c151d h0 (by omega)).I ⟨⟨by omega, by omega⟩, c149.I ⟨fun g => ⟨?_, rfl⟩, fun g => ⟨?_, rfl⟩⟩⟩)⟩⟩⟩
  · rw [fs_b0, Bool.and_eq_false_iff, decide_eq_false_iff_not, decide_eq_false_iff_not] at g
    exact fs_r0 (by simp only [Bool.and_eq_true, decide_eq_true_eq]; omega)
  · rw [fs_b1, Bool.and_eq_true, decide_eq_true_eq, decide_eq_true_eq] at g
    exact fs_r1 (by simp only [Bool.and_eq_true, decide_eq_true_eq]; omega)
theorem c157 (ho : fs_ok (fs_m σ 47 0)) {f : Int} (h0 : 0 ≤ f) (h1 : f < σ 47 0 1) : fx_Rt 157 [(46, o), (0, f)] σ (0, fs_m σ 47 0 6 f 0 - fs_m σ 47 0 5 f 0) σ := by
  have hn := fs_mn ho
  have hf := ho.2.2.2.1 f h0 h1
  exact t157_0 ((c151d h0 (by omega)).I ((c151c h0 (by omega)).I ⟨⟨by omega, by omega⟩, rfl, rfl⟩))
theorem c158 (ho : fs_ok (fs_m σ 47 0)) {f g : Int} (h0 : 0 ≤ f) (h1 : f < σ 47 0 1) (h2 : 0 ≤ g) (h3 : g < σ 47 0 1) : fx_Rt 158 [(46, o), (0, f), (0, g)] σ (0, fs_b (fs_better (fs_m σ 47 0) f g)) σ := by
  have hn := fs_mn ho
  have hf := ho.2.2.2.1 f h0 h1
  have hg := ho.2.2.2.1 g h2 h3
  have e0 : fs_m σ 47 0 0 0 0 = σ 47 0 0 := rfl
  rw [e0] at hf hg
  have e1 : fs_m σ 47 0 1 (fs_m σ 47 0 4 f 0) 0 = σ 47 0 (2 + fs_m σ 47 0 4 f 0) := fs_mi (by omega)
  have e2 : fs_m σ 47 0 1 (fs_m σ 47 0 4 g 0) 0 = σ 47 0 (2 + fs_m σ 47 0 4 g 0) := fs_mi (by omega)
  have es : fs_m σ 47 0 4 f 0 = fs_m σ 47 0 4 g 0 → σ 47 0 (2 + fs_m σ 47 0 4 f 0) = σ 47 0 (2 + fs_m σ 47 0 4 g 0) := fun e => by rw [e]
  unfold fs_better
  rw [e1, e2]
  refine t158_0 ?_
  repeat' (first | refine And.intro ?_ ?_ | intro _ | refine (c151a h0 (by omega)).I ?_ | refine (c151b h0 (by omega)).I ?_ | refine (c151c h0 (by omega)).I ?_ | refine (c151d h0 (by omega)).I ?_ | refine (c151e h0 (by omega)).I ?_ | refine (c151a h2 (by omega)).I ?_ | refine (c151b h2 (by omega)).I ?_ | refine (c151c h2 (by omega)).I ?_ | refine (c151d h2 (by omega)).I ?_ | refine (c151e h2 (by omega)).I ?_ | refine (c157 ho h0 h1).I ?_ | refine (c157 ho h2 h3).I ?_)
  all_goals first
    | omega
    | rfl
    | exact fs_r1 (by simp only [decide_eq_true_eq]; omega)
    | exact fs_r0 (by simp only [decide_eq_true_eq]; omega)
theorem c159 (ho : fs_ok (fs_m σ 47 0)) {th time s : Int} : fx_Rt 159 [(46, o), (0, th), (0, time), (0, s)] σ (0, fs_best (fun f => (decide (s = -1) || decide (fs_m σ 47 0 4 f 0 = s)) && (decide (f < σ 46 o 21) && fs_hold (fs_m σ 47 0) f th time)) (fs_better (fs_m σ 47 0)) (σ 47 0 1).toNat) σ := by
  have hn := fs_mn ho
  refine t159_0 (fx_for (fun k => [(46, o), (0, th), (0, time), (0, s), (0, fs_best (fun f => (decide (s = -1) || decide (fs_m σ 47 0 4 f 0 = s)) && (decide (f < σ 46 o 21) && fs_hold (fs_m σ 47 0) f th time)) (fs_better (fs_m σ 47 0)) k.toNat), (0, k)]) (fun _ => σ) 0 (σ 47 0 1) (fun _ => True) (by omega) trivial ?_ ?_)
  · intro k h0 h1 _ ih
    have ih := ih trivial
    rw [fs_best_s _ _ h0] at ih
    have hb := fs_best_in (fun f => (decide (s = -1) || decide (fs_m σ 47 0 4 f 0 = s)) && (decide (f < σ 46 o 21) && fs_hold (fs_m σ 47 0) f th time)) (fs_better (fs_m σ 47 0)) k.toNat
    generalize fs_best (fun f => (decide (s = -1) || decide (fs_m σ 47 0 4 f 0 = s)) && (decide (f < σ 46 o 21) && fs_hold (fs_m σ 47 0) f th time)) (fs_better (fs_m σ 47 0)) k.toNat = B at ih hb ⊢
    have go : (s = -1 ∨ fs_m σ 47 0 4 k 0 = s) → fs_m σ 47 0 3 k 0 = th → fx_Wp 159 44 [(46, o), (0, th), (0, time), (0, s), (0, B), (0, k)] [] σ (fun v t => v = (0, fs_best (fun f => (decide (s = -1) || decide (fs_m σ 47 0 4 f 0 = s)) && (decide (f < σ 46 o 21) && fs_hold (fs_m σ 47 0) f th time)) (fs_better (fs_m σ 47 0)) (σ 47 0 1).toNat) ∧ t = σ) := by
      intro hs hth
      have e1 : (decide (s = -1) || decide (fs_m σ 47 0 4 k 0 = s)) = true := by simp only [Bool.or_eq_true, decide_eq_true_eq]; exact hs
      have e2 : fs_hold (fs_m σ 47 0) k th time = fs_holds (fs_m σ 47 0) k time := by unfold fs_hold; rw [decide_eq_true hth, Bool.true_and]
      rw [e1, e2, Bool.true_and] at ih
      refine t159_44 ((c156 ho h0 h1).I ⟨fun b => ⟨fun d => ⟨⟨by omega, by omega⟩, ?_⟩, fun d => (c158 ho h0 h1 (by omega) (by omega)).I ⟨fun g => ⟨⟨by omega, by omega⟩, ?_⟩, fun g => ⟨⟨by omega, by omega⟩, ?_⟩⟩⟩, fun b => ⟨⟨by omega, by omega⟩, ?_⟩⟩)
      · simp only [fs_b1.mp b, decide_eq_true d, Bool.true_or, Bool.and_true, if_true] at ih; exact ih
      · simp only [fs_b1.mp b, decide_eq_false d, fs_b0.mp g, Bool.or_false, Bool.and_false, Bool.false_eq_true, if_false] at ih; exact ih
      · simp only [fs_b1.mp b, decide_eq_false d, fs_b1.mp g, Bool.or_true, Bool.and_true, if_true] at ih; exact ih
      · simp only [fs_b0.mp b, Bool.false_and, Bool.false_eq_true, if_false] at ih; exact ih
    refine t159_6 ⟨fun a => by omega, fun a => (c151a h0 (by omega)).I ⟨fun b => ⟨⟨by omega, by omega⟩, ?_⟩, fun b => ⟨fun d => go (Or.inl d) b, fun d => (c151b h0 (by omega)).I ⟨fun g => ⟨⟨by omega, by omega⟩, ?_⟩, fun g => go (Or.inr g) b⟩⟩⟩⟩
    · have e : fs_hold (fs_m σ 47 0) k th time = false := by unfold fs_hold; rw [decide_eq_false b, Bool.false_and]
      simp only [e, Bool.and_false, Bool.false_and, Bool.false_eq_true, if_false] at ih; exact ih
    · have e : (decide (s = -1) || decide (fs_m σ 47 0 4 k 0 = s)) = false := by rw [decide_eq_false d, decide_eq_false g]; rfl
      simp only [e, Bool.false_and, Bool.false_eq_true, if_false] at ih; exact ih
  · intro _
    exact t159_6 ⟨fun a => ⟨rfl, rfl⟩, fun a => by omega⟩
theorem c160 {t w x : Int} (h0 : 0 ≤ t) (h1 : t < 8) (w0 : 0 ≤ w) (w1 : w < 94) (hx : σ 47 0 (378 + 94 * t + w) = x) : fx_Rt 160 [(46, o), (0, t), (0, w)] σ (0, x) σ := by
  subst hx
  exact t160_0 ⟨⟨by omega, by omega⟩, ⟨by omega, by omega⟩, ⟨by omega, by omega⟩, by omega, rfl, rfl⟩
theorem c160n {t : Int} (h0 : 0 ≤ t) (h1 : t < 8) : fx_Rt 160 [(46, o), (0, t), (0, 0)] σ (0, fs_m σ 47 0 9 t 0) σ := c160 h0 h1 (by omega) (by omega) (fs_mi (by omega))
theorem c160a {t : Int} (h0 : 0 ≤ t) (h1 : t < 8) : fx_Rt 160 [(46, o), (0, t), (0, 1)] σ (0, fs_m σ 47 0 10 t 0) σ := c160 h0 h1 (by omega) (by omega) (fs_mi (by omega))
theorem c161 {t k w x : Int} (h0 : 0 ≤ t) (h1 : t < 8) (k0 : 0 ≤ k) (k1 : k < 23) (w0 : 0 ≤ w) (w1 : w < 4) (hx : σ 47 0 (378 + 94 * t + 2 + 4 * k + w) = x) : fx_Rt 161 [(46, o), (0, t), (0, k), (0, w)] σ (0, x) σ := by
  subst hx
  exact t161_0 ⟨⟨by omega, by omega⟩, ⟨by omega, by omega⟩, ⟨by omega, by omega⟩, ⟨by omega, by omega⟩, ⟨by omega, by omega⟩, ⟨by omega, by omega⟩, by omega, rfl, rfl⟩
theorem c162 {t : Int} (h0 : 0 ≤ t) (h1 : t < 8) : fx_Rt 162 [(46, o), (0, t)] σ (0, fs_b (decide (0 < fs_m σ 47 0 9 t 0))) σ :=
  t162_0 ((c160n h0 h1).I ⟨fun b => ⟨fs_r0 (by simp only [decide_eq_true_eq]; omega), rfl⟩, fun b => ⟨fs_r1 (by simp only [decide_eq_true_eq]; omega), rfl⟩⟩)
/-- what a sign makes of what is ahead of it and behind it; signs as in class Tape -/
def fs_join (k a b : Int) : Int :=
  if k = 10 then (if a = -1 then b else a)
  else if k = 11 then (if b = -1 then -1 else a)
  else if k = 12 then (if b = -1 then a else -1)
  else if a = -1 ∨ b = -1 then -1
  else
    let v := if k = 6 then a + b else if k = 7 then a - b else if k = 8 then (if a ≤ b then a else b) else (if a ≤ b then b else a)
    if 0 ≤ v ∧ v ≤ 99 then v else -1
theorem c163 {k a b : Int} (k0 : 2 ≤ k) (k1 : k ≤ 8) (a0 : -1 ≤ a) (a1 : a ≤ 99) (b0 : -1 ≤ b) (b1 : b ≤ 99) : fx_Rt 163 [(0, k), (0, a), (0, b)] σ (0, fs_join (k + 4) a b) σ := by
  generalize hJ : fs_join (k + 4) a b = J
  unfold fs_join at hJ
  refine t163_0 ?_
  repeat' (first | refine And.intro ?_ ?_ | intro _ | refine c149.I ?_)
  all_goals try simp only [fs_b1, fs_b0, Bool.and_eq_true, Bool.and_eq_false_iff, decide_eq_true_eq, decide_eq_false_iff_not] at *
  all_goals first
    | trivial
    | exact ⟨by omega, by omega⟩
    | (refine Prod.ext rfl ?_; simp only; clear k0 k1; grind)
    | rfl
    | omega
end FXM
