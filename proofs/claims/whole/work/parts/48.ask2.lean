def fs_cmp (x y : Int) : Int := if x < y then -1 else if x = y then 0 else 1
theorem fs_cmp_r {x y : Int} : -1 ≤ fs_cmp x y ∧ fs_cmp x y ≤ 1 := by unfold fs_cmp; split <;> (try split) <;> omega
theorem fs_two_c {H H' : Int → Bool} {q q' : Int → Int} {n : Nat} (h : ∀ f : Int, 0 ≤ f → f < n → H f = H' f) (hq : ∀ f : Int, 0 ≤ f → f < n → q f = q' f) : fs_two H q n = fs_two H' q' n := by
  have e : fs_two H q n = true ↔ fs_two H' q' n = true := by
    rw [fs_two_i, fs_two_i]
    constructor
    · rintro ⟨f, g, ⟨f0, f1⟩, ⟨g0, g1⟩, h1, h2, h3⟩
      exact ⟨f, g, ⟨f0, f1⟩, ⟨g0, g1⟩, by rw [← h f f0 f1]; exact h1, by rw [← h g g0 g1]; exact h2, by rw [← hq f f0 f1, ← hq g g0 g1]; exact h3⟩
    · rintro ⟨f, g, ⟨f0, f1⟩, ⟨g0, g1⟩, h1, h2, h3⟩
      exact ⟨f, g, ⟨f0, f1⟩, ⟨g0, g1⟩, by rw [h f f0 f1]; exact h1, by rw [h g g0 g1]; exact h2, by rw [hq f f0 f1, hq g g0 g1]; exact h3⟩
  cases h1 : fs_two H q n <;> cases h2 : fs_two H' q' n <;> simp [h1, h2] at e ⊢
/-- facts of two sources hold with unlike values -/
def fs_disp (S : fx_S) (t x : Int) : Bool := fs_two (fun f => fs_hold S f t x) (fun f => S 4 f 0) (S 0 1 0).toNat && fs_two (fun f => fs_hold S f t x) (fun f => S 7 f 0) (S 0 1 0).toNat
def fs_reign (S : fx_S) (W : Int → Bool) (f : Int) : Int := fs_sum (fun x => fs_b (decide (fs_bs S W (S 3 f 0) x = f))) 1000
def fs_idle (S : fx_S) (W : Int → Bool) (f : Int) : Bool := decide (S 8 f 0 = 0) && decide (fs_reign S W f = 0)
def fs_voice (S : fx_S) (W : Int → Bool) (s t x : Int) : Int := fs_b (decide (fs_bs S W t x ≠ -1) && decide (S 4 (fs_bs S W t x) 0 = s))
def fs_by (S : fx_S) (s t x : Int) : Int := fs_best (fun f => decide (S 4 f 0 = s) && fs_hold S f t x) (fs_better S) (S 0 1 0).toNat
def fs_ab (S : fx_S) (a b t x : Int) : Int := fs_b (decide (fs_by S a t x ≠ -1) && decide (fs_by S b t x ≠ -1))
def fs_as (S : fx_S) (a b t x : Int) : Int := fs_b ((decide (fs_by S a t x ≠ -1) && decide (fs_by S b t x ≠ -1)) && decide (S 7 (fs_by S a t x) 0 = S 7 (fs_by S b t x) 0))
theorem fs_by_in {S : fx_S} (ho : fs_ok S) {s t x : Int} : fs_by S s t x = -1 ∨ (0 ≤ fs_by S s t x ∧ fs_by S s t x < S 0 1 0) := by
  have := fs_best_in (fun f => decide (S 4 f 0 = s) && fs_hold S f t x) (fs_better S) (S 0 1 0).toNat
  have := ho.2.1
  unfold fs_by
  omega
theorem fs_by_c {S T : fx_S} (h : fs_eq S T) (ho : fs_ok S) {s t x : Int} : fs_by S s t x = fs_by T s t x := by
  unfold fs_by
  rw [← h.2.1]
  have hn := ho.2.1
  refine fs_best_c _ (fun k k0 k1 => ?_) (fun a b a0 a1 b0 b1 _ _ => fs_better_c h ho a0 (by omega) b0 (by omega))
  rw [fs_hold_c h ho k0 (by omega), (h.2.2.2.1 k k0 (by omega)).2.1]
theorem fs_disp_c {S T : fx_S} (h : fs_eq S T) (ho : fs_ok S) {t x : Int} : fs_disp S t x = fs_disp T t x := by
  unfold fs_disp
  rw [← h.2.1]
  have hn := ho.2.1
  rw [fs_two_c (fun f f0 f1 => fs_hold_c h ho f0 (by omega)) (fun f f0 f1 => (h.2.2.2.1 f f0 (by omega)).2.1), fs_two_c (fun f f0 f1 => fs_hold_c h ho f0 (by omega)) (fun f f0 f1 => (h.2.2.2.1 f f0 (by omega)).2.2.2.2.1)]
section FXA
variable {σ : fx_S} {l : Int} {S : fx_S} {W : Int → Bool}
theorem c2 {a b : Int} : fx_Rt 2 [(0, a), (0, b)] σ (0, fs_cmp a b) σ := by
  unfold fs_cmp
  refine t2_0 ⟨fun h => ⟨fun g => ⟨?_, rfl⟩, fun g => ⟨?_, rfl⟩⟩, fun h => ⟨?_, rfl⟩⟩
  · rw [if_neg (by omega), if_neg g]
  · rw [if_neg (by omega), if_pos g]
  · rw [if_pos h]
theorem c147 {a b c d : Int} : fx_Rt 147 [(0, a), (0, b), (0, c), (0, d)] σ (0, fs_rel a b c d) σ := by
  have h1 := fs_cmp_r (x := a) (y := c)
  have h2 := fs_cmp_r (x := b) (y := d)
  refine t147_0 ⟨fun h => ⟨fun g => c2.I ⟨⟨by omega, by omega⟩, ⟨by omega, by omega⟩, c2.I ⟨⟨by omega, by omega⟩, ?_, rfl⟩⟩, fun g => ⟨fun q => ⟨?_, rfl⟩, fun q => ⟨?_, rfl⟩⟩⟩, fun h => ⟨fun q => ⟨?_, rfl⟩, fun q => ⟨?_, rfl⟩⟩⟩
  all_goals
    refine Prod.ext rfl ?_
    show _ = fs_rel a b c d
    clear h1 h2
    unfold fs_rel
    try unfold fs_cmp
    try simp only
    omega
theorem fs_sum_p0 (ho : fs_ok S) (hd : fs_drawn σ l S W) {f : Int → Int} {p : Int} (p0 : 0 ≤ p) (p1 : p < σ 36 l 8) (hf : ∀ x, σ 37 l p ≤ x → x < σ 37 l (p + 1) → f x = f (σ 37 l p)) (h : f (σ 37 l p) = 0) : fs_sum f (σ 37 l (p + 1)).toNat = fs_sum f (σ 37 l p).toNat := by
  obtain ⟨hn, h0, hN, hp, ha, hv, hc, hl⟩ := fs_dr_p ho hd
  have := hp p p0 p1
  rw [fs_sum_pc this.1 (by omega) hf, h]; simp
theorem fs_sum_p1 (ho : fs_ok S) (hd : fs_drawn σ l S W) {f : Int → Int} {p : Int} (p0 : 0 ≤ p) (p1 : p < σ 36 l 8) (hf : ∀ x, σ 37 l p ≤ x → x < σ 37 l (p + 1) → f x = f (σ 37 l p)) (h : f (σ 37 l p) = 1) : fs_sum f (σ 37 l (p + 1)).toNat = fs_sum f (σ 37 l p).toNat + (σ 37 l (p + 1) - σ 37 l p) := by
  obtain ⟨hn, h0, hN, hp, ha, hv, hc, hl⟩ := fs_dr_p ho hd
  have := hp p p0 p1
  rw [fs_sum_pc this.1 (by omega) hf, h, Int.one_mul]
theorem c83 (ho : fs_ok S) (hd : fs_drawn σ l S W) {a b t how : Int} (t0 : 0 ≤ t) (t1 : t < 8) : fx_Rt 83 [(36, l), (0, a), (0, b), (0, t), (0, how)] σ (0, fs_sum (fs_lie (fs_is S W t) a b how) 1000) σ := by
  obtain ⟨hn, h0, hN, hp, ha, hv, hc, hl⟩ := fs_dr_p ho hd
  have m : fx_Wp 83 6 [(36, l), (0, a), (0, b), (0, t), (0, how), (0, fs_sum (fs_lie (fs_is S W t) a b how) (σ 37 l 0).toNat), (0, 0)] [] σ (fun v τ => v = (0, fs_sum (fs_lie (fs_is S W t) a b how) 1000) ∧ τ = σ) := by
    refine fx_for (fun p => [(36, l), (0, a), (0, b), (0, t), (0, how), (0, fs_sum (fs_lie (fs_is S W t) a b how) (σ 37 l p).toNat), (0, p)]) (fun _ => σ) 0 (σ 36 l 8) (fun _ => True) (by omega) trivial ?_ ?_
    · intro p p0 p1 _ ih
      have ih := ih trivial
      have hpp := hp p p0 p1
      have hz := fs_sum_z (f := fs_lie (fs_is S W t) a b how) hpp.1 hpp.2.1 (fun x x0 x1 => by unfold fs_lie; rw [fs_beg_p ho hd t0 t1 p0 p1 x x0 x1, Bool.false_and]; rfl)
      have hb := fs_sum_r (f := fs_lie (fs_is S W t) a b how) (M := 1) (fun x => by unfold fs_lie; rcases fs_b01 (fs_beg (fs_is S W t) 0 x && decide (fs_rel a b x (fs_end (fs_is S W t) x) = how)) with e | e <;> (rw [e]; omega)) (σ 37 l p).toNat
      rw [hz] at ih
      unfold fs_lie at ih hb ⊢
      refine t83_6 ⟨fun c => by omega, fun c => (c74 ho hd t0 t1 p0 p1).I ⟨fun d => ⟨⟨by omega, by omega⟩, ?_⟩, fun d => ⟨⟨by omega, by omega⟩, fx_CI_e (c71 ho hd t0 t1 p0 p1) ?_⟩⟩⟩
      · rw [fs_b0.mp d] at ih
        simp only [Bool.false_and, fs_b, cond_false, Int.add_zero] at ih
        exact ih
      · rintro e ⟨i1, i2, i3⟩
        rw [fs_b1.mp d, fs_end_u i3, Bool.true_and] at ih
        refine ⟨⟨by omega, by omega⟩, c147.I ⟨fun g => ⟨⟨by omega, by omega⟩, ?_⟩, fun g => ⟨⟨by omega, by omega⟩, ⟨by omega, by omega⟩, ?_⟩⟩⟩
        · rw [decide_eq_false g] at ih
          simp only [fs_b, cond_false, Int.add_zero] at ih
          exact ih
        · rw [decide_eq_true g] at ih
          exact ih
    · intro _
      refine t83_6 ⟨fun a => ⟨?_, rfl⟩, fun a => by omega⟩
      rw [hN]; rfl
  rw [h0] at m
  exact t83_0 m
theorem fs_lie_r {u : Int → Int} {a b how : Int} : ∀ x, 0 ≤ fs_lie u a b how x ∧ fs_lie u a b how x ≤ 1 := fun x => by
  unfold fs_lie
  rcases fs_b01 (fs_beg u 0 x && decide (fs_rel a b x (fs_end u x) = how)) with e | e <;> (rw [e]; omega)
theorem fs_prs_r {v u : Int → Int} {how : Int} : ∀ x, 0 ≤ fs_prs v u how x ∧ fs_prs v u how x ≤ 1000 := fun x => by
  unfold fs_prs
  have := fs_sum_r (fs_lie_r (u := u) (a := x) (b := fs_end v x) (how := how)) 1000
  split <;> omega
theorem c82 (ho : fs_ok S) (hd : fs_drawn σ l S W) {t s how : Int} (t0 : 0 ≤ t) (t1 : t < 8) (s0 : 0 ≤ s) (s1 : s < 8) : fx_Rt 82 [(36, l), (0, t), (0, s), (0, how)] σ (0, fs_sum (fs_prs (fs_is S W t) (fs_is S W s) how) 1000) σ := by
  obtain ⟨hn, h0, hN, hp, ha, hv, hc, hl⟩ := fs_dr_p ho hd
  have m : fx_Wp 82 6 [(36, l), (0, t), (0, s), (0, how), (0, fs_sum (fs_prs (fs_is S W t) (fs_is S W s) how) (σ 37 l 0).toNat), (0, 0)] [] σ (fun v τ => v = (0, fs_sum (fs_prs (fs_is S W t) (fs_is S W s) how) 1000) ∧ τ = σ) := by
    refine fx_for (fun p => [(36, l), (0, t), (0, s), (0, how), (0, fs_sum (fs_prs (fs_is S W t) (fs_is S W s) how) (σ 37 l p).toNat), (0, p)]) (fun _ => σ) 0 (σ 36 l 8) (fun _ => True) (by omega) trivial ?_ ?_
    · intro p p0 p1 _ ih
      have ih := ih trivial
      have hpp := hp p p0 p1
      have hz := fs_sum_z (f := fs_prs (fs_is S W t) (fs_is S W s) how) hpp.1 hpp.2.1 (fun x x0 x1 => by unfold fs_prs; rw [fs_beg_p ho hd t0 t1 p0 p1 x x0 x1]; simp)
      have hb := fs_sum_r (fs_prs_r (v := fs_is S W t) (u := fs_is S W s) (how := how)) (σ 37 l p).toNat
      have hb1 := fs_prs_r (v := fs_is S W t) (u := fs_is S W s) (how := how) (σ 37 l p)
      rw [hz] at ih
      refine t82_6 ⟨fun c => by omega, fun c => (c74 ho hd t0 t1 p0 p1).I ⟨fun d => ⟨⟨by omega, by omega⟩, ?_⟩, fun d => ⟨⟨by omega, by omega⟩, fx_CI_e (c71 ho hd t0 t1 p0 p1) ?_⟩⟩⟩
      · have : fs_prs (fs_is S W t) (fs_is S W s) how (σ 37 l p) = 0 := by unfold fs_prs; rw [fs_b0.mp d]; simp
        rw [this, Int.add_zero] at ih
        exact ih
      · rintro e ⟨i1, i2, i3⟩
        have : fs_prs (fs_is S W t) (fs_is S W s) how (σ 37 l p) = fs_sum (fs_lie (fs_is S W s) (σ 37 l p) (σ 37 l e) how) 1000 := by unfold fs_prs; rw [if_pos (fs_b1.mp d), fs_end_u i3]
        rw [this] at ih hb1
        exact ⟨⟨by omega, by omega⟩, (c83 ho hd s0 s1).I ⟨⟨by omega, by omega⟩, ⟨by omega, by omega⟩, ih⟩⟩
    · intro _
      refine t82_6 ⟨fun a => ⟨?_, rfl⟩, fun a => by omega⟩
      rw [hN]; rfl
  rw [h0] at m
  exact t82_0 m
theorem c84 (ho : fs_ok S) (hd : fs_drawn σ l S W) {t s : Int} (t0 : 0 ≤ t) (t1 : t < 8) (s0 : 0 ≤ s) (s1 : s < 8) : fx_Rt 84 [(36, l), (0, t), (0, s)] σ (0, fs_sum (fun x => fs_b (decide (fs_is S W t x ≠ -1) && decide (fs_is S W s x ≠ -1))) 1000) σ := by
  obtain ⟨hn, h0, hN, hp, ha, hv, hc, hl⟩ := fs_dr_p ho hd
  have e8 : 8 * l + 0 + t = 8 * l + t := by omega
  have e9 : 8 * l + 0 + s = 8 * l + s := by omega
  generalize hF : (fun x => fs_b (decide (fs_is S W t x ≠ -1) && decide (fs_is S W s x ≠ -1))) = F
  have m : fx_Wp 84 5 [(36, l), (0, t), (0, s), (0, fs_sum F (σ 37 l 0).toNat), (0, 0)] [] σ (fun v τ => v = (0, fs_sum F 1000) ∧ τ = σ) := by
    refine fx_for (fun p => [(36, l), (0, t), (0, s), (0, fs_sum F (σ 37 l p).toNat), (0, p)]) (fun _ => σ) 0 (σ 36 l 8) (fun _ => True) (by omega) trivial ?_ ?_
    · intro p p0 p1 _ ih
      have ih := ih trivial
      have hpp := hp p p0 p1
      have hb := fs_sum_b (P := fun x => decide (fs_is S W t x ≠ -1) && decide (fs_is S W s x ≠ -1)) (σ 37 l p) hpp.1
      simp only [hF] at hb
      have hFc : ∀ x, σ 37 l p ≤ x → x < σ 37 l (p + 1) → F x = F (σ 37 l p) := fun x x0 x1 => by
        rw [← hF]; simp only; rw [hc t p x t0 t1 p0 p1 x0 x1, hc s p x s0 s1 p0 p1 x0 x1]
      have hFp : F (σ 37 l p) = fs_b (decide (fs_is S W t (σ 37 l p) ≠ -1) && decide (fs_is S W s (σ 37 l p) ≠ -1)) := by rw [← hF]
      refine t84_5 ⟨fun c => by omega, fun c => ⟨⟨t0, t1⟩, ⟨p0, by omega⟩, ?_⟩⟩
      rw [e8, e9, hv t p t0 t1 p0 p1, hv s p s0 s1 p0 p1]
      refine ⟨fun d => ⟨⟨by omega, by omega⟩, ?_⟩, fun d => ⟨⟨s0, s1⟩, fun e => ⟨⟨by omega, by omega⟩, ?_⟩, fun e => (c70v ho hd p0 p1).I ⟨⟨by omega, by omega⟩, ⟨by omega, by omega⟩, ?_⟩⟩⟩
      · rw [fs_sum_p0 ho hd p0 p1 hFc (by rw [hFp, d]; rfl)] at ih; exact ih
      · rw [fs_sum_p0 ho hd p0 p1 hFc (by rw [hFp, e]; simp [fs_b])] at ih; exact ih
      · rw [fs_sum_p1 ho hd p0 p1 hFc (by rw [hFp, decide_eq_true d, decide_eq_true e]; rfl)] at ih; exact ih
    · intro _
      refine t84_5 ⟨fun a => ⟨?_, rfl⟩, fun a => by omega⟩
      rw [hN]; rfl
  rw [h0] at m
  exact t84_0 m
theorem c85 (ho : fs_ok S) (hd : fs_drawn σ l S W) {t a : Int} (t0 : 0 ≤ t) (t1 : t < 8) : fx_Rt 85 [(36, l), (0, t), (0, a)] σ (0, fs_sum (fun x => fs_b (decide (fs_is S W t x = a))) 1000) σ := by
  obtain ⟨hn, h0, hN, hp, ha, hv, hc, hl⟩ := fs_dr_p ho hd
  have e8 : 8 * l + 0 + t = 8 * l + t := by omega
  generalize hF : (fun x => fs_b (decide (fs_is S W t x = a))) = F
  have m : fx_Wp 85 5 [(36, l), (0, t), (0, a), (0, fs_sum F (σ 37 l 0).toNat), (0, 0)] [] σ (fun v τ => v = (0, fs_sum F 1000) ∧ τ = σ) := by
    refine fx_for (fun p => [(36, l), (0, t), (0, a), (0, fs_sum F (σ 37 l p).toNat), (0, p)]) (fun _ => σ) 0 (σ 36 l 8) (fun _ => True) (by omega) trivial ?_ ?_
    · intro p p0 p1 _ ih
      have ih := ih trivial
      have hpp := hp p p0 p1
      have hb := fs_sum_b (P := fun x => decide (fs_is S W t x = a)) (σ 37 l p) hpp.1
      simp only [hF] at hb
      have hFc : ∀ x, σ 37 l p ≤ x → x < σ 37 l (p + 1) → F x = F (σ 37 l p) := fun x x0 x1 => by
        rw [← hF]; simp only; rw [hc t p x t0 t1 p0 p1 x0 x1]
      have hFp : F (σ 37 l p) = fs_b (decide (fs_is S W t (σ 37 l p) = a)) := by rw [← hF]
      refine t85_5 ⟨fun c => by omega, fun c => ⟨⟨t0, t1⟩, ⟨p0, by omega⟩, ?_⟩⟩
      rw [e8, hv t p t0 t1 p0 p1]
      refine ⟨fun d => ⟨⟨by omega, by omega⟩, ?_⟩, fun d => (c70v ho hd p0 p1).I ⟨⟨by omega, by omega⟩, ⟨by omega, by omega⟩, ?_⟩⟩
      · rw [fs_sum_p0 ho hd p0 p1 hFc (by rw [hFp, decide_eq_false d]; rfl)] at ih; exact ih
      · rw [fs_sum_p1 ho hd p0 p1 hFc (by rw [hFp, decide_eq_true d]; rfl)] at ih; exact ih
    · intro _
      refine t85_5 ⟨fun a => ⟨?_, rfl⟩, fun a => by omega⟩
      rw [hN]; rfl
  rw [h0] at m
  exact t85_0 m
theorem c86 (ho : fs_ok S) (hd : fs_drawn σ l S W) {t : Int} (t0 : 0 ≤ t) (t1 : t < 8) : fx_Rt 86 [(36, l), (0, t)] σ (0, (fs_md (fs_is S W t) 100).1) σ := by
  have m : ∀ w : fx_V, fx_Wp 86 7 [(36, l), (0, t), (0, (fs_md (fs_is S W t) (0 : Int).toNat).1), (0, (fs_md (fs_is S W t) (0 : Int).toNat).2), (0, 0), w] [] σ (fun v τ => v = (0, (fs_md (fs_is S W t) 100).1) ∧ τ = σ) := by
    intro w
    refine fx_whl (X := Int × fx_V) (fun x => [(36, l), (0, t), (0, (fs_md (fs_is S W t) x.1.toNat).1), (0, (fs_md (fs_is S W t) x.1.toNat).2), (0, x.1), x.2]) (fun _ => σ) (fun x => 0 ≤ x.1 ∧ x.1 ≤ 100) (fun x => (100 - x.1).toNat) ?_ (0, w) ⟨by simp, by simp⟩
    clear w
    rintro ⟨k, w⟩ ⟨k0, k1⟩ ih
    simp only at k0 k1
    have ih : ∀ (w : fx_V) (A B : Int), k < 100 → fs_md (fs_is S W t) (k + 1).toNat = (A, B) → fx_Wp 86 7 [(36, l), (0, t), (0, A), (0, B), (0, k + 1), w] [] σ (fun v τ => v = (0, (fs_md (fs_is S W t) 100).1) ∧ τ = σ) := by
      intro w A B hk h1
      have := ih (k + 1, w) ⟨by simp only; omega, by simp only; omega⟩ (by simp only; omega)
      simp only at this
      rw [h1] at this
      exact this
    show fx_Wp 86 7 [(36, l), (0, t), (0, (fs_md (fs_is S W t) k.toNat).1), (0, (fs_md (fs_is S W t) k.toNat).2), (0, k), w] [] σ _
    refine t86_7 ⟨fun a => ⟨?_, rfl⟩, fun a => (c85 ho hd t0 t1).I ⟨fun b => ⟨⟨by omega, by omega⟩, ih _ _ _ a ?_⟩, fun b => ⟨⟨by omega, by omega⟩, ih _ _ _ a ?_⟩⟩⟩
    · rw [show k = 100 by omega]; rfl
    · rw [fs_md_s k0, if_neg (by omega)]
    · rw [fs_md_s k0, if_pos b]
  exact t86_0 (m _)
theorem c87 (ho : fs_ok S) (hd : fs_drawn σ l S W) {t : Int} (t0 : 0 ≤ t) (t1 : t < 8) : fx_Rt 87 [(36, l), (0, t)] σ (0, fs_sum (fun x => if fs_is S W t x = -1 then 0 else fs_is S W t x) 1000) σ := by
  obtain ⟨hn, h0, hN, hp, ha, hv, hc, hl⟩ := fs_dr_p ho hd
  have e8 : 8 * l + 0 + t = 8 * l + t := by omega
  generalize hF : (fun x => if fs_is S W t x = -1 then 0 else fs_is S W t x) = F
  have hFr : ∀ x, 0 ≤ F x ∧ F x ≤ 99 := by
    intro x
    have := fs_is_r ho (W := W) (time := x) 8 (by omega) t t0 (by omega)
    rw [← hF]
    simp only
    split <;> omega
  have m : fx_Wp 87 4 [(36, l), (0, t), (0, fs_sum F (σ 37 l 0).toNat), (0, 0)] [] σ (fun v τ => v = (0, fs_sum F 1000) ∧ τ = σ) := by
    refine fx_for (fun p => [(36, l), (0, t), (0, fs_sum F (σ 37 l p).toNat), (0, p)]) (fun _ => σ) 0 (σ 36 l 8) (fun _ => True) (by omega) trivial ?_ ?_
    · intro p p0 p1 _ ih
      have ih := ih trivial
      have hpp := hp p p0 p1
      have hb := fs_sum_r hFr (σ 37 l p).toNat
      have hb2 := fs_sum_r hFr (σ 37 l (p + 1)).toNat
      have hFc : ∀ x, σ 37 l p ≤ x → x < σ 37 l (p + 1) → F x = F (σ 37 l p) := fun x x0 x1 => by
        rw [← hF]; simp only; rw [hc t p x t0 t1 p0 p1 x0 x1]
      have hFp : F (σ 37 l p) = if fs_is S W t (σ 37 l p) = -1 then 0 else fs_is S W t (σ 37 l p) := by rw [← hF]
      have hpc := fs_sum_pc (f := F) hpp.1 (by omega) hFc
      refine t87_4 ⟨fun c => by omega, fun c => ⟨⟨t0, t1⟩, ⟨p0, by omega⟩, ?_⟩⟩
      rw [e8, hv t p t0 t1 p0 p1]
      refine ⟨fun d => ⟨⟨by omega, by omega⟩, ?_⟩, fun d => (c70v ho hd p0 p1).I ?_⟩
      · rw [fs_sum_p0 ho hd p0 p1 hFc (by rw [hFp, if_pos d])] at ih; exact ih
      · rw [if_neg d] at hFp
        rw [hFp] at hpc
        rw [hpc] at ih hb2
        have h3 : 0 ≤ fs_is S W t (σ 37 l p) * (σ 37 l (p + 1) - σ 37 l p) := Int.mul_nonneg (by have := hFr (σ 37 l p); omega) (by omega)
        exact ⟨⟨by omega, by omega⟩, ⟨by omega, by omega⟩, ⟨by omega, by omega⟩, ih⟩
    · intro _
      refine t87_4 ⟨fun a => ⟨?_, rfl⟩, fun a => by omega⟩
      rw [hN]; rfl
  rw [h0] at m
  exact t87_0 m
theorem c88 (ho : fs_ok S) (he : fs_eq (fs_c σ 0) S) (hd : fs_drawn σ l S W) {t : Int} : fx_Rt 88 [(36, l), (0, t)] σ (0, fs_sum (fun x => fs_b (fs_disp S t x)) 1000) σ := by
  have hoc := he.symm.ok ho
  obtain ⟨hn, h0, hN, hp, ha, hv, hc, hl⟩ := fs_dr_p ho hd
  generalize hF : (fun x => fs_b (fs_disp S t x)) = F
  have m : fx_Wp 88 4 [(36, l), (0, t), (0, fs_sum F (σ 37 l 0).toNat), (0, 0)] [] σ (fun v τ => v = (0, fs_sum F 1000) ∧ τ = σ) := by
    refine fx_for (fun p => [(36, l), (0, t), (0, fs_sum F (σ 37 l p).toNat), (0, p)]) (fun _ => σ) 0 (σ 36 l 8) (fun _ => True) (by omega) trivial ?_ ?_
    · intro p p0 p1 _ ih
      have ih := ih trivial
      have hpp := hp p p0 p1
      have hb := fs_sum_b (P := fun x => fs_disp S t x) (σ 37 l p) hpp.1
      simp only [hF] at hb
      have hfa := ho.2.1
      have hFc : ∀ x, σ 37 l p ≤ x → x < σ 37 l (p + 1) → F x = F (σ 37 l p) := fun x x0 x1 => by
        rw [← hF]; simp only
        unfold fs_disp
        rw [fs_two_c (fun f f0 f1 => fs_cst_hold ho hd.1 f0 (by omega) p0 p1 x x0 x1) (fun _ _ _ => rfl), fs_two_c (H := fun f => fs_hold S f t x) (q := fun f => S 7 f 0) (fun f f0 f1 => fs_cst_hold ho hd.1 f0 (by omega) p0 p1 x x0 x1) (fun _ _ _ => rfl)]
      have hFp : F (σ 37 l p) = fs_b (fs_disp S t (σ 37 l p)) := by rw [← hF]
      have h42 : fx_Rt 42 [(11, 0), (0, t), (0, σ 37 l p)] σ (0, fs_b (fs_disp (fs_c σ 0) t (σ 37 l p))) σ := c42 hoc
      rw [fs_disp_c he hoc] at h42
      refine t88_4 ⟨fun c => by omega, fun c => ⟨⟨p0, by omega⟩, h42.I ⟨fun d => ⟨⟨by omega, by omega⟩, ?_⟩, fun d => (c70v ho hd p0 p1).I ⟨⟨by omega, by omega⟩, ⟨by omega, by omega⟩, ?_⟩⟩⟩⟩
      · rw [fs_sum_p0 ho hd p0 p1 hFc (by rw [hFp]; exact d)] at ih; exact ih
      · rw [fs_sum_p1 ho hd p0 p1 hFc (by rw [hFp]; exact fs_bT (fs_b1.mp d))] at ih; exact ih
    · intro _
      refine t88_4 ⟨fun a => ⟨?_, rfl⟩, fun a => by omega⟩
      rw [hN]; rfl
  rw [h0] at m
  exact t88_0 m
theorem c89 (ho : fs_ok S) (he : fs_eq (fs_c σ 0) S) (hd : fs_drawn σ l S W) {f : Int} (f0 : 0 ≤ f) (f1 : f < S 0 1 0) : fx_Rt 89 [(36, l), (0, f)] σ (0, fs_reign S W f) σ := by
  have hoc := he.symm.ok ho
  obtain ⟨hn, h0, hN, hp, ha, hv, hc, hl⟩ := fs_dr_p ho hd
  have hfa := ho.2.1
  have h3 : σ 15 0 f = S 3 f 0 := (he.symm.2.2.2.1 f f0 f1).1.symm
  have hf3 := (ho.2.2.2.1 f f0 f1).1
  have e8 : 8 * l + 0 + S 3 f 0 = 8 * l + S 3 f 0 := by omega
  unfold fs_reign
  generalize hF : (fun x => fs_b (decide (fs_bs S W (S 3 f 0) x = f))) = F
  have m : fx_Wp 89 20 [(36, l), (0, f), (41, 8 * l + S 3 f 0), (0, fs_sum F (σ 37 l 0).toNat), (0, 0)] [] σ (fun v τ => v = (0, fs_sum F 1000) ∧ τ = σ) := by
    refine fx_for (fun p => [(36, l), (0, f), (41, 8 * l + S 3 f 0), (0, fs_sum F (σ 37 l p).toNat), (0, p)]) (fun _ => σ) 0 (σ 36 l 8) (fun _ => True) (by omega) trivial ?_ ?_
    · intro p p0 p1 _ ih
      have ih := ih trivial
      have hpp := hp p p0 p1
      have hb := fs_sum_b (P := fun x => decide (fs_bs S W (S 3 f 0) x = f)) (σ 37 l p) hpp.1
      simp only [hF] at hb
      have hFc : ∀ x, σ 37 l p ≤ x → x < σ 37 l (p + 1) → F x = F (σ 37 l p) := fun x x0 x1 => by
        rw [← hF]; simp only; rw [fs_cst_bs ho hd.1 p0 p1 x x0 x1]
      have hFp : F (σ 37 l p) = fs_b (decide (fs_bs S W (S 3 f 0) (σ 37 l p) = f)) := by rw [← hF]
      refine t89_20 ⟨fun c => by omega, fun c => ⟨⟨p0, by omega⟩, ?_⟩⟩
      rw [(hd.2.2 (S 3 f 0) p hf3.1 hf3.2 p0 p1).1]
      refine ⟨fun d => ⟨⟨by omega, by omega⟩, ?_⟩, fun d => (c70v ho hd p0 p1).I ⟨⟨by omega, by omega⟩, ⟨by omega, by omega⟩, ?_⟩⟩
      · rw [fs_sum_p0 ho hd p0 p1 hFc (by rw [hFp, decide_eq_false d]; rfl)] at ih; exact ih
      · rw [fs_sum_p1 ho hd p0 p1 hFc (by rw [hFp, decide_eq_true d]; rfl)] at ih; exact ih
    · intro _
      refine t89_20 ⟨fun a => ⟨?_, rfl⟩, fun a => by omega⟩
      rw [hN]; rfl
  rw [h0] at m
  refine t89_0 ⟨⟨f0, by omega⟩, ?_⟩
  rw [h3, e8]
  exact ⟨hf3, m⟩
theorem fs_reign_r {f : Int} : 0 ≤ fs_reign S W f ∧ fs_reign S W f ≤ 1000 := fs_sum_b (P := fun x => decide (fs_bs S W (S 3 f 0) x = f)) 1000 (by omega)
theorem c90 (ho : fs_ok S) (he : fs_eq (fs_c σ 0) S) (hd : fs_drawn σ l S W) {f : Int} (f0 : 0 ≤ f) (f1 : f < S 0 1 0) : fx_Rt 90 [(36, l), (0, f)] σ (0, fs_b (fs_idle S W f)) σ := by
  have hfa := ho.2.1
  have h8 : σ 20 0 f = S 8 f 0 := (he.symm.2.2.2.1 f f0 f1).2.2.2.2.2.symm
  unfold fs_idle
  refine t90_0 ⟨⟨f0, by omega⟩, ?_⟩
  rw [h8]
  refine ⟨fun a => ⟨?_, rfl⟩, fun a => (c89 ho he hd f0 f1).I ⟨fun b => ⟨?_, rfl⟩, fun b => ⟨?_, rfl⟩⟩⟩
  · rw [decide_eq_false a]; rfl
  · rw [decide_eq_false b, Bool.and_false]; rfl
  · rw [decide_eq_true a, decide_eq_true b]; rfl
theorem c91 (ho : fs_ok S) (he : fs_eq (fs_c σ 0) S) (hd : fs_drawn σ l S W) : fx_Rt 91 [(36, l)] σ (0, fs_cnt (fs_idle S W) (S 0 1 0).toNat) σ := by
  have hfa := ho.2.1
  have h10 : σ 11 0 10 = S 0 1 0 := he.2.1
  refine t91_0 (fx_for (fun f => [(36, l), (0, fs_cnt (fs_idle S W) f.toNat), (0, f)]) (fun _ => σ) 0 (S 0 1 0) (fun _ => True) (by omega) trivial ?_ ?_)
  · intro f f0 f1 _ ih
    have ih := ih trivial
    rw [fs_cnt_s _ f0] at ih
    have hb := fs_cnt_b (fs_idle S W) f f0
    refine t91_4 ?_
    rw [h10]
    refine ⟨fun c => by omega, fun c => (c90 ho he hd f0 f1).I ⟨fun d => ⟨⟨by omega, by omega⟩, ?_⟩, fun d => ⟨⟨by omega, by omega⟩, ⟨by omega, by omega⟩, ?_⟩⟩⟩
    · rw [d, Int.add_zero] at ih; exact ih
    · rw [fs_bT (fs_b1.mp d)] at ih; exact ih
  · intro _
    refine t91_4 ?_
    rw [h10]
    exact ⟨fun a => ⟨rfl, rfl⟩, fun a => by omega⟩
theorem c92 (ho : fs_ok S) (he : fs_eq (fs_c σ 0) S) (hd : fs_drawn σ l S W) {k : Int} : fx_Rt 92 [(36, l), (0, k)] σ (0, fs_row (S 0 1 0) (fs_idle S W) k) σ := by
  have hfa := ho.2.1
  have h10 : σ 11 0 10 = S 0 1 0 := he.2.1
  refine t92_0 (fx_for (fun f => [(36, l), (0, k), (0, fs_cnt (fs_idle S W) f.toNat), (0, f)]) (fun _ => σ) 0 (S 0 1 0) (fun f => ∀ x, 0 ≤ x → x < f → fs_idle S W x = true → fs_cnt (fs_idle S W) x.toNat ≠ k) (by omega) (fun x x0 x1 => by omega) ?_ ?_)
  · intro f f0 f1 hI ih
    have ih : (fs_idle S W f = true → fs_cnt (fs_idle S W) f.toNat ≠ k) → _ := fun h => ih (fun x x0 x1 hx => by
      by_cases e : x = f
      · rw [e] at hx ⊢; exact h hx
      · exact hI x x0 (by omega) hx)
    rw [fs_cnt_s _ f0] at ih
    have hb := fs_cnt_b (fs_idle S W) f f0
    refine t92_4 ?_
    rw [h10]
    refine ⟨fun c => by omega, fun c => (c90 ho he hd f0 f1).I ⟨fun d => ⟨⟨by omega, by omega⟩, ?_⟩, fun d => ⟨fun g => ⟨⟨by omega, by omega⟩, ⟨by omega, by omega⟩, ?_⟩, fun g => ⟨?_, rfl⟩⟩⟩⟩
    · have ih := ih (fun h => by rw [fs_b0.mp d] at h; cases h)
      rw [d, Int.add_zero] at ih; exact ih
    · have ih := ih (fun _ => g)
      rw [fs_bT (fs_b1.mp d)] at ih; exact ih
    · rw [fs_row_u (Or.inr ⟨f0, f1, fs_b1.mp d, g⟩)]
  · intro hI
    refine t92_4 ?_
    rw [h10]
    exact ⟨fun a => ⟨by rw [fs_row_u (Or.inl ⟨rfl, hI⟩)], rfl⟩, fun a => by omega⟩
end FXA
