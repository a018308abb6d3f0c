theorem fs_sum01 {f : Int → Int} (h : ∀ x, 0 ≤ f x ∧ f x ≤ 1) (n : Nat) : 0 ≤ fs_sum f n ∧ fs_sum f n ≤ n := by
  have := fs_sum_r h n
  omega
theorem fs_b_r (b : Bool) : 0 ≤ fs_b b ∧ fs_b b ≤ 1 := by rcases fs_b01 b with h | h <;> (rw [h]; omega)
theorem fs_cutq_u {S : fx_S} {n n' : Int} {st st' : Int → Int} (h : fs_cutq S n st) (g : fs_cutq S n' st') : n = n' ∧ ∀ p, 0 ≤ p → p < n → st p = st' p := by
  obtain ⟨h1, h2⟩ := h
  obtain ⟨g1, g2⟩ := g
  refine ⟨h1.trans g1.symm, fun p p0 p1 => ?_⟩
  rw [h1] at p1
  obtain ⟨s, s0, s1, s2, s3⟩ := fs_cnt_ivt (fs_mark S (S 0 1 0).toNat) 1000 p p0 p1
  rw [← s3, h2 s s0 (by omega) s2, g2 s s0 (by omega) s2]
section FXA
variable {σ : fx_S} {l : Int} {S : fx_S} {W : Int → Bool}
theorem fs_voice_r {s t : Int} (x : Int) : 0 ≤ fs_voice S W s t x ∧ fs_voice S W s t x ≤ 1 := fs_b_r _
theorem c93 (ho : fs_ok S) (he : fs_eq (fs_c σ 0) S) (hd : fs_drawn σ l S W) {s : Int} : fx_Rt 93 [(36, l), (0, s)] σ (0, fs_sum (fun t => fs_sum (fs_voice S W s t) 1000) 8) σ := by
  obtain ⟨hn, h0, hN, hp, ha, hv, hc, hl⟩ := fs_dr_p ho hd
  have hfa := ho.2.1
  have hGr : ∀ t, 0 ≤ fs_sum (fs_voice S W s t) 1000 ∧ fs_sum (fs_voice S W s t) 1000 ≤ 1000 := fun t => fs_sum01 fs_voice_r 1000
  generalize hG : (fun t => fs_sum (fs_voice S W s t) 1000) = G
  have hGt : ∀ t, G t = fs_sum (fs_voice S W s t) 1000 := fun t => by rw [← hG]
  have hGr : ∀ t, 0 ≤ G t ∧ G t ≤ 1000 := fun t => by rw [hGt]; exact hGr t
  refine t93_0 ?_
  refine fx_whl (X := Int × fx_V × fx_V) (fun x => [(36, l), (0, s), (0, fs_sum G x.1.toNat), (0, x.1), x.2.1, x.2.2]) (fun _ => σ) (fun x => 0 ≤ x.1 ∧ x.1 ≤ 8) (fun x => (8 - x.1).toNat) ?_ (0, (3, 0), (3, 0)) ⟨by simp, by simp⟩
  rintro ⟨t, w4, w5⟩ ⟨t0, t1⟩ ih
  simp only at t0 t1
  show fx_Wp 93 4 [(36, l), (0, s), (0, fs_sum G t.toNat), (0, t), w4, w5] [] σ _
  refine t93_4 ⟨fun a => ⟨by rw [show t = 8 by omega]; rfl, rfl⟩, fun a => ?_⟩
  have e8 : 8 * l + 0 + t = 8 * l + t := by omega
  have m : fx_Wp 93 13 [(36, l), (0, s), (0, fs_sum G t.toNat + fs_sum (fs_voice S W s t) (σ 37 l 0).toNat), (0, t), (0, 0), w5] [] σ (fun v τ => v = (0, fs_sum G 8) ∧ τ = σ) := by
    refine fx_whl (X := Int × fx_V) (fun x => [(36, l), (0, s), (0, fs_sum G t.toNat + fs_sum (fs_voice S W s t) (σ 37 l x.1).toNat), (0, t), (0, x.1), x.2]) (fun _ => σ) (fun x => 0 ≤ x.1 ∧ x.1 ≤ σ 36 l 8) (fun x => (σ 36 l 8 - x.1).toNat) ?_ (0, w5) ⟨by simp, by simp only; omega⟩
    rintro ⟨p, w5⟩ ⟨p0, p1⟩ ih2
    simp only at p0 p1
    show fx_Wp 93 13 [(36, l), (0, s), (0, fs_sum G t.toNat + fs_sum (fs_voice S W s t) (σ 37 l p).toNat), (0, t), (0, p), w5] [] σ _
    have ih2 : ∀ (w : fx_V) (A : Int), p < σ 36 l 8 → fs_sum (fs_voice S W s t) (σ 37 l (p + 1)).toNat = A → fx_Wp 93 13 [(36, l), (0, s), (0, fs_sum G t.toNat + A), (0, t), (0, p + 1), w] [] σ (fun v τ => v = (0, fs_sum G 8) ∧ τ = σ) := by
      intro w A hk h1
      have := ih2 (p + 1, w) ⟨by simp only; omega, by simp only; omega⟩ (by simp only; omega)
      simp only at this
      rw [h1] at this
      exact this
    refine t93_13 ⟨fun b => ⟨⟨by omega, by omega⟩, ?_⟩, fun b => ⟨⟨t0, a⟩, ⟨p0, by omega⟩, ?_⟩⟩
    · have := ih (t + 1, (0, p), w5) ⟨by simp only; omega, by simp only; omega⟩ (by simp only; omega)
      simp only at this
      rw [fs_sum_s G t0, hGt t] at this
      have ep : p = σ 36 l 8 := by omega
      rw [ep, hN]
      rw [ep] at this
      exact this
    · have hpp := hp p p0 b
      have hb1 := fs_sum_r hGr t.toNat
      have hb2 := fs_sum01 (f := fs_voice S W s t) fs_voice_r (σ 37 l p).toNat
      have hFc : ∀ x, σ 37 l p ≤ x → x < σ 37 l (p + 1) → fs_voice S W s t x = fs_voice S W s t (σ 37 l p) := fun x x0 x1 => by
        unfold fs_voice; rw [fs_cst_bs ho hd.1 p0 b x x0 x1]
      have hin := fs_bs_in (W := W) (t := t) (time := σ 37 l p) ho
      rw [e8, (hd.2.2 t p t0 a p0 b).1]
      have hFp : fs_voice S W s t (σ 37 l p) = fs_b (decide (fs_bs S W t (σ 37 l p) ≠ -1) && decide (S 4 (fs_bs S W t (σ 37 l p)) 0 = s)) := rfl
      have h16 : fs_bs S W t (σ 37 l p) ≠ -1 → σ 16 0 (fs_bs S W t (σ 37 l p)) = S 4 (fs_bs S W t (σ 37 l p)) 0 := fun h => (he.symm.2.2.2.1 _ (by omega) (by omega)).2.1.symm
      generalize fs_bs S W t (σ 37 l p) = B at hin hFp h16
      refine ⟨fun d => ⟨⟨by omega, by omega⟩, ih2 _ _ b (fs_sum_p0 ho hd p0 b hFc (by rw [hFp, d]; rfl))⟩, fun d => ⟨⟨by omega, by omega⟩, ?_⟩⟩
      rw [h16 d]
      refine ⟨fun g => ⟨⟨by omega, by omega⟩, ih2 _ _ b (fs_sum_p0 ho hd p0 b hFc (by rw [hFp, decide_eq_false g, Bool.and_false]; rfl))⟩, fun g => (c70v ho hd p0 b).I ⟨⟨by omega, by omega⟩, ⟨by omega, by omega⟩, ?_⟩⟩
      rw [Int.add_assoc]
      exact ih2 _ _ b (fs_sum_p1 ho hd p0 b hFc (by rw [hFp, decide_eq_true d, decide_eq_true g]; rfl))
  rw [h0] at m
  have z : fs_sum G t.toNat + fs_sum (fs_voice S W s t) (0 : Int).toNat = fs_sum G t.toNat := by show _ + 0 = _; omega
  rw [z] at m
  exact m
theorem fs_ab_r {a b t : Int} (x : Int) : 0 ≤ fs_ab S a b t x ∧ fs_ab S a b t x ≤ 1 := fs_b_r _
theorem fs_as_r {a b t : Int} (x : Int) : 0 ≤ fs_as S a b t x ∧ fs_as S a b t x ≤ 1 := fs_b_r _
theorem fs_cst_by (ho : fs_ok S) {n : Int} {st pa : Int → Int} (hc : fs_cutp S n st pa) {a t p : Int} (p0 : 0 ≤ p) (p1 : p < n) : ∀ x, st p ≤ x → x < st (p + 1) → fs_by S a t x = fs_by S a t (st p) := by
  intro x x0 x1
  have hn := ho.2.1
  unfold fs_by
  refine fs_best_c _ (fun k k0 k1 => ?_) (fun _ _ _ _ _ _ _ _ => rfl)
  rw [fs_cst_hold ho hc k0 (by omega) p0 p1 x x0 x1]
/-- in hundredths -/
def fs_acc (S : fx_S) (a b : Int) : Int := if fs_sum (fun t => fs_sum (fs_ab S a b t) 1000) 8 = 0 then 100 else fx_div (fs_sum (fun t => fs_sum (fs_as S a b t) 1000) 8 * 100) (fs_sum (fun t => fs_sum (fs_ab S a b t) 1000) 8)
theorem c94 (ho : fs_ok S) (he : fs_eq (fs_c σ 0) S) (hd : fs_drawn σ l S W) {c d : Int} : fx_Rt 94 [(36, l), (0, c), (0, d)] σ (0, fs_acc S c d) σ := by
  have hoc := he.symm.ok ho
  obtain ⟨hn, h0, hN, hp, ha, hv, hc, hl⟩ := fs_dr_p ho hd
  have hfa := ho.2.1
  have hGr : ∀ t, 0 ≤ fs_sum (fs_ab S c d t) 1000 ∧ fs_sum (fs_ab S c d t) 1000 ≤ 1000 := fun t => fs_sum01 fs_ab_r 1000
  have hHr : ∀ t, 0 ≤ fs_sum (fs_as S c d t) 1000 ∧ fs_sum (fs_as S c d t) 1000 ≤ 1000 := fun t => fs_sum01 fs_as_r 1000
  unfold fs_acc
  generalize hG : (fun t => fs_sum (fs_ab S c d t) 1000) = G
  generalize hH : (fun t => fs_sum (fs_as S c d t) 1000) = H
  have hGt : ∀ t, G t = fs_sum (fs_ab S c d t) 1000 := fun t => by rw [← hG]
  have hHt : ∀ t, H t = fs_sum (fs_as S c d t) 1000 := fun t => by rw [← hH]
  have hGr : ∀ t, 0 ≤ G t ∧ G t ≤ 1000 := fun t => by rw [hGt]; exact hGr t
  have hHr : ∀ t, 0 ≤ H t ∧ H t ≤ 1000 := fun t => by rw [hHt]; exact hHr t
  have h41 : ∀ s t x : Int, fx_Rt 41 [(11, 0), (0, s), (0, t), (0, x)] σ (0, fs_by S s t x) σ := by
    intro s t x
    have : fx_Rt 41 [(11, 0), (0, s), (0, t), (0, x)] σ (0, fs_by (fs_c σ 0) s t x) σ := c41 hoc
    rwa [fs_by_c he hoc] at this
  refine t94_0 ?_
  refine fx_whl (X := Int × fx_V × fx_V × fx_V) (fun x => [(36, l), (0, c), (0, d), (0, fs_sum G x.1.toNat), (0, fs_sum H x.1.toNat), (0, x.1), x.2.1, x.2.2.1, x.2.2.2]) (fun _ => σ) (fun x => 0 ≤ x.1 ∧ x.1 ≤ 8) (fun x => (8 - x.1).toNat) ?_ (0, (3, 0), (3, 0), (3, 0)) ⟨by simp, by simp⟩
  rintro ⟨t, w6, w7, w8⟩ ⟨t0, t1⟩ ih
  simp only at t0 t1
  show fx_Wp 94 8 [(36, l), (0, c), (0, d), (0, fs_sum G t.toNat), (0, fs_sum H t.toNat), (0, t), w6, w7, w8] [] σ _
  refine t94_8 ⟨fun a => ?_, fun a => ?_⟩
  · have hb1 := fs_sum_r hHr t.toNat
    have e : t.toNat = 8 := by omega
    rw [e] at hb1 ⊢
    exact ⟨fun g => ⟨⟨by omega, by omega⟩, g, by rw [if_neg g], rfl⟩, fun g => ⟨by rw [if_pos g], rfl⟩⟩
  have m : fx_Wp 94 18 [(36, l), (0, c), (0, d), (0, fs_sum G t.toNat + fs_sum (fs_ab S c d t) (σ 37 l 0).toNat), (0, fs_sum H t.toNat + fs_sum (fs_as S c d t) (σ 37 l 0).toNat), (0, t), (0, 0), w7, w8] [] σ (fun v τ => v = (0, if fs_sum G 8 = 0 then 100 else fx_div (fs_sum H 8 * 100) (fs_sum G 8)) ∧ τ = σ) := by
    refine fx_whl (X := Int × fx_V × fx_V) (fun x => [(36, l), (0, c), (0, d), (0, fs_sum G t.toNat + fs_sum (fs_ab S c d t) (σ 37 l x.1).toNat), (0, fs_sum H t.toNat + fs_sum (fs_as S c d t) (σ 37 l x.1).toNat), (0, t), (0, x.1), x.2.1, x.2.2]) (fun _ => σ) (fun x => 0 ≤ x.1 ∧ x.1 ≤ σ 36 l 8) (fun x => (σ 36 l 8 - x.1).toNat) ?_ (0, w7, w8) ⟨by simp, by simp only; omega⟩
    rintro ⟨p, w7, w8⟩ ⟨p0, p1⟩ ih2
    simp only at p0 p1
    show fx_Wp 94 18 [(36, l), (0, c), (0, d), (0, fs_sum G t.toNat + fs_sum (fs_ab S c d t) (σ 37 l p).toNat), (0, fs_sum H t.toNat + fs_sum (fs_as S c d t) (σ 37 l p).toNat), (0, t), (0, p), w7, w8] [] σ _
    have ih2 : ∀ (w w' : fx_V) (A B : Int), p < σ 36 l 8 → fs_sum (fs_ab S c d t) (σ 37 l (p + 1)).toNat = A → fs_sum (fs_as S c d t) (σ 37 l (p + 1)).toNat = B → fx_Wp 94 18 [(36, l), (0, c), (0, d), (0, fs_sum G t.toNat + A), (0, fs_sum H t.toNat + B), (0, t), (0, p + 1), w, w'] [] σ (fun v τ => v = (0, if fs_sum G 8 = 0 then 100 else fx_div (fs_sum H 8 * 100) (fs_sum G 8)) ∧ τ = σ) := by
      intro w w' A B hk h1 h2
      have := ih2 (p + 1, w, w') ⟨by simp only; omega, by simp only; omega⟩ (by simp only; omega)
      simp only at this
      rw [h1, h2] at this
      exact this
    refine t94_18 ⟨fun b => ⟨⟨by omega, by omega⟩, ?_⟩, fun b => ⟨⟨p0, by omega⟩, (h41 c t _).I ((h41 d t _).I ?_)⟩⟩
    · have := ih (t + 1, (0, p), w7, w8) ⟨by simp only; omega, by simp only; omega⟩ (by simp only; omega)
      simp only at this
      rw [fs_sum_s G t0, hGt t, fs_sum_s H t0, hHt t] at this
      have ep : p = σ 36 l 8 := by omega
      rw [ep, hN]
      rw [ep] at this
      exact this
    · have hpp := hp p p0 b
      have hb1 := fs_sum_r hGr t.toNat
      have hb2 := fs_sum01 (f := fs_ab S c d t) fs_ab_r (σ 37 l p).toNat
      have hb3 := fs_sum_r hHr t.toNat
      have hb4 := fs_sum01 (f := fs_as S c d t) fs_as_r (σ 37 l p).toNat
      have hFc : ∀ x, σ 37 l p ≤ x → x < σ 37 l (p + 1) → fs_ab S c d t x = fs_ab S c d t (σ 37 l p) := fun x x0 x1 => by
        unfold fs_ab; rw [fs_cst_by ho hd.1 p0 b x x0 x1, fs_cst_by ho hd.1 (a := d) p0 b x x0 x1]
      have hFd : ∀ x, σ 37 l p ≤ x → x < σ 37 l (p + 1) → fs_as S c d t x = fs_as S c d t (σ 37 l p) := fun x x0 x1 => by
        unfold fs_as; rw [fs_cst_by ho hd.1 p0 b x x0 x1, fs_cst_by ho hd.1 (a := d) p0 b x x0 x1]
      have hFp : fs_ab S c d t (σ 37 l p) = fs_b (decide (fs_by S c t (σ 37 l p) ≠ -1) && decide (fs_by S d t (σ 37 l p) ≠ -1)) := rfl
      have hFq : fs_as S c d t (σ 37 l p) = fs_b ((decide (fs_by S c t (σ 37 l p) ≠ -1) && decide (fs_by S d t (σ 37 l p) ≠ -1)) && decide (S 7 (fs_by S c t (σ 37 l p)) 0 = S 7 (fs_by S d t (σ 37 l p)) 0)) := rfl
      have hin := fs_by_in (s := c) (t := t) (x := σ 37 l p) ho
      have hin2 := fs_by_in (s := d) (t := t) (x := σ 37 l p) ho
      generalize fs_by S c t (σ 37 l p) = B at hin hFp hFq
      generalize fs_by S d t (σ 37 l p) = D at hin2 hFp hFq
      have h19 : ∀ z : Int, 0 ≤ z → z < S 0 1 0 → σ 19 0 z = S 7 z 0 := fun z z0 z1 => (he.symm.2.2.2.1 z z0 z1).2.2.2.2.1.symm
      have g0 := fs_sum_p0 ho hd p0 b hFc
      have g1 := fs_sum_p1 ho hd p0 b hFc
      have k0 := fs_sum_p0 ho hd p0 b hFd
      have k1 := fs_sum_p1 ho hd p0 b hFd
      refine ⟨fun q => ⟨⟨by omega, by omega⟩, ih2 _ _ _ _ b (g0 (by rw [hFp, q]; rfl)) (k0 (by rw [hFq, q]; rfl))⟩, fun q => ⟨fun r => ⟨⟨by omega, by omega⟩, ih2 _ _ _ _ b (g0 (by rw [hFp, r]; simp [fs_b])) (k0 (by rw [hFq, r]; simp [fs_b]))⟩, fun r => (c70v ho hd p0 b).I ⟨⟨by omega, by omega⟩, ⟨by omega, by omega⟩, ⟨by omega, by omega⟩, ?_⟩⟩⟩
      have f1 : fs_ab S c d t (σ 37 l p) = 1 := by rw [hFp, decide_eq_true q, decide_eq_true r]; rfl
      rw [h19 B (by omega) (by omega), h19 D (by omega) (by omega)]
      refine ⟨fun g => ⟨⟨by omega, by omega⟩, ⟨by omega, by omega⟩, ?_⟩, fun g => (c70v ho hd p0 b).I ⟨⟨by omega, by omega⟩, ⟨by omega, by omega⟩, ?_⟩⟩
      · rw [Int.add_zero, Int.add_assoc]
        exact ih2 _ _ _ _ b (g1 f1) (k0 (by rw [hFq, decide_eq_false g, Bool.and_false]; rfl))
      · rw [Int.add_assoc, Int.add_assoc]
        exact ih2 _ _ _ _ b (g1 f1) (k1 (by rw [hFq, decide_eq_true q, decide_eq_true r, decide_eq_true g]; rfl))
  rw [h0] at m
  have z : fs_sum G t.toNat + fs_sum (fs_ab S c d t) (0 : Int).toNat = fs_sum G t.toNat := by show _ + 0 = _; omega
  have z2 : fs_sum H t.toNat + fs_sum (fs_as S c d t) (0 : Int).toNat = fs_sum H t.toNat := by show _ + 0 = _; omega
  rw [z, z2] at m
  exact m
/-- a time at which a thing would be another -/
def fs_oth (S : fx_S) (W V : Int → Bool) (t x : Int) : Int := fs_b (decide (fs_is S W t x ≠ fs_is S V t x))
theorem c95 (ho : fs_ok S) {V : Int → Bool} {k : Int} (hd : fs_drawn σ l S W) (hd2 : fs_drawn σ k S V) : fx_Rt 95 [(36, l), (36, k)] σ (0, fs_sum (fun t => fs_sum (fs_oth S W V t) 1000) 8) σ := by
  obtain ⟨hn, h0, hN, hp, ha, hv, hc, hl⟩ := fs_dr_p ho hd
  obtain ⟨hn', h0', hN', hp', ha', hv', hc', hl'⟩ := fs_dr_p ho hd2
  obtain ⟨u1, u2⟩ := fs_cutq_u hd.2.1 hd2.2.1
  have hFr : ∀ t x, 0 ≤ fs_oth S W V t x ∧ fs_oth S W V t x ≤ 1 := fun t x => fs_b_r _
  have hGr : ∀ t, 0 ≤ fs_sum (fs_oth S W V t) 1000 ∧ fs_sum (fs_oth S W V t) 1000 ≤ 1000 := fun t => fs_sum01 (hFr t) 1000
  generalize hG : (fun t => fs_sum (fs_oth S W V t) 1000) = G
  have hGt : ∀ t, G t = fs_sum (fs_oth S W V t) 1000 := fun t => by rw [← hG]
  have hGr : ∀ t, 0 ≤ G t ∧ G t ≤ 1000 := fun t => by rw [hGt]; exact hGr t
  refine t95_0 ?_
  refine fx_whl (X := Int × fx_V) (fun x => [(36, l), (36, k), (0, fs_sum G x.1.toNat), (0, x.1), x.2]) (fun _ => σ) (fun x => 0 ≤ x.1 ∧ x.1 ≤ 8) (fun x => (8 - x.1).toNat) ?_ (0, (3, 0)) ⟨by simp, by simp⟩
  rintro ⟨t, w4⟩ ⟨t0, t1⟩ ih
  simp only at t0 t1
  show fx_Wp 95 4 [(36, l), (36, k), (0, fs_sum G t.toNat), (0, t), w4] [] σ _
  refine t95_4 ⟨fun a => ⟨by rw [show t = 8 by omega]; rfl, rfl⟩, fun a => ?_⟩
  have e8 : 8 * l + 0 + t = 8 * l + t := by omega
  have e9 : 8 * k + 0 + t = 8 * k + t := by omega
  have m : fx_Wp 95 13 [(36, l), (36, k), (0, fs_sum G t.toNat + fs_sum (fs_oth S W V t) (σ 37 l 0).toNat), (0, t), (0, 0)] [] σ (fun v τ => v = (0, fs_sum G 8) ∧ τ = σ) := by
    refine fx_for (fun p => [(36, l), (36, k), (0, fs_sum G t.toNat + fs_sum (fs_oth S W V t) (σ 37 l p).toNat), (0, t), (0, p)]) (fun _ => σ) 0 (σ 36 l 8) (fun _ => True) (by omega) trivial ?_ ?_
    · intro p p0 b _ ih2
      have ih2 := ih2 trivial
      have hpp := hp p p0 b
      have hb1 := fs_sum_r hGr t.toNat
      have hb2 := fs_sum01 (f := fs_oth S W V t) (hFr t) (σ 37 l p).toNat
      have hlen : σ 37 k (p + 1) = σ 37 l (p + 1) := by
        by_cases g : p + 1 < σ 36 l 8
        · exact (u2 (p + 1) (by omega) g).symm
        · rw [show p + 1 = σ 36 l 8 by omega, hN, u1, hN']
      have hFc : ∀ x, σ 37 l p ≤ x → x < σ 37 l (p + 1) → fs_oth S W V t x = fs_oth S W V t (σ 37 l p) := fun x x0 x1 => by
        unfold fs_oth
        rw [hc t p x t0 a p0 b x0 x1, hc' t p x t0 a p0 (by omega) (by rw [← u2 p p0 b]; exact x0) (by rw [hlen]; exact x1), ← u2 p p0 b]
      refine t95_13 ⟨fun c => by omega, fun c => ⟨⟨t0, a⟩, ⟨p0, by omega⟩, ?_⟩⟩
      rw [e8, e9, hv t p t0 a p0 b, hv' t p t0 a p0 (by omega), ← u2 p p0 b]
      refine ⟨fun d => ⟨⟨by omega, by omega⟩, ?_⟩, fun d => (c70v ho hd p0 b).I ⟨⟨by omega, by omega⟩, ⟨by omega, by omega⟩, ?_⟩⟩
      · rw [fs_sum_p0 ho hd p0 b hFc (by unfold fs_oth; rw [decide_eq_false (fun e => e d)]; rfl)] at ih2; exact ih2
      · rw [fs_sum_p1 ho hd p0 b hFc (by unfold fs_oth; rw [decide_eq_true d]; rfl)] at ih2
        rw [Int.add_assoc]; exact ih2
    · intro _
      refine t95_13 ⟨fun b => ⟨⟨by omega, by omega⟩, ?_⟩, fun b => by omega⟩
      have := ih (t + 1, (0, σ 36 l 8)) ⟨by simp only; omega, by simp only; omega⟩ (by simp only; omega)
      simp only at this
      rw [fs_sum_s G t0, hGt t] at this
      rw [hN]
      exact this
  rw [h0] at m
  have z : fs_sum G t.toNat + fs_sum (fs_oth S W V t) (0 : Int).toNat = fs_sum G t.toNat := by show _ + 0 = _; omega
  rw [z] at m
  exact m
end FXA
