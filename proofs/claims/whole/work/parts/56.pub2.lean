def fs_nof (S : fx_S) (w : Nat) (s : Int) : Int := fs_cnt (fun f => decide (S w f 0 = s) && decide (S 8 f 0 = 0)) (S 0 1 0).toNat
theorem fs_nof_c {A S : fx_S} (he : fs_eq A S) (ho : fs_ok A) {w : Nat} (hw : w = 3 ∨ w = 4) {s : Int} : fs_nof A w s = fs_nof S w s := by
  have hn := ho.2.1
  unfold fs_nof
  rw [← he.2.1]
  refine fs_cnt_c _ (fun f f0 f1 => ?_)
  obtain ⟨a3, a4, -, -, -, a8⟩ := he.2.2.2.1 f f0 (by omega)
  rcases hw with rfl | rfl
  · rw [a3, a8]
  · rw [a4, a8]
noncomputable def fs_athing (S : fx_S) (t w : Int) : Int := if w = 0 then fs_nof S 3 t else if w = 1 then fs_both (fs_is S fs_W1 t) (fs_is S fs_W1 t) else if w = 2 then fs_sum (fun x => fs_b (fs_disp S t x)) 1000 else if w = 3 then fs_sum (fun x => if fs_is S fs_W1 t x = -1 then 0 else fs_is S fs_W1 t x) 1000 else if w = 4 then (if 0 < S 9 t 0 then S 10 t 0 else -1) else if w = 5 then fs_bit S t (S 9 t 0).toNat else (fs_md (fs_is S fs_W1 t) 100).1
def fs_atold (S : fx_S) (f w : Int) : Int := if w = 0 then S 3 f 0 else if w = 1 then S 4 f 0 else if w = 2 then S 5 f 0 else if w = 3 then S 6 f 0 else if w = 4 then S 7 f 0 else if w = 5 then S 8 f 0 else if w = 6 then fs_reign S fs_W1 f else if S 8 f 0 = 0 then fs_sum (fun t => fs_sum (fs_oth S fs_W1 (fun g => decide (g ≠ f)) t) 1000) 8 else -1
def fs_shr (S : fx_S) (f g : Int) : Int := if 0 ≤ (if S 6 f 0 ≤ S 6 g 0 then S 6 f 0 else S 6 g 0) - (if S 5 f 0 ≤ S 5 g 0 then S 5 g 0 else S 5 f 0) then (if S 6 f 0 ≤ S 6 g 0 then S 6 f 0 else S 6 g 0) - (if S 5 f 0 ≤ S 5 g 0 then S 5 g 0 else S 5 f 0) else 0
def fs_aheard (S : fx_S) (s w : Int) : Int := if w = 0 then S 1 s 0 else if w = 1 then S 2 s 0 else if w = 2 then fs_nof S 4 s else fs_sum (fun t => fs_sum (fs_voice S fs_W1 s t) 1000) 8
def fs_aord (S : fx_S) (k : Int) : Int := fs_first (fun s => decide (fs_cnt (fs_above S s) (S 0 0 0).toNat = k)) (S 0 0 0).toNat
noncomputable def fs_acnt (S : fx_S) (u w : Int) : Int := if w = 0 then S 0 0 0 else if w = 1 then S 0 1 0 else if w = 2 then fs_cnt (fun f => decide (S 8 f 0 ≠ 0)) (S 0 1 0).toNat else if w = 3 then fs_cnt (fun s => decide (S 2 s 0 ≠ 0)) (S 0 0 0).toNat else if w = 4 then fs_cnt (fun t => decide (0 < S 9 t 0)) 8 else if w = 5 then fs_cnt (fs_idle S fs_W1) (S 0 1 0).toNat else if w = 6 then fs_sum (fun t => fs_cnt (fs_beg (fs_is S fs_W1 t) 0) 1000) 8 else if w = 7 then u else -1
section FXP
variable {σ S : fx_S}
theorem q125 (hp : fs_pre σ S) {t w : Int} : fx_Ca 125 [(10, 0), (0, t), (0, w)] σ (fs_cq S σ 2 3 0 (fs_c2 (fs_in 8 t) (fs_in 7 w)) (fs_athing S t w)) := by
  have hoc := hp.2.1.symm.ok hp.1
  by_cases h : fs_in 8 t
  · by_cases g : fs_in 7 w
    · have hc := fs_c2y h g
      obtain ⟨r3, r4, -⟩ := fs_c_r hp.2.1 h.1 h.2
      have h44 : fx_Rt 44 [(11, 0), (0, t)] σ (0, fs_nof (fs_c σ 0) 3 t) σ := c44 hoc
      rw [fs_nof_c hp.2.1 hoc (Or.inl rfl)] at h44
      refine t125_0 ((c137y h).V ((c142y g).V ⟨h, fun w0 => h44.I (fs_cq0e hc (by unfold fs_athing; rw [if_pos w0]) fs_qf.rfl hp), fun w0 => ⟨fun w1 => fx_CR_d hp (fun τ g1 g2 g3 => (c84 hp.1 g3 h.1 h.2 h.1 h.2).I (fs_cq0e hc (by unfold fs_athing; rw [if_neg w0, if_pos w1]; rfl) g1 g2)), fun w1 => ⟨fun w2 => fx_CR_d hp (fun τ g1 g2 g3 => (c88 hp.1 g2.2.1 g3).I (fs_cq0e hc (by unfold fs_athing; rw [if_neg w0, if_neg w1, if_pos w2]) g1 g2)), fun w2 => ⟨fun w3 => fx_CR_d hp (fun τ g1 g2 g3 => (c87 hp.1 g3 h.1 h.2).I (fs_cq0e hc (by unfold fs_athing; rw [if_neg w0, if_neg w1, if_neg w2, if_pos w3]) g1 g2)), fun w3 => ⟨fun w4 => c3.I ?_, fun w4 => ⟨fun w5 => fs_cq0e hc (by unfold fs_athing; rw [if_neg w0, if_neg w1, if_neg w2, if_neg w3, if_neg w4, if_pos w5]; exact hp.2.2.2 t h.1 h.2) fs_qf.rfl hp, fun w5 => fx_CR_d hp (fun τ g1 g2 g3 => (c86 hp.1 g3 h.1 h.2).I (fs_cq0e hc (by unfold fs_athing; rw [if_neg w0, if_neg w1, if_neg w2, if_neg w3, if_neg w4, if_neg w5]) g1 g2))⟩⟩⟩⟩⟩⟩))
      have ha : fs_athing S t w = if 0 < S 9 t 0 then S 10 t 0 else -1 := by unfold fs_athing; rw [if_neg w0, if_neg w1, if_neg w2, if_neg w3, if_pos w4]
      rw [r3]
      refine ⟨fun d => ?_, fun d => ?_⟩
      · rw [fs_b0, decide_eq_false_iff_not] at d
        exact fs_cq0e hc (by rw [ha, if_neg d]) fs_qf.rfl hp
      · rw [fs_b1, decide_eq_true_eq] at d
        exact fs_cq0e hc (by rw [ha, if_pos d, r4]) fs_qf.rfl hp
    · exact t125_0 ((c137y h).V ((c142n g).VX (fs_cq2 (fs_c2m h g) fs_qf.rfl hp)))
  · exact t125_0 ((c137n h).VX (fs_cq1 (fs_c2n h) fs_qf.rfl hp))
theorem q146 (hp : fs_pre σ S) {f : Int} (f0 : 0 ≤ f) (f1 : f < S 0 1 0) : fx_Ca 146 [(10, 0), (0, f)] σ (fun v τ => v = (0, if S 8 f 0 = 0 then fs_sum (fun t => fs_sum (fs_oth S fs_W1 (fun g => decide (g ≠ f)) t) 1000) 8 else -1) ∧ fs_qf σ τ ∧ fs_pre τ S) := by
  have hoc := hp.2.1.symm.ok hp.1
  have hfa := hp.1.2.1
  have h10 : σ 11 0 10 = S 0 1 0 := hp.2.1.2.1
  have h8 : σ 20 0 f = S 8 f 0 := (hp.2.1.symm.2.2.2.1 f f0 f1).2.2.2.2.2.symm
  refine t146_0 ⟨⟨f0, by omega⟩, ?_⟩
  rw [h8, h10]
  refine ⟨fun a => fx_CV_of (c62 hoc (l := 1) (told := S 0 1 0) (wo := f) hfa.1) ?_, fun a => ⟨by rw [if_neg a], fs_qf.rfl, hp⟩⟩
  rintro v τ ⟨rfl, h1, h2⟩
  have hd := fs_drawn_c (S := S) (V := fun g => decide (g ≠ f)) hp.2.1 hoc (fun g g0 g1 => by rw [(decide_eq_true (by have : g < σ 11 0 10 := g1; omega) : decide (g < S 0 1 0) = true), Bool.true_and]) h2
  have hp1 : fs_pre τ S := hp.k (fun K o p hK => h1 K o p (by omega))
  refine Or.inl ⟨rfl, fx_Wp.mono (c144l hp1) (fun v τ2 hh => ?_)⟩
  obtain ⟨rfl, g1, g2, g3, g4⟩ := hh
  have hd2 : fs_drawn τ2 1 S (fun g => decide (g ≠ f)) := fs_drawn_k (g4 36 1 8 (by omega)) (fun p => g4 37 1 p (by omega)) (fun p => g4 38 1 p (by omega)) (fun o p a b => g4 41 o p (by omega)) (fun o p a b => g4 43 o p (by omega)) hd
  have f1 : fs_qf σ τ := fun K o p hK => h1 K o p (by omega)
  exact Or.inl ⟨rfl, by decide, by decide, (c95 hp.1 g3 hd2).I ⟨by rw [if_pos a], f1.trans g1, g2⟩⟩
theorem q126 (hp : fs_pre σ S) {f w : Int} : fx_Ca 126 [(10, 0), (0, f), (0, w)] σ (fs_cq S σ 2 3 0 (fs_c2 (fs_in (S 0 1 0) f) (fs_in 8 w)) (fs_atold S f w)) := by
  have h10 : σ 11 0 10 = S 0 1 0 := hp.2.1.2.1
  have hfa := hp.1.2.1
  by_cases h : fs_in (S 0 1 0) f
  · by_cases g : fs_in 8 w
    · have hc := fs_c2y h g
      obtain ⟨b3, b4, b5, b6, b7, b8⟩ := hp.2.1.symm.2.2.2.1 f h.1 h.2
      have e3 : σ 15 0 f = S 3 f 0 := b3.symm
      have e4 : σ 16 0 f = S 4 f 0 := b4.symm
      have e5 : σ 17 0 f = S 5 f 0 := b5.symm
      have e6 : σ 18 0 f = S 6 f 0 := b6.symm
      have e7 : σ 19 0 f = S 7 f 0 := b7.symm
      have e8 : σ 20 0 f = S 8 f 0 := b8.symm
      have h8v := (hp.1.2.2.2.1 f h.1 h.2).2.2.2.2
      have hr : 0 ≤ f ∧ f < 60 := ⟨h.1, by omega⟩
      refine t126_0 ((c140y (by rw [h10]; exact h)).V ((c142y g).V ?_))
      rw [e3, e4, e5, e6, e7, e8]
      have ha : fs_atold S f w = if w = 0 then S 3 f 0 else if w = 1 then S 4 f 0 else if w = 2 then S 5 f 0 else if w = 3 then S 6 f 0 else if w = 4 then S 7 f 0 else if w = 5 then S 8 f 0 else if w = 6 then fs_reign S fs_W1 f else if S 8 f 0 = 0 then fs_sum (fun t => fs_sum (fs_oth S fs_W1 (fun g => decide (g ≠ f)) t) 1000) 8 else -1 := rfl
      refine ⟨fun w0 => ⟨hr, fs_cq0e hc (by rw [ha, if_pos w0]) fs_qf.rfl hp⟩, fun w0 => ⟨fun w1 => ⟨hr, fs_cq0e hc (by rw [ha, if_neg w0, if_pos w1]) fs_qf.rfl hp⟩, fun w1 => ⟨fun w2 => ⟨hr, fs_cq0e hc (by rw [ha, if_neg w0, if_neg w1, if_pos w2]) fs_qf.rfl hp⟩, fun w2 => ⟨fun w3 => ⟨hr, fs_cq0e hc (by rw [ha, if_neg w0, if_neg w1, if_neg w2, if_pos w3]) fs_qf.rfl hp⟩, fun w3 => ⟨fun w4 => ⟨hr, fs_cq0e hc (by rw [ha, if_neg w0, if_neg w1, if_neg w2, if_neg w3, if_pos w4]) fs_qf.rfl hp⟩, fun w4 => ⟨fun w5 => ⟨hr, fun d => fs_cq0e hc (by rw [ha, if_neg w0, if_neg w1, if_neg w2, if_neg w3, if_neg w4, if_pos w5, d]) fs_qf.rfl hp, fun d => fs_cq0e hc (by rw [ha, if_neg w0, if_neg w1, if_neg w2, if_neg w3, if_neg w4, if_pos w5]; omega) fs_qf.rfl hp⟩, fun w5 => ⟨fun w6 => fx_CR_d hp (fun τ g1 g2 g3 => (c89 hp.1 g2.2.1 g3 h.1 h.2).I (fs_cq0e hc (by rw [ha, if_neg w0, if_neg w1, if_neg w2, if_neg w3, if_neg w4, if_neg w5, if_pos w6]) g1 g2)), fun w6 => fx_CI_of (q146 hp h.1 h.2) (fun v τ hv => ?_)⟩⟩⟩⟩⟩⟩⟩
      obtain ⟨rfl, g1, g2⟩ := hv
      exact Or.inl ⟨rfl, fs_cq0e hc (by rw [ha, if_neg w0, if_neg w1, if_neg w2, if_neg w3, if_neg w4, if_neg w5, if_neg w6]) g1 g2⟩
    · exact t126_0 ((c140y (by rw [h10]; exact h)).V ((c142n g).VX (fs_cq2 (fs_c2m h g) fs_qf.rfl hp)))
  · exact t126_0 ((c140n (by rw [h10]; exact h)).VX (fs_cq1 (fs_c2n h) fs_qf.rfl hp))
theorem q127 (hp : fs_pre σ S) {f g : Int} : fx_Ca 127 [(10, 0), (0, f), (0, g)] σ (fs_cq S σ 2 0 0 (fs_c2 (fs_in (S 0 1 0) f ∧ fs_in (S 0 1 0) g) (f ≠ g)) (fs_rel (S 5 f 0) (S 6 f 0) (S 5 g 0) (S 6 g 0))) := by
  have h10 : σ 11 0 10 = S 0 1 0 := hp.2.1.2.1
  have hfa := hp.1.2.1
  by_cases h : fs_in (S 0 1 0) f
  · by_cases h2 : fs_in (S 0 1 0) g
    · obtain ⟨-, -, b5, b6, -⟩ := hp.2.1.symm.2.2.2.1 f h.1 h.2
      obtain ⟨-, -, d5, d6, -⟩ := hp.2.1.symm.2.2.2.1 g h2.1 h2.2
      have e5 : σ 17 0 f = S 5 f 0 := b5.symm
      have e6 : σ 18 0 f = S 6 f 0 := b6.symm
      have k5 : σ 17 0 g = S 5 g 0 := d5.symm
      have k6 : σ 18 0 g = S 6 g 0 := d6.symm
      refine t127_0 ((c140y (by rw [h10]; exact h)).V ((c140y (by rw [h10]; exact h2)).V ?_))
      rw [e5, e6, k5, k6]
      exact ⟨fun a => ⟨⟨h.1, by omega⟩, ⟨h2.1, by omega⟩, c147.I (fs_cq0 (fs_c2y ⟨h, h2⟩ a) fs_qf.rfl hp)⟩, fun a => fs_cq2 (fs_c2m ⟨h, h2⟩ (fun e => e a)) fs_qf.rfl hp⟩
    · exact t127_0 ((c140y (by rw [h10]; exact h)).V ((c140n (by rw [h10]; exact h2)).VX (fs_cq1 (fs_c2n (fun e => h2 e.2)) fs_qf.rfl hp)))
  · exact t127_0 ((c140n (by rw [h10]; exact h)).VX (fs_cq1 (fs_c2n (fun e => h e.1)) fs_qf.rfl hp))
theorem q128 (hp : fs_pre σ S) {f g : Int} : fx_Ca 128 [(10, 0), (0, f), (0, g)] σ (fs_cq S σ 2 0 0 (fs_c1 (fs_in (S 0 1 0) f ∧ fs_in (S 0 1 0) g)) (fs_shr S f g)) := by
  have h10 : σ 11 0 10 = S 0 1 0 := hp.2.1.2.1
  have hfa := hp.1.2.1
  by_cases h : fs_in (S 0 1 0) f
  · by_cases h2 : fs_in (S 0 1 0) g
    · obtain ⟨-, -, b5, b6, -⟩ := hp.2.1.symm.2.2.2.1 f h.1 h.2
      obtain ⟨-, -, d5, d6, -⟩ := hp.2.1.symm.2.2.2.1 g h2.1 h2.2
      have e5 : σ 17 0 f = S 5 f 0 := b5.symm
      have e6 : σ 18 0 f = S 6 f 0 := b6.symm
      have k5 : σ 17 0 g = S 5 g 0 := d5.symm
      have k6 : σ 18 0 g = S 6 g 0 := d6.symm
      have o1 := (hp.1.2.2.2.1 f h.1 h.2).2.2.1
      have o2 := (hp.1.2.2.2.1 g h2.1 h2.2).2.2.1
      refine t128_0 ((c140y (by rw [h10]; exact h)).V ((c140y (by rw [h10]; exact h2)).V ?_))
      rw [e5, k5]
      refine ⟨⟨h.1, by omega⟩, ⟨h2.1, by omega⟩, c0.I ?_⟩
      rw [e6, k6]
      refine c1.I ⟨⟨by omega, by omega⟩, c0.I (fs_cq0e (fs_c1y ⟨h, h2⟩) ?_ fs_qf.rfl hp)⟩
      unfold fs_shr
      split <;> split <;> omega
    · exact t128_0 ((c140y (by rw [h10]; exact h)).V ((c140n (by rw [h10]; exact h2)).VX (fs_cq1 (fs_c1n (fun e => h2 e.2)) fs_qf.rfl hp)))
  · exact t128_0 ((c140n (by rw [h10]; exact h)).VX (fs_cq1 (fs_c1n (fun e => h e.1)) fs_qf.rfl hp))
theorem q129 (hp : fs_pre σ S) {f g : Int} : fx_Ca 129 [(10, 0), (0, f), (0, g)] σ (fs_cq S σ 2 0 0 (fs_c1 (fs_in (S 0 1 0) f ∧ fs_in (S 0 1 0) g)) (fs_b (fs_better S f g))) := by
  have h10 : σ 11 0 10 = S 0 1 0 := hp.2.1.2.1
  have hoc := hp.2.1.symm.ok hp.1
  by_cases h : fs_in (S 0 1 0) f
  · by_cases h2 : fs_in (S 0 1 0) g
    · have h37 := c37 (σ := σ) (i := 0) hoc h.1 (by rw [h10]; exact h.2) h2.1 (by rw [h10]; exact h2.2)
      rw [fs_better_c hp.2.1 hoc h.1 (by show f < σ 11 0 10; omega) h2.1 (by show g < σ 11 0 10; omega)] at h37
      exact t129_0 ((c140y (by rw [h10]; exact h)).V ((c140y (by rw [h10]; exact h2)).V (h37.I ⟨fs_b01 _, fs_cq0 (fs_c1y ⟨h, h2⟩) fs_qf.rfl hp⟩)))
    · exact t129_0 ((c140y (by rw [h10]; exact h)).V ((c140n (by rw [h10]; exact h2)).VX (fs_cq1 (fs_c1n (fun e => h2 e.2)) fs_qf.rfl hp)))
  · exact t129_0 ((c140n (by rw [h10]; exact h)).VX (fs_cq1 (fs_c1n (fun e => h e.1)) fs_qf.rfl hp))
theorem q130 (hp : fs_pre σ S) {k : Int} : fx_Ca 130 [(10, 0), (0, k)] σ (fs_cq S σ 0 0 0 0 (fs_row (S 0 1 0) (fs_idle S fs_W1) k)) :=
  t130_0 (fx_CR_d hp (fun τ g1 g2 g3 => (c92 hp.1 g2.2.1 g3).I (fs_cq0 rfl g1 g2)))
theorem q131 (hp : fs_pre σ S) {s w : Int} : fx_Ca 131 [(10, 0), (0, s), (0, w)] σ (fs_cq S σ 2 3 0 (fs_c2 (fs_in (S 0 0 0) s) (fs_in 4 w)) (fs_aheard S s w)) := by
  have h9 : σ 11 0 9 = S 0 0 0 := hp.2.1.1
  have hoc := hp.2.1.symm.ok hp.1
  have hna := hp.1.1
  by_cases h : fs_in (S 0 0 0) s
  · by_cases g : fs_in 4 w
    · have hc := fs_c2y h g
      obtain ⟨b1, b2⟩ := hp.2.1.symm.2.2.1 s h.1 h.2
      have e1 : σ 13 0 s = S 1 s 0 := b1.symm
      have e2 : σ 14 0 s = S 2 s 0 := b2.symm
      have h2v := (hp.1.2.2.1 s h.1 h.2).2.2
      have h43 : fx_Rt 43 [(11, 0), (0, s)] σ (0, fs_nof (fs_c σ 0) 4 s) σ := c43 hoc
      rw [fs_nof_c hp.2.1 hoc (Or.inr rfl)] at h43
      refine t131_0 ((c139y (by rw [h9]; exact h)).V ((c142y g).V ?_))
      rw [e1, e2]
      have ha : fs_aheard S s w = if w = 0 then S 1 s 0 else if w = 1 then S 2 s 0 else if w = 2 then fs_nof S 4 s else fs_sum (fun t => fs_sum (fs_voice S fs_W1 s t) 1000) 8 := rfl
      exact ⟨fun w0 => ⟨⟨h.1, by omega⟩, fs_cq0e hc (by rw [ha, if_pos w0]) fs_qf.rfl hp⟩, fun w0 => ⟨fun w1 => ⟨⟨h.1, by omega⟩, fun d => fs_cq0e hc (by rw [ha, if_neg w0, if_pos w1, d]) fs_qf.rfl hp, fun d => fs_cq0e hc (by rw [ha, if_neg w0, if_pos w1]; omega) fs_qf.rfl hp⟩, fun w1 => ⟨fun w2 => h43.I (fs_cq0e hc (by rw [ha, if_neg w0, if_neg w1, if_pos w2]) fs_qf.rfl hp), fun w2 => fx_CR_d hp (fun τ g1 g2 g3 => (c93 hp.1 g2.2.1 g3).I (fs_cq0e hc (by rw [ha, if_neg w0, if_neg w1, if_neg w2]) g1 g2))⟩⟩⟩
    · exact t131_0 ((c139y (by rw [h9]; exact h)).V ((c142n g).VX (fs_cq2 (fs_c2m h g) fs_qf.rfl hp)))
  · exact t131_0 ((c139n (by rw [h9]; exact h)).VX (fs_cq1 (fs_c2n h) fs_qf.rfl hp))
theorem q132 (hp : fs_pre σ S) {a b : Int} : fx_Ca 132 [(10, 0), (0, a), (0, b)] σ (fs_cq S σ 2 0 0 (fs_c2 (fs_in (S 0 0 0) a ∧ fs_in (S 0 0 0) b) (a ≠ b)) (fs_acc S a b)) := by
  have h9 : σ 11 0 9 = S 0 0 0 := hp.2.1.1
  by_cases h : fs_in (S 0 0 0) a
  · by_cases h2 : fs_in (S 0 0 0) b
    · exact t132_0 ((c139y (by rw [h9]; exact h)).V ((c139y (by rw [h9]; exact h2)).V ⟨fun d => fx_CR_d hp (fun τ g1 g2 g3 => (c94 hp.1 g2.2.1 g3).I (fs_cq0 (fs_c2y ⟨h, h2⟩ d) g1 g2)), fun d => fs_cq2 (fs_c2m ⟨h, h2⟩ (fun e => e d)) fs_qf.rfl hp⟩))
    · exact t132_0 ((c139y (by rw [h9]; exact h)).V ((c139n (by rw [h9]; exact h2)).VX (fs_cq1 (fs_c2n (fun e => h2 e.2)) fs_qf.rfl hp)))
  · exact t132_0 ((c139n (by rw [h9]; exact h)).VX (fs_cq1 (fs_c2n (fun e => h e.1)) fs_qf.rfl hp))
/-- a loop that looks for the first -/
theorem fs_first_s {P : Int → Bool} {k : Int} (h : 0 ≤ k) : fs_first P (k + 1).toNat = if fs_first P k.toNat = -1 then (if P k then k else -1) else fs_first P k.toNat := by
  have e : (k + 1).toNat = k.toNat + 1 := by omega
  rw [e, fs_first, show ((k.toNat : Nat) : Int) = k by omega]
theorem fs_first_st {P : Int → Bool} {m : Nat} : ∀ n : Nat, m ≤ n → fs_first P m ≠ -1 → fs_first P n = fs_first P m
  | 0, h, _ => by rw [show m = 0 by omega]
  | n + 1, h, hne => by
    by_cases e : m = n + 1
    · rw [e]
    · have := fs_first_st n (by omega) hne
      rw [fs_first, this, if_neg hne]
theorem fs_above_c {A S : fx_S} (he : fs_eq A S) {s : Int} (s0 : 0 ≤ s) (s1 : s < A 0 0 0) (n : Nat) (hn : (n : Int) ≤ A 0 0 0) : fs_cnt (fs_above A s) n = fs_cnt (fs_above S s) n := by
  refine fs_cnt_c n (fun k k0 k1 => ?_)
  unfold fs_above
  rw [(he.2.2.1 s s0 s1).1, (he.2.2.1 k k0 (by omega)).1]
theorem q133 (hp : fs_pre σ S) {k : Int} : fx_Ca 133 [(10, 0), (0, k)] σ (fs_cq S σ 0 0 0 0 (fs_aord S k)) := by
  have h9 : σ 11 0 9 = S 0 0 0 := hp.2.1.1
  have hoc := hp.2.1.symm.ok hp.1
  have hna := hp.1.1
  generalize hP : (fun s => decide (fs_cnt (fs_above S s) (S 0 0 0).toNat = k)) = P
  have hPs : ∀ s, P s = decide (fs_cnt (fs_above S s) (S 0 0 0).toNat = k) := fun s => by rw [← hP]
  have ha : fs_aord S k = fs_first P (S 0 0 0).toNat := by rw [← hP]; rfl
  refine t133_0 (fx_for (fun s => [(10, 0), (0, k), (0, s)]) (fun _ => σ) 0 (S 0 0 0) (fun s => 0 ≤ s ∧ fs_first P s.toNat = -1) (by omega) ⟨Int.le_refl _, rfl⟩ ?_ ?_)
  · rintro s s0 s1 ⟨-, hI⟩ ih
    have hs := fs_first_s (P := P) s0
    rw [if_pos hI] at hs
    have h45 := c45 (σ := σ) (i := 0) hoc s0 (by rw [h9]; exact s1)
    rw [h9, fs_above_c hp.2.1 s0 (by show s < σ 11 0 9; omega) _ (by show _ ≤ σ 11 0 9; omega)] at h45
    refine t133_2 ?_
    rw [h9]
    refine ⟨fun a => by omega, fun a => h45.I ⟨fun b => ⟨⟨by omega, by omega⟩, ih ⟨by omega, ?_⟩⟩, fun b => fs_cq0e rfl ?_ fs_qf.rfl hp⟩⟩
    · rw [hs, hPs, decide_eq_false b]; rfl
    · have e : fs_first P (s + 1).toNat = s := by rw [hs, hPs, decide_eq_true b]; rfl
      rw [ha, fs_first_st (m := (s + 1).toNat) _ (by omega) (by omega), e]
  · rintro ⟨-, hI⟩
    refine t133_2 ?_
    rw [h9]
    exact ⟨fun a => fs_cq0e rfl (by rw [ha]; exact hI.symm) fs_qf.rfl hp, fun a => by omega⟩
theorem q136 (hp : fs_pre σ S) {w : Int} : fx_Ca 136 [(10, 0), (0, w)] σ (fs_cq S σ 0 0 0 0 (fs_acnt S (σ 10 0 11) w)) := by
  have h9 : σ 11 0 9 = S 0 0 0 := hp.2.1.1
  have h10 : σ 11 0 10 = S 0 1 0 := hp.2.1.2.1
  have hoc := hp.2.1.symm.ok hp.1
  have hfa := hp.1.2.1
  have hna := hp.1.1
  have h46 := c46 (σ := σ) (i := 0) hoc
  rw [h10, fs_cnt_c (P' := fun f => decide (S 8 f 0 ≠ 0)) _ (fun f f0 f1 => by have : fs_c σ 0 8 f 0 = S 8 f 0 := (hp.2.1.2.2.2.1 f f0 (by show f < σ 11 0 10; omega)).2.2.2.2.2; have e : σ 20 0 f = S 8 f 0 := this; rw [e])] at h46
  have h47 := c47 (σ := σ) (i := 0) hoc
  rw [h9, fs_cnt_c (P' := fun s => decide (S 2 s 0 ≠ 0)) _ (fun s s0 s1 => by have : fs_c σ 0 2 s 0 = S 2 s 0 := (hp.2.1.2.2.1 s s0 (by show s < σ 11 0 9; omega)).2; have e : σ 14 0 s = S 2 s 0 := this; rw [e])] at h47
  have h48 := c48 (σ := σ) (i := 0)
  rw [fs_cnt_c (P' := fun t => decide (0 < S 9 t 0)) 8 (fun t t0 t1 => by rw [show 8 * 0 + t = t by omega, (fs_c_r hp.2.1 t0 (by omega)).1])] at h48
  have ha : fs_acnt S (σ 10 0 11) w = if w = 0 then S 0 0 0 else if w = 1 then S 0 1 0 else if w = 2 then fs_cnt (fun f => decide (S 8 f 0 ≠ 0)) (S 0 1 0).toNat else if w = 3 then fs_cnt (fun s => decide (S 2 s 0 ≠ 0)) (S 0 0 0).toNat else if w = 4 then fs_cnt (fun t => decide (0 < S 9 t 0)) 8 else if w = 5 then fs_cnt (fs_idle S fs_W1) (S 0 1 0).toNat else if w = 6 then fs_sum (fun t => fs_cnt (fs_beg (fs_is S fs_W1 t) 0) 1000) 8 else if w = 7 then σ 10 0 11 else -1 := rfl
  refine t136_0 ⟨fun w0 => fs_cq0e rfl (by rw [ha, if_pos w0]; exact h9) fs_qf.rfl hp, fun w0 => ⟨fun w1 => fs_cq0e rfl (by rw [ha, if_neg w0, if_pos w1]; exact h10) fs_qf.rfl hp, fun w1 => ⟨fun w2 => h46.I (fs_cq0e rfl (by rw [ha, if_neg w0, if_neg w1, if_pos w2]) fs_qf.rfl hp), fun w2 => ⟨fun w3 => h47.I (fs_cq0e rfl (by rw [ha, if_neg w0, if_neg w1, if_neg w2, if_pos w3]) fs_qf.rfl hp), fun w3 => ⟨fun w4 => h48.I (fs_cq0e rfl (by rw [ha, if_neg w0, if_neg w1, if_neg w2, if_neg w3, if_pos w4]) fs_qf.rfl hp), fun w4 => ⟨fun w5 => fx_CR_d hp (fun τ g1 g2 g3 => (c91 hp.1 g2.2.1 g3).I (fs_cq0e rfl (by rw [ha, if_neg w0, if_neg w1, if_neg w2, if_neg w3, if_neg w4, if_pos w5]) g1 g2)), fun w5 => ⟨fun w6 => fx_CR_d hp (fun τ g1 g2 g3 => (c76 hp.1 g3).I (fs_cq0e rfl (by rw [ha, if_neg w0, if_neg w1, if_neg w2, if_neg w3, if_neg w4, if_neg w5, if_pos w6]) g1 g2)), fun w6 => ⟨fun w7 => fs_cq0e rfl (by rw [ha, if_neg w0, if_neg w1, if_neg w2, if_neg w3, if_neg w4, if_neg w5, if_neg w6, if_pos w7]) fs_qf.rfl hp, fun w7 => fs_cq0e rfl (by rw [ha, if_neg w0, if_neg w1, if_neg w2, if_neg w3, if_neg w4, if_neg w5, if_neg w6, if_neg w7]) fs_qf.rfl hp⟩⟩⟩⟩⟩⟩⟩⟩
end FXP
