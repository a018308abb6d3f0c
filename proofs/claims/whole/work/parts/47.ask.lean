section FXE0
variable {mj : Nat} {as : List fx_V} {σ : fx_S} {Q : fx_V → fx_S → Prop}
theorem fx_CI_e {C : Int → fx_S → Prop} {P : Int → Prop} (h : fx_Ca mj as σ (fun v τ => ∃ e, v = (0, e) ∧ τ = σ ∧ P e)) (k : ∀ e, P e → C e σ) : fx_CI mj as σ Q C :=
  fx_Wp.mono h (fun v s hv => by obtain ⟨e, rfl, rfl, h2⟩ := hv; exact Or.inl ⟨rfl, k e h2⟩)
end FXE0
section FXA
variable {σ : fx_S} {l : Int} {S : fx_S} {W : Int → Bool}
theorem fs_dr_p (ho : fs_ok S) (hd : fs_drawn σ l S W) : (1 ≤ σ 36 l 8 ∧ σ 36 l 8 ≤ 121) ∧ σ 37 l 0 = 0 ∧ σ 37 l (σ 36 l 8) = 1000 ∧ (∀ p, 0 ≤ p → p < σ 36 l 8 → 0 ≤ σ 37 l p ∧ σ 37 l p < σ 37 l (p + 1) ∧ σ 37 l (p + 1) ≤ 1000) ∧
    (∀ x, 0 ≤ x → x < 1000 → 0 ≤ σ 38 l x ∧ σ 38 l x < σ 36 l 8 ∧ σ 37 l (σ 38 l x) ≤ x ∧ x < σ 37 l (σ 38 l x + 1)) ∧ (∀ t p, 0 ≤ t → t < 8 → 0 ≤ p → p < σ 36 l 8 → σ 43 (8 * l + t) p = fs_is S W t (σ 37 l p)) ∧
    (∀ t p x, 0 ≤ t → t < 8 → 0 ≤ p → p < σ 36 l 8 → σ 37 l p ≤ x → x < σ 37 l (p + 1) → fs_is S W t x = fs_is S W t (σ 37 l p)) ∧ (∀ p q, 0 ≤ p → p < q → q ≤ σ 36 l 8 → σ 37 l p < σ 37 l q) := by
  obtain ⟨hc, -, hv⟩ := hd
  refine ⟨hc.1, hc.2.2.2.2.1, hc.2.2.1, fun p p0 p1 => ?_, fun x x0 x1 => hc.2.1 x x0 x1, fun t p t0 t1 p0 p1 => (hv t p t0 t1 p0 p1).2, fun t p x t0 t1 p0 p1 x0 x1 => fs_cst_is ho hc t0 t1 p0 p1 x x0 x1, fun p q p0 pq qn => fs_cutp_lt hc p0 pq qn⟩
  have := hc.2.2.2.2.2.1 p p0 p1
  exact ⟨this.1, this.2.1, this.2.2.1⟩
theorem c68v (ho : fs_ok S) (hd : fs_drawn σ l S W) {t x : Int} (t0 : 0 ≤ t) (t1 : t < 8) (x0 : 0 ≤ x) (x1 : x < 1000) : fx_Rt 68 [(36, l), (0, t), (0, x)] σ (0, fs_is S W t x) σ := by
  obtain ⟨hn, h0, hN, hp, ha, hv, hc, hl⟩ := fs_dr_p ho hd
  have h := ha x x0 x1
  have := c68 (σ := σ) (l := l) t0 t1 x0 (by omega) h.1 (by omega)
  rwa [hv t _ t0 t1 h.1 h.2.1, ← hc t _ x t0 t1 h.1 h.2.1 h.2.2.1 h.2.2.2] at this
theorem c69v (ho : fs_ok S) (hd : fs_drawn σ l S W) {t x : Int} (t0 : 0 ≤ t) (t1 : t < 8) (x0 : 0 ≤ x) (x1 : x < 1000) : fx_Rt 69 [(36, l), (0, t), (0, x)] σ (0, fs_bs S W t x) σ := by
  obtain ⟨hn, h0, hN, hp, ha, hv, hc, hl⟩ := fs_dr_p ho hd
  have h := ha x x0 x1
  have := c69 (σ := σ) (l := l) t0 t1 x0 (by omega) h.1 (by omega)
  rwa [(hd.2.2 t _ t0 t1 h.1 h.2.1).1, ← fs_cst_bs ho hd.1 h.1 h.2.1 x h.2.2.1 h.2.2.2] at this
theorem c70v (ho : fs_ok S) (hd : fs_drawn σ l S W) {p : Int} (p0 : 0 ≤ p) (p1 : p < σ 36 l 8) : fx_Rt 70 [(36, l), (0, p)] σ (0, σ 37 l (p + 1) - σ 37 l p) σ := by
  obtain ⟨hn, h0, hN, hp, ha, hv, hc, hl⟩ := fs_dr_p ho hd
  have h := hp p p0 p1
  exact c70 p0 (by omega) (by omega) (by omega) (by omega) (by omega)
theorem c71 (ho : fs_ok S) (hd : fs_drawn σ l S W) {t p : Int} (t0 : 0 ≤ t) (t1 : t < 8) (p0 : 0 ≤ p) (p1 : p < σ 36 l 8) : fx_Ca 71 [(36, l), (0, t), (0, p)] σ (fun v τ => ∃ e, v = (0, e) ∧ τ = σ ∧ p < e ∧ e ≤ σ 36 l 8 ∧ fs_ise (fs_is S W t) (σ 37 l p) (σ 37 l e)) := by
  obtain ⟨hn, h0, hN, hp, ha, hv, hc, hl⟩ := fs_dr_p ho hd
  have e8 : 8 * l + 0 + t = 8 * l + t := by omega
  refine t71_0 ⟨⟨by omega, by omega⟩, fx_for (fun k => [(36, l), (0, t), (0, p), (0, k)]) (fun _ => σ) (p + 1) (σ 36 l 8) (fun k => ∀ x, σ 37 l p ≤ x → x < σ 37 l k → fs_is S W t x = fs_is S W t (σ 37 l p)) (by omega) (fun x x0 x1 => hc t p x t0 t1 p0 p1 x0 x1) ?_ ?_⟩
  · intro k k0 k1 hI ih
    have hlk := hl p k p0 (by omega) (by omega)
    have hpk := hp k (by omega) k1
    refine t71_4 ⟨fun a => by omega, fun a => ⟨⟨t0, t1⟩, ⟨by omega, by omega⟩, ⟨p0, by omega⟩, ?_⟩⟩
    rw [e8, hv t k t0 t1 (by omega) a, hv t p t0 t1 p0 p1]
    refine ⟨fun b => ⟨k, rfl, rfl, by omega, by omega, hlk, by omega, hI, Or.inr b⟩, fun b => ⟨⟨by omega, by omega⟩, ih (fun x x0 x1 => ?_)⟩⟩
    by_cases g : x < σ 37 l k
    · exact hI x x0 g
    · rw [hc t k x t0 t1 (by omega) a (by omega) x1]; exact b
  · intro hI
    have hlk := hl p _ p0 p1 (Int.le_refl _)
    exact t71_4 ⟨fun a => ⟨_, rfl, rfl, p1, Int.le_refl _, hlk, by omega, hI, Or.inl hN⟩, fun a => by omega⟩
theorem c72 (ho : fs_ok S) (hd : fs_drawn σ l S W) {t x : Int} (t0 : 0 ≤ t) (t1 : t < 8) (x0 : 0 ≤ x) (x1 : x < 1000) : fx_Ca 72 [(36, l), (0, t), (0, x)] σ (fun v τ => ∃ b, v = (0, b) ∧ τ = σ ∧ fs_isb (fs_is S W t) x b) := by
  obtain ⟨hn, h0, hN, hp, ha, hv, hc, hl⟩ := fs_dr_p ho hd
  have e8 : 8 * l + 0 + t = 8 * l + t := by omega
  have hx := ha x x0 x1
  refine t72_0 ⟨⟨x0, by omega⟩, ?_⟩
  refine fx_whl (X := Int) (fun p => [(36, l), (0, t), (0, x), (0, p)]) (fun _ => σ) (fun p => 0 ≤ p ∧ p < σ 36 l 8 ∧ σ 37 l p ≤ x ∧ ∀ y, σ 37 l p ≤ y → y ≤ x → fs_is S W t y = fs_is S W t x) (fun p => p.toNat) ?_ (σ 38 l x) ⟨hx.1, hx.2.1, hx.2.2.1, fun y y0 y1 => ?_⟩
  · rintro p ⟨p0, p1, p2, p3⟩ ih
    have hpp := hp p p0 p1
    refine t72_7 ⟨fun a => ⟨⟨p0, by omega⟩, _, rfl, rfl, hpp.1, p2, p3, Or.inl ?_⟩, fun a => ⟨⟨t0, t1⟩, ⟨by omega, by omega⟩, ⟨by omega, by omega⟩, ⟨p0, by omega⟩, ?_⟩⟩
    · rw [show p = 0 by omega]; exact h0
    · have hpm := hp (p - 1) (by omega) (by omega)
      rw [show p - 1 + 1 = p by omega] at hpm
      have hcm := hc t (p - 1) (σ 37 l p - 1) t0 t1 (by omega) (by omega) (by omega) (by rw [show p - 1 + 1 = p by omega]; omega)
      have hpx := p3 (σ 37 l p) (Int.le_refl _) p2
      rw [e8, hv t (p - 1) t0 t1 (by omega) (by omega), hv t p t0 t1 p0 p1]
      refine ⟨fun b => ⟨⟨p0, by omega⟩, _, rfl, rfl, hpp.1, p2, p3, Or.inr ?_⟩, fun b => ⟨⟨by omega, by omega⟩, ih (p + -1) ⟨by omega, by omega, ?_, ?_⟩ (by omega)⟩⟩
      · rw [hcm, ← hpx]; exact b
      · rw [show p + -1 = p - 1 by omega]; omega
      · intro y y0 y1
        rw [show p + -1 = p - 1 by omega] at y0
        by_cases g : y < σ 37 l p
        · rw [hc t (p - 1) y t0 t1 (by omega) (by omega) y0 (by rw [show p - 1 + 1 = p by omega]; exact g), b, hpx]
        · exact p3 y (by omega) y1
  · rw [hc t _ y t0 t1 hx.1 hx.2.1 y0 (by omega), hc t _ x t0 t1 hx.1 hx.2.1 hx.2.2.1 hx.2.2.2]
/-- where the row ends in which x lies -/
theorem fs_end_at (ho : fs_ok S) (hd : fs_drawn σ l S W) {t x e : Int} (t0 : 0 ≤ t) (t1 : t < 8) (x0 : 0 ≤ x) (x1 : x < 1000) (h1 : σ 38 l x < e) (h2 : e ≤ σ 36 l 8) (h3 : fs_ise (fs_is S W t) (σ 37 l (σ 38 l x)) (σ 37 l e)) : fs_ise (fs_is S W t) x (σ 37 l e) := by
  obtain ⟨hn, h0, hN, hp, ha, hv, hc, hl⟩ := fs_dr_p ho hd
  have hx := ha x x0 x1
  have hxe := hc t _ x t0 t1 hx.1 hx.2.1 hx.2.2.1 hx.2.2.2
  obtain ⟨a1, a2, a3, a4⟩ := h3
  have : σ 37 l (σ 38 l x + 1) ≤ σ 37 l e := by
    by_cases g : σ 38 l x + 1 = e
    · rw [g]; exact Int.le_refl _
    · have := hl (σ 38 l x + 1) e (by omega) (by omega) h2; omega
  refine ⟨by omega, a2, fun y y0 y1 => ?_, ?_⟩
  · rw [hxe]; exact a3 y (by omega) y1
  · rw [hxe]; exact a4
theorem c73 (ho : fs_ok S) (hd : fs_drawn σ l S W) {t x : Int} (t0 : 0 ≤ t) (t1 : t < 8) (x0 : 0 ≤ x) (x1 : x < 1000) : fx_Ca 73 [(36, l), (0, t), (0, x)] σ (fun v τ => ∃ e, v = (0, e) ∧ τ = σ ∧ fs_ise (fs_is S W t) x e) := by
  obtain ⟨hn, h0, hN, hp, ha, hv, hc, hl⟩ := fs_dr_p ho hd
  have hx := ha x x0 x1
  refine t73_0 ⟨⟨x0, by omega⟩, fx_CI_e (c71 ho hd t0 t1 hx.1 hx.2.1) ?_⟩
  rintro e ⟨h1, h2, h3⟩
  exact ⟨⟨by omega, by omega⟩, _, rfl, rfl, fs_end_at ho hd t0 t1 x0 x1 h1 h2 h3⟩
theorem fs_beg_p (ho : fs_ok S) (hd : fs_drawn σ l S W) {t p g : Int} (t0 : 0 ≤ t) (t1 : t < 8) (p0 : 0 ≤ p) (p1 : p < σ 36 l 8) : ∀ x, σ 37 l p < x → x < σ 37 l (p + 1) → fs_beg (fs_is S W t) g x = false := by
  obtain ⟨hn, h0, hN, hp, ha, hv, hc, hl⟩ := fs_dr_p ho hd
  intro x x0 x1
  have := hp p p0 p1
  refine fs_beg_no (by omega) ?_
  rw [hc t p x t0 t1 p0 p1 (by omega) x1, hc t p (x - 1) t0 t1 p0 p1 (by omega) (by omega)]
theorem c74 (ho : fs_ok S) (hd : fs_drawn σ l S W) {t p g : Int} (t0 : 0 ≤ t) (t1 : t < 8) (p0 : 0 ≤ p) (p1 : p < σ 36 l 8) : fx_Rt 74 [(36, l), (0, t), (0, p), (0, g)] σ (0, fs_b (fs_beg (fs_is S W t) g (σ 37 l p))) σ := by
  obtain ⟨hn, h0, hN, hp, ha, hv, hc, hl⟩ := fs_dr_p ho hd
  have e8 : 8 * l + 0 + t = 8 * l + t := by omega
  have key : (σ 37 l p = 0 ∨ fs_is S W t (σ 37 l p - 1) ≠ fs_is S W t (σ 37 l p)) ↔ (p = 0 ∨ (0 < p ∧ fs_is S W t (σ 37 l (p - 1)) ≠ fs_is S W t (σ 37 l p))) := by
    by_cases e : p = 0
    · rw [e, h0]; simp
    · have hpm := hp (p - 1) (by omega) (by omega)
      rw [show p - 1 + 1 = p by omega] at hpm
      rw [hc t (p - 1) (σ 37 l p - 1) t0 t1 (by omega) (by omega) (by omega) (by rw [show p - 1 + 1 = p by omega]; omega)]
      constructor
      · rintro (h | h)
        · omega
        · exact Or.inr ⟨by omega, h⟩
      · rintro (h | h)
        · omega
        · exact Or.inr h.2
  have hb : fs_beg (fs_is S W t) g (σ 37 l p) = decide (((fs_is S W t (σ 37 l p) = -1 ∧ g = 1) ∨ (fs_is S W t (σ 37 l p) ≠ -1 ∧ g = 0)) ∧ (p = 0 ∨ (0 < p ∧ fs_is S W t (σ 37 l (p - 1)) ≠ fs_is S W t (σ 37 l p)))) := by
    unfold fs_beg
    rw [decide_eq_decide, key]
  rw [hb]
  have hm : 0 < p → σ 43 (8 * l + t) (p - 1) = fs_is S W t (σ 37 l (p - 1)) := fun h => hv t (p - 1) t0 t1 (by omega) (by omega)
  refine t74_0 ?_
  rw [e8, hv t p t0 t1 p0 p1]
  generalize fs_is S W t (σ 37 l p) = A
  refine ⟨⟨t0, t1⟩, ⟨p0, by omega⟩, fun a => ⟨fun b => ⟨fun c => ?_, fun c => ?_⟩, fun b => ?_⟩, fun a => ⟨fun b => ⟨fun c => ?_, fun c => ?_⟩, fun b => ?_⟩⟩
  · exact ⟨fs_r1 (by simp only [decide_eq_true_eq]; omega), rfl⟩
  · rw [hm (by omega)]
    exact ⟨⟨by omega, by omega⟩, ⟨by omega, by omega⟩, fun d => ⟨fs_r0 (by simp only [decide_eq_true_eq]; omega), rfl⟩, fun d => ⟨fs_r1 (by simp only [decide_eq_true_eq]; omega), rfl⟩⟩
  · exact ⟨fs_r0 (by simp only [decide_eq_true_eq]; omega), rfl⟩
  · exact ⟨fs_r1 (by simp only [decide_eq_true_eq]; omega), rfl⟩
  · rw [hm (by omega)]
    exact ⟨⟨by omega, by omega⟩, ⟨by omega, by omega⟩, fun d => ⟨fs_r0 (by simp only [decide_eq_true_eq]; omega), rfl⟩, fun d => ⟨fs_r1 (by simp only [decide_eq_true_eq]; omega), rfl⟩⟩
  · exact ⟨fs_r0 (by simp only [decide_eq_true_eq]; omega), rfl⟩
theorem fs_cnt_p (ho : fs_ok S) (hd : fs_drawn σ l S W) {t p g : Int} (t0 : 0 ≤ t) (t1 : t < 8) (p0 : 0 ≤ p) (p1 : p < σ 36 l 8) : fs_cnt (fs_beg (fs_is S W t) g) (σ 37 l (p + 1)).toNat = fs_cnt (fs_beg (fs_is S W t) g) (σ 37 l p).toNat + fs_b (fs_beg (fs_is S W t) g (σ 37 l p)) := by
  obtain ⟨hn, h0, hN, hp, ha, hv, hc, hl⟩ := fs_dr_p ho hd
  have := hp p p0 p1
  exact fs_cnt_z this.1 this.2.1 (fs_beg_p ho hd t0 t1 p0 p1)
theorem c75 (ho : fs_ok S) (hd : fs_drawn σ l S W) {t g : Int} (t0 : 0 ≤ t) (t1 : t < 8) : fx_Rt 75 [(36, l), (0, t), (0, g)] σ (0, fs_cnt (fs_beg (fs_is S W t) g) 1000) σ := by
  obtain ⟨hn, h0, hN, hp, ha, hv, hc, hl⟩ := fs_dr_p ho hd
  have m : fx_Wp 75 5 [(36, l), (0, t), (0, g), (0, fs_cnt (fs_beg (fs_is S W t) g) (σ 37 l 0).toNat), (0, 0)] [] σ (fun v τ => v = (0, fs_cnt (fs_beg (fs_is S W t) g) 1000) ∧ τ = σ) := by
    refine fx_for (fun p => [(36, l), (0, t), (0, g), (0, fs_cnt (fs_beg (fs_is S W t) g) (σ 37 l p).toNat), (0, p)]) (fun _ => σ) 0 (σ 36 l 8) (fun _ => True) (by omega) trivial ?_ ?_
    · intro p p0 p1 _ ih
      have ih := ih trivial
      rw [fs_cnt_p ho hd t0 t1 p0 p1] at ih
      have hb := fs_cnt_b (fs_beg (fs_is S W t) g) (σ 37 l p) (hp p p0 p1).1
      have hpp := hp p p0 p1
      refine t75_5 ⟨fun a => by omega, fun a => (c74 ho hd t0 t1 p0 p1).I ⟨fun b => ⟨⟨by omega, by omega⟩, ?_⟩, fun b => ⟨⟨by omega, by omega⟩, ⟨by omega, by omega⟩, ?_⟩⟩⟩
      · rw [b, Int.add_zero] at ih; exact ih
      · rw [fs_bT (fs_b1.mp b)] at ih; exact ih
    · intro _
      refine t75_5 ⟨fun a => ⟨?_, rfl⟩, fun a => by omega⟩
      rw [hN]; rfl
  rw [h0] at m
  exact t75_0 m
theorem c76 (ho : fs_ok S) (hd : fs_drawn σ l S W) : fx_Rt 76 [(36, l)] σ (0, fs_sum (fun t => fs_cnt (fs_beg (fs_is S W t) 0) 1000) 8) σ := by
  refine t76_0 (fx_for (fun t => [(36, l), (0, fs_sum (fun t => fs_cnt (fs_beg (fs_is S W t) 0) 1000) t.toNat), (0, t)]) (fun _ => σ) 0 8 (fun _ => True) (by omega) trivial ?_ ?_)
  · intro t t0 t1 _ ih
    have ih := ih trivial
    rw [fs_sum_s _ t0] at ih
    have hb := fs_sum_r (f := fun t => fs_cnt (fs_beg (fs_is S W t) 0) 1000) (M := 1000) (fun x => by have := fs_cnt_le (fs_beg (fs_is S W x) 0) 1000; omega) t.toNat
    have hb2 := fs_cnt_le (fs_beg (fs_is S W t) 0) 1000
    refine t76_4 ⟨fun a => by omega, fun a => (c75 ho hd t0 t1).I ⟨⟨by omega, by omega⟩, ⟨by omega, by omega⟩, ih⟩⟩
  · intro _
    exact t76_4 ⟨fun a => ⟨rfl, rfl⟩, fun a => by omega⟩
theorem c77 (ho : fs_ok S) (hd : fs_drawn σ l S W) {t k g : Int} (t0 : 0 ≤ t) (t1 : t < 8) : fx_Ca 77 [(36, l), (0, t), (0, k), (0, g)] σ (fun v τ => ∃ e, v = (0, e) ∧ τ = σ ∧ ((e = -1 ∧ fs_row 1000 (fs_beg (fs_is S W t) g) k = -1) ∨ (0 ≤ e ∧ e < σ 36 l 8 ∧ fs_row 1000 (fs_beg (fs_is S W t) g) k = σ 37 l e))) := by
  obtain ⟨hn, h0, hN, hp, ha, hv, hc, hl⟩ := fs_dr_p ho hd
  have m : fx_Wp 77 6 [(36, l), (0, t), (0, k), (0, g), (0, fs_cnt (fs_beg (fs_is S W t) g) (σ 37 l 0).toNat), (0, 0)] [] σ (fun v τ => ∃ e, v = (0, e) ∧ τ = σ ∧ ((e = -1 ∧ fs_row 1000 (fs_beg (fs_is S W t) g) k = -1) ∨ (0 ≤ e ∧ e < σ 36 l 8 ∧ fs_row 1000 (fs_beg (fs_is S W t) g) k = σ 37 l e))) := by
    refine fx_for (fun p => [(36, l), (0, t), (0, k), (0, g), (0, fs_cnt (fs_beg (fs_is S W t) g) (σ 37 l p).toNat), (0, p)]) (fun _ => σ) 0 (σ 36 l 8) (fun p => ∀ x, 0 ≤ x → x < σ 37 l p → fs_beg (fs_is S W t) g x = true → fs_cnt (fs_beg (fs_is S W t) g) x.toNat ≠ k) (by omega) (fun x x0 x1 => by rw [h0] at x1; omega) ?_ ?_
    · intro p p0 p1 hI ih
      have hb := fs_cnt_b (fs_beg (fs_is S W t) g) (σ 37 l p) (hp p p0 p1).1
      have hpp := hp p p0 p1
      have hno := fs_beg_p ho hd (g := g) t0 t1 p0 p1
      have ih : (fs_beg (fs_is S W t) g (σ 37 l p) = true → fs_cnt (fs_beg (fs_is S W t) g) (σ 37 l p).toNat ≠ k) → _ := fun h => ih (fun x x0 x1 hx => by
        by_cases c : x < σ 37 l p
        · exact hI x x0 c hx
        · by_cases e : x = σ 37 l p
          · rw [e] at hx ⊢; exact h hx
          · rw [hno x (by omega) x1] at hx; cases hx)
      rw [fs_cnt_p ho hd t0 t1 p0 p1] at ih
      refine t77_6 ⟨fun a => by omega, fun a => (c74 ho hd t0 t1 p0 p1).I ⟨fun b => ⟨⟨by omega, by omega⟩, ?_⟩, fun b => ⟨fun c => ⟨⟨by omega, by omega⟩, ⟨by omega, by omega⟩, ?_⟩, fun c => ?_⟩⟩⟩
      · have ih := ih (fun h => by rw [fs_b0.mp b] at h; cases h)
        rw [b, Int.add_zero] at ih; exact ih
      · have ih := ih (fun _ => c)
        rw [fs_bT (fs_b1.mp b)] at ih; exact ih
      · exact ⟨p, rfl, rfl, Or.inr ⟨p0, p1, fs_row_u (Or.inr ⟨hpp.1, by omega, fs_b1.mp b, c⟩)⟩⟩
    · intro hI
      refine t77_6 ⟨fun a => ⟨-1, rfl, rfl, Or.inl ⟨rfl, fs_row_u (Or.inl ⟨rfl, ?_⟩)⟩⟩, fun a => by omega⟩
      rw [hN] at hI; exact hI
  rw [h0] at m
  exact t77_0 m
theorem c78 (ho : fs_ok S) (hd : fs_drawn σ l S W) {t g : Int} (t0 : 0 ≤ t) (t1 : t < 8) : fx_Rt 78 [(36, l), (0, t), (0, g)] σ (0, (fs_lg (fs_is S W t) g 1000).1) σ := by
  obtain ⟨hn, h0, hN, hp, ha, hv, hc, hl⟩ := fs_dr_p ho hd
  have m : ∀ w : fx_V, fx_Wp 78 11 [(36, l), (0, t), (0, g), (0, (fs_lg (fs_is S W t) g (σ 37 l 0).toNat).1), (0, (fs_lg (fs_is S W t) g (σ 37 l 0).toNat).2), (0, fs_cnt (fs_beg (fs_is S W t) g) (σ 37 l 0).toNat), (0, 0), w] [] σ (fun v τ => v = (0, (fs_lg (fs_is S W t) g 1000).1) ∧ τ = σ) := by
    intro w
    refine fx_whl (X := Int × fx_V) (fun x => [(36, l), (0, t), (0, g), (0, (fs_lg (fs_is S W t) g (σ 37 l x.1).toNat).1), (0, (fs_lg (fs_is S W t) g (σ 37 l x.1).toNat).2), (0, fs_cnt (fs_beg (fs_is S W t) g) (σ 37 l x.1).toNat), (0, x.1), x.2]) (fun _ => σ) (fun x => 0 ≤ x.1 ∧ x.1 ≤ σ 36 l 8) (fun x => (σ 36 l 8 - x.1).toNat) ?_ (0, w) ⟨by simp, by simp only; omega⟩
    clear w
    rintro ⟨p, w⟩ ⟨p0, p1⟩ ih
    simp only at p0 p1
    have ih : ∀ (w : fx_V) (A B C : Int), p < σ 36 l 8 → (fs_lg (fs_is S W t) g (σ 37 l (p + 1)).toNat) = (A, B) → fs_cnt (fs_beg (fs_is S W t) g) (σ 37 l (p + 1)).toNat = C → fx_Wp 78 11 [(36, l), (0, t), (0, g), (0, A), (0, B), (0, C), (0, p + 1), w] [] σ (fun v τ => v = (0, (fs_lg (fs_is S W t) g 1000).1) ∧ τ = σ) := by
      intro w A B C hk h1 h2
      have := ih (p + 1, w) ⟨by simp only; omega, by simp only; omega⟩ (by simp only; omega)
      simp only at this
      rw [h1, h2] at this
      exact this
    show fx_Wp 78 11 [(36, l), (0, t), (0, g), (0, (fs_lg (fs_is S W t) g (σ 37 l p).toNat).1), (0, (fs_lg (fs_is S W t) g (σ 37 l p).toNat).2), (0, fs_cnt (fs_beg (fs_is S W t) g) (σ 37 l p).toNat), (0, p), w] [] σ _
    refine t78_11 ⟨fun a => ⟨?_, rfl⟩, fun a => (c74 ho hd t0 t1 p0 a).I ?_⟩
    · have e : p = σ 36 l 8 := by omega
      rw [e, hN]; rfl
    have hpp := hp p p0 a
    have hb := fs_cnt_b (fs_beg (fs_is S W t) g) (σ 37 l p) hpp.1
    have hz := fs_lg_z (v := fs_is S W t) (g := g) hpp.1 hpp.2.1 (fs_beg_p ho hd t0 t1 p0 a)
    rw [fs_lg_s hpp.1] at hz
    have hcp := fs_cnt_p ho hd (g := g) t0 t1 p0 a
    refine ⟨fun b => ⟨⟨by omega, by omega⟩, ih _ _ _ _ a ?_ ?_⟩, fun b => fx_CI_e (c71 ho hd t0 t1 p0 a) ?_⟩
    · rw [hz, fs_b0.mp b, Bool.false_and]; simp
    · rw [hcp, b, Int.add_zero]
    · rintro e ⟨h1, h2, h3⟩
      have hend := fs_end_u h3
      have hle := hl p e p0 h1 h2
      have hle2 := h3.2.1
      rw [fs_b1.mp b, Bool.true_and, hend] at hz
      rw [fs_bT (fs_b1.mp b)] at hcp
      refine ⟨⟨by omega, by omega⟩, ⟨by omega, by omega⟩, ⟨by omega, by omega⟩, fun d => ⟨⟨by omega, by omega⟩, ⟨by omega, by omega⟩, ih _ _ _ _ a ?_ hcp⟩, fun d => ⟨⟨by omega, by omega⟩, ⟨by omega, by omega⟩, ih _ _ _ _ a ?_ hcp⟩⟩
      · rw [hz, decide_eq_false (by omega)]; simp
      · rw [hz, decide_eq_true d]; rfl
  have m := m (3, 0)
  rw [h0] at m
  exact t78_0 m
theorem c79 (ho : fs_ok S) (hd : fs_drawn σ l S W) {t x a : Int} (t0 : 0 ≤ t) (t1 : t < 8) (x0 : 0 ≤ x) (x1 : x < 1000) : fx_Rt 79 [(36, l), (0, t), (0, x), (0, a)] σ (0, fs_fst (fun y => decide (fs_is S W t y = a)) x) σ := by
  obtain ⟨hn, h0, hN, hp, ha, hv, hc, hl⟩ := fs_dr_p ho hd
  have e8 : 8 * l + 0 + t = 8 * l + t := by omega
  have hx := ha x x0 x1
  have hxe := hc t _ x t0 t1 hx.1 hx.2.1 hx.2.2.1 hx.2.2.2
  refine t79_0 ⟨⟨x0, by omega⟩, ⟨t0, t1⟩, ⟨hx.1, by omega⟩, ?_⟩
  rw [e8, hv t _ t0 t1 hx.1 hx.2.1]
  refine ⟨fun b => ⟨⟨by omega, by omega⟩, ?_⟩, fun b => ⟨?_, rfl⟩⟩
  · generalize hP : σ 38 l x = P at hx hxe b
    refine fx_for (fun k => [(36, l), (0, t), (0, x), (0, a), (0, P), (0, k)]) (fun _ => σ) (P + 1) (σ 36 l 8) (fun k => ∀ y, x ≤ y → y < σ 37 l k → fs_is S W t y ≠ a) (by omega) (fun y y0 y1 => by rw [hc t P y t0 t1 hx.1 hx.2.1 (by omega) y1]; exact b) ?_ ?_
    · intro k k0 k1 hI ih
      have hpk := hp k (by omega) k1
      have hlk : σ 37 l (P + 1) ≤ σ 37 l k := by
        by_cases g : P + 1 = k
        · rw [g]; exact Int.le_refl _
        · have := hl (P + 1) k (by omega) (by omega) (by omega); omega
      refine t79_29 ⟨fun a => by omega, fun a => ⟨⟨t0, t1⟩, ⟨by omega, by omega⟩, ?_⟩⟩
      rw [e8, hv t k t0 t1 (by omega) k1]
      refine ⟨fun c => ⟨⟨by omega, by omega⟩, ih (fun y y0 y1 => ?_)⟩, fun c => ⟨⟨by omega, by omega⟩, ?_, rfl⟩⟩
      · by_cases g : y < σ 37 l k
        · exact hI y y0 g
        · rw [hc t k y t0 t1 (by omega) k1 (by omega) y1]; exact c
      · rw [fs_fst_u (Or.inr ⟨by omega, by omega, decide_eq_true c, fun y y0 y1 => decide_eq_false (hI y y0 y1)⟩)]
    · intro hI
      refine t79_29 ⟨fun a => ⟨?_, rfl⟩, fun a => by omega⟩
      rw [hN] at hI
      rw [fs_fst_u (Or.inl ⟨rfl, fun y y0 y1 => decide_eq_false (hI y y0 y1)⟩)]
  · rw [fs_fst_u (r := x) (Or.inr ⟨Int.le_refl _, x1, decide_eq_true (by rw [hxe]; exact b), fun y y0 y1 => by omega⟩)]
theorem c80 (ho : fs_ok S) (hd : fs_drawn σ l S W) {t x : Int} (t0 : 0 ≤ t) (t1 : t < 8) (x0 : 0 ≤ x) (x1 : x < 1000) : fx_Rt 80 [(36, l), (0, t), (0, x)] σ (0, fs_near (fs_is S W t) x) σ := by
  refine t80_0 ((c68v ho hd t0 t1 x0 x1).I ⟨fun a => fx_CI_e (c72 ho hd t0 t1 x0 x1) ?_, fun a => ⟨?_, rfl⟩⟩)
  · rintro b ⟨b0, b1, b2, b3⟩
    refine ⟨⟨by omega, by omega⟩, fx_CI_e (c73 ho hd t0 t1 x0 x1) ?_⟩
    rintro e ⟨e0, e1, e2, e3⟩
    have hin : ∀ y, b ≤ y → y < e → fs_is S W t y = -1 := by
      intro y y0 y1
      by_cases g : y ≤ x
      · rw [b2 y y0 g]; exact a
      · rw [e2 y (by omega) y1]; exact a
    have hbm : b ≠ 0 → fs_is S W t (b - 1) ≠ -1 := fun h => by
      rcases b3 with b3 | b3
      · exact absurd b3 h
      · rw [a] at b3; exact b3
    have hem : e ≠ 1000 → fs_is S W t e ≠ -1 := fun h => by
      rcases e3 with e3 | e3
      · exact absurd e3 h
      · rw [a] at e3; exact e3
    have hout : ∀ y, fs_is S W t y ≠ -1 → y < b ∨ e ≤ y := by
      intro y hy
      apply Classical.byContradiction
      intro hh
      exact hy (hin y (by omega) (by omega))
    have near : ∀ r : Int, 0 ≤ r → r < 1000 → fs_is S W t r ≠ -1 → (∀ y, 0 ≤ y → y < 1000 → (y < b ∨ e ≤ y) → (if r ≤ x then x - r else r - x) ≤ (if y ≤ x then x - y else y - x) ∧ ((if r ≤ x then x - r else r - x) = (if y ≤ x then x - y else y - x) → r ≤ y)) → (0, r) = ((0, fs_near (fs_is S W t) x) : fx_V) := by
      intro r r0 r1 r2 h
      rw [fs_near_u (Or.inr ⟨r0, r1, r2, fun y y0 y1 hy => h y y0 y1 (hout y hy)⟩)]
    refine ⟨fun c => ⟨fun d => ⟨?_, rfl⟩, fun d => ⟨⟨by omega, by omega⟩, ⟨by omega, by omega⟩, fun f => ⟨?_, rfl⟩, fun f => ⟨?_, rfl⟩⟩⟩, fun c => ⟨?_, rfl⟩⟩
    · exact near e (by omega) (by omega) (hem c) (fun y y0 y1 hy => by omega)
    · exact near e (by omega) (by omega) (hem c) (fun y y0 y1 hy => by omega)
    · exact near (b - 1) (by omega) (by omega) (hbm (by omega)) (fun y y0 y1 hy => by omega)
    · by_cases d : b = 0
      · rw [fs_near_u (r := -1) (Or.inl ⟨rfl, fun y y0 y1 => hin y (by omega) (by omega)⟩), show b - 1 = -1 by omega]
      · exact near (b - 1) (by omega) (by omega) (hbm d) (fun y y0 y1 hy => by omega)
  · rw [fs_near_u (r := x) (Or.inr ⟨x0, x1, a, fun y y0 y1 _ => by omega⟩)]
theorem c81 (ho : fs_ok S) (hd : fs_drawn σ l S W) {t x : Int} (t0 : 0 ≤ t) (t1 : t < 8) (x0 : 0 ≤ x) (x1 : x < 1000) : fx_Rt 81 [(36, l), (0, t), (0, x)] σ (0, fs_fst (fun y => decide (fs_is S W t y ≠ -1) && decide (fs_is S W t y ≠ fs_is S W t (y - 1))) (x + 1)) σ := by
  obtain ⟨hn, h0, hN, hp, ha, hv, hc, hl⟩ := fs_dr_p ho hd
  have e8 : 8 * l + 0 + t = 8 * l + t := by omega
  have hx := ha x x0 x1
  refine t81_0 ⟨⟨x0, by omega⟩, fx_CI_e (c71 ho hd t0 t1 hx.1 hx.2.1) ?_⟩
  rintro e ⟨h1, h2, h3⟩
  have h4 := fs_end_at ho hd t0 t1 x0 x1 h1 h2 h3
  obtain ⟨i1, i2, i3, i4⟩ := h4
  refine fx_for (fun k => [(36, l), (0, t), (0, x), (0, k)]) (fun _ => σ) e (σ 36 l 8) (fun k => (∀ y, x + 1 ≤ y → y < σ 37 l k → (decide (fs_is S W t y ≠ -1) && decide (fs_is S W t y ≠ fs_is S W t (y - 1))) = false) ∧ (k < σ 36 l 8 → fs_is S W t (σ 37 l k) ≠ -1 → fs_is S W t (σ 37 l k) ≠ fs_is S W t (σ 37 l k - 1)) ∧ x < σ 37 l k) h2 ⟨fun y y0 y1 => ?_, fun k1 _ => ?_, i1⟩ ?_ ?_
  · rw [i3 y (by omega) y1, i3 (y - 1) (by omega) (by omega)]; simp
  · rcases i4 with i4 | i4
    · have := hl e _ (by omega) k1 (Int.le_refl _); omega
    · rw [i3 (σ 37 l e - 1) (by omega) (by omega)]; exact i4
  · rintro k k0 k1 ⟨hI, hJ, hK⟩ ih
    have hpk := hp k (by omega) k1
    refine t81_12 ⟨fun a => by omega, fun a => ⟨⟨t0, t1⟩, ⟨by omega, by omega⟩, ?_⟩⟩
    rw [e8, hv t k t0 t1 (by omega) k1]
    refine ⟨fun c => ⟨⟨by omega, by omega⟩, ih ⟨fun y y0 y1 => ?_, fun k2 g => ?_, by omega⟩⟩, fun c => ⟨⟨by omega, by omega⟩, ?_, rfl⟩⟩
    · by_cases g : y < σ 37 l k
      · exact hI y y0 g
      · rw [hc t k y t0 t1 (by omega) k1 (by omega) y1, c]; simp
    · rw [hc t k (σ 37 l (k + 1) - 1) t0 t1 (by omega) k1 (by omega) (by omega), c]; exact g
    · rw [fs_fst_u (Or.inr ⟨by omega, by omega, by rw [decide_eq_true c, decide_eq_true (hJ k1 c)]; rfl, hI⟩)]
  · rintro ⟨hI, hJ, hK⟩
    refine t81_12 ⟨fun a => ⟨?_, rfl⟩, fun a => by omega⟩
    rw [hN] at hI
    rw [fs_fst_u (Or.inl ⟨rfl, hI⟩)]
end FXA
