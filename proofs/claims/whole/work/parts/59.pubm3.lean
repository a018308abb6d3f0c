/-- times of a span, below n -/
theorem fs_spn_t {lo hi : Int} (h0 : 0 ≤ lo) : ∀ n : Nat, fs_sum (fun t => fs_b (decide (lo ≤ t) && decide (t < hi))) n = if lo < hi ∧ lo < n then (if (n : Int) ≤ hi then n - lo else hi - lo) else 0
  | 0 => by
    rw [if_neg (by omega)]; rfl
  | n + 1 => by
    rw [fs_sum, fs_spn_t h0 n]
    by_cases h : lo ≤ n ∧ (n : Int) < hi
    · rw [decide_eq_true h.1, decide_eq_true h.2]
      have e1 : fs_b (true && true) = 1 := rfl
      rw [e1, if_pos (show lo < hi ∧ lo < ((n + 1 : Nat) : Int) by omega), if_pos (show ((n + 1 : Nat) : Int) ≤ hi by omega)]
      by_cases g : lo < hi ∧ lo < (n : Int)
      · rw [if_pos g, if_pos (by omega)]; omega
      · rw [if_neg g]; omega
    · have e : (decide (lo ≤ (n : Int)) && decide ((n : Int) < hi)) = false := by
        rw [Bool.and_eq_false_iff, decide_eq_false_iff_not, decide_eq_false_iff_not]; omega
      have e0 : fs_b false = 0 := rfl
      rw [e, e0, Int.add_zero]
      by_cases g : lo < hi ∧ lo < (n : Int)
      · rw [if_pos g, if_pos (show lo < hi ∧ lo < ((n + 1 : Nat) : Int) by omega), if_neg (show ¬ ((n + 1 : Nat) : Int) ≤ hi by omega)]
        by_cases g2 : (n : Int) ≤ hi
        · rw [if_pos g2]; omega
        · rw [if_neg g2]
      · rw [if_neg g, if_neg (by omega)]
section FXM2
variable {σ τ S : fx_S} {o : Int}
theorem m242 (h : fs_mp o σ S) {t w : Int} : fx_Ca 242 [(46, o), (0, t), (0, w)] σ (fs_mq o σ (fs_c2 (fs_in 8 t) (fs_in 7 w)) (fs_athing S t w)) := by
  by_cases ht : fs_in 8 t
  · by_cases hw : fs_in 7 w
    · have hc := fs_c2y (p := fs_in 8 t) (q := fs_in 7 w) ht hw
      have hu := h.u (e := 0)
      have hok : fs_ok (fs_m (fx_up σ 46 o 0 0) 47 0) := by rw [hu.2.1]; exact h.1
      have ha : fs_athing S t w = if w = 0 then fs_nof S 3 t else if w = 1 then fs_both (fs_is S fs_W1 t) (fs_is S fs_W1 t) else if w = 2 then fs_sum (fun x => fs_b (fs_disp S t x)) 1000 else if w = 3 then fs_sum (fun x => if fs_is S fs_W1 t x = -1 then 0 else fs_is S fs_W1 t x) 1000 else if w = 4 then (if 0 < S 9 t 0 then S 10 t 0 else -1) else if w = 5 then fs_bit S t (S 9 t 0).toNat else (fs_md (fs_is S fs_W1 t) 100).1 := rfl
      have c39 := fun m => c239 (σ := fx_up σ 46 o 0 0) (o := o) hok hu.2.2 ht.1 ht.2 (m := m)
      have c40 := c240 (σ := fx_up σ 46 o 0 0) (o := o) hok hu.2.2 ht.1 ht.2
      have c38 := c238 (σ := fx_up σ 46 o 0 0) (o := o) hok hu.2.2 (t := t)
      have c41 := c241 (σ := fx_up σ 46 o 0 0) (o := o) hok ht.1 ht.2
      have c62 := c162 (σ := fx_up σ 46 o 0 0) (o := o) ht.1 ht.2
      have c60 := c160a (σ := fx_up σ 46 o 0 0) (o := o) ht.1 ht.2
      rw [hu.2.1] at c40 c38 c41 c62 c60
      simp only [hu.2.1] at c39
      refine t242_0 ((m154y ht).I ⟨fun _ => (m149y ⟨hw.1, by omega⟩).I ⟨fun _ => ⟨fun w0 => (m209 hu).1.I (fs_mqs hc (by rw [ha, if_pos w0]) fs_sc.rfl), fun w0 => ⟨fun w1 => fx_CI_of (c39 1) ?_, fun w1 => ⟨fun w2 => c38.I (fs_mqs hc (by rw [ha, if_neg w0, if_neg w1, if_pos w2]) fs_sc.rfl), fun w2 => ⟨fun w3 => fx_CI_of (c39 0) ?_, fun w3 => ⟨fun w4 => c62.I ⟨fun d => ?_, fun d => ?_⟩, fun w4 => ⟨fun w5 => c41.I (fs_mqs hc (by rw [ha, if_neg w0, if_neg w1, if_neg w2, if_neg w3, if_neg w4, if_pos w5]) fs_sc.rfl), fun w5 => fx_CI_of c40 ?_⟩⟩⟩⟩⟩⟩, fun a => absurd a (by decide)⟩, fun a => absurd a (by decide)⟩)
      · rintro v τ ⟨rfl, g1⟩
        exact Or.inl ⟨rfl, fs_mqs hc (by rw [ha, if_neg w0, if_pos w1]; rfl) g1⟩
      · rintro v τ ⟨rfl, g1⟩
        exact Or.inl ⟨rfl, fs_mqs hc (by rw [ha, if_neg w0, if_neg w1, if_neg w2, if_pos w3]; rfl) g1⟩
      · rw [fs_b0, decide_eq_false_iff_not] at d
        exact fs_mqs hc (by rw [ha, if_neg w0, if_neg w1, if_neg w2, if_neg w3, if_pos w4, if_neg d]) fs_sc.rfl
      · rw [fs_b1, decide_eq_true_eq] at d
        exact c60.I (fs_mqs hc (by rw [ha, if_neg w0, if_neg w1, if_neg w2, if_neg w3, if_pos w4, if_pos d]) fs_sc.rfl)
      · rintro v τ ⟨rfl, g1⟩
        exact Or.inl ⟨rfl, fs_mqs hc (by rw [ha, if_neg w0, if_neg w1, if_neg w2, if_neg w3, if_neg w4, if_neg w5]) g1⟩
    · exact t242_0 ((m154y ht).I ⟨fun _ => (m149n (fun e => hw ⟨e.1, by omega⟩)).I ⟨fun a => absurd rfl a, fun _ => fs_mq1 (fs_c2m ht hw) (by decide)⟩, fun a => absurd a (by decide)⟩)
  · exact t242_0 ((m154n ht).I ⟨fun a => absurd rfl a, fun _ => fs_mq1 (fs_c2n ht) (by decide)⟩)
theorem m243 (h : fs_mp o σ S) {t a : Int} : fx_Ca 243 [(46, o), (0, t), (0, a)] σ (fs_mq o σ (fs_c2 (fs_in 8 t) (fs_in 100 a)) (fs_oft (fs_is S fs_W1 t) a)) := by
  by_cases ht : fs_in 8 t
  · by_cases hw : fs_in 100 a
    · have hc := fs_c2y (p := fs_in 8 t) (q := fs_in 100 a) ht hw
      refine t243_0 ((m154y ht).I ⟨fun _ => (m149y ⟨hw.1, by omega⟩).I ⟨fun _ => fx_CV_of (m166 h.u ht) ?_, fun e => absurd e (by decide)⟩, fun e => absurd e (by decide)⟩)
      rintro v τ ⟨rfl, s1, -, hv⟩
      refine Or.inl ⟨rfl, ?_⟩
      unfold fs_oft
      generalize fs_is S fs_W1 t = v at hv
      refine fx_for (fun x => [(46, o), (0, t), (0, a), (0, fs_sum (fun x => fs_b (decide (v x = a))) x.toNat), (0, x)]) (fun _ => τ) 0 1000 (fun _ => True) (by omega) trivial ?_ ?_
      · intro x x0 x1 _ ih
        have ih := ih trivial
        rw [fs_sum_s _ x0] at ih
        have hb := fs_sum_b (P := fun x => decide (v x = a)) x x0
        refine t243_53 ⟨fun c => by omega, fun c => ⟨⟨x0, c⟩, ?_⟩⟩
        rw [hv x x0 c]
        refine ⟨fun d => ⟨⟨by omega, by omega⟩, ⟨by omega, by omega⟩, ?_⟩, fun d => ⟨⟨by omega, by omega⟩, ⟨by omega, by omega⟩, ?_⟩⟩
        · rw [decide_eq_false d] at ih; exact ih
        · rw [decide_eq_true d] at ih; exact ih
      · intro _
        exact t243_53 ⟨fun c => fs_mqs hc rfl s1, fun c => by omega⟩
    · exact t243_0 ((m154y ht).I ⟨fun _ => (m149n (fun e => hw ⟨e.1, by omega⟩)).I ⟨fun e => absurd rfl e, fun _ => fs_mq1 (fs_c2m ht hw) (by decide)⟩, fun e => absurd e (by decide)⟩)
  · exact t243_0 ((m154n ht).I ⟨fun e => absurd rfl e, fun _ => fs_mq1 (fs_c2n ht) (by decide)⟩)
theorem m244 (h : fs_mp o σ S) {t x : Int} : fx_Ca 244 [(46, o), (0, t), (0, x)] σ (fs_mq o σ (fs_c1 (fs_pl t x)) (fs_near (fs_is S fs_W1 t) x)) := by
  by_cases ht : fs_in 8 t
  · by_cases hx : fs_in 1000 x
    · have hc := fs_c1y (p := fs_pl t x) ⟨ht, hx⟩
      refine t244_0 ((m154y ht).I ⟨fun a => absurd a (by decide), fun _ => (m155y hx).I ⟨fun a => absurd a (by decide), fun _ => fx_CV_of (m166 h.u ht) ?_⟩⟩)
      rintro v τ ⟨rfl, s1, -, hv⟩
      refine Or.inl ⟨rfl, ?_⟩
      generalize fs_is S fs_W1 t = v at hv
      refine fx_for (fun b => [(46, o), (0, t), (0, x), (0, b)]) (fun _ => τ) 0 1000 (fun b => ∀ y, 0 ≤ y → y < 1000 → (if y ≤ x then x - y else y - x) < b → v y = -1) (by omega) (fun y y0 y1 y2 => by omega) ?_ ?_
      · intro b b0 b1 hI ih
        have near : ∀ r : Int, 0 ≤ r → r < 1000 → v r ≠ -1 → (if r ≤ x then x - r else r - x) = b → (∀ y, 0 ≤ y → y < r → (if y ≤ x then x - y else y - x) = b → v y = -1) → fs_mq o σ (fs_c1 (fs_pl t x)) (fs_near v x) (0, r) τ := by
          intro r r0 r1 r2 r3 r4
          refine fs_mqs hc (fs_near_u (Or.inr ⟨r0, r1, r2, fun y y0 y1 hy => ?_⟩)).symm s1
          have q1 : ¬ (if y ≤ x then x - y else y - x) < b := fun q => hy (hI y y0 y1 q)
          refine ⟨by omega, fun e => ?_⟩
          apply Classical.byContradiction
          intro q2
          exact hy (r4 y y0 (by omega) (by omega))
        have step : (x - b < 0 ∨ v (x - b) = -1) → fx_Wp 244 72 [(46, o), (0, t), (0, x), (0, b)] [] τ (fs_mq o σ (fs_c1 (fs_pl t x)) (fs_near v x)) := by
          intro hl
          have nxt : (1000 ≤ x + b ∨ v (x + b) = -1) → fx_Wp 244 43 [(46, o), (0, t), (0, x), (0, b + 1)] [] τ (fs_mq o σ (fs_c1 (fs_pl t x)) (fs_near v x)) := by
            intro hr
            refine ih (fun y y0 y1 y2 => ?_)
            by_cases e : (if y ≤ x then x - y else y - x) < b
            · exact hI y y0 y1 e
            · by_cases e2 : y ≤ x
              · rw [if_pos e2] at y2 e
                have : y = x - b := by omega
                rw [this]
                rcases hl with hl | hl
                · omega
                · exact hl
              · rw [if_neg e2] at y2 e
                have : y = x + b := by omega
                rw [this]
                rcases hr with hr | hr
                · omega
                · exact hr
          refine t244_72 ⟨⟨by omega, by omega⟩, fun c => ⟨⟨by omega, by omega⟩, nxt (Or.inl c)⟩, fun c => ⟨⟨by omega, by omega⟩, ?_⟩⟩
          rw [hv (x + b) (by omega) c]
          refine ⟨fun d => ⟨⟨by omega, by omega⟩, nxt (Or.inr d)⟩, fun d => near (x + b) (by omega) c d (by omega) (fun y y0 y1 y2 => ?_)⟩
          by_cases e2 : y ≤ x
          · rw [if_pos e2] at y2
            have : y = x - b := by omega
            rw [this]
            rcases hl with hl | hl
            · omega
            · exact hl
          · rw [if_neg e2] at y2; omega
        refine t244_43 ⟨fun c => by omega, fun c => ⟨⟨by omega, by omega⟩, fun d => step (Or.inl d), fun d => ⟨⟨by omega, by omega⟩, ?_⟩⟩⟩
        rw [hv (x - b) d (by omega)]
        refine ⟨fun e => step (Or.inr e), fun e => near (x - b) d (by omega) e (by omega) (fun y y0 y1 y2 => ?_)⟩
        rw [if_pos (by omega)] at y2; omega
      · intro hI
        exact t244_43 ⟨fun c => fs_mqs hc (fs_near_u (Or.inl ⟨rfl, fun y y0 y1 => hI y y0 y1 (by omega)⟩)).symm s1, fun c => by omega⟩
    · exact t244_0 ((m154y ht).I ⟨fun a => absurd a (by decide), fun _ => (m155n hx).I ⟨fun _ => fs_mq1 (fs_c1n (fun e => hx e.2)) (by decide), fun a => absurd rfl a⟩⟩)
  · exact t244_0 ((m154n ht).I ⟨fun _ => fs_mq1 (fs_c1n (fun e => ht e.1)) (by decide), fun a => absurd rfl a⟩)
theorem m245 (h : fs_mp o σ S) {f g : Int} : fx_Ca 245 [(46, o), (0, f), (0, g)] σ (fs_mq o σ (fs_c1 (fs_in (S 0 1 0) f ∧ fs_in (S 0 1 0) g)) (fs_shr S f g)) := by
  by_cases hf : fs_in (S 0 1 0) f
  · by_cases hg : fs_in (S 0 1 0) g
    · have hc := fs_c1y (p := fs_in (S 0 1 0) f ∧ fs_in (S 0 1 0) g) ⟨hf, hg⟩
      have hu := h.u (e := 0)
      obtain ⟨-, -, a2, a3, -⟩ := m151 hu hf
      obtain ⟨-, -, b2, b3, -⟩ := m151 hu hg
      have o1 := (h.1.2.2.2.1 f hf.1 hf.2).2.2.1
      have o2 := (h.1.2.2.2.1 g hg.1 hg.2).2.2.1
      have hlo : ∀ L, (if S 5 f 0 ≤ S 5 g 0 then S 5 g 0 else S 5 f 0) = L → 0 ≤ L ∧ L < 1000 ∧ S 5 f 0 ≤ L ∧ S 5 g 0 ≤ L ∧ (L = S 5 f 0 ∨ L = S 5 g 0) := by
        intro L hL
        split at hL <;> omega
      have hhi : ∀ H, (if S 6 f 0 ≤ S 6 g 0 then S 6 f 0 else S 6 g 0) = H → H ≤ 1000 ∧ H ≤ S 6 f 0 ∧ H ≤ S 6 g 0 ∧ (H = S 6 f 0 ∨ H = S 6 g 0) := by
        intro H hH
        split at hH <;> omega
      have hA : fs_shr S f g = fs_sum (fun t => fs_b ((decide (S 5 f 0 ≤ t) && decide (t ≤ S 6 f 0 - 1)) && (decide (S 5 g 0 ≤ t) && decide (t ≤ S 6 g 0 - 1)))) 1000 := by
        unfold fs_shr
        generalize hL : (if S 5 f 0 ≤ S 5 g 0 then S 5 g 0 else S 5 f 0) = L
        generalize hH : (if S 6 f 0 ≤ S 6 g 0 then S 6 f 0 else S 6 g 0) = H
        have l1 := hlo L hL
        have h1 := hhi H hH
        have e : fs_sum (fun t => fs_b ((decide (S 5 f 0 ≤ t) && decide (t ≤ S 6 f 0 - 1)) && (decide (S 5 g 0 ≤ t) && decide (t ≤ S 6 g 0 - 1)))) 1000 = fs_sum (fun t => fs_b (decide (L ≤ t) && decide (t < H))) 1000 := by
          refine fs_sum_c 1000 (fun k k0 k1 => fs_bi ?_)
          simp only [Bool.and_eq_true, decide_eq_true_eq]
          omega
        rw [e, fs_spn_t l1.1 1000]
        by_cases q : L < H
        · rw [if_pos (by omega), if_pos (by omega)]
          by_cases q2 : (1000 : Int) ≤ H
          · rw [if_pos (by omega)]; omega
          · rw [if_neg (by omega)]
        · rw [if_neg (show ¬ (L < H ∧ L < ((1000 : Nat) : Int)) by omega)]
          by_cases q2 : 0 ≤ H - L
          · rw [if_pos q2]; omega
          · rw [if_neg q2]
      rw [hA]
      clear hlo hhi hA
      generalize S 5 f 0 = a at *
      generalize S 6 f 0 = b at *
      generalize S 5 g 0 = c at *
      generalize S 6 g 0 = d at *
      refine t245_0 ((m153y h hf).I ⟨fun e => absurd e (by decide), fun _ => (m153y h hg).I ⟨fun e => absurd e (by decide), fun _ => ?_⟩⟩)
      refine fx_for (fun t => [(46, o), (0, f), (0, g), (0, fs_sum (fun t => fs_b ((decide (a ≤ t) && decide (t ≤ b - 1)) && (decide (c ≤ t) && decide (t ≤ d - 1)))) t.toNat), (0, t)]) (fun _ => fx_up σ 46 o 0 0) 0 1000 (fun _ => True) (by omega) trivial ?_ ?_
      · intro t t0 t1 _ ih
        have ih := ih trivial
        rw [fs_sum_s _ t0] at ih
        have hb := fs_sum_b (P := fun t => (decide (a ≤ t) && decide (t ≤ b - 1)) && (decide (c ≤ t) && decide (t ≤ d - 1))) t t0
        refine t245_39 ⟨fun q => by omega, fun q => a2.I (a3.I ⟨⟨by omega, by omega⟩, c149.I ⟨fun e => ⟨⟨by omega, by omega⟩, ⟨by omega, by omega⟩, ?_⟩, fun e => b2.I (b3.I ⟨⟨by omega, by omega⟩, c149.I ⟨fun z => ⟨⟨by omega, by omega⟩, ⟨by omega, by omega⟩, ?_⟩, fun z => ⟨⟨by omega, by omega⟩, ⟨by omega, by omega⟩, ?_⟩⟩⟩)⟩⟩)⟩
        · simp only [fs_b0.mp e, Bool.false_and] at ih; exact ih
        · simp only [fs_b0.mp z, Bool.and_false] at ih; exact ih
        · simp only [fs_b1.mp e, fs_b1.mp z, Bool.and_true] at ih; exact ih
      · intro _
        exact t245_39 ⟨fun q => fs_mqs hc rfl fs_sc.rfl, fun q => by omega⟩
    · exact t245_0 ((m153y h hf).I ⟨fun a => absurd a (by decide), fun _ => (m153n h hg).I ⟨fun _ => fs_mq1 (fs_c1n (fun e => hg e.2)) (by decide), fun a => absurd rfl a⟩⟩)
  · exact t245_0 ((m153n h hf).I ⟨fun _ => fs_mq1 (fs_c1n (fun e => hf e.1)) (by decide), fun a => absurd rfl a⟩)
theorem m246 (h : fs_mp o σ S) {t x : Int} : fx_Ca 246 [(46, o), (0, t), (0, x)] σ (fs_mq o σ (fs_c1 (fs_pl t x)) (fs_arest (fs_is S fs_W1 t) x)) := by
  by_cases ht : fs_in 8 t
  · by_cases hx : fs_in 1000 x
    · have hc := fs_c1y (p := fs_pl t x) ⟨ht, hx⟩
      refine t246_0 ((m154y ht).I ⟨fun a => absurd a (by decide), fun _ => (m155y hx).I ⟨fun a => absurd a (by decide), fun _ => fx_CV_of (m166 h.u ht) ?_⟩⟩)
      rintro v τ ⟨rfl, s1, -, hv⟩
      refine Or.inl ⟨rfl, ⟨by omega, by omega⟩, ?_⟩
      generalize fs_is S fs_W1 t = v at hv
      have hA : ∀ r, fs_isf (fun y => decide (v y ≠ -1) && decide (v y ≠ v (y - 1))) (x + 1) r → fs_arest v x = if r = -1 then -1 else r - x := by
        intro r hr
        unfold fs_arest fs_nxt
        rw [fs_fst_u hr]
      refine fx_for (fun y => [(46, o), (0, t), (0, x), (0, y)]) (fun _ => τ) (x + 1) 1000 (fun y => ∀ z, x + 1 ≤ z → z < y → (decide (v z ≠ -1) && decide (v z ≠ v (z - 1))) = false) (by omega) (fun z z0 z1 => by omega) ?_ ?_
      · intro y y0 y1 hI ih
        have ih : (decide (v y ≠ -1) && decide (v y ≠ v (y - 1))) = false → _ := fun hh => ih (fun z z0 z1 => by
          by_cases e : z = y
          · rw [e]; exact hh
          · exact hI z z0 (by omega))
        refine t246_45 ⟨fun c => by omega, fun c => ⟨⟨by omega, by omega⟩, ?_⟩⟩
        rw [hv y (by omega) c]
        refine ⟨fun d => ⟨⟨by omega, by omega⟩, ih (by rw [d]; simp)⟩, fun d => ⟨⟨by omega, by omega⟩, ⟨by omega, by omega⟩, ?_⟩⟩
        rw [hv (y - 1) (by omega) (by omega)]
        refine ⟨fun e => ⟨⟨by omega, by omega⟩, ih (by rw [e]; simp)⟩, fun e => ⟨⟨by omega, by omega⟩, fs_mqs hc ?_ s1⟩⟩
        rw [hA y (Or.inr ⟨y0, c, by show (decide (v y ≠ -1) && decide (v y ≠ v (y - 1))) = true; rw [decide_eq_true d, decide_eq_true e]; rfl, hI⟩), if_neg (by omega)]
      · intro hI
        exact t246_45 ⟨fun c => fs_mqs hc (by rw [hA (-1) (Or.inl ⟨rfl, hI⟩), if_pos rfl]) s1, fun c => by omega⟩
    · exact t246_0 ((m154y ht).I ⟨fun a => absurd a (by decide), fun _ => (m155n hx).I ⟨fun _ => fs_mq1 (fs_c1n (fun e => hx e.2)) (by decide), fun a => absurd rfl a⟩⟩)
  · exact t246_0 ((m154n ht).I ⟨fun _ => fs_mq1 (fs_c1n (fun e => ht e.1)) (by decide), fun a => absurd rfl a⟩)
theorem m247 (h : fs_mp o σ S) {f g : Int} : fx_Ca 247 [(46, o), (0, f), (0, g)] σ (fs_mq o σ (fs_c1 (fs_in (S 0 1 0) f ∧ fs_in (S 0 1 0) g)) (fs_b (fs_better S f g))) := by
  by_cases hf : fs_in (S 0 1 0) f
  · by_cases hg : fs_in (S 0 1 0) g
    · have hc := fs_c1y (p := fs_in (S 0 1 0) f ∧ fs_in (S 0 1 0) g) ⟨hf, hg⟩
      exact t247_0 ((m153y h hf).I ⟨fun a => absurd a (by decide), fun _ => (m153y h hg).I ⟨fun a => absurd a (by decide), fun _ => (m158 h.u hf hg).I ⟨fun b => fs_mqs hc b.symm fs_sc.rfl, fun b => fs_mqs hc (fs_bT (fs_b1.mp b)).symm fs_sc.rfl⟩⟩⟩)
    · exact t247_0 ((m153y h hf).I ⟨fun a => absurd a (by decide), fun _ => (m153n h hg).I ⟨fun _ => fs_mq1 (fs_c1n (fun e => hg e.2)) (by decide), fun a => absurd rfl a⟩⟩)
  · exact t247_0 ((m153n h hf).I ⟨fun _ => fs_mq1 (fs_c1n (fun e => hf e.1)) (by decide), fun a => absurd rfl a⟩)
theorem m248 (h : fs_mp o σ S) {t g : Int} : fx_Ca 248 [(46, o), (0, t), (0, g)] σ (fs_mq o σ (fs_c1 (fs_in 8 t)) (fs_lg (fs_is S fs_W1 t) g 1000).1) := by
  by_cases ht : fs_in 8 t
  · have hc := fs_c1y (p := fs_in 8 t) ht
    refine t248_0 ((m154y ht).I ⟨fun a => absurd a (by decide), fun _ => fx_CV_of (m166 h.u ht) ?_⟩)
    rintro v τ ⟨rfl, s1, -, hv⟩
    refine Or.inl ⟨rfl, ?_⟩
    generalize fs_is S fs_W1 t = v at hv
    refine fx_whl (X := Int) (fun x => [(46, o), (0, t), (0, g), (0, (fs_lg v g x.toNat).1), (0, (fs_lg v g x.toNat).2), (0, fs_cnt (fs_beg v g) x.toNat), (0, x)]) (fun _ => τ) (fun x => fs_edge v x) (fun x => (1000 - x).toNat) ?_ 0 fs_edge_0
    rintro x he ih
    have hcb := fs_cnt_b (fs_beg v g) x he.1
    refine t248_45 ⟨fun c => ?_, fun c => ⟨⟨he.1, c⟩, ?_⟩⟩
    · have e : x = 1000 := by have := he.2.1; omega
      exact fs_mqs hc (by rw [e]; rfl) s1
    · rw [hv x he.1 c]
      have hB := fs_edge_b (g := g) he c
      have ihe : ∀ e : Int, fs_ise v x e → ∀ A B C : Int, fs_lg v g e.toNat = (A, B) → fs_cnt (fs_beg v g) e.toNat = C → fx_Wp 248 45 [(46, o), (0, t), (0, g), (0, A), (0, B), (0, C), (0, e)] [] τ (fs_mq o σ (fs_c1 (fs_in 8 t)) (fs_lg v g 1000).1) := by
        intro e hh A B C h1 h2
        have := ih e (fs_edge_e he.1 hh) (by have := hh.1; omega)
        rw [h1, h2] at this
        exact this
      have hz : ∀ e : Int, fs_ise v x e → fs_lg v g e.toNat = (if fs_beg v g x && decide ((fs_lg v g x.toNat).2 < fs_end v x - x) then (fs_cnt (fs_beg v g) x.toNat, fs_end v x - x) else fs_lg v g x.toNat) ∧ fs_cnt (fs_beg v g) e.toNat = fs_cnt (fs_beg v g) x.toNat + fs_b (fs_beg v g x) := by
        intro e hh
        have hno := fs_beg_e (g := g) he.1 hh
        rw [fs_lg_z he.1 hh.1 hno, fs_lg_s he.1]
        exact ⟨rfl, fs_cnt_z he.1 hh.1 hno⟩
      have skip : fs_beg v g x = false → fx_CI 218 [(46, o), (59, 0), (0, x)] τ (fs_mq o σ (fs_c1 (fs_in 8 t)) (fs_lg v g 1000).1) (fun y5 σ5 => fx_Wp 248 45 [(46, o), (0, t), (0, g), (0, (fs_lg v g x.toNat).1), (0, (fs_lg v g x.toNat).2), (0, fs_cnt (fs_beg v g) x.toNat), (0, y5)] [] σ5 (fs_mq o σ (fs_c1 (fs_in 8 t)) (fs_lg v g 1000).1)) := by
        intro hb
        refine fx_CI_e (c218 hv he.1 c) (fun e hh => ?_)
        obtain ⟨z1, z2⟩ := hz e hh
        refine ihe e hh _ _ _ ?_ ?_
        · rw [z1, hb, Bool.false_and]; simp
        · rw [z2, hb]; exact Int.add_zero _
      have take : fs_beg v g x = true → ∀ e : Int, fs_ise v x e → fx_rg (e - x) ∧ ((e - x ≤ (fs_lg v g x.toNat).2 → fx_rg (fs_cnt (fs_beg v g) x.toNat + 1) ∧ fx_CI 218 [(46, o), (59, 0), (0, x)] τ (fs_mq o σ (fs_c1 (fs_in 8 t)) (fs_lg v g 1000).1) (fun y2 σ2 => fx_Wp 248 45 [(46, o), (0, t), (0, g), (0, (fs_lg v g x.toNat).1), (0, (fs_lg v g x.toNat).2), (0, fs_cnt (fs_beg v g) x.toNat + 1), (0, y2)] [] σ2 (fs_mq o σ (fs_c1 (fs_in 8 t)) (fs_lg v g 1000).1))) ∧ ((fs_lg v g x.toNat).2 < e - x → fx_CI 218 [(46, o), (59, 0), (0, x)] τ (fs_mq o σ (fs_c1 (fs_in 8 t)) (fs_lg v g 1000).1) (fun y3 σ3 => fx_rg (y3 - x) ∧ fx_rg (fs_cnt (fs_beg v g) x.toNat + 1) ∧ fx_CI 218 [(46, o), (59, 0), (0, x)] σ3 (fs_mq o σ (fs_c1 (fs_in 8 t)) (fs_lg v g 1000).1) (fun y4 σ4 => fx_Wp 248 45 [(46, o), (0, t), (0, g), (0, fs_cnt (fs_beg v g) x.toNat), (0, y3 - x), (0, fs_cnt (fs_beg v g) x.toNat + 1), (0, y4)] [] σ4 (fs_mq o σ (fs_c1 (fs_in 8 t)) (fs_lg v g 1000).1))))) := by
        intro hb e hh
        have hend := fs_end_u hh
        obtain ⟨z1, z2⟩ := hz e hh
        rw [hb, Bool.true_and, hend] at z1
        rw [fs_bT hb] at z2
        have q1 := hh.1
        have q2 := hh.2.1
        have hx0 := he.1
        have uniq : ∀ e', fs_ise v x e' → e' = e := fun e' h' => by rw [← fs_end_u h', hend]
        refine ⟨⟨by omega, by omega⟩, fun d => ⟨⟨by omega, by omega⟩, fx_CI_e (c218 hv he.1 c) (fun e' h' => ?_)⟩, fun d => fx_CI_e (c218 hv he.1 c) (fun e' h' => ⟨?_, ⟨by omega, by omega⟩, fx_CI_e (c218 hv he.1 c) (fun e2 h2 => ?_)⟩)⟩
        · rw [uniq e' h']
          exact ihe e hh _ _ _ (by rw [z1, decide_eq_false (by omega)]; simp) z2
        · rw [uniq e' h']
          exact ⟨by omega, by omega⟩
        · rw [uniq e' h', uniq e2 h2]
          exact ihe e hh _ _ _ (by rw [z1, decide_eq_true d]; rfl) z2
      refine ⟨fun b => ⟨fun g0 => fx_CI_e (c218 hv he.1 c) (fun e hh => take (by rw [hB]; exact decide_eq_true (Or.inr ⟨b, g0⟩)) e hh), fun g0 => skip (by rw [hB]; exact decide_eq_false (by omega))⟩, fun b => ⟨fun g1 => fx_CI_e (c218 hv he.1 c) (fun e hh => take (by rw [hB]; exact decide_eq_true (Or.inl ⟨b, g1⟩)) e hh), fun g1 => skip (by rw [hB]; exact decide_eq_false (by omega))⟩⟩
  · exact t248_0 ((m154n ht).I ⟨fun _ => fs_mq1 (fs_c1n ht) (by decide), fun a => absurd rfl a⟩)
theorem fs_lie_z {u : Int → Int} {a b how x e : Int} (x0 : 0 ≤ x) (h : fs_ise u x e) : fs_sum (fs_lie u a b how) e.toNat = fs_sum (fs_lie u a b how) x.toNat + fs_lie u a b how x :=
  fs_sum_z x0 h.1 (fun y y0 y1 => by unfold fs_lie; rw [fs_beg_e x0 h y y0 y1, Bool.false_and]; rfl)
theorem fs_prs_z {v u : Int → Int} {how x e : Int} (x0 : 0 ≤ x) (h : fs_ise v x e) : fs_sum (fs_prs v u how) e.toNat = fs_sum (fs_prs v u how) x.toNat + fs_prs v u how x :=
  fs_sum_z x0 h.1 (fun y y0 y1 => by unfold fs_prs; rw [fs_beg_e x0 h y y0 y1]; simp)
theorem m249 (h : fs_mp o σ S) {t s w : Int} : fx_Ca 249 [(46, o), (0, t), (0, s), (0, w)] σ (fs_mq o σ (fs_c2 (fs_in 8 t ∧ fs_in 8 s) (fs_in 13 w)) (fs_sum (fs_prs (fs_is S fs_W1 t) (fs_is S fs_W1 s) w) 1000)) := by
  by_cases ht : fs_in 8 t
  · by_cases hs : fs_in 8 s
    · by_cases hw : fs_in 13 w
      · have hc := fs_c2y (p := fs_in 8 t ∧ fs_in 8 s) (q := fs_in 13 w) ⟨ht, hs⟩ hw
        refine t249_0 ((m154y ht).I ⟨fun a => absurd a (by decide), fun _ => (m154y hs).I ⟨fun _ => (m149y ⟨hw.1, by omega⟩).I ⟨fun _ => fx_CV_of (m166 h.u ht) ?_, fun a => absurd a (by decide)⟩, fun a => absurd a (by decide)⟩⟩)
        rintro q τ1 ⟨rfl, s1, -, hv1⟩
        refine Or.inl ⟨rfl, fx_CV_of (m166 ((h.u (e := 0)).sc s1) hs) ?_⟩
        rintro q τ ⟨rfl, s2, p2, hu⟩
        refine Or.inl ⟨rfl, ?_⟩
        have hv : fs_ln τ 0 (fs_is S fs_W1 t) := fun x x0 x1 => by rw [p2 59 0 x (by omega) (by omega)]; exact hv1 x x0 x1
        have hsc := s1.trans s2
        clear hv1 p2 s1 s2
        generalize fs_is S fs_W1 t = v at hv
        generalize fs_is S fs_W1 s = u at hu
        have hPr := fs_prs_r (v := v) (u := u) (how := w)
        refine fx_whl (X := Int × fx_V) (fun y => [(46, o), (0, t), (0, s), (0, w), (0, fs_sum (fs_prs v u w) y.1.toNat), (0, y.1), y.2]) (fun _ => τ) (fun y => fs_edge v y.1) (fun y => (1000 - y.1).toNat) ?_ (0, (3, 0)) fs_edge_0
        rintro ⟨x, w6⟩ he ih
        simp only at he
        show fx_Wp 249 70 [(46, o), (0, t), (0, s), (0, w), (0, fs_sum (fs_prs v u w) x.toNat), (0, x), w6] [] τ _
        have hb := fs_sum_r hPr x.toNat
        have ih : ∀ (e : Int) (w6 : fx_V) (A : Int), fs_ise v x e → fs_sum (fs_prs v u w) x.toNat + fs_prs v u w x = A → fx_Wp 249 70 [(46, o), (0, t), (0, s), (0, w), (0, A), (0, e), w6] [] τ (fs_mq o σ (fs_c2 (fs_in 8 t ∧ fs_in 8 s) (fs_in 13 w)) (fs_sum (fs_prs v u w) 1000)) := by
          intro e w6 A hh hA
          have := ih (e, w6) (fs_edge_e he.1 hh) (by simp only; have := hh.1; have := hh.2.1; omega)
          simp only at this
          rw [fs_prs_z he.1 hh, hA] at this
          exact this
        refine t249_70 ⟨fun c => ?_, fun c => ⟨⟨he.1, c⟩, ?_⟩⟩
        · have e : x = 1000 := by have := he.2.1; omega
          exact fs_mqs hc (by rw [e]; rfl) hsc
        · rw [hv x he.1 c]
          have hB := fs_edge_b (g := 0) he c
          refine ⟨fun d => ?_, fun d => fx_CI_e (c218 hv he.1 c) (fun e hh => ih e w6 _ hh ?_)⟩
          · have hbt : fs_beg v 0 x = true := by rw [hB]; exact decide_eq_true (Or.inr ⟨d, rfl⟩)
            have hpx : fs_prs v u w x = fs_sum (fs_lie u x (fs_end v x) w) 1000 := by unfold fs_prs; rw [if_pos hbt]
            have hlr := fs_lie_r (u := u) (a := x) (b := fs_end v x) (how := w)
            have hx1 := he.2.1
            have z : fs_sum (fs_prs v u w) x.toNat + fs_sum (fs_lie u x (fs_end v x) w) (0 : Int).toNat = fs_sum (fs_prs v u w) x.toNat := by show _ + 0 = _; omega
            have m : fx_Wp 249 95 [(46, o), (0, t), (0, s), (0, w), (0, fs_sum (fs_prs v u w) x.toNat + fs_sum (fs_lie u x (fs_end v x) w) (0 : Int).toNat), (0, x), (0, 0)] [] τ (fs_mq o σ (fs_c2 (fs_in 8 t ∧ fs_in 8 s) (fs_in 13 w)) (fs_sum (fs_prs v u w) 1000)) := by
              refine fx_whl (X := Int) (fun y => [(46, o), (0, t), (0, s), (0, w), (0, fs_sum (fs_prs v u w) x.toNat + fs_sum (fs_lie u x (fs_end v x) w) y.toNat), (0, x), (0, y)]) (fun _ => τ) (fun y => fs_edge u y) (fun y => (1000 - y).toNat) ?_ 0 fs_edge_0
              rintro y hy ih2
              have hb2 := fs_sum01 hlr y.toNat
              have hy1 := hy.2.1
              have ih2 : ∀ (e : Int) (A : Int), fs_ise u y e → fs_lie u x (fs_end v x) w y = A → fx_Wp 249 95 [(46, o), (0, t), (0, s), (0, w), (0, fs_sum (fs_prs v u w) x.toNat + fs_sum (fs_lie u x (fs_end v x) w) y.toNat + A), (0, x), (0, e)] [] τ (fs_mq o σ (fs_c2 (fs_in 8 t ∧ fs_in 8 s) (fs_in 13 w)) (fs_sum (fs_prs v u w) 1000)) := by
                intro e A hh hA
                have := ih2 e (fs_edge_e hy.1 hh) (by have := hh.1; have := hh.2.1; omega)
                rw [fs_lie_z hy.1 hh, hA, ← Int.add_assoc] at this
                exact this
              refine t249_95 ⟨fun q => fx_CI_e (c218 hv he.1 c) (fun e hh => ih e _ _ hh ?_), fun q => ⟨⟨hy.1, q⟩, ?_⟩⟩
              · rw [hpx, show y = 1000 by omega]; rfl
              · rw [hu y hy.1 q]
                have hBy := fs_edge_b (g := 0) hy q
                refine ⟨fun z => ⟨⟨by omega, by omega⟩, fx_CI_e (c218 hu hy.1 q) (fun e hh => ih2 e _ hh ?_)⟩, fun z => fx_CI_e (c218 hv he.1 c) (fun e1 h1 => fx_CI_e (c218 hu hy.1 q) (fun e2 h2 => c231.I ⟨fun r => ⟨⟨by omega, by omega⟩, fx_CI_e (c218 hu hy.1 q) (fun e hh => ih2 e _ hh ?_)⟩, fun r => ⟨⟨by omega, by omega⟩, fx_CI_e (c218 hu hy.1 q) (fun e hh => ih2 e _ hh ?_)⟩⟩))⟩
                · unfold fs_lie
                  rw [hBy, decide_eq_false (by omega), Bool.false_and]; rfl
                · unfold fs_lie
                  rw [fs_end_u h1, fs_end_u h2, decide_eq_false r, Bool.and_false]; rfl
                · unfold fs_lie
                  rw [fs_end_u h1, fs_end_u h2, decide_eq_true r, hBy, decide_eq_true (Or.inr ⟨z, rfl⟩)]; rfl
            rw [z] at m
            exact m
          · have hbt : fs_beg v 0 x = false := by rw [hB]; exact decide_eq_false (by omega)
            unfold fs_prs
            rw [if_neg (by rw [hbt]; decide), Int.add_zero]
      · exact t249_0 ((m154y ht).I ⟨fun a => absurd a (by decide), fun _ => (m154y hs).I ⟨fun _ => (m149n (fun e => hw ⟨e.1, by omega⟩)).I ⟨fun a => absurd rfl a, fun _ => fs_mq1 (fs_c2m ⟨ht, hs⟩ hw) (by decide)⟩, fun a => absurd a (by decide)⟩⟩)
    · exact t249_0 ((m154y ht).I ⟨fun a => absurd a (by decide), fun _ => (m154n hs).I ⟨fun a => absurd rfl a, fun _ => fs_mq1 (fs_c2n (fun e => hs e.2)) (by decide)⟩⟩)
  · exact t249_0 ((m154n ht).I ⟨fun _ => fs_mq1 (fs_c2n (fun e => ht e.1)) (by decide), fun a => absurd rfl a⟩)
theorem m250 (h : fs_mp o σ S) {t x n : Int} : fx_Ca 250 [(46, o), (0, t), (0, x), (0, n)] σ (fs_mq o σ (fs_c2 (fs_pl t x) (fs_in (S 0 1 0 + 1) n)) (fs_is S (fun f => decide (f < n)) t x)) := by
  by_cases ht : fs_in 8 t
  · by_cases hx : fs_in 1000 x
    · by_cases hw : fs_in (S 0 1 0 + 1) n
      · have hc := fs_c2y (p := fs_pl t x) (q := fs_in (S 0 1 0 + 1) n) ⟨ht, hx⟩ hw
        refine t250_0 ((m154y ht).I ⟨fun a => absurd a (by decide), fun _ => (m155y hx).I ⟨fun _ => (m149y ⟨hw.1, by rw [h.n.2]; omega⟩).I ⟨fun _ => ?_, fun a => absurd a (by decide)⟩, fun a => absurd a (by decide)⟩⟩)
        generalize hE : fx_up (fx_up σ 46 o 0 0) 46 o 21 n = ρ
        have e : ∀ K p q, ¬ (K = 46 ∧ p = o ∧ (q = 0 ∨ q = 21)) → ρ K p q = σ K p q := fun K p q hK => by rw [← hE, fx_upE, if_neg (by omega), fx_upE, if_neg (by omega)]
        have hS : fs_m ρ 47 0 = S := (fs_m_c (fun p => e 47 0 p (by omega))).trans h.2.1
        have c65 := c165' (σ := ρ) (o := o) (time := x) (by rw [hS]; exact h.1)
        have hlim : fs_lim ρ o = fun f => decide (f < n) := by unfold fs_lim; rw [← hE, fx_upS]
        rw [hS, hlim] at c65
        refine fx_CV_of c65 ?_
        rintro v τ ⟨rfl, s1, -, s3⟩
        refine Or.inl ⟨rfl, ht, _, rfl, ?_, fun _ => (s3 t ht.1 ht.2).1, fun K p q hK => ?_⟩
        · rw [fx_upJ (by omega), s1 46 o 0 (by omega), ← hE, fx_upJ (by omega), fx_upS, hc]
        · by_cases g : K = 46 ∧ p = o ∧ q = 21
          · obtain ⟨rfl, rfl, rfl⟩ := g
            rw [fx_upS, h.2.2]
          · rw [fx_upE, if_neg g, s1 K p q (by omega), e K p q (by omega)]
      · exact t250_0 ((m154y ht).I ⟨fun a => absurd a (by decide), fun _ => (m155y hx).I ⟨fun _ => (m149n (fun e => hw ⟨e.1, by have := e.2; rw [h.n.2] at this; omega⟩)).I ⟨fun a => absurd rfl a, fun _ => fs_mq1 (fs_c2m ⟨ht, hx⟩ hw) (by decide)⟩, fun a => absurd a (by decide)⟩⟩)
    · exact t250_0 ((m154y ht).I ⟨fun a => absurd a (by decide), fun _ => (m155n hx).I ⟨fun a => absurd rfl a, fun _ => fs_mq1 (fs_c2n (fun e => hx e.2)) (by decide)⟩⟩)
  · exact t250_0 ((m154n ht).I ⟨fun _ => fs_mq1 (fs_c2n (fun e => ht e.1)) (by decide), fun a => absurd rfl a⟩)
theorem m251 (h : fs_mp o σ S) {k : Int} : fx_Ca 251 [(46, o), (0, k)] σ (fs_mq o σ 0 (fs_aord S k)) := by
  have hna := h.1.1
  have hu := h.u (e := 0)
  generalize hP : (fun s => decide (fs_cnt (fs_above S s) (S 0 0 0).toNat = k)) = P
  have hPs : ∀ s, P s = decide (fs_cnt (fs_above S s) (S 0 0 0).toNat = k) := fun s => by rw [← hP]
  have ha : fs_aord S k = fs_first P (S 0 0 0).toNat := by rw [← hP]; rfl
  have hn := hu.n.1
  have hsc : fs_sc (fx_up σ 46 o 0 0) (fx_up σ 46 o 0 0) := fs_sc.rfl
  have e1 : ∀ s, 0 ≤ s → (fx_up σ 46 o 0 0) 47 0 (2 + s) = S 1 s 0 := fun s s0 => by rw [← hu.2.1]; show _ = (fx_up σ 46 o 0 0) 47 0 (0 + 2 + s); exact fs_mi (by omega)
  refine t251_0 ?_
  generalize hE : fx_up σ 46 o 0 0 = ρ at hn e1
  have fin : ∀ r : Int, r = fs_aord S k → fs_mq o σ 0 (fs_aord S k) (0, r) ρ := fun r hr => by rw [← hE]; exact fs_mqs rfl hr hsc
  refine fx_whl (X := Int × fx_V × fx_V) (fun y => [(46, o), (0, k), (0, y.1), y.2.1, y.2.2]) (fun _ => ρ) (fun y => 0 ≤ y.1 ∧ y.1 ≤ S 0 0 0 ∧ fs_first P y.1.toNat = -1) (fun y => (S 0 0 0 - y.1).toNat) ?_ (0, (3, 0), (3, 0)) ⟨Int.le_refl _, hna.1, rfl⟩
  rintro ⟨s, w3, w4⟩ ⟨s0, s1, hI⟩ ih
  simp only at s0 s1 hI
  show fx_Wp 251 7 [(46, o), (0, k), (0, s), w3, w4] [] ρ _
  refine t251_7 ?_
  rw [hn]
  refine ⟨fun c => fin _ (by rw [ha, ← hI, show s = S 0 0 0 by omega]), fun c => ?_⟩
  have hs := fs_first_s (P := P) s0
  rw [if_pos hI] at hs
  refine fx_for (fun g => [(46, o), (0, k), (0, s), (0, fs_cnt (fs_above S s) g.toNat), (0, g)]) (fun _ => ρ) 0 (S 0 0 0) (fun _ => True) hna.1 trivial ?_ ?_
  · intro g g0 g1 _ ih2
    have ih2 := ih2 trivial
    rw [fs_cnt_s _ g0] at ih2
    have hb := fs_cnt_b (fs_above S s) g g0
    have hd : fs_above S s g = decide (S 1 s 0 < S 1 g 0 ∨ (S 1 g 0 = S 1 s 0 ∧ g < s)) := rfl
    refine t251_22 ?_
    rw [hn]
    refine ⟨fun d => by omega, fun d => ⟨⟨by omega, by omega⟩, ⟨by omega, by omega⟩, ⟨by omega, by omega⟩, ⟨by omega, by omega⟩, ?_⟩⟩
    rw [e1 g g0, e1 s s0]
    refine ⟨fun e => ⟨⟨by omega, by omega⟩, ⟨by omega, by omega⟩, ?_⟩, fun e => ⟨fun f => ⟨⟨by omega, by omega⟩, ⟨by omega, by omega⟩, ?_⟩, fun f => ⟨fun q => ⟨⟨by omega, by omega⟩, ⟨by omega, by omega⟩, ?_⟩, fun q => ⟨⟨by omega, by omega⟩, ⟨by omega, by omega⟩, ?_⟩⟩⟩⟩
    · rw [hd, decide_eq_true (by omega)] at ih2; exact ih2
    · rw [hd, decide_eq_false (by omega)] at ih2; exact ih2
    · rw [hd, decide_eq_false (by omega)] at ih2; exact ih2
    · rw [hd, decide_eq_true (by omega)] at ih2; exact ih2
  · intro _
    refine t251_22 ?_
    rw [hn]
    refine ⟨fun d => ⟨fun e => ⟨⟨by omega, by omega⟩, ?_⟩, fun e => fin _ ?_⟩, fun d => by omega⟩
    · refine ih (s + 1, _, _) ⟨by simp only; omega, by simp only; omega, ?_⟩ (by simp only; omega)
      simp only
      rw [hs, hPs, decide_eq_false e]; rfl
    · have e : fs_first P (s + 1).toNat = s := by rw [hs, hPs, decide_eq_true e]; rfl
      rw [ha, fs_first_st (m := (s + 1).toNat) _ (by omega) (by omega), e]
theorem m252 (h : fs_mp o σ S) {k : Int} : fx_Ca 252 [(46, o), (0, k)] σ (fun v τ => v = (0, if k = -1 then fs_cnt (fs_idle S fs_W1) (S 0 1 0).toNat else fs_row (S 0 1 0) (fs_idle S fs_W1) k) ∧ fs_sc σ τ) := by
  obtain ⟨ho, rfl, hl⟩ := h
  exact fx_Wp.mono (c252 ho hl) (fun v τ hv => ⟨hv.1, hv.2.sc⟩)
theorem fs_row_n {N : Int} {P : Int → Bool} {k : Int} (hk : k < 0) : fs_row N P k = -1 := fs_row_u (Or.inl ⟨rfl, fun x x0 x1 _ => by have := (fs_cnt_le P x.toNat).1; omega⟩)
theorem m253 (h : fs_mp o σ S) {k : Int} : fx_Ca 253 [(46, o), (0, k)] σ (fs_mq o σ 0 (fs_row (S 0 1 0) (fs_idle S fs_W1) k)) := by
  refine t253_0 ⟨fun a => fx_CI_of (m252 h.u) ?_, fun a => fs_mqs rfl (fs_row_n a).symm fs_sc.rfl⟩
  rintro v τ ⟨rfl, g1⟩
  exact Or.inl ⟨rfl, fs_mqs rfl (if_neg (by omega)) g1⟩
theorem m260 (h : fs_mp o σ S) {w : Int} : fx_Ca 260 [(46, o), (0, w)] σ (fs_mq o σ 0 (fs_acnt S (σ 46 o 5) w)) := by
  have hu := h.u (e := 0)
  have hok : fs_ok (fs_m (fx_up σ 46 o 0 0) 47 0) := by rw [hu.2.1]; exact h.1
  have c56 := c256 (σ := fx_up σ 46 o 0 0) (o := o) hok
  have c57 := c257 (σ := fx_up σ 46 o 0 0) (o := o) hok
  have c58 := c258 (σ := fx_up σ 46 o 0 0) (o := o)
  have c59 := c259 (σ := fx_up σ 46 o 0 0) (o := o) hok hu.2.2
  rw [hu.2.1] at c56 c57 c58 c59
  rw [hu.n.2] at c56
  rw [hu.n.1] at c57
  have ha : fs_acnt S (σ 46 o 5) w = if w = 0 then S 0 0 0 else if w = 1 then S 0 1 0 else if w = 2 then fs_cnt (fun f => decide (S 8 f 0 ≠ 0)) (S 0 1 0).toNat else if w = 3 then fs_cnt (fun s => decide (S 2 s 0 ≠ 0)) (S 0 0 0).toNat else if w = 4 then fs_cnt (fun t => decide (0 < S 9 t 0)) 8 else if w = 5 then fs_cnt (fs_idle S fs_W1) (S 0 1 0).toNat else if w = 6 then fs_sum (fun t => fs_cnt (fs_beg (fs_is S fs_W1 t) 0) 1000) 8 else if w = 7 then σ 46 o 5 else -1 := rfl
  refine t260_0 ⟨fun w0 => fs_mqs rfl (by rw [ha, if_pos w0]; exact h.n.1) fs_sc.rfl, fun w0 => ⟨fun w1 => fs_mqs rfl (by rw [ha, if_neg w0, if_pos w1]; exact h.n.2) fs_sc.rfl, fun w1 => ⟨fun w2 => c56.I (fs_mqs rfl (by rw [ha, if_neg w0, if_neg w1, if_pos w2]) fs_sc.rfl), fun w2 => ⟨fun w3 => c57.I (fs_mqs rfl (by rw [ha, if_neg w0, if_neg w1, if_neg w2, if_pos w3]) fs_sc.rfl), fun w3 => ⟨fun w4 => c58.I (fs_mqs rfl (by rw [ha, if_neg w0, if_neg w1, if_neg w2, if_neg w3, if_pos w4]) fs_sc.rfl), fun w4 => ⟨fun w5 => fx_CI_of (m252 hu) ?_, fun w5 => ⟨fun w6 => fx_CI_of c59 ?_, fun w6 => ⟨fun w7 => fs_mqs rfl (by rw [ha, if_neg w0, if_neg w1, if_neg w2, if_neg w3, if_neg w4, if_neg w5, if_neg w6, if_pos w7]) fs_sc.rfl, fun w7 => fs_mqs rfl (by rw [ha, if_neg w0, if_neg w1, if_neg w2, if_neg w3, if_neg w4, if_neg w5, if_neg w6, if_neg w7]) fs_sc.rfl⟩⟩⟩⟩⟩⟩⟩⟩
  · rintro v τ ⟨rfl, g1⟩
    have e5 : (if (-1 : Int) = -1 then fs_cnt (fs_idle S fs_W1) (S 0 1 0).toNat else fs_row (S 0 1 0) (fs_idle S fs_W1) (-1)) = fs_cnt (fs_idle S fs_W1) (S 0 1 0).toNat := if_pos rfl
    exact Or.inl ⟨rfl, fs_mqs rfl (by rw [ha, if_neg w0, if_neg w1, if_neg w2, if_neg w3, if_neg w4, if_pos w5]; exact e5) g1⟩
  · rintro v τ ⟨rfl, g1⟩
    exact Or.inl ⟨rfl, fs_mqs rfl (by rw [ha, if_neg w0, if_neg w1, if_neg w2, if_neg w3, if_neg w4, if_neg w5, if_pos w6]) g1⟩
end FXM2
