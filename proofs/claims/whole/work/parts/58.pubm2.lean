section FXM1
variable {σ τ S : fx_S} {o : Int}
theorem m220 (h : fs_mp o σ S) {t k w : Int} : fx_Ca 220 [(46, o), (0, t), (0, k), (0, w)] σ (fs_mq o σ (fs_c2 (fs_in 8 t) (fs_in 3 w)) (fs_arow (fs_is S fs_W1 t) k w 0)) := by
  by_cases ht : fs_in 8 t
  · by_cases hw : fs_in 3 w
    · have hc := fs_c2y (p := fs_in 8 t) (q := fs_in 3 w) ht hw
      refine t220_0 ((m154y ht).I ⟨fun _ => (m149y ⟨hw.1, by omega⟩).I ⟨fun _ => fx_CV_of (m166 h.u ht) ?_, fun a => absurd a (by decide)⟩, fun a => absurd a (by decide)⟩)
      rintro v τ ⟨rfl, s1, -, hv⟩
      refine Or.inl ⟨rfl, ?_⟩
      have h219 := c219 (o := o) (k := k) (g := 0) hv
      have ha : fs_arow (fs_is S fs_W1 t) k w 0 = if k = -1 then fs_cnt (fs_beg (fs_is S fs_W1 t) 0) 1000 else if fs_row 1000 (fs_beg (fs_is S fs_W1 t) 0) k = -1 then -1 else if w = 0 then fs_row 1000 (fs_beg (fs_is S fs_W1 t) 0) k else if w = 1 then fs_end (fs_is S fs_W1 t) (fs_row 1000 (fs_beg (fs_is S fs_W1 t) 0) k) else fs_is S fs_W1 t (fs_row 1000 (fs_beg (fs_is S fs_W1 t) 0) k) := rfl
      have hr := fs_row_r (N := 1000) (P := fs_beg (fs_is S fs_W1 t) 0) (k := k)
      by_cases hk : k = -1
      · rw [if_pos hk] at h219 ha
        exact h219.I ⟨fun _ => fs_mqs hc ha.symm s1, fun e => absurd hk e⟩
      · rw [if_neg hk] at h219 ha
        generalize fs_row 1000 (fs_beg (fs_is S fs_W1 t) 0) k = r at h219 ha hr
        refine h219.I ⟨fun e => absurd e hk, fun _ => ⟨fun b => ⟨fun w0 => ⟨fun w1 => ⟨⟨by omega, by omega⟩, fs_mqs hc (by rw [ha, if_neg b, if_neg w0, if_neg w1]; exact hv r (by omega) (by omega)) s1⟩, fun w1 => fx_CI_e (c218 hv (by omega) (by omega)) (fun e he => fs_mqs hc (by rw [ha, if_neg b, if_neg w0, if_pos w1, fs_end_u he]) s1)⟩, fun w0 => fs_mqs hc (by rw [ha, if_neg b, if_pos w0]) s1⟩, fun b => fs_mqs hc (by rw [ha, if_pos b]; exact b) s1⟩⟩
    · exact t220_0 ((m154y ht).I ⟨fun _ => (m149n (fun e => hw ⟨e.1, by omega⟩)).I ⟨fun a => absurd rfl a, fun _ => fs_mq1 (fs_c2m ht hw) (by decide)⟩, fun a => absurd a (by decide)⟩)
  · exact t220_0 ((m154n ht).I ⟨fun a => absurd rfl a, fun _ => fs_mq1 (fs_c2n ht) (by decide)⟩)
theorem m221 (h : fs_mp o σ S) {t k w : Int} : fx_Ca 221 [(46, o), (0, t), (0, k), (0, w)] σ (fs_mq o σ (fs_c2 (fs_in 8 t) (fs_in 2 w)) (fs_arow (fs_is S fs_W1 t) k w 1)) := by
  by_cases ht : fs_in 8 t
  · by_cases hw : fs_in 2 w
    · have hc := fs_c2y (p := fs_in 8 t) (q := fs_in 2 w) ht hw
      refine t221_0 ((m154y ht).I ⟨fun _ => (m149y ⟨hw.1, by omega⟩).I ⟨fun _ => fx_CV_of (m166 h.u ht) ?_, fun a => absurd a (by decide)⟩, fun a => absurd a (by decide)⟩)
      rintro v τ ⟨rfl, s1, -, hv⟩
      refine Or.inl ⟨rfl, ?_⟩
      have h219 := c219 (o := o) (k := k) (g := 1) hv
      have ha : fs_arow (fs_is S fs_W1 t) k w 1 = if k = -1 then fs_cnt (fs_beg (fs_is S fs_W1 t) 1) 1000 else if fs_row 1000 (fs_beg (fs_is S fs_W1 t) 1) k = -1 then -1 else if w = 0 then fs_row 1000 (fs_beg (fs_is S fs_W1 t) 1) k else if w = 1 then fs_end (fs_is S fs_W1 t) (fs_row 1000 (fs_beg (fs_is S fs_W1 t) 1) k) else fs_is S fs_W1 t (fs_row 1000 (fs_beg (fs_is S fs_W1 t) 1) k) := rfl
      have hr := fs_row_r (N := 1000) (P := fs_beg (fs_is S fs_W1 t) 1) (k := k)
      by_cases hk : k = -1
      · rw [if_pos hk] at h219 ha
        exact h219.I ⟨fun _ => fs_mqs hc ha.symm s1, fun e => absurd hk e⟩
      · rw [if_neg hk] at h219 ha
        generalize fs_row 1000 (fs_beg (fs_is S fs_W1 t) 1) k = r at h219 ha hr
        exact h219.I ⟨fun e => absurd e hk, fun _ => ⟨fun b => fs_mqs hc (by rw [ha, if_pos b]; exact b) s1, fun b => ⟨fun w0 => fx_CI_e (c218 hv (by omega) (by omega)) (fun e he => fs_mqs hc (by rw [ha, if_neg b, if_neg w0, if_pos (by omega), fs_end_u he]) s1), fun w0 => fs_mqs hc (by rw [ha, if_neg b, if_pos w0]) s1⟩⟩⟩
    · exact t221_0 ((m154y ht).I ⟨fun _ => (m149n (fun e => hw ⟨e.1, by omega⟩)).I ⟨fun a => absurd rfl a, fun _ => fs_mq1 (fs_c2m ht hw) (by decide)⟩, fun a => absurd a (by decide)⟩)
  · exact t221_0 ((m154n ht).I ⟨fun a => absurd rfl a, fun _ => fs_mq1 (fs_c2n ht) (by decide)⟩)
theorem m224 (h : fs_mp o σ S) {t x k : Int} : fx_Ca 224 [(46, o), (0, t), (0, x), (0, k)] σ (fs_mq o σ (fs_c1 (fs_pl t x)) (fs_alack S t x k)) := by
  by_cases ht : fs_in 8 t
  · by_cases hx : fs_in 1000 x
    · have hc := fs_c1y (p := fs_pl t x) ⟨ht, hx⟩
      refine t224_0 ((m154y ht).I ⟨fun a => absurd a (by decide), fun _ => (m155y hx).I ⟨fun a => absurd a (by decide), fun _ => fx_CV_of (m165 h.u) ?_⟩⟩)
      rintro v τ ⟨rfl, s1, -, s3⟩
      refine Or.inl ⟨rfl, ht, ?_⟩
      rw [(s3 t ht.1 ht.2).1]
      have hm := (h.u (e := 0)).sc s1
      refine ⟨fun b => fx_CV_of (c223 h.1 hm.2.1 ht.1 ht.2 (fun a a0 a1 => (s3 a a0 a1).1) b) ?_, fun b => fs_mqs hc (by unfold fs_alack; rw [if_neg b]) s1⟩
      rintro v τ2 ⟨rfl, k1, c, l1, l2, l3, l4, l5⟩
      refine Or.inl ⟨rfl, ?_⟩
      have fin : ∀ r : Int, r = fs_alack S t x k → fs_mq o σ (fs_c1 (fs_pl t x)) (fs_alack S t x k) (0, r) τ2 := fun r hr => ⟨r, rfl, by rw [k1 46 o 0 (by omega), s1 46 o 0 (by omega), fx_upS, hc], fun _ => hr, fun K p q hK => by rw [k1 K p q (by omega), s1 K p q (by omega), fx_upE, if_neg (by omega)]⟩
      have ha : fs_alack S t x k = if k = -1 then c else if k = -2 then (fs_nx S (fun a => fs_is S fs_W1 a x) (fs_th S (fun a => fs_is S fs_W1 a x) t (c - 1).toNat)).2 else if 0 ≤ k ∧ k < c then fs_th S (fun a => fs_is S fs_W1 a x) t k.toNat else -1 := by
        unfold fs_alack
        rw [if_pos b, fs_lc_u l1]
      rw [l3, l4]
      have hc1 := l1.1
      refine ⟨fun k1 => ⟨fun k2 => ⟨⟨by omega, by omega⟩, ?_⟩, fun k2 => fin _ (by rw [ha, if_neg k1, if_pos k2])⟩, fun k1 => fin _ (by rw [ha, if_pos k1])⟩
      by_cases hk : 0 ≤ k ∧ k < c
      · exact (m149y ⟨hk.1, by omega⟩).I ⟨fun a => absurd a (by decide), fun _ => ⟨⟨by omega, by omega⟩, fin _ (by rw [ha, if_neg k1, if_neg k2, if_pos hk]; exact l5 k hk.1 hk.2)⟩⟩
      · exact (m149n (fun e => hk ⟨e.1, by omega⟩)).I ⟨fun _ => fin _ (by rw [ha, if_neg k1, if_neg k2, if_neg hk]), fun a => absurd rfl a⟩
    · exact t224_0 ((m154y ht).I ⟨fun a => absurd a (by decide), fun _ => (m155n hx).I ⟨fun _ => fs_mq1 (fs_c1n (fun e => hx e.2)) (by decide), fun a => absurd rfl a⟩⟩)
  · exact t224_0 ((m154n ht).I ⟨fun _ => fs_mq1 (fs_c1n (fun e => ht e.1)) (by decide), fun a => absurd rfl a⟩)
theorem m226 (h : fs_mp o σ S) {t x b : Int} : fx_Ca 226 [(46, o), (0, t), (0, x), (0, b)] σ (fs_mq o σ (fs_c1 (fs_pl t x)) (fs_achg (fs_is S fs_W1 t) x b)) := by
  by_cases ht : fs_in 8 t
  · by_cases hx : fs_in 1000 x
    · have hc := fs_c1y (p := fs_pl t x) ⟨ht, hx⟩
      refine t226_0 ((m154y ht).I ⟨fun a => absurd a (by decide), fun _ => (m155y hx).I ⟨fun a => absurd a (by decide), fun _ => fx_CV_of (m166 h.u ht) ?_⟩⟩)
      rintro v τ ⟨rfl, s1, -, hv⟩
      refine Or.inl ⟨rfl, fun b0 => fx_CI_e (c218 hv hx.1 hx.2) (fun e he => ⟨fun d => fs_mqs hc (by unfold fs_achg; rw [if_pos b0, fs_end_u he, if_neg d]) s1, fun d => fs_mqs hc (by unfold fs_achg; rw [if_pos b0, fs_end_u he, if_pos d]) s1⟩), fun b0 => fx_CI_e (c225 hv hx.1 hx.2) (fun e he => fs_mqs hc (by unfold fs_achg; rw [if_neg b0, fs_bgn_u he]) s1)⟩
    · exact t226_0 ((m154y ht).I ⟨fun a => absurd a (by decide), fun _ => (m155n hx).I ⟨fun _ => fs_mq1 (fs_c1n (fun e => hx e.2)) (by decide), fun a => absurd rfl a⟩⟩)
  · exact t226_0 ((m154n ht).I ⟨fun _ => fs_mq1 (fs_c1n (fun e => ht e.1)) (by decide), fun a => absurd rfl a⟩)
theorem m227 (h : fs_mp o σ S) {t x : Int} : fx_Ca 227 [(46, o), (0, t), (0, x)] σ (fs_mq o σ (fs_c1 (fs_pl t x)) (fs_end (fs_is S fs_W1 t) x - fs_bgn (fs_is S fs_W1 t) x)) := by
  by_cases ht : fs_in 8 t
  · by_cases hx : fs_in 1000 x
    · have hc := fs_c1y (p := fs_pl t x) ⟨ht, hx⟩
      refine t227_0 ((m154y ht).I ⟨fun a => absurd a (by decide), fun _ => (m155y hx).I ⟨fun a => absurd a (by decide), fun _ => fx_CV_of (m166 h.u ht) ?_⟩⟩)
      rintro v τ ⟨rfl, s1, -, hv⟩
      refine Or.inl ⟨rfl, fx_CI_e (c218 hv hx.1 hx.2) (fun e he => fx_CI_e (c225 hv hx.1 hx.2) (fun b hb => ⟨?_, fs_mqs hc (by rw [fs_end_u he, fs_bgn_u hb]) s1⟩))⟩
      have h1 := he.1; have h2 := he.2.1; have h3 := hb.1; have h4 := hb.2.1
      exact ⟨by omega, by omega⟩
    · exact t227_0 ((m154y ht).I ⟨fun a => absurd a (by decide), fun _ => (m155n hx).I ⟨fun _ => fs_mq1 (fs_c1n (fun e => hx e.2)) (by decide), fun a => absurd rfl a⟩⟩)
  · exact t227_0 ((m154n ht).I ⟨fun _ => fs_mq1 (fs_c1n (fun e => ht e.1)) (by decide), fun a => absurd rfl a⟩)
theorem m228 (h : fs_mp o σ S) {t x a : Int} : fx_Ca 228 [(46, o), (0, t), (0, x), (0, a)] σ (fs_mq o σ (fs_c2 (fs_pl t x) (fs_in 100 a)) (fs_fst (fun y => decide (fs_is S fs_W1 t y = a)) x)) := by
  by_cases ht : fs_in 8 t
  · by_cases hx : fs_in 1000 x
    · by_cases hw : fs_in 100 a
      · have hc := fs_c2y (p := fs_pl t x) (q := fs_in 100 a) ⟨ht, hx⟩ hw
        refine t228_0 ((m154y ht).I ⟨fun a => absurd a (by decide), fun _ => (m155y hx).I ⟨fun _ => (m149y ⟨hw.1, by omega⟩).I ⟨fun _ => fx_CV_of (m166 h.u ht) ?_, fun a => absurd a (by decide)⟩, fun a => absurd a (by decide)⟩⟩)
        rintro v τ ⟨rfl, s1, -, hv⟩
        refine Or.inl ⟨rfl, ?_⟩
        refine fx_for (fun y => [(46, o), (0, t), (0, x), (0, a), (0, y)]) (fun _ => τ) x 1000 (fun y => ∀ z, x ≤ z → z < y → fs_is S fs_W1 t z ≠ a) (by omega) (fun z z0 z1 => by omega) ?_ ?_
        · intro y y0 y1 hI ih
          refine t228_58 ⟨fun b => by omega, fun b => ⟨⟨by omega, by omega⟩, ?_⟩⟩
          rw [hv y (by omega) b]
          refine ⟨fun c => ⟨⟨by omega, by omega⟩, ih (fun z z0 z1 => ?_)⟩, fun c => fs_mqs hc (fs_fst_u (Or.inr ⟨y0, b, decide_eq_true c, fun z z0 z1 => decide_eq_false (hI z z0 z1)⟩)).symm s1⟩
          by_cases e : z = y
          · rw [e]; exact c
          · exact hI z z0 (by omega)
        · intro hI
          exact t228_58 ⟨fun b => fs_mqs hc (fs_fst_u (Or.inl ⟨rfl, fun z z0 z1 => decide_eq_false (hI z z0 z1)⟩)).symm s1, fun b => by omega⟩
      · exact t228_0 ((m154y ht).I ⟨fun a => absurd a (by decide), fun _ => (m155y hx).I ⟨fun _ => (m149n (fun e => hw ⟨e.1, by omega⟩)).I ⟨fun a => absurd rfl a, fun _ => fs_mq1 (fs_c2m ⟨ht, hx⟩ hw) (by decide)⟩, fun a => absurd a (by decide)⟩⟩)
    · exact t228_0 ((m154y ht).I ⟨fun a => absurd a (by decide), fun _ => (m155n hx).I ⟨fun a => absurd rfl a, fun _ => fs_mq1 (fs_c2n (fun e => hx e.2)) (by decide)⟩⟩)
  · exact t228_0 ((m154n ht).I ⟨fun _ => fs_mq1 (fs_c2n (fun e => ht e.1)) (by decide), fun a => absurd rfl a⟩)
theorem fs_l58.sc (h : fs_l58 σ τ) : fs_sc σ τ := fun K p q hK => h K p q (by omega)
theorem m230 (h : fs_mp o σ S) {f w : Int} : fx_Ca 230 [(46, o), (0, f), (0, w)] σ (fs_mq o σ (fs_c2 (fs_in (S 0 1 0) f) (fs_in 8 w)) (fs_atold S f w)) := by
  have hfa := h.1.2.1
  by_cases hf : fs_in (S 0 1 0) f
  · by_cases hw : fs_in 8 w
    · have hc := fs_c2y (p := fs_in (S 0 1 0) f) (q := fs_in 8 w) hf hw
      have hu := h.u (e := 0)
      have h8v := (h.1.2.2.2.1 f hf.1 hf.2).2.2.2.2
      have ha : fs_atold S f w = if w = 0 then S 3 f 0 else if w = 1 then S 4 f 0 else if w = 2 then S 5 f 0 else if w = 3 then S 6 f 0 else if w = 4 then S 7 f 0 else if w = 5 then S 8 f 0 else if w = 6 then fs_reign S fs_W1 f else if S 8 f 0 = 0 then fs_sum (fun t => fs_sum (fs_oth S fs_W1 (fun g => decide (g ≠ f)) t) 1000) 8 else -1 := rfl
      obtain ⟨a0, a1, a2, a3, a4, a5⟩ := m151 hu hf
      refine t230_0 ((m153y h hf).I ⟨fun _ => (m149y ⟨hw.1, by omega⟩).I ⟨fun _ => ⟨fun w6 => ⟨fun w7 => ?_, fun w7 => a5.I ⟨fun d => ?_, fun d => fs_mqs hc (by rw [ha, if_neg (by omega), if_neg (by omega), if_neg (by omega), if_neg (by omega), if_neg (by omega), if_neg (by omega), if_neg (by omega), if_neg (by omega)]) fs_sc.rfl⟩⟩, fun w6 => ?_⟩, fun a => absurd a (by decide)⟩, fun a => absurd a (by decide)⟩)
      · have c67 := c167 (σ := fx_up σ 46 o 0 0) (o := o) (by rw [hu.2.1]; exact h.1) hu.2.2
        rw [hu.2.1, hu.n.2] at c67
        refine fx_CV_of c67 ?_
        rintro v τ ⟨rfl, g1, g2⟩
        exact Or.inl ⟨rfl, ⟨hf.1, by omega⟩, fs_mqs hc (by rw [g2 f hf.1 hf.2, ha, if_neg (by omega), if_neg (by omega), if_neg (by omega), if_neg (by omega), if_neg (by omega), if_neg (by omega), if_pos (by omega)]) g1.sc⟩
      · have c29 := c229 (σ := fx_up σ 46 o 0 0) (o := o) (by rw [hu.2.1]; exact h.1) hu.2.2 hf.1 (by rw [hu.n.2]; exact hf.2) (by rw [hu.2.1]; omega)
        rw [hu.2.1] at c29
        refine fx_CI_of c29 ?_
        rintro v τ ⟨rfl, g1⟩
        exact Or.inl ⟨rfl, fs_mqs hc (by rw [ha, if_neg (by omega), if_neg (by omega), if_neg (by omega), if_neg (by omega), if_neg (by omega), if_neg (by omega), if_neg (by omega), if_pos (by omega)]) g1⟩
      · have hw5 : w = 0 ∨ w = 1 ∨ w = 2 ∨ w = 3 ∨ w = 4 ∨ w = 5 := by omega
        rcases hw5 with rfl | rfl | rfl | rfl | rfl | rfl
        · exact a0.I (fs_mqs hc rfl fs_sc.rfl)
        · exact a1.I (fs_mqs hc rfl fs_sc.rfl)
        · exact a2.I (fs_mqs hc rfl fs_sc.rfl)
        · exact a3.I (fs_mqs hc rfl fs_sc.rfl)
        · exact a4.I (fs_mqs hc rfl fs_sc.rfl)
        · exact a5.I (fs_mqs hc rfl fs_sc.rfl)
    · exact t230_0 ((m153y h hf).I ⟨fun _ => (m149n (fun e => hw ⟨e.1, by omega⟩)).I ⟨fun a => absurd rfl a, fun _ => fs_mq1 (fs_c2m hf hw) (by decide)⟩, fun a => absurd a (by decide)⟩)
  · exact t230_0 ((m153n h hf).I ⟨fun a => absurd rfl a, fun _ => fs_mq1 (fs_c2n hf) (by decide)⟩)
theorem m232 (h : fs_mp o σ S) {f g : Int} : fx_Ca 232 [(46, o), (0, f), (0, g)] σ (fs_mq o σ (fs_c2 (fs_in (S 0 1 0) f ∧ fs_in (S 0 1 0) g) (f ≠ g)) (fs_rel (S 5 f 0) (S 6 f 0) (S 5 g 0) (S 6 g 0))) := by
  by_cases hf : fs_in (S 0 1 0) f
  · by_cases hg : fs_in (S 0 1 0) g
    · have hu := h.u (e := 0)
      obtain ⟨-, -, a2, a3, -⟩ := m151 hu hf
      obtain ⟨-, -, b2, b3, -⟩ := m151 hu hg
      exact t232_0 ((m153y h hf).I ⟨fun a => absurd a (by decide), fun _ => (m153y h hg).I ⟨fun _ => ⟨fun d => a2.I (a3.I (b2.I (b3.I (c231.I (fs_mqs (fs_c2y ⟨hf, hg⟩ d) rfl fs_sc.rfl))))), fun d => fs_mq1 (fs_c2m ⟨hf, hg⟩ (fun e => e d)) (by decide)⟩, fun a => absurd a (by decide)⟩⟩)
    · exact t232_0 ((m153y h hf).I ⟨fun a => absurd a (by decide), fun _ => (m153n h hg).I ⟨fun a => absurd rfl a, fun _ => fs_mq1 (fs_c2n (fun e => hg e.2)) (by decide)⟩⟩)
  · exact t232_0 ((m153n h hf).I ⟨fun _ => fs_mq1 (fs_c2n (fun e => hf e.1)) (by decide), fun a => absurd rfl a⟩)
theorem m209 (h : fs_mp o σ S) {s : Int} : fx_Rt 209 [(46, o), (0, 0), (0, s)] σ (0, fs_nof S 3 s) σ ∧ fx_Rt 209 [(46, o), (0, 1), (0, s)] σ (0, fs_nof S 4 s) σ := by
  obtain ⟨ho, rfl, hl⟩ := h
  exact ⟨c209 ho (Or.inl rfl), c209 ho (Or.inr rfl)⟩
theorem m234 (h : fs_mp o σ S) {s w : Int} : fx_Ca 234 [(46, o), (0, s), (0, w)] σ (fs_mq o σ (fs_c2 (fs_in (S 0 0 0) s) (fs_in 4 w)) (fs_aheard S s w)) := by
  have hna := h.1.1
  by_cases hs : fs_in (S 0 0 0) s
  · by_cases hw : fs_in 4 w
    · have hc := fs_c2y (p := fs_in (S 0 0 0) s) (q := fs_in 4 w) hs hw
      have hu := h.u (e := 0)
      have e1 : σ 47 0 (2 + s) = S 1 s 0 := by rw [← h.2.1]; show _ = σ 47 0 (0 + 2 + s); exact fs_mi (by omega)
      have e2 : σ 47 0 (10 + s) = S 2 s 0 := by rw [← h.2.1]; show _ = σ 47 0 (0 + 10 + s); exact fs_mi (by omega)
      have ha : fs_aheard S s w = if w = 0 then S 1 s 0 else if w = 1 then S 2 s 0 else if w = 2 then fs_nof S 4 s else fs_sum (fun t => fs_sum (fs_voice S fs_W1 s t) 1000) 8 := rfl
      refine t234_0 ((m152y h hs).I ⟨fun _ => (m149y ⟨hw.1, by omega⟩).I ⟨fun _ => ⟨fun w0 => ⟨⟨by omega, by omega⟩, ⟨by omega, by omega⟩, fs_mqs hc (by rw [ha, if_pos w0, e1]) fs_sc.rfl⟩, fun w0 => ⟨fun w1 => ⟨⟨by omega, by omega⟩, ⟨by omega, by omega⟩, fs_mqs hc (by rw [ha, if_neg w0, if_pos w1, e2]) fs_sc.rfl⟩, fun w1 => ⟨fun w2 => (m209 hu).2.I (fs_mqs hc (by rw [ha, if_neg w0, if_neg w1, if_pos w2]) fs_sc.rfl), fun w2 => ?_⟩⟩⟩, fun a => absurd a (by decide)⟩, fun a => absurd a (by decide)⟩)
      have c33 := c233 (σ := fx_up σ 46 o 0 0) (o := o) (s := s) (by rw [hu.2.1]; exact h.1) hu.2.2
      rw [hu.2.1, hu.n.2] at c33
      refine fx_CI_of c33 ?_
      rintro v τ ⟨rfl, g1⟩
      exact Or.inl ⟨rfl, fs_mqs hc (by rw [ha, if_neg w0, if_neg w1, if_neg w2, fs_voice_sw h.1]) g1.sc⟩
    · exact t234_0 ((m152y h hs).I ⟨fun _ => (m149n (fun e => hw ⟨e.1, by omega⟩)).I ⟨fun a => absurd rfl a, fun _ => fs_mq1 (fs_c2m hs hw) (by decide)⟩, fun a => absurd a (by decide)⟩)
  · exact t234_0 ((m152n h hs).I ⟨fun a => absurd rfl a, fun _ => fs_mq1 (fs_c2n hs) (by decide)⟩)
theorem m159s (h : fs_mp o σ S) {t x s : Int} (hs : s ≠ -1) : fx_Rt 159 [(46, o), (0, t), (0, x), (0, s)] σ (0, fs_by S s t x) σ := by
  obtain ⟨ho, rfl, hl⟩ := h
  exact c159s ho hl hs
theorem m235 (h : fs_mp o σ S) {a b : Int} : fx_Ca 235 [(46, o), (0, a), (0, b)] σ (fs_mq o σ (fs_c2 (fs_in (S 0 0 0) a ∧ fs_in (S 0 0 0) b) (a ≠ b)) (fs_acc S a b)) := by
  have hfa := h.1.2.1
  by_cases ha : fs_in (S 0 0 0) a
  · by_cases hb : fs_in (S 0 0 0) b
    · refine t235_0 ((m152y h ha).I ⟨fun e => absurd e (by decide), fun _ => (m152y h hb).I ⟨fun _ => ⟨fun d => ?_, fun d => fs_mq1 (fs_c2m ⟨ha, hb⟩ (fun e => e d)) (by decide)⟩, fun e => absurd e (by decide)⟩⟩)
      have hc := fs_c2y (p := fs_in (S 0 0 0) a ∧ fs_in (S 0 0 0) b) (q := a ≠ b) ⟨ha, hb⟩ d
      have hu := h.u (e := 0)
      have hs0 : fs_sc (fx_up σ 46 o 0 0) (fx_up σ 46 o 0 0) := fs_sc.rfl
      generalize hE : fx_up σ 46 o 0 0 = ρ at hu
      have fin : ∀ r z : Int, r = z → fs_mq o σ (fs_c2 (fs_in (S 0 0 0) a ∧ fs_in (S 0 0 0) b) (a ≠ b)) z (0, r) ρ := fun r z hz => by rw [← hE]; exact fs_mqs hc hz hs0
      have sw1 : fs_sum (fun t => fs_sum (fs_ab S a b t) 1000) 8 = fs_sum (fun x => fs_sum (fun t => fs_ab S a b t x) 8) 1000 := fs_sum_sw (g := fun t x => fs_ab S a b t x) 8
      have sw2 : fs_sum (fun t => fs_sum (fs_as S a b t) 1000) 8 = fs_sum (fun x => fs_sum (fun t => fs_as S a b t x) 8) 1000 := fs_sum_sw (g := fun t x => fs_as S a b t x) 8
      have hA : fs_acc S a b = if fs_sum (fun x => fs_sum (fun t => fs_ab S a b t x) 8) 1000 = 0 then 100 else fx_div (100 * fs_sum (fun x => fs_sum (fun t => fs_as S a b t x) 8) 1000) (fs_sum (fun x => fs_sum (fun t => fs_ab S a b t x) 8) 1000) := by
        unfold fs_acc
        rw [sw1, sw2, Int.mul_comm]
      have hF1 : ∀ x t, 0 ≤ fs_ab S a b t x ∧ fs_ab S a b t x ≤ 1 := fun x t => fs_ab_r x
      have hF2 : ∀ x t, 0 ≤ fs_as S a b t x ∧ fs_as S a b t x ≤ 1 := fun x t => fs_as_r x
      have hG0 : ∀ x, 0 ≤ fs_sum (fun t => fs_ab S a b t x) 8 ∧ fs_sum (fun t => fs_ab S a b t x) 8 ≤ 8 := fun x => fs_sum01 (hF1 x) 8
      have hH0 : ∀ x, 0 ≤ fs_sum (fun t => fs_as S a b t x) 8 ∧ fs_sum (fun t => fs_as S a b t x) 8 ≤ 8 := fun x => fs_sum01 (hF2 x) 8
      generalize hG : (fun x => fs_sum (fun t => fs_ab S a b t x) 8) = G at hA
      generalize hH : (fun x => fs_sum (fun t => fs_as S a b t x) 8) = H at hA
      have hGx : ∀ x, G x = fs_sum (fun t => fs_ab S a b t x) 8 := fun x => by rw [← hG]
      have hHx : ∀ x, H x = fs_sum (fun t => fs_as S a b t x) 8 := fun x => by rw [← hH]
      have hGr : ∀ x, 0 ≤ G x ∧ G x ≤ 8 := fun x => by rw [hGx]; exact hG0 x
      have hHr : ∀ x, 0 ≤ H x ∧ H x ≤ 8 := fun x => by rw [hHx]; exact hH0 x
      refine fx_whl (X := Int × fx_V × fx_V × fx_V) (fun y => [(46, o), (0, a), (0, b), (0, fs_sum G y.1.toNat), (0, fs_sum H y.1.toNat), (0, y.1), y.2.1, y.2.2.1, y.2.2.2]) (fun _ => ρ) (fun y => 0 ≤ y.1 ∧ y.1 ≤ 1000) (fun y => (1000 - y.1).toNat) ?_ (0, (3, 0), (3, 0), (3, 0)) ⟨by simp, by simp⟩
      rintro ⟨x, w6, w7, w8⟩ ⟨x0, x1⟩ ih
      simp only at x0 x1
      show fx_Wp 235 51 [(46, o), (0, a), (0, b), (0, fs_sum G x.toNat), (0, fs_sum H x.toNat), (0, x), w6, w7, w8] [] ρ _
      refine t235_51 ⟨fun c => ?_, fun c => ?_⟩
      · have hb2 := fs_sum_r hHr x.toNat
        have e : x.toNat = 1000 := by omega
        rw [e] at hb2 ⊢
        exact ⟨fun q => ⟨⟨by omega, by omega⟩, q, fin _ _ (by rw [hA, if_neg q])⟩, fun q => fin _ _ (by rw [hA, if_pos q])⟩
      have m : fx_Wp 235 62 [(46, o), (0, a), (0, b), (0, fs_sum G x.toNat + fs_sum (fun t => fs_ab S a b t x) (0 : Int).toNat), (0, fs_sum H x.toNat + fs_sum (fun t => fs_as S a b t x) (0 : Int).toNat), (0, x), (0, 0), w7, w8] [] ρ (fs_mq o σ (fs_c2 (fs_in (S 0 0 0) a ∧ fs_in (S 0 0 0) b) (a ≠ b)) (fs_acc S a b)) := by
        refine fx_whl (X := Int × fx_V × fx_V) (fun y => [(46, o), (0, a), (0, b), (0, fs_sum G x.toNat + fs_sum (fun t => fs_ab S a b t x) y.1.toNat), (0, fs_sum H x.toNat + fs_sum (fun t => fs_as S a b t x) y.1.toNat), (0, x), (0, y.1), y.2.1, y.2.2]) (fun _ => ρ) (fun y => 0 ≤ y.1 ∧ y.1 ≤ 8) (fun y => (8 - y.1).toNat) ?_ (0, w7, w8) ⟨by simp, by simp⟩
        rintro ⟨t, v7, v8⟩ ⟨t0, t1⟩ ih2
        simp only at t0 t1
        show fx_Wp 235 62 [(46, o), (0, a), (0, b), (0, fs_sum G x.toNat + fs_sum (fun t => fs_ab S a b t x) t.toNat), (0, fs_sum H x.toNat + fs_sum (fun t => fs_as S a b t x) t.toNat), (0, x), (0, t), v7, v8] [] ρ _
        have ih2 : ∀ (w w' : fx_V) (A B : Int), t < 8 → fs_ab S a b t x = A → fs_as S a b t x = B → fx_Wp 235 62 [(46, o), (0, a), (0, b), (0, fs_sum G x.toNat + fs_sum (fun t => fs_ab S a b t x) t.toNat + A), (0, fs_sum H x.toNat + fs_sum (fun t => fs_as S a b t x) t.toNat + B), (0, x), (0, t + 1), w, w'] [] ρ (fs_mq o σ (fs_c2 (fs_in (S 0 0 0) a ∧ fs_in (S 0 0 0) b) (a ≠ b)) (fs_acc S a b)) := by
          intro w w' A B hk h1 h2
          have := ih2 (t + 1, w, w') ⟨by simp only; omega, by simp only; omega⟩ (by simp only; omega)
          simp only at this
          rw [fs_sum_s _ t0, fs_sum_s _ t0, h1, h2, ← Int.add_assoc, ← Int.add_assoc] at this
          exact this
        have hb1 := fs_sum_r hGr x.toNat
        have hb2 := fs_sum_r hHr x.toNat
        have hb3 := fs_sum01 (hF1 x) t.toNat
        have hb4 := fs_sum01 (hF2 x) t.toNat
        have hFp : fs_ab S a b t x = fs_b (decide (fs_by S a t x ≠ -1) && decide (fs_by S b t x ≠ -1)) := rfl
        have hFq : fs_as S a b t x = fs_b ((decide (fs_by S a t x ≠ -1) && decide (fs_by S b t x ≠ -1)) && decide (S 7 (fs_by S a t x) 0 = S 7 (fs_by S b t x) 0)) := rfl
        have hin := fs_by_in (s := a) (t := t) (x := x) h.1
        have hin2 := fs_by_in (s := b) (t := t) (x := x) h.1
        have h1 := m159s hu (t := t) (x := x) (s := a) (by omega)
        have h2 := m159s hu (t := t) (x := x) (s := b) (by omega)
        generalize fs_by S a t x = B at hin hFp hFq h1
        generalize fs_by S b t x = D at hin2 hFp hFq h2
        refine t235_62 ⟨fun c => ⟨⟨by omega, by omega⟩, ?_⟩, fun c => h1.I ⟨fun q => h2.I ⟨fun r => ⟨⟨by omega, by omega⟩, (m151 hu (f := B) ⟨by omega, by omega⟩).2.2.2.2.1.I ((m151 hu (f := D) ⟨by omega, by omega⟩).2.2.2.2.1.I ⟨fun u => ⟨⟨by omega, by omega⟩, ⟨by omega, by omega⟩, ih2 _ _ _ _ c ?_ ?_⟩, fun u => ⟨⟨by omega, by omega⟩, ⟨by omega, by omega⟩, ih2 _ _ _ _ c ?_ ?_⟩⟩)⟩, fun r => ⟨⟨by omega, by omega⟩, ?_⟩⟩, fun q => ⟨⟨by omega, by omega⟩, ?_⟩⟩⟩
        · have := ih (x + 1, (0, t), v7, v8) ⟨by simp only; omega, by simp only; omega⟩ (by simp only; omega)
          simp only at this
          rw [fs_sum_s G x0, hGx x, fs_sum_s H x0, hHx x] at this
          rw [show t.toNat = 8 by omega]
          exact this
        · rw [hFp, decide_eq_true q, decide_eq_true r]; rfl
        · rw [hFq, decide_eq_false u, Bool.and_false]; rfl
        · rw [hFp, decide_eq_true q, decide_eq_true r]; rfl
        · rw [hFq, decide_eq_true q, decide_eq_true r, decide_eq_true u]; rfl
        · have := ih2 (0, B) (0, D) 0 0 c (by rw [hFp, r]; simp [fs_b]) (by rw [hFq, r]; simp [fs_b])
          rw [Int.add_zero, Int.add_zero] at this
          exact this
        · have := ih2 (0, B) (0, -1) 0 0 c (by rw [hFp, q]; rfl) (by rw [hFq, q]; rfl)
          rw [Int.add_zero, Int.add_zero] at this
          exact this
      have z1 : fs_sum G x.toNat + fs_sum (fun t => fs_ab S a b t x) (0 : Int).toNat = fs_sum G x.toNat := by show _ + 0 = _; omega
      have z2 : fs_sum H x.toNat + fs_sum (fun t => fs_as S a b t x) (0 : Int).toNat = fs_sum H x.toNat := by show _ + 0 = _; omega
      rw [z1, z2] at m
      exact m
    · exact t235_0 ((m152y h ha).I ⟨fun e => absurd e (by decide), fun _ => (m152n h hb).I ⟨fun e => absurd rfl e, fun _ => fs_mq1 (fs_c2n (fun e => hb e.2)) (by decide)⟩⟩)
  · exact t235_0 ((m152n h ha).I ⟨fun _ => fs_mq1 (fs_c2n (fun e => ha e.1)) (by decide), fun e => absurd rfl e⟩)
theorem m236 (h : fs_mp o σ S) {t s : Int} : fx_Ca 236 [(46, o), (0, t), (0, s)] σ (fs_mq o σ (fs_c1 (fs_in 8 t ∧ fs_in 8 s)) (fs_both (fs_is S fs_W1 t) (fs_is S fs_W1 s))) := by
  by_cases ht : fs_in 8 t
  · by_cases hs : fs_in 8 s
    · have hc := fs_c1y (p := fs_in 8 t ∧ fs_in 8 s) ⟨ht, hs⟩
      refine t236_0 ((m154y ht).I ⟨fun e => absurd e (by decide), fun _ => (m154y hs).I ⟨fun e => absurd e (by decide), fun _ => ?_⟩⟩)
      generalize hF : (fun x => fs_b (decide (fs_is S fs_W1 t x ≠ -1) && decide (fs_is S fs_W1 s x ≠ -1))) = F
      have hFx : ∀ x, F x = fs_b (decide (fs_is S fs_W1 t x ≠ -1) && decide (fs_is S fs_W1 s x ≠ -1)) := fun x => by rw [← hF]
      have hFr : ∀ x, 0 ≤ F x ∧ F x ≤ 1 := fun x => by rw [hFx]; exact fs_b_r _
      have hA : fs_both (fs_is S fs_W1 t) (fs_is S fs_W1 s) = fs_sum F 1000 := by rw [← hF]; rfl
      refine fx_whl (X := Int × fx_S) (fun y => [(46, o), (0, t), (0, s), (0, fs_sum F y.1.toNat), (0, y.1)]) (fun y => y.2) (fun y => (0 ≤ y.1 ∧ y.1 ≤ 1000) ∧ fs_sc (fx_up σ 46 o 0 0) y.2) (fun y => (1000 - y.1).toNat) ?_ (0, fx_up σ 46 o 0 0) ⟨⟨by simp, by simp⟩, fs_sc.rfl⟩
      rintro ⟨x, τ⟩ ⟨⟨x0, x1⟩, hf⟩ ih
      simp only at x0 x1 hf
      show fx_Wp 236 37 [(46, o), (0, t), (0, s), (0, fs_sum F x.toNat), (0, x)] [] τ _
      refine t236_37 ⟨fun c => fs_mqs hc (by rw [hA, show x = 1000 by omega]; rfl) hf, fun c => fx_CV_of (m165 ((h.u (e := 0)).sc hf)) ?_⟩
      rintro v τ1 ⟨rfl, s1, -, s3⟩
      refine Or.inl ⟨rfl, ht, ?_⟩
      rw [(s3 t ht.1 ht.2).1, (s3 s hs.1 hs.2).1]
      have hb := fs_sum01 hFr x.toNat
      have ih : ∀ A, F x = A → fx_Wp 236 37 [(46, o), (0, t), (0, s), (0, fs_sum F x.toNat + A), (0, x + 1)] [] τ1 (fs_mq o σ (fs_c1 (fs_in 8 t ∧ fs_in 8 s)) (fs_both (fs_is S fs_W1 t) (fs_is S fs_W1 s))) := by
        intro A hA
        have := ih (x + 1, τ1) ⟨⟨by simp only; omega, by simp only; omega⟩, hf.trans s1⟩ (by simp only; omega)
        simp only at this
        rw [fs_sum_s F x0, hA] at this
        exact this
      refine ⟨fun d => ⟨⟨by omega, by omega⟩, ⟨by omega, by omega⟩, ih _ (by rw [hFx, d]; rfl)⟩, fun d => ⟨hs, fun e => ⟨⟨by omega, by omega⟩, ⟨by omega, by omega⟩, ih _ (by rw [hFx, e]; simp [fs_b])⟩, fun e => ⟨⟨by omega, by omega⟩, ⟨by omega, by omega⟩, ih _ (by rw [hFx, decide_eq_true d, decide_eq_true e]; rfl)⟩⟩⟩
    · exact t236_0 ((m154y ht).I ⟨fun e => absurd e (by decide), fun _ => (m154n hs).I ⟨fun _ => fs_mq1 (fs_c1n (fun e => hs e.2)) (by decide), fun e => absurd rfl e⟩⟩)
  · exact t236_0 ((m154n ht).I ⟨fun _ => fs_mq1 (fs_c1n (fun e => ht e.1)) (by decide), fun e => absurd rfl e⟩)
end FXM1
