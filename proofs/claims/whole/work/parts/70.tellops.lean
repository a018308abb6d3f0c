def fs_via (σ σ' : fx_S) : Prop := fs_R σ' ∧ fs_qf σ σ'
/-- what an act answers, before its exceptions are read -/
def fs_ct (σ : fx_S) (cd r : Int) (A : fx_S) (ans e1 e2 : Int) : fx_V → fx_S → Prop := fun v τ => (cd ≠ 0 ∧ v = (5, if cd = 1 then e1 else e2) ∧ τ = σ) ∨ (cd = 0 ∧ r ≠ 0 ∧ v = (5, 1) ∧ ∃ σ', fs_via σ σ' ∧ fs_T1 σ' r τ) ∨ (cd = 0 ∧ r = 0 ∧ v = (0, ans) ∧ ∃ σ', fs_via σ σ' ∧ fs_T2 σ' A τ)
def fs_wt (σ : fx_S) (cd er r : Int) (A : fx_S) (ans : Int) : fx_V → fx_S → Prop := fun v τ => ∃ c, v = (0, c) ∧ ((cd ≠ 0 ∧ c = cd ∧ τ = σ) ∨ (cd = 0 ∧ r ≠ 0 ∧ c = er ∧ ∃ σ', fs_via σ σ' ∧ fs_T1 σ' r τ) ∨ (cd = 0 ∧ r = 0 ∧ c = 0 ∧ ∃ σ', fs_via σ σ' ∧ fs_T2 σ' A τ ∧ τ 61 0 0 = ans))
theorem fs_c1z {p : Prop} {i : Decidable p} (h : fs_c1 p = 0) : p := Classical.byContradiction fun z => by rw [fs_c1n z] at h; exact absurd h (by decide)
theorem fs_c2z {p q : Prop} {i : Decidable p} {j : Decidable q} (h : fs_c2 p q = 0) : p ∧ q := by
  by_cases a : p
  · by_cases b : q
    · exact ⟨a, b⟩
    · rw [fs_c2m a b] at h; exact absurd h (by decide)
  · rw [fs_c2n a] at h; exact absurd h (by decide)
theorem fs_le {x : Int} (h : 1 ≤ x ∧ x < 1000) : 0 ≤ x ∧ x ≤ 1000 := ⟨by omega, by omega⟩
theorem fs_T2.a {σ A τ : fx_S} {y : Int} (h : fs_T2 σ A τ) : fs_T2 σ A (fx_up τ 61 0 0 y) := by
  obtain ⟨h1, h2, h3, h4, h5, h6, h7, h8, h9, h10⟩ := h
  have u : ∀ K o p, K ≠ 61 → fx_up τ 61 0 0 y K o p = τ K o p := fun K o p hK => by rw [fx_upE, if_neg (by omega)]
  have hc : ∀ i, fs_c (fx_up τ 61 0 0 y) i = fs_c τ i := fun i => fs_c_of (fun K o p _ _ => u K o p (by omega)) i
  have hb : ∀ i, fs_bt τ i → fs_bt (fx_up τ 61 0 0 y) i := fun i h t t0 t1 => by rw [u 22 _ _ (by omega), hc]; exact h t t0 t1
  refine ⟨fun K o p hK => ?_, fun o p => ?_, by rw [hc]; exact h3, hb _ h4, by rw [hc]; exact h5, hb _ h6, ?_, ?_, ?_, ?_⟩
  · rw [u K o p (fun z => hK (Or.inr (Or.inr (Or.inl z))))]; exact h1 K o p hK
  · rw [u 14 o p (by omega), u 20 o p (by omega)]; exact h2 o p
  · rw [u 10 0 10 (by omega)]; exact h7
  · rw [u 10 0 11 (by omega)]; exact h8
  · rw [u 10 0 12 (by omega)]; exact h9
  · rw [u 10 0 13 (by omega)]; exact h10
section FXT3
variable {σ τ S A X : fx_S} {r er cd ans e1 e2 : Int} {mj : Nat} {as : List fx_V}
theorem fs_via.rfl (hR : fs_R σ) : fs_via σ σ := ⟨hR, fun _ _ _ _ => Eq.refl _⟩
theorem fs_tc {σ' : fx_S} {k a b c d e : Int} {C : fx_S → Prop} (hv : fs_via σ σ') (hcd : cd = 0) (hk : 16 ≤ k ∧ k ≤ 23) (hp : fs_par k a b c d e X) (hS : fs_m σ' 47 0 = S) (hC : ∀ τ, fs_ref S k a b c d = 0 → fs_T2 σ' (fs_do S k a b c d e X) τ → C τ) :
    fx_CV 143 [(10, 0), (0, k), (0, a), (0, b), (0, c), (0, d), (0, e)] σ' (fs_ct σ cd (fs_ref S k a b c d) (fs_do S k a b c d e X) ans e1 e2) C := by
  have h := c143 hv.1 hk hp
  rw [hS] at h
  refine fx_CV_of h ?_
  rintro v τ (⟨hr, rfl, h⟩ | ⟨hr, rfl, h⟩)
  · exact Or.inr ⟨rfl, Or.inr (Or.inl ⟨hcd, hr, rfl, σ', hv, h⟩)⟩
  · exact Or.inl ⟨rfl, hC τ hr h⟩
theorem fs_ct0 {e : Int} {n : Int} (h : cd = n) (hn : n ≠ 0) (he : (if n = 1 then e1 else e2) = e) : fs_ct σ cd r A ans e1 e2 (5, e) σ := Or.inl ⟨by rw [h]; exact hn, by rw [h, he], rfl⟩
theorem fs_ct2 {σ' : fx_S} {y : Int} (h : cd = 0) (hr : r = 0) (hv : fs_via σ σ') (ht : fs_T2 σ' A τ) (hy : y = ans) : fs_ct σ cd r A ans e1 e2 (0, y) τ := Or.inr (Or.inr ⟨h, hr, by rw [hy], σ', hv, ht⟩)
theorem fs_R.n (hR : fs_R σ) : σ 11 0 9 = fs_m σ 47 0 0 0 0 ∧ σ 11 0 10 = fs_m σ 47 0 0 1 0 := ⟨hR.1.2.1.1, hR.1.2.1.2.1⟩
theorem fs_T2.n (h : fs_T2 σ A τ) : A 0 0 0 = τ 11 0 9 ∧ A 0 1 0 = τ 11 0 10 := ⟨h.2.2.1.1, h.2.2.1.2.1⟩
theorem c101 (hR : fs_R σ) {x : Int} : fx_Ca 101 [(10, 0), (0, x)] σ (fs_ct σ (fs_c1 (fs_in 100 x)) (fs_ref (fs_m σ 47 0) 17 x 0 0 0) (fs_do (fs_m σ 47 0) 17 x 0 0 0 0 X) (fs_m σ 47 0 0 0 0) 0 0) := by
  have hn := hR.1.1.1
  by_cases hx : fs_in 100 x
  · refine t101_0 ((c141y hx).V (fs_tc (fs_via.rfl hR) (fs_c1y hx) (by omega) (fs_p17 hx) rfl (fun τ hr h => ?_)))
    have e := h.n.1
    rw [fs_A17] at e
    exact ⟨⟨by omega, by omega⟩, fs_ct2 (fs_c1y hx) hr (fs_via.rfl hR) h (by omega)⟩
  · exact t101_0 ((c141n hx).VX (fs_ct0 (fs_c1n hx) (by decide) rfl))
theorem c102 (hR : fs_R σ) {t s a b x : Int} : fx_Ca 102 [(10, 0), (0, t), (0, s), (0, a), (0, b), (0, x)] σ (fs_ct σ (fs_c2 (fs_in 8 t) (fs_in 1001 a ∧ fs_in 1001 b ∧ fs_in 100 x)) (fs_ref (fs_m σ 47 0) 18 t s a b) (fs_do (fs_m σ 47 0) 18 t s a b x X) (fs_m σ 47 0 0 1 0) 2 0) := by
  have hn := hR.1.1.2.1
  by_cases ht : fs_in 8 t
  · by_cases ha : fs_in 1001 a
    · by_cases hb : fs_in 1001 b
      · by_cases hx : fs_in 100 x
        · have hc := fs_c2y (p := fs_in 8 t) (q := fs_in 1001 a ∧ fs_in 1001 b ∧ fs_in 100 x) ht ⟨ha, hb, hx⟩
          refine t102_0 ((c137y ht).V ((c141y ha).V ((c141y hb).V ((c141y hx).V (fs_tc (fs_via.rfl hR) hc (by omega) (fs_p18 ht ha hb hx) rfl (fun τ hr h => ?_))))))
          have e := h.n.2
          rw [fs_A18] at e
          exact ⟨⟨by omega, by omega⟩, fs_ct2 hc hr (fs_via.rfl hR) h (by omega)⟩
        · exact t102_0 ((c137y ht).V ((c141y ha).V ((c141y hb).V ((c141n hx).VX (fs_ct0 (fs_c2m ht (fun z => hx z.2.2)) (by decide) rfl)))))
      · exact t102_0 ((c137y ht).V ((c141y ha).V ((c141n hb).VX (fs_ct0 (fs_c2m ht (fun z => hb z.2.1)) (by decide) rfl))))
    · exact t102_0 ((c137y ht).V ((c141n ha).VX (fs_ct0 (fs_c2m ht (fun z => ha z.1)) (by decide) rfl)))
  · exact t102_0 ((c137n ht).VX (fs_ct0 (fs_c2n ht) (by decide) rfl))
theorem c103 (hR : fs_R σ) {f : Int} : fx_Ca 103 [(10, 0), (0, f)] σ (fs_ct σ 0 (fs_ref (fs_m σ 47 0) 19 f 0 0 0) (fs_do (fs_m σ 47 0) 19 f 0 0 0 0 X) (fs_reign (fs_m σ 47 0) fs_W1 f) 0 0) := by
  have hn := hR.n.2
  refine t103_0 (c25.I ?_)
  rw [hn]
  by_cases hf : fs_in (fs_m σ 47 0 0 1 0) f
  · rw [decide_eq_true hf.1, decide_eq_true hf.2]
    refine ⟨fun a => absurd a (by decide), fun _ => fx_CR_d hR.pre (fun τ g1 g2 g3 => ?_)⟩
    have hR2 : fs_R τ := hR.q (fs_q6.of g1) g2 (fun _ _ _ _ => rfl)
    have hm : fs_m τ 47 0 = fs_m σ 47 0 := fs_m_of (fun p => g1 47 0 p (by omega))
    refine (c89 g2.1 g2.2.1 g3 hf.1 hf.2).I (fs_tc ⟨hR2, g1⟩ rfl (by omega) (fs_p19 (by omega)) hm (fun ρ hr h => fs_ct2 rfl hr ⟨hR2, g1⟩ h rfl))
  · rw [show (decide (0 ≤ f) && decide (f < fs_m σ 47 0 0 1 0)) = false by rw [Bool.and_eq_false_iff, decide_eq_false_iff_not, decide_eq_false_iff_not]; omega]
    exact ⟨fun _ => fs_tc (fs_via.rfl hR) rfl (by omega) (fs_p19 (by omega)) rfl (fun ρ hr h => absurd ((fs_ref_0 hr).2.2.1 rfl).1 hf), fun a => absurd rfl a⟩
theorem c104y (hR : fs_R σ) {s : Int} : fx_Ca 104 [(10, 0), (0, s), (0, 0)] σ (fs_ct σ 0 (fs_ref (fs_m σ 47 0) 20 s 0 0 0) (fs_do (fs_m σ 47 0) 20 s 0 0 0 0 X) (fs_nof (fs_do (fs_m σ 47 0) 20 s 0 0 0 0 X) 4 s) 0 0) := by
  refine t104_0 ⟨fun _ => fs_tc (fs_via.rfl hR) rfl (by omega) (fs_p19 (by omega)) rfl (fun τ hr h => ?_), fun a => absurd rfl a⟩
  have okA : fs_ok (fs_do (fs_m σ 47 0) 20 s 0 0 0 0 X) := fs_do_ok hR.1.1 (fs_p19 (by omega)) hr
  refine (c43 (h.2.2.1.ok okA)).I (fs_ct2 rfl hr (fs_via.rfl hR) h ?_)
  exact (fs_nof_c h.2.2.1 okA (Or.inr rfl)).symm
theorem c104n (hR : fs_R σ) {s : Int} : fx_Ca 104 [(10, 0), (0, s), (0, 1)] σ (fs_ct σ 0 (fs_ref (fs_m σ 47 0) 21 s 0 0 0) (fs_do (fs_m σ 47 0) 21 s 0 0 0 0 X) (fs_nof (fs_do (fs_m σ 47 0) 21 s 0 0 0 0 X) 4 s) 0 0) := by
  refine t104_0 ⟨fun a => absurd a (by decide), fun _ => fs_tc (fs_via.rfl hR) rfl (by omega) (fs_p19 (by omega)) rfl (fun τ hr h => ?_)⟩
  have okA : fs_ok (fs_do (fs_m σ 47 0) 21 s 0 0 0 0 X) := fs_do_ok hR.1.1 (fs_p19 (by omega)) hr
  refine (c43 (h.2.2.1.ok okA)).I (fs_ct2 rfl hr (fs_via.rfl hR) h ?_)
  exact (fs_nof_c h.2.2.1 okA (Or.inr rfl)).symm
theorem c105 (hR : fs_R σ) {s x : Int} : fx_Ca 105 [(10, 0), (0, s), (0, x)] σ (fs_ct σ (fs_c1 (fs_in 100 x)) (fs_ref (fs_m σ 47 0) 22 s x 0 0) (fs_do (fs_m σ 47 0) 22 s x 0 0 0 X) (fs_m σ 47 0 1 s 0) 0 0) := by
  have hn := hR.n.1
  have hn8 := hR.1.1.1
  by_cases hx : fs_in 100 x
  · refine t105_0 ((c141y hx).V (c24.I ?_))
    rw [hn]
    by_cases hs : fs_in (fs_m σ 47 0 0 0 0) s
    · rw [decide_eq_true hs.1, decide_eq_true hs.2]
      have e : σ 13 0 s = fs_m σ 47 0 1 s 0 := (hR.1.2.1.2.2.1 s hs.1 (by show s < σ 11 0 9; omega)).1
      exact ⟨fun a => absurd a (by decide), fun _ => ⟨⟨by omega, by omega⟩, fs_tc (fs_via.rfl hR) (fs_c1y hx) (by omega) (fs_p22 hx) rfl (fun τ hr h => fs_ct2 (fs_c1y hx) hr (fs_via.rfl hR) h e)⟩⟩
    · rw [show (decide (0 ≤ s) && decide (s < fs_m σ 47 0 0 0 0)) = false by rw [Bool.and_eq_false_iff, decide_eq_false_iff_not, decide_eq_false_iff_not]; omega]
      exact ⟨fun _ => fs_tc (fs_via.rfl hR) (fs_c1y hx) (by omega) (fs_p22 hx) rfl (fun τ hr h => absurd ((fs_ref_0 hr).2.2.2.1 (by omega)) hs), fun a => absurd rfl a⟩
  · exact t105_0 ((c141n hx).VX (fs_ct0 (fs_c1n hx) (by decide) rfl))
theorem c106 (hR : fs_R σ) {t x : Int} : fx_Ca 106 [(10, 0), (0, t), (0, x)] σ (fs_ct σ (fs_c2 (fs_in 8 t) (1 ≤ x ∧ x < 1000)) (fs_ref (fs_m σ 47 0) 23 t x 0 0) (fs_do (fs_m σ 47 0) 23 t x 0 0 0 X) (fs_cnt (fun f => fs_cut (fs_m σ 47 0) f t x) (fs_m σ 47 0 0 1 0).toNat) 2 0) := by
  have hn := hR.n.2
  have hn8 := hR.1.1.2.1
  by_cases ht : fs_in 8 t
  · by_cases hx : 1 ≤ x ∧ x < 1000
    · have hc := fs_c2y (p := fs_in 8 t) (q := 1 ≤ x ∧ x < 1000) ht hx
      refine t106_0 ((c137y ht).V ((c141y hx).V (fs_tc (fs_via.rfl hR) hc (by omega) (fs_p23 ht (fs_le hx)) rfl (fun τ hr h => ?_))))
      have e := h.n.2
      rw [fs_A23 hR.1.1 ht (fs_le hx) hr] at e
      have hle := fs_cnt_le (fun f => fs_cut (fs_m σ 47 0) f t x) (fs_m σ 47 0 0 1 0).toNat
      exact ⟨⟨by omega, by omega⟩, fs_ct2 hc hr (fs_via.rfl hR) h (by omega)⟩
    · exact t106_0 ((c137y ht).V ((c141n hx).VX (fs_ct0 (fs_c2m ht hx) (by decide) rfl)))
  · exact t106_0 ((c137n ht).VX (fs_ct0 (fs_c2n ht) (by decide) rfl))
theorem c107 (hR : fs_R σ) {t : Int} : fx_Ca 107 [(10, 0), (0, t)] σ (fs_ct σ (fs_c1 (fs_in 8 t)) (fs_ref (fs_m σ 47 0) 16 t 0 0 0) (fs_do (fs_m σ 47 0) 16 t 0 0 0 0 X) (fs_m σ 47 0 10 t 0) 2 0) := by
  by_cases ht : fs_in 8 t
  · have e : σ 22 (8 * 0 + t) 4 = fs_m σ 47 0 10 t 0 := (hR.1.2.1.2.2.2.2 t ht.1 ht.2).2.1
    rw [show 8 * 0 + t = t by omega] at e
    exact t107_0 ((c137y ht).V ⟨ht, fs_tc (fs_via.rfl hR) (fs_c1y ht) (by omega) (fs_p16 ht) rfl (fun τ hr h => fs_ct2 (fs_c1y ht) hr (fs_via.rfl hR) h e)⟩)
  · exact t107_0 ((c137n ht).VX (fs_ct0 (fs_c1n ht) (by decide) rfl))
theorem fs_wt0 {c : Int} (h1 : cd ≠ 0) (h : c = cd) : fs_wt σ cd er r A ans (0, c) σ := ⟨c, rfl, Or.inl ⟨h1, h, rfl⟩⟩
theorem fs_wt1 (h1 : cd = 0) (h2 : r ≠ 0) (h3 : ∃ σ', fs_via σ σ' ∧ fs_T1 σ' r τ) : fs_wt σ cd er r A ans (0, er) τ := ⟨er, rfl, Or.inr (Or.inl ⟨h1, h2, rfl, h3⟩)⟩
theorem fs_wt2 (h1 : cd = 0) (h2 : r = 0) (h3 : ∃ σ', fs_via σ σ' ∧ fs_T2 σ' A τ) : fs_wt σ cd er r A ans (0, 0) (fx_up τ 61 0 0 ans) := by
  obtain ⟨σ', a, b⟩ := h3
  exact ⟨0, rfl, Or.inr (Or.inr ⟨h1, h2, rfl, σ', a, b.a, fx_upS⟩)⟩
theorem fs_v1 (hc : cd = 0 ∨ cd = 1) (he : e1 ≠ 1) (h : fx_Ca mj as σ (fs_ct σ cd r A ans e1 e2)) : fx_CI mj as σ (fun v σ1 => (v.2 = e1 → fs_wt σ cd 2 r A ans (0, 1) σ1) ∧ (v.2 = 1 → fs_wt σ cd 2 r A ans (0, 2) σ1) ∧ (v.2 ≠ e1 → v.2 ≠ 1 → fs_wt σ cd 2 r A ans v σ1)) (fun y1 σ1 => fs_wt σ cd 2 r A ans (0, 0) (fx_up σ1 61 0 0 y1)) := by
  refine fx_CI_of h ?_
  rintro v τ (⟨h1, rfl, rfl⟩ | ⟨h1, h2, rfl, h3⟩ | ⟨h1, h2, rfl, h3⟩)
  · have hc1 : cd = 1 := by omega
    rw [if_pos hc1]
    exact Or.inr ⟨rfl, fun _ => fs_wt0 h1 hc1.symm, fun z => absurd z he, fun z => absurd rfl z⟩
  · exact Or.inr ⟨rfl, fun z => absurd z.symm he, fun _ => fs_wt1 h1 h2 h3, fun _ z => absurd rfl z⟩
  · exact Or.inl ⟨rfl, fs_wt2 h1 h2 h3⟩
theorem fs_v2 (hc : cd = 0 ∨ cd = 1 ∨ cd = 2) (h : fx_Ca mj as σ (fs_ct σ cd r A ans 2 0)) : fx_CI mj as σ (fun v σ1 => (v.2 = 2 → fs_wt σ cd 3 r A ans (0, 1) σ1) ∧ (v.2 = 0 → fs_wt σ cd 3 r A ans (0, 2) σ1) ∧ (v.2 = 1 → fs_wt σ cd 3 r A ans (0, 3) σ1) ∧ (v.2 ≠ 2 → v.2 ≠ 0 → v.2 ≠ 1 → fs_wt σ cd 3 r A ans v σ1)) (fun y1 σ1 => fs_wt σ cd 3 r A ans (0, 0) (fx_up σ1 61 0 0 y1)) := by
  refine fx_CI_of h ?_
  rintro v τ (⟨h1, rfl, rfl⟩ | ⟨h1, h2, rfl, h3⟩ | ⟨h1, h2, rfl, h3⟩)
  · by_cases hc1 : cd = 1
    · rw [if_pos hc1]
      exact Or.inr ⟨rfl, fun _ => fs_wt0 h1 hc1.symm, fun z => absurd z (by decide), fun z => absurd z (by decide), fun z => absurd rfl z⟩
    · have hc2 : cd = 2 := by omega
      rw [if_neg hc1]
      exact Or.inr ⟨rfl, fun z => absurd z (by decide), fun _ => fs_wt0 h1 hc2.symm, fun z => absurd z (by decide), fun _ z => absurd rfl z⟩
  · exact Or.inr ⟨rfl, fun z => absurd z (by decide), fun z => absurd z (by decide), fun _ => fs_wt1 h1 h2 h3, fun _ _ z => absurd rfl z⟩
  · exact Or.inl ⟨rfl, fs_wt2 h1 h2 h3⟩
theorem fs_v0 (h : fx_Ca mj as σ (fs_ct σ 0 r A ans e1 e2)) : fx_CI mj as σ (fun v σ1 => (v.2 = 1 → fs_wt σ 0 1 r A ans (0, 1) σ1) ∧ (v.2 ≠ 1 → fs_wt σ 0 1 r A ans v σ1)) (fun y1 σ1 => fs_wt σ 0 1 r A ans (0, 0) (fx_up σ1 61 0 0 y1)) := by
  refine fx_CI_of h ?_
  rintro v τ (⟨h1, rfl, rfl⟩ | ⟨h1, h2, rfl, h3⟩ | ⟨h1, h2, rfl, h3⟩)
  · exact absurd rfl h1
  · exact Or.inr ⟨rfl, fun _ => fs_wt1 h1 h2 h3, fun z => absurd rfl z⟩
  · exact Or.inl ⟨rfl, fs_wt2 h1 h2 h3⟩
theorem fs_c1o {p : Prop} {i : Decidable p} : fs_c1 p = 0 ∨ fs_c1 p = 1 := by
  by_cases h : p
  · exact Or.inl (fs_c1y h)
  · exact Or.inr (fs_c1n h)
theorem fs_c2o {p q : Prop} {i : Decidable p} {j : Decidable q} : fs_c2 p q = 0 ∨ fs_c2 p q = 1 ∨ fs_c2 p q = 2 := by
  by_cases h : p
  · by_cases g : q
    · exact Or.inl (fs_c2y h g)
    · exact Or.inr (Or.inr (fs_c2m h g))
  · exact Or.inr (Or.inl (fs_c2n h))
theorem w262 (hR : fs_R σ) {x : Int} : fx_Ca 262 [(10, 0), (0, x), (61, 0)] σ (fs_wt σ (fs_c1 (fs_in 100 x)) 2 (fs_ref (fs_m σ 47 0) 17 x 0 0 0) (fs_do (fs_m σ 47 0) 17 x 0 0 0 0 X) (fs_m σ 47 0 0 0 0)) := t262_0 (fs_v1 fs_c1o (by decide) (c101 hR))
theorem w263 (hR : fs_R σ) {t s a b x : Int} : fx_Ca 263 [(10, 0), (0, t), (0, s), (0, a), (0, b), (0, x), (61, 0)] σ (fs_wt σ (fs_c2 (fs_in 8 t) (fs_in 1001 a ∧ fs_in 1001 b ∧ fs_in 100 x)) 3 (fs_ref (fs_m σ 47 0) 18 t s a b) (fs_do (fs_m σ 47 0) 18 t s a b x X) (fs_m σ 47 0 0 1 0)) := t263_0 (fs_v2 fs_c2o (c102 hR))
theorem w264 (hR : fs_R σ) {f : Int} : fx_Ca 264 [(10, 0), (0, f), (61, 0)] σ (fs_wt σ 0 1 (fs_ref (fs_m σ 47 0) 19 f 0 0 0) (fs_do (fs_m σ 47 0) 19 f 0 0 0 0 X) (fs_reign (fs_m σ 47 0) fs_W1 f)) := t264_0 (fs_v0 (c103 hR))
theorem w265y (hR : fs_R σ) {s : Int} : fx_Ca 265 [(10, 0), (0, s), (0, 0), (61, 0)] σ (fs_wt σ 0 1 (fs_ref (fs_m σ 47 0) 20 s 0 0 0) (fs_do (fs_m σ 47 0) 20 s 0 0 0 0 X) (fs_nof (fs_do (fs_m σ 47 0) 20 s 0 0 0 0 X) 4 s)) := t265_0 (fs_v0 (c104y hR))
theorem w265n (hR : fs_R σ) {s : Int} : fx_Ca 265 [(10, 0), (0, s), (0, 1), (61, 0)] σ (fs_wt σ 0 1 (fs_ref (fs_m σ 47 0) 21 s 0 0 0) (fs_do (fs_m σ 47 0) 21 s 0 0 0 0 X) (fs_nof (fs_do (fs_m σ 47 0) 21 s 0 0 0 0 X) 4 s)) := t265_0 (fs_v0 (c104n hR))
theorem w266 (hR : fs_R σ) {s x : Int} : fx_Ca 266 [(10, 0), (0, s), (0, x), (61, 0)] σ (fs_wt σ (fs_c1 (fs_in 100 x)) 2 (fs_ref (fs_m σ 47 0) 22 s x 0 0) (fs_do (fs_m σ 47 0) 22 s x 0 0 0 X) (fs_m σ 47 0 1 s 0)) := t266_0 (fs_v1 fs_c1o (by decide) (c105 hR))
theorem w267 (hR : fs_R σ) {t x : Int} : fx_Ca 267 [(10, 0), (0, t), (0, x), (61, 0)] σ (fs_wt σ (fs_c2 (fs_in 8 t) (1 ≤ x ∧ x < 1000)) 3 (fs_ref (fs_m σ 47 0) 23 t x 0 0) (fs_do (fs_m σ 47 0) 23 t x 0 0 0 X) (fs_cnt (fun f => fs_cut (fs_m σ 47 0) f t x) (fs_m σ 47 0 0 1 0).toNat)) := t267_0 (fs_v2 fs_c2o (c106 hR))
theorem w268 (hR : fs_R σ) {t : Int} : fx_Ca 268 [(10, 0), (0, t), (61, 0)] σ (fs_wt σ (fs_c1 (fs_in 8 t)) 2 (fs_ref (fs_m σ 47 0) 16 t 0 0 0) (fs_do (fs_m σ 47 0) 16 t 0 0 0 0 X) (fs_m σ 47 0 10 t 0)) := t268_0 (fs_v1 fs_c1o (by decide) (c107 hR))
theorem fs_wt_f {v : fx_V} (h : fs_wt σ cd er r A ans v τ) : ∀ K o p, K = 9 ∨ (46 ≤ K ∧ K ≤ 60) → τ K o p = σ K o p := by
  intro K o p hK
  obtain ⟨c, -, ⟨-, -, rfl⟩ | ⟨-, -, -, σ', h1, h2⟩ | ⟨-, -, -, σ', h1, h2, -⟩⟩ := h
  · rfl
  · rw [h2.1 K o p (by omega), h1.2 K o p (by omega)]
  · rw [h2.1 K o p (by unfold fs_at; omega), h1.2 K o p (by omega)]
theorem fs_wt_s (hR : fs_R σ) {v : fx_V} (h : fs_wt σ cd er r A ans v τ) : (∀ q, τ 9 0 q = σ 9 0 q) ∧ fs_mp 0 τ (fs_m σ 47 0) ∧ 0 ≤ τ 46 0 5 ∧ τ 46 0 5 ≤ 8 := by
  have f := fs_wt_f h
  have u := hR.und
  refine ⟨fun q => f 9 0 q (by omega), ⟨hR.1.1, fs_m_c (fun p => f 47 0 p (by omega)), by rw [f 46 0 21 (by omega)]; exact hR.2.2.2.2.2.2.1⟩, ?_⟩
  rw [f 46 0 5 (by omega), u.2.2.1]; exact u.1
theorem fs_t3 {c : Int} (hR : fs_R σ) (hw : fs_wt σ cd er r A ans (0, c) τ) (her : er ≠ 0) (hA : cd = 0 → r = 0 → fs_ok A) (hm : fx_Ca mj as τ (fs_mt τ cd er r A ans)) : fx_Ca mj as τ (fun v ρ => ∃ r', v = (0, r') ∧ ρ 46 0 0 = c ∧ (c = 0 → r' = ρ 61 0 0) ∧ (fs_R ρ ∧ ∀ q, ρ 9 0 q = σ 9 0 q)) := by
  have f9 : ∀ q, τ 9 0 q = σ 9 0 q := fun q => fs_wt_f hw 9 0 q (by omega)
  refine fx_Wp.mono hm ?_
  rintro v ρ ⟨y, rfl, hy⟩
  obtain ⟨c', hc', hw⟩ := hw
  have hcc : c = c' := congrArg Prod.snd hc'
  subst hcc
  refine ⟨y, rfl, ?_⟩
  rcases hw with ⟨h1, rfl, rfl⟩ | ⟨h1, h2, rfl, σ', h3, h4⟩ | ⟨h1, h2, rfl, σ', h3, h4, h5⟩
  · rcases hy with ⟨-, rfl⟩ | ⟨g1, -⟩ | ⟨g1, -⟩
    · exact ⟨fx_upS, fun z => absurd z h1, hR.k (fun K o p hK => by rw [fx_upE, if_neg (by omega)]) (fun z => fs_drawn_k (fx_upK rfl) (fun p => fx_upK rfl) (fun p => fx_upK rfl) (fun o p a b => fx_upK rfl) (fun o p a b => fx_upK rfl) (hR.2.1 (by rwa [fx_upK rfl] at z))), fun q => by rw [fx_upK rfl]⟩
    · exact absurd g1 h1
    · exact absurd g1 h1
  · rcases hy with ⟨g1, -⟩ | ⟨-, -, g3⟩ | ⟨-, g2, -⟩
    · exact absurd h1 g1
    · exact ⟨g3.2.1, fun z => absurd z her, fs_R1 h3.1 h4 g3, fun q => (g3.1 9 0 q (by omega)).trans (f9 q)⟩
    · exact absurd g2 h2
  · rcases hy with ⟨g1, -⟩ | ⟨-, g2, -⟩ | ⟨-, -, g3, rfl⟩
    · exact absurd h1 g1
    · exact absurd h2 g2
    · exact ⟨g3.2.1, fun _ => by rw [g3.1 61 0 0 (by omega)]; exact h5.symm, fs_R2 h3.1 h4 (hA h1 h2) g3, fun q => (g3.1 9 0 q (by omega)).trans (f9 q)⟩
end FXT3
section FXT4
variable {σ τ : fx_S} {x4 : Int} {Q : fx_V → fx_S → Prop} {w5 w6 : fx_V}
theorem o388 (hR : fs_R σ) (hx : fs_xr σ x4) (hk : fs_K σ x4 Q) : fx_Wp 293 388 [(9, 0), (10, 0), (46, 0), (61, 0), (0, x4), w5, w6] [] σ Q := by
  obtain ⟨x0, x1, x2⟩ := hx
  refine t293_388 ⟨⟨by omega, by omega⟩, ⟨by omega, by omega⟩, fx_CI_of (w262 hR (X := σ)) ?_⟩
  rintro v τ ⟨c, rfl, hw⟩
  obtain ⟨h9, hp, h5⟩ := fs_wt_s hR ⟨c, rfl, hw⟩
  refine Or.inl ⟨rfl, ?_⟩
  simp only [h9]
  exact ⟨⟨by omega, by omega⟩, fs_tail (fs_t3 hR ⟨c, rfl, hw⟩ (by decide) (fun z1 z2 => fs_do_ok hR.1.1 (fs_p17 (fs_c1z z1)) z2) (m206 hp h5)) (fun ρ h => h) hk⟩
theorem o444 (hR : fs_R σ) (hx : fs_xr σ x4) (hk : fs_K σ x4 Q) : fx_Wp 293 444 [(9, 0), (10, 0), (46, 0), (61, 0), (0, x4), w5, w6] [] σ Q := by
  obtain ⟨x0, x1, x2⟩ := hx
  refine t293_444 ⟨⟨by omega, by omega⟩, ⟨by omega, by omega⟩, ⟨by omega, by omega⟩, ⟨by omega, by omega⟩, ⟨by omega, by omega⟩, ⟨by omega, by omega⟩, ⟨by omega, by omega⟩, ⟨by omega, by omega⟩, ⟨by omega, by omega⟩, ⟨by omega, by omega⟩, fx_CI_of (w263 hR (X := σ)) ?_⟩
  rintro v τ ⟨c, rfl, hw⟩
  obtain ⟨h9, hp, h5⟩ := fs_wt_s hR ⟨c, rfl, hw⟩
  refine Or.inl ⟨rfl, ?_⟩
  simp only [h9]
  exact ⟨⟨by omega, by omega⟩, ⟨by omega, by omega⟩, ⟨by omega, by omega⟩, ⟨by omega, by omega⟩, ⟨by omega, by omega⟩, fs_tail (fs_t3 hR ⟨c, rfl, hw⟩ (by decide) (fun z1 z2 => fs_do_ok hR.1.1 (fs_p18 (fs_c2z z1).1 (fs_c2z z1).2.1 (fs_c2z z1).2.2.1 (fs_c2z z1).2.2.2) z2) (m207 hp h5)) (fun ρ h => h) hk⟩
theorem o548 (hR : fs_R σ) (hx : fs_xr σ x4) (hk : fs_K σ x4 Q) : fx_Wp 293 548 [(9, 0), (10, 0), (46, 0), (61, 0), (0, x4), w5, w6] [] σ Q := by
  obtain ⟨x0, x1, x2⟩ := hx
  refine t293_548 ⟨⟨by omega, by omega⟩, ⟨by omega, by omega⟩, fx_CI_of (w264 hR (X := σ)) ?_⟩
  rintro v τ ⟨c, rfl, hw⟩
  obtain ⟨h9, hp, h5⟩ := fs_wt_s hR ⟨c, rfl, hw⟩
  refine Or.inl ⟨rfl, ?_⟩
  simp only [h9]
  exact ⟨⟨by omega, by omega⟩, fs_tail (fs_t3 hR ⟨c, rfl, hw⟩ (by decide) (fun z1 z2 => fs_do_ok hR.1.1 (fs_p19 (by omega)) z2) (m208 hp h5)) (fun ρ h => h) hk⟩
theorem o688 (hR : fs_R σ) (hx : fs_xr σ x4) (hk : fs_K σ x4 Q) : fx_Wp 293 688 [(9, 0), (10, 0), (46, 0), (61, 0), (0, x4), w5, w6] [] σ Q := by
  obtain ⟨x0, x1, x2⟩ := hx
  refine t293_688 ⟨⟨by omega, by omega⟩, ⟨by omega, by omega⟩, ⟨by omega, by omega⟩, ⟨by omega, by omega⟩, fx_CI_of (w266 hR (X := σ)) ?_⟩
  rintro v τ ⟨c, rfl, hw⟩
  obtain ⟨h9, hp, h5⟩ := fs_wt_s hR ⟨c, rfl, hw⟩
  refine Or.inl ⟨rfl, ?_⟩
  simp only [h9]
  exact ⟨⟨by omega, by omega⟩, ⟨by omega, by omega⟩, fs_tail (fs_t3 hR ⟨c, rfl, hw⟩ (by decide) (fun z1 z2 => fs_do_ok hR.1.1 (fs_p22 (fs_c1z z1)) z2) (m211 hp h5)) (fun ρ h => h) hk⟩
theorem o756 (hR : fs_R σ) (hx : fs_xr σ x4) (hk : fs_K σ x4 Q) : fx_Wp 293 756 [(9, 0), (10, 0), (46, 0), (61, 0), (0, x4), w5, w6] [] σ Q := by
  obtain ⟨x0, x1, x2⟩ := hx
  refine t293_756 ⟨⟨by omega, by omega⟩, ⟨by omega, by omega⟩, ⟨by omega, by omega⟩, ⟨by omega, by omega⟩, fx_CI_of (w267 hR (X := σ)) ?_⟩
  rintro v τ ⟨c, rfl, hw⟩
  obtain ⟨h9, hp, h5⟩ := fs_wt_s hR ⟨c, rfl, hw⟩
  refine Or.inl ⟨rfl, ?_⟩
  simp only [h9]
  exact ⟨⟨by omega, by omega⟩, ⟨by omega, by omega⟩, fs_tail (fs_t3 hR ⟨c, rfl, hw⟩ (by decide) (fun z1 z2 => fs_do_ok hR.1.1 (fs_p23 (fs_c2z z1).1 (fs_le (fs_c2z z1).2)) z2) (m212 hp h5)) (fun ρ h => h) hk⟩
theorem o824 (hR : fs_R σ) (hx : fs_xr σ x4) (hk : fs_K σ x4 Q) : fx_Wp 293 824 [(9, 0), (10, 0), (46, 0), (61, 0), (0, x4), w5, w6] [] σ Q := by
  obtain ⟨x0, x1, x2⟩ := hx
  refine t293_824 ⟨⟨by omega, by omega⟩, ⟨by omega, by omega⟩, fx_CI_of (w268 hR (X := σ)) ?_⟩
  rintro v τ ⟨c, rfl, hw⟩
  obtain ⟨h9, hp, h5⟩ := fs_wt_s hR ⟨c, rfl, hw⟩
  refine Or.inl ⟨rfl, ?_⟩
  simp only [h9]
  exact ⟨⟨by omega, by omega⟩, fs_tail (fs_t3 hR ⟨c, rfl, hw⟩ (by decide) (fun z1 z2 => fs_do_ok hR.1.1 (fs_p16 (fs_c1z z1)) z2) (m213 hp h5)) (fun ρ h => h) hk⟩
theorem o604 (hR : fs_R σ) (hx : fs_xr σ x4) (hk : fs_K σ x4 Q) : fx_Wp 293 604 [(9, 0), (10, 0), (46, 0), (61, 0), (0, x4), w5, w6] [] σ Q := by
  obtain ⟨x0, x1, x2⟩ := hx
  refine t293_604 ⟨⟨by omega, by omega⟩, ⟨by omega, by omega⟩, ⟨by omega, by omega⟩, ⟨by omega, by omega⟩, fun hz => fx_CI_of (w265y hR (X := σ)) ?_, fun hz => fx_CI_of (w265n hR (X := σ)) ?_⟩
  · rintro v τ ⟨c, rfl, hw⟩
    obtain ⟨h9, hp, h5⟩ := fs_wt_s hR ⟨c, rfl, hw⟩
    refine Or.inl ⟨rfl, ?_⟩
    simp only [h9]
    exact ⟨⟨by omega, by omega⟩, ⟨by omega, by omega⟩, fun _ => fs_tail (fs_t3 hR ⟨c, rfl, hw⟩ (by decide) (fun z1 z2 => fs_do_ok hR.1.1 (fs_p19 (by omega)) z2) (m210y hp h5)) (fun ρ h => h) hk, fun z => absurd hz z⟩
  · rintro v τ ⟨c, rfl, hw⟩
    obtain ⟨h9, hp, h5⟩ := fs_wt_s hR ⟨c, rfl, hw⟩
    refine Or.inl ⟨rfl, ?_⟩
    simp only [h9]
    exact ⟨⟨by omega, by omega⟩, ⟨by omega, by omega⟩, fun z => absurd z hz, fun _ => fs_tail (fs_t3 hR ⟨c, rfl, hw⟩ (by decide) (fun z1 z2 => fs_do_ok hR.1.1 (fs_p19 (by omega)) z2) (m210n hp h5)) (fun ρ h => h) hk⟩
end FXT4
