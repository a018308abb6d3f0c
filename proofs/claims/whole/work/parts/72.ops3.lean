section FXO3
variable {σ τ : fx_S} {x4 : Int} {Q : fx_V → fx_S → Prop} {w5 w6 : fx_V}
theorem o220 (hR : fs_R σ) (hx : fs_xr σ x4) (hk : fs_K σ x4 Q) : fx_Wp 293 220 [(9, 0), (10, 0), (46, 0), (61, 0), (0, x4), w5, w6] [] σ Q := by
  obtain ⟨x0, x1, x2⟩ := hx
  obtain ⟨t1, t2, t3⟩ := hR.2.2.2.2.1
  refine t293_220 ⟨⟨by omega, by omega⟩, ⟨by omega, by omega⟩, ⟨by omega, by omega⟩, ⟨by omega, by omega⟩, ⟨by omega, by omega⟩, ⟨by omega, by omega⟩, ⟨by omega, by omega⟩, ⟨by omega, by omega⟩, ⟨by omega, by omega⟩, ⟨by omega, by omega⟩, fx_CI_of (c96 t1.1 t1.2) ?_⟩
  rintro v τ (⟨hl, rfl, a1, a2, a3⟩ | ⟨hl, rfl, rfl⟩)
  · have h9 : ∀ q, τ 9 0 q = σ 9 0 q := fun q => a1 9 0 q (by omega)
    have e9 : τ 46 0 9 = σ 28 0 4 := (a1 46 0 9 (by omega)).trans t2
    have hc := c179 (σ := τ) (x1 := σ 9 0 (x4 + 1)) (x2 := σ 9 0 (x4 + 2)) (x3 := σ 9 0 (x4 + 3)) (x4 := σ 9 0 (x4 + 4)) (x5 := σ 9 0 (x4 + 5)) (by omega) (by omega)
    rw [e9] at hc
    refine Or.inl ⟨rfl, ?_⟩
    simp only [h9]
    refine ⟨⟨by omega, by omega⟩, ⟨by omega, by omega⟩, ⟨by omega, by omega⟩, ⟨by omega, by omega⟩, ⟨by omega, by omega⟩, fx_CI_of hc ?_⟩
    rintro v ρ ⟨g1, ⟨-, rfl, g2, g3⟩ | ⟨g0, -⟩⟩
    · refine Or.inl ⟨rfl, fun _ => hk ρ _ _ (fs_R_t hR (m := σ 28 0 4 + 20) (fun K o p hK => ?_) ?_ g2 ⟨by omega, hl⟩ (fun j j0 j1 => ?_)) (fun q => (g1 9 0 q (by omega)).trans (h9 q)), fun z => absurd rfl z⟩
      · rw [g1 K o p (by omega)]; exact a1 K o p (by omega)
      · rw [g1 28 0 4 (by omega)]; exact a2
      · rw [g1 29 0 j (by omega)]
        by_cases q : j < σ 28 0 4
        · rw [g1 51 0 j (by omega), a1 51 0 j (by omega), a1 29 0 j (by omega)]; exact t3 j j0 q
        · have b1 := a3 (j - σ 28 0 4) (by omega) (by omega)
          have b2 := g3 (j - σ 28 0 4) (by omega) (by omega)
          rw [show σ 28 0 4 + (j - σ 28 0 4) = j by omega] at b1 b2
          rw [b1, b2]
          exact ⟨rfl, fs_o5r⟩
    · omega
  · have hc := c179 (σ := τ) (x1 := τ 9 0 (x4 + 1)) (x2 := τ 9 0 (x4 + 2)) (x3 := τ 9 0 (x4 + 3)) (x4 := τ 9 0 (x4 + 4)) (x5 := τ 9 0 (x4 + 5)) (by omega) (by omega)
    rw [t2] at hc
    refine Or.inl ⟨rfl, ⟨by omega, by omega⟩, ⟨by omega, by omega⟩, ⟨by omega, by omega⟩, ⟨by omega, by omega⟩, ⟨by omega, by omega⟩, fx_CI_of hc ?_⟩
    rintro v ρ ⟨g1, ⟨g0, -⟩ | ⟨-, rfl, g2, g3⟩⟩
    · omega
    · refine Or.inl ⟨rfl, fun _ => hk ρ _ _ (fs_R_t hR (m := τ 28 0 4) (fun K o p hK => g1 K o p (by omega)) (g1 28 0 4 (by omega)) g2 t1 (fun j j0 j1 => ?_)) (fun q => g1 9 0 q (by omega)), fun z => absurd rfl z⟩
      rw [g3, g1 29 0 j (by omega)]; exact t3 j j0 j1
theorem c97y {x : Int} (h : 0 ≤ x ∧ x ≤ σ 28 0 4) : fx_Rt 97 [(10, 0), (0, x)] σ (0, 1) (fx_up σ 28 0 4 x) := t97_0 ⟨fun a => by omega, fun _ => ⟨fun _ => ⟨rfl, rfl⟩, fun a => by omega⟩⟩
theorem c97n {x : Int} (h : ¬ (0 ≤ x ∧ x ≤ σ 28 0 4)) : fx_Rt 97 [(10, 0), (0, x)] σ (0, 0) σ := t97_0 ⟨fun a => ⟨rfl, rfl⟩, fun a => ⟨fun b => by omega, fun b => ⟨rfl, rfl⟩⟩⟩
theorem o293 (hR : fs_R σ) (hx : fs_xr σ x4) (hk : fs_K σ x4 Q) : fx_Wp 293 293 [(9, 0), (10, 0), (46, 0), (61, 0), (0, x4), w5, w6] [] σ Q := by
  obtain ⟨x0, x1, x2⟩ := hx
  obtain ⟨t1, t2, t3⟩ := hR.2.2.2.2.1
  by_cases h : 0 ≤ σ 9 0 (x4 + 1) ∧ σ 9 0 (x4 + 1) ≤ σ 28 0 4
  · refine t293_293 ⟨⟨by omega, by omega⟩, ⟨by omega, by omega⟩, (c97y h).I ?_⟩
    have h9 : ∀ q, fx_up σ 28 0 4 (σ 9 0 (x4 + 1)) 9 0 q = σ 9 0 q := fun q => fx_upK rfl
    simp only [h9]
    refine ⟨⟨by omega, by omega⟩, fx_Wp.mono (Q := fun v τ => v = (0, 1) ∧ τ = fx_up (fx_up (fx_up σ 28 0 4 (σ 9 0 (x4 + 1))) 46 0 0 0) 46 0 9 (σ 9 0 (x4 + 1))) (t180_0 ?_) ?_⟩
    · rw [fx_upK rfl, t2]
      exact (m149y h).I ⟨fun _ => ⟨rfl, rfl⟩, fun a => absurd a (by decide)⟩
    · rintro v ρ ⟨rfl, rfl⟩
      refine Or.inl ⟨rfl, fun _ => hk _ _ _ (fs_R_t hR (m := σ 9 0 (x4 + 1)) (fun K o p hK => ?_) ?_ fx_upS ⟨by omega, by omega⟩ (fun j j0 j1 => ?_)) (fun q => ?_), fun z => absurd rfl z⟩
      · rw [fx_upE, if_neg (by omega), fx_upE, if_neg (by omega), fx_upE, if_neg (by omega)]
      · rw [fx_upK rfl, fx_upK rfl, fx_upS]
      · rw [fx_upK rfl, fx_upK rfl, fx_upK rfl, fx_upK rfl, fx_upK rfl, fx_upK rfl]; exact t3 j j0 (by omega)
      · rw [fx_upK rfl, fx_upK rfl, fx_upK rfl]
  · refine t293_293 ⟨⟨by omega, by omega⟩, ⟨by omega, by omega⟩, (c97n h).I ⟨⟨by omega, by omega⟩, fx_Wp.mono (Q := fun v τ => v = (0, 0) ∧ τ = fx_up σ 46 0 0 0) (t180_0 ?_) ?_⟩⟩
    · rw [t2]
      exact (m149n h).I ⟨fun a => absurd rfl a, fun _ => ⟨rfl, rfl⟩⟩
    · rintro v ρ ⟨rfl, rfl⟩
      exact Or.inl ⟨rfl, fun _ => hk _ _ _ hR.e (fun q => fx_upK rfl), fun z => absurd rfl z⟩
theorem c204 : fx_Rt 204 [(46, 0)] σ (0, σ 46 0 12) (fx_up σ 46 0 0 0) := t204_0 ⟨rfl, rfl⟩
theorem c205 : fx_Rt 205 [(46, 0)] σ (0, σ 46 0 7) (fx_up σ 46 0 0 0) := t205_0 ⟨rfl, rfl⟩
theorem c99 : fx_Rt 99 [(10, 0)] σ (0, σ 10 0 14) σ := t99_0 ⟨rfl, rfl⟩
theorem c100 : fx_Rt 100 [(10, 0)] σ (0, σ 10 0 13) σ := t100_0 ⟨rfl, rfl⟩
theorem o362 (hR : fs_R σ) (hk : fs_K σ x4 Q) : fx_Wp 293 362 [(9, 0), (10, 0), (46, 0), (61, 0), (0, x4), w5, w6] [] σ Q :=
  t293_362 (c99.I (c204.I ⟨fun _ => hk _ _ _ hR.e (fun q => fx_upK rfl), fun z => absurd hR.2.2.2.2.2.1.1.symm z⟩))
theorem o375 (hR : fs_R σ) (hk : fs_K σ x4 Q) : fx_Wp 293 375 [(9, 0), (10, 0), (46, 0), (61, 0), (0, x4), w5, w6] [] σ Q :=
  t293_375 (c100.I (c205.I ⟨fun _ => hk _ _ _ hR.e (fun q => fx_upK rfl), fun z => absurd hR.2.2.2.2.2.1.2.symm z⟩))
theorem o880 (hR : fs_R σ) (hk : fs_K σ x4 Q) : fx_Wp 293 880 [(9, 0), (10, 0), (46, 0), (61, 0), (0, x4), w5, w6] [] σ Q := by
  obtain ⟨u1, u2, u3, u4⟩ := hR.und
  have bw := hR.2.2.2.2.2.2.2
  have hR0 := hR
  refine t293_880 (fx_CI_of (P := fun v τ => (σ 10 0 11 = 0 ∧ v = (0, 1) ∧ τ = σ) ∨ (σ 10 0 11 ≠ 0 ∧ v = (0, 0) ∧ (∀ K o p, ¬ (fs_at 0 K o ∨ K = 61 ∨ (K = 10 ∧ o = 0 ∧ 10 ≤ p ∧ p ≤ 12)) → τ K o p = σ K o p) ∧ fx_bw τ ∧ fs_eq (fs_c σ (3 + (σ 10 0 12 + 7) % 8)) (fs_c τ 0) ∧ (∀ t, 0 ≤ t → t < 8 → τ 22 (8 * 0 + t) 5 = σ 22 (8 * (3 + (σ 10 0 12 + 7) % 8) + t) 5) ∧ τ 10 0 10 = 0 ∧ τ 10 0 11 = σ 10 0 11 - 1 ∧ τ 10 0 12 = (σ 10 0 12 + 7) % 8 ∧ τ 61 0 0 = σ 10 0 11 - 1)) (t269_0 (fx_Wp.mono (Q := fun v τ => (σ 10 0 11 = 0 ∧ v = (5, 1) ∧ τ = σ) ∨ (σ 10 0 11 ≠ 0 ∧ v = (0, σ 10 0 11 - 1) ∧ (∀ K o p, ¬ (fs_at 0 K o ∨ (K = 10 ∧ o = 0 ∧ 10 ≤ p ∧ p ≤ 12)) → τ K o p = σ K o p) ∧ fx_bw τ ∧ fs_eq (fs_c σ (3 + (σ 10 0 12 + 7) % 8)) (fs_c τ 0) ∧ (∀ t, 0 ≤ t → t < 8 → τ 22 (8 * 0 + t) 5 = σ 22 (8 * (3 + (σ 10 0 12 + 7) % 8) + t) 5) ∧ τ 10 0 10 = 0 ∧ τ 10 0 11 = σ 10 0 11 - 1 ∧ τ 10 0 12 = (σ 10 0 12 + 7) % 8)) (t108_0 ⟨fun hz => ?_, fun hz => Or.inl ⟨hz, rfl, rfl⟩⟩) ?_)) ?_)
  · rw [fx_rem8 (by omega) (by omega), show σ 10 0 12 + 8 - 1 = σ 10 0 12 + 7 by omega]
    refine ⟨⟨by omega, by omega⟩, ⟨by omega, by omega⟩, ⟨by omega, by omega⟩, ?_⟩
    generalize hE : fx_up σ 10 0 12 ((σ 10 0 12 + 7) % 8) = ρ1
    have h1 : ∀ K o p, ¬ (K = 10 ∧ o = 0 ∧ p = 12) → ρ1 K o p = σ K o p := fun K o p hK => by rw [← hE, fx_upE, if_neg hK]
    have hc1 : ∀ i, fs_c ρ1 i = fs_c σ i := fun i => fs_c_of (fun K o p _ _ => h1 K o p (by omega)) i
    have h12 : ρ1 10 0 12 = (σ 10 0 12 + 7) % 8 := by rw [← hE, fx_upS]
    have hkp := u4 (σ 10 0 11 - 1) (by omega) (by omega)
    rw [show 3 + (σ 10 0 12 + 8 - σ 10 0 11 + (σ 10 0 11 - 1)) % 8 = 3 + (σ 10 0 12 + 7) % 8 by omega] at hkp
    have bw1 : fx_bw ρ1 := fun o p => by rw [h1 14 o p (by omega), h1 20 o p (by omega)]; exact bw o p
    refine fx_CV_of (c23 (σ := ρ1) (i := 0) (j := 3 + (σ 10 0 12 + 7) % 8) (by omega) (by rw [hc1]; exact hkp.2.1.symm.ok hkp.1) bw1) ?_
    rintro v τ ⟨rfl, f1, f2, f3⟩
    have e11 : τ 10 0 11 = σ 10 0 11 := (f1.1 10 0 11 (by unfold fs_at; omega)).trans (h1 10 0 11 (by omega))
    rw [e11]
    refine Or.inl ⟨rfl, ⟨by omega, by omega⟩, Or.inr ⟨hz, rfl, ?_⟩⟩
    generalize hE2 : fx_up (fx_up τ 10 0 10 0) 10 0 11 (σ 10 0 11 - 1) = τ'
    have h2 : ∀ K o p, ¬ (K = 10 ∧ o = 0 ∧ (p = 10 ∨ p = 11)) → τ' K o p = τ K o p := fun K o p hK => by rw [← hE2, fx_upE, if_neg (by omega), fx_upE, if_neg (by omega)]
    rw [hc1] at f2
    refine ⟨fun K o p hK => ?_, fun o p => ?_, ?_, fun t t0 t1 => ?_, ?_, ?_, ?_⟩
    · rw [h2 K o p (by omega), f1.1 K o p (fun z => hK (Or.inl z))]; exact h1 K o p (by omega)
    · rw [h2 14 o p (by omega), h2 20 o p (by omega)]; exact f1.2 bw1 o p
    · rw [fs_c_of (fun K o p _ _ => h2 K o p (by omega)) 0]; exact f2
    · rw [h2 22 _ _ (by omega), f3 t t0 t1, h1 22 _ _ (by omega)]
    · rw [← hE2, fx_upJ (by omega), fx_upS]
    · rw [← hE2, fx_upS]
    · rw [h2 10 0 12 (by omega), f1.1 10 0 12 (by unfold fs_at; omega)]; exact h12
  · rintro v τ (⟨hz, rfl, rfl⟩ | ⟨hz, rfl, f1, f2, f3, f4, f5, f6, f7⟩)
    · exact Or.inr ⟨rfl, fun _ => Or.inl ⟨hz, rfl, rfl⟩, fun z => absurd rfl z⟩
    · refine Or.inl ⟨rfl, Or.inr ⟨hz, rfl, ?_⟩⟩
      generalize hE2 : fx_up τ 61 0 0 _ = τ'
      have h2 : ∀ K o p, K ≠ 61 → τ' K o p = τ K o p := fun K o p hK => by rw [← hE2, fx_upE, if_neg (by omega)]
      refine ⟨fun K o p hK => ?_, fun o p => ?_, ?_, fun t t0 t1 => ?_, ?_, ?_, ?_, ?_⟩
      · rw [h2 K o p (fun z => hK (Or.inr (Or.inl z)))]
        exact f1 K o p (fun z => hK (z.elim Or.inl (fun y => Or.inr (Or.inr y))))
      · rw [h2 14 o p (by omega), h2 20 o p (by omega)]; exact f2 o p
      · rw [fs_c_of (fun K o p _ _ => h2 K o p (by omega)) 0]; exact f3
      · rw [h2 22 _ _ (by omega)]; exact f4 t t0 t1
      · rw [h2 10 0 10 (by omega)]; exact f5
      · rw [h2 10 0 11 (by omega)]; exact f6
      · rw [h2 10 0 12 (by omega)]; exact f7
      · rw [← hE2, fx_upS]
  · rintro v τ (⟨hz, rfl, rfl⟩ | ⟨hz, rfl, f1, f2, f3, f4, f5, f6, f7, f8⟩)
    · refine Or.inl ⟨rfl, fs_tail (P := fun ρ => ρ = fx_up τ 46 0 0 1) (fx_Wp.mono (c214n (u3.trans hz)) ?_) ?_ hk⟩
      · rintro v ρ ⟨rfl, rfl⟩
        exact ⟨_, rfl, fx_upS, fun z => absurd z (by decide), rfl⟩
      · rintro ρ rfl
        exact ⟨hR.e, fun q => fx_upK rfl⟩
    · have e5 : τ 46 0 5 = σ 10 0 11 := (f1 46 0 5 (by unfold fs_at; omega)).trans u3
      refine Or.inl ⟨rfl, fs_tail (P := fun ρ => ρ = fx_fill (fx_up (fx_up τ 46 0 0 0) 46 0 5 (σ 10 0 11 - 1)) 47 0 1130 (fun p => τ 50 0 (1130 * (σ 10 0 11 - 1) + p))) (fx_Wp.mono (c214y e5 ⟨by omega, by omega⟩) ?_) ?_ hk⟩
      · rintro v ρ ⟨rfl, rfl⟩
        refine ⟨_, rfl, ?_, fun _ => ?_, rfl⟩
        · rw [fx_fillK rfl, fx_upJ (by omega), fx_upS]
        · rw [fx_fillK rfl, fx_upK rfl, fx_upK rfl]; exact f8.symm
      · rintro ρ hρ
        have g1 : ∀ K o p, ¬ (K = 47 ∨ (K = 46 ∧ o = 0 ∧ (p = 0 ∨ p = 5))) → ρ K o p = τ K o p := fun K o p hK => by rw [hρ, fx_fillE, if_neg (by omega), fx_upE, if_neg (by omega), fx_upE, if_neg (by omega)]
        have g5 : ρ 46 0 5 = σ 10 0 11 - 1 := by rw [hρ, fx_fillK rfl, fx_upS]
        have g47 : ∀ p, 0 ≤ p → p < 1130 → ρ 47 0 (0 + p) = σ 50 0 (1130 * (σ 10 0 11 - 1) + p) := fun p p0 p1 => by rw [hρ, fx_fillE, if_pos ⟨rfl, rfl, by omega, by omega⟩, show 0 + p = p by omega]; exact f1 50 0 _ (by unfold fs_at; omega)
        have hkp := u4 (σ 10 0 11 - 1) (by omega) (by omega)
        rw [show 3 + (σ 10 0 12 + 8 - σ 10 0 11 + (σ 10 0 11 - 1)) % 8 = 3 + (σ 10 0 12 + 7) % 8 by omega] at hkp
        obtain ⟨p1, p2, p3⟩ := hkp
        have okc := p2.symm.ok p1
        have cρ : ∀ i, fs_c ρ i = fs_c τ i := fun i => fs_c_of (fun K o p _ _ => g1 K o p (by omega)) i
        have k10 : ρ 10 0 10 = 0 := by rw [g1 10 0 10 (by omega)]; exact f5
        have k11 : ρ 10 0 11 = σ 10 0 11 - 1 := by rw [g1 10 0 11 (by omega)]; exact f6
        have k12 : ρ 10 0 12 = (σ 10 0 12 + 7) % 8 := by rw [g1 10 0 12 (by omega)]; exact f7
        refine ⟨fs_Rc hR (fun K o p hK => ?_) (fs_kp.of p1 (by rw [cρ]; exact p2.symm.trans f3) (fs_m_row p1 g47) (fs_bt_e p3 (by rw [cρ]; exact f3) okc (fun t t0 t1 => ?_))) k10 (by rw [g5, k11]) (by rw [k12]; omega) (by rw [k11]; omega) (fun j j0 j1 => ?_) (fun o p => ?_), fun q => ?_⟩
        · rw [g1 K o p (fun z => hK (z.elim (fun y => Or.inr (Or.inr (Or.inl y))) (fun y => Or.inr (Or.inr (Or.inr (Or.inr y))))))]
          exact f1 K o p (fun z => hK (z.elim Or.inl (fun y => y.elim (fun w => Or.inr (Or.inl w)) (fun w => Or.inr (Or.inr (Or.inr (Or.inl w)))))))
        · rw [g1 22 _ _ (by omega)]; exact f4 t t0 t1
        · rw [k11] at j1 ⊢
          rw [k12]; omega
        · rw [g1 14 o p (by omega), g1 20 o p (by omega)]; exact f2 o p
        · rw [g1 9 0 q (by omega)]; exact f1 9 0 q (by unfold fs_at; omega)
theorem o2685 (hR : fs_R σ) (hk : fs_K σ x4 Q) : fx_Wp 293 2685 [(9, 0), (10, 0), (46, 0), (61, 0), (0, x4), w5, w6] [] σ Q := by
  obtain ⟨⟨ho, he, hbt⟩, d, ⟨u1, u2, u3, u4⟩, ⟨k1, k2⟩, ⟨t1, t2, t3⟩, ⟨f1, f2⟩, l, bw⟩ := hR
  have hoc : fs_ok (fs_c σ 0) := he.symm.ok ho
  refine t293_2685 (fx_CV_of (P := fun v τ => v = (4, 0) ∧ ∃ τ0, τ = fx_up τ0 10 0 9 1 ∧ fs_fr 2 σ τ0 ∧ fs_eq (fs_c σ 0) (fs_c τ0 2) ∧ ∀ t, 0 ≤ t → t < 8 → τ0 22 (8 * 2 + t) 5 = σ 22 (8 * 0 + t) 5) (t134_0 (fx_CV_of (c23 (by omega) hoc bw) ?_)) ?_)
  · rintro v τ ⟨rfl, g1, g2, g3⟩
    exact Or.inl ⟨rfl, rfl, τ, rfl, g1, g2, g3⟩
  · rintro v τ ⟨rfl, τ0, rfl, g1, g2, g3⟩
    refine Or.inl ⟨rfl, c254.V (hk _ _ _ ?_ ?_)⟩
    all_goals generalize hρ : fx_up (fx_fill (fx_up (fx_up τ0 10 0 9 1) 46 0 0 0) 49 0 1130 (fun p => fx_up τ0 10 0 9 1 47 0 p)) 46 0 6 1 = ρ
    all_goals have g4 : ∀ K o p, ¬ (K = 49 ∨ (K = 10 ∧ o = 0 ∧ p = 9) ∨ (K = 46 ∧ o = 0 ∧ (p = 0 ∨ p = 6))) → ρ K o p = τ0 K o p := fun K o p hK => by rw [← hρ, fx_upE, if_neg (by omega), fx_fillE, if_neg (by omega), fx_upE, if_neg (by omega), fx_upE, if_neg (by omega)]
    · have g6 : ρ 46 0 6 = 1 := by rw [← hρ, fx_upS]
      have g9 : ρ 10 0 9 = 1 := by rw [← hρ, fx_upK rfl, fx_fillK rfl, fx_upK rfl, fx_upS]
      have g49 : ∀ p, 0 ≤ p → p < 1130 → ρ 49 0 (0 + p) = σ 47 0 (0 + p) := fun p p0 p1 => by
        rw [show 0 + p = p by omega, ← hρ, fx_upK rfl, fx_fillE, if_pos ⟨rfl, rfl, p0, p1⟩]
        show fx_up τ0 10 0 9 1 47 0 p = _
        rw [fx_upK rfl]; exact g1.1 47 0 p (by unfold fs_at; omega)
      have hg : ∀ K o p, ¬ (11 ≤ K ∧ K ≤ 25) → ¬ (K = 49 ∨ (K = 10 ∧ o = 0 ∧ p = 9) ∨ (K = 46 ∧ o = 0 ∧ (p = 0 ∨ p = 6))) → ρ K o p = σ K o p := fun K o p a b => (g4 K o p b).trans (g1.1 K o p (by unfold fs_at; omega))
      have hat : ∀ i, i ≠ 2 → ∀ K o p, fs_at i K o → ρ K o p = σ K o p := fun i i0 K o p hK => by rw [g4 K o p (by unfold fs_at at hK; omega)]; exact g1.1 K o p (by unfold fs_at at hK ⊢; omega)
      have cρ : ∀ i, fs_c ρ i = fs_c τ0 i := fun i => fs_c_of (fun K o p _ _ => g4 K o p (by omega)) i
      have e47 : fs_m ρ 47 0 = fs_m σ 47 0 := fs_m_c (fun p => hg 47 0 p (by omega) (by omega))
      refine ⟨fs_kp.at ⟨ho, he, hbt⟩ (hat 0 (by omega)) (fun p _ _ => hg 47 0 _ (by omega) (by omega)), fun z => ?_, ⟨?_, ?_, ?_, ?_⟩, ⟨?_, fun _ => ?_⟩, ⟨?_, ?_, ?_⟩, ⟨?_, ?_⟩, ?_, ?_⟩
      · rw [hg 10 0 10 (by omega) (by omega)] at z
        rw [e47]
        exact fs_drawn_k (hg 36 0 8 (by omega) (by omega)) (fun p => hg 37 0 p (by omega) (by omega)) (fun p => hg 38 0 p (by omega) (by omega)) (fun o p x y => hg 41 o p (by omega) (by omega)) (fun o p x y => hg 43 o p (by omega) (by omega)) (d z)
      · rw [hg 10 0 11 (by omega) (by omega)]; exact u1
      · rw [hg 10 0 12 (by omega) (by omega)]; exact u2
      · rw [hg 10 0 11 (by omega) (by omega), hg 46 0 5 (by omega) (by omega)]; exact u3
      · rw [hg 10 0 11 (by omega) (by omega), hg 10 0 12 (by omega) (by omega)]
        exact fun j j0 j1 => (u4 j j0 j1).at (hat _ (by omega)) (fun p _ _ => hg 50 0 _ (by omega) (by omega))
      · rw [g6, g9]
      · refine fs_kp.of ho (by rw [cρ]; exact he.symm.trans g2) (fs_m_row ho g49) (fs_bt_e hbt (by rw [cρ]; exact g2) hoc (fun t x y => ?_))
        rw [g4 22 _ _ (by omega)]; exact g3 t x y
      · rw [hg 28 0 4 (by omega) (by omega)]; exact t1
      · rw [hg 46 0 9 (by omega) (by omega), hg 28 0 4 (by omega) (by omega)]; exact t2
      · rw [hg 28 0 4 (by omega) (by omega)]
        intro j j0 j1
        rw [hg 51 0 j (by omega) (by omega), hg 29 0 j (by omega) (by omega)]; exact t3 j j0 j1
      · rw [hg 46 0 12 (by omega) (by omega), hg 10 0 14 (by omega) (by omega)]; exact f1
      · rw [hg 46 0 7 (by omega) (by omega), hg 10 0 13 (by omega) (by omega)]; exact f2
      · rw [hg 46 0 21 (by omega) (by omega)]; exact l
      · intro o p
        rw [g4 14 o p (by omega), g4 20 o p (by omega)]; exact g1.2 bw o p
    · intro q
      rw [g4 9 0 q (by omega)]; exact g1.1 9 0 q (by unfold fs_at; omega)
theorem o2696 (hR : fs_R σ) (hk : fs_K σ x4 Q) : fx_Wp 293 2696 [(9, 0), (10, 0), (46, 0), (61, 0), (0, x4), w5, w6] [] σ Q := by
  obtain ⟨k1, k2⟩ := hR.2.2.2.1
  obtain ⟨u1, u2, u3, u4⟩ := hR.und
  have bw := hR.2.2.2.2.2.2.2
  by_cases h : σ 10 0 9 = 0
  · exact t293_2696 (fx_Wp.mono (Q := fun v τ => v = (0, 0) ∧ τ = σ) (t135_0 ⟨fun a => absurd h a, fun _ => ⟨rfl, rfl⟩⟩) (by
      rintro v τ ⟨rfl, rfl⟩
      exact Or.inl ⟨rfl, (c255n (k1.trans h)).I ⟨fun _ => hk _ _ _ hR.e (fun q => fx_upK rfl), fun z => absurd rfl z⟩⟩))
  · obtain ⟨p1, p2, p3⟩ := k2 h
    have okc := p2.symm.ok p1
    refine t293_2696 (fx_Wp.mono (Q := fun v τ => v = (0, 1) ∧ ∃ τ0, τ = fx_up (fx_up τ0 10 0 10 0) 10 0 11 0 ∧ fs_fr 0 σ τ0 ∧ fs_eq (fs_c σ 2) (fs_c τ0 0) ∧ ∀ t, 0 ≤ t → t < 8 → τ0 22 (8 * 0 + t) 5 = σ 22 (8 * 2 + t) 5) (t135_0 ⟨fun _ => fx_CV_of (c23 (by omega) okc bw) ?_, fun a => absurd a h⟩) ?_)
    · rintro v τ ⟨rfl, g1, g2, g3⟩
      exact Or.inl ⟨rfl, rfl, τ, rfl, g1, g2, g3⟩
    · rintro v τ ⟨rfl, τ0, rfl, g1, g2, g3⟩
      have e6 : fx_up (fx_up τ0 10 0 10 0) 10 0 11 0 46 0 6 = σ 10 0 9 := by rw [fx_upK rfl, fx_upK rfl, g1.1 46 0 6 (by unfold fs_at; omega)]; exact k1
      refine Or.inl ⟨rfl, (c255y (by rw [e6]; exact h)).I ⟨fun _ => hk _ _ _ ?_ ?_, fun z => absurd rfl z⟩⟩
      all_goals generalize hρ : fx_up (fx_fill (fx_up (fx_up (fx_up τ0 10 0 10 0) 10 0 11 0) 46 0 0 0) 47 0 1130 (fun p => fx_up (fx_up τ0 10 0 10 0) 10 0 11 0 49 0 p)) 46 0 5 0 = ρ
      all_goals have g4 : ∀ K o p, ¬ (K = 47 ∨ (K = 10 ∧ o = 0 ∧ (p = 10 ∨ p = 11)) ∨ (K = 46 ∧ o = 0 ∧ (p = 0 ∨ p = 5))) → ρ K o p = τ0 K o p := fun K o p hK => by rw [← hρ, fx_upE, if_neg (by omega), fx_fillE, if_neg (by omega), fx_upE, if_neg (by omega), fx_upE, if_neg (by omega), fx_upE, if_neg (by omega)]
      · have g5 : ρ 46 0 5 = 0 := by rw [← hρ, fx_upS]
        have g10 : ρ 10 0 10 = 0 := by rw [← hρ, fx_upK rfl, fx_fillK rfl, fx_upK rfl, fx_upJ (by omega), fx_upS]
        have g11 : ρ 10 0 11 = 0 := by rw [← hρ, fx_upK rfl, fx_fillK rfl, fx_upK rfl, fx_upS]
        have g12 : ρ 10 0 12 = σ 10 0 12 := (g4 10 0 12 (by omega)).trans (g1.1 10 0 12 (by unfold fs_at; omega))
        have g47 : ∀ p, 0 ≤ p → p < 1130 → ρ 47 0 (0 + p) = σ 49 0 (0 + p) := fun p p0 p1 => by
          rw [show 0 + p = p by omega, ← hρ, fx_upK rfl, fx_fillE, if_pos ⟨rfl, rfl, p0, p1⟩]
          show fx_up (fx_up τ0 10 0 10 0) 10 0 11 0 49 0 p = _
          rw [fx_upK rfl, fx_upK rfl]; exact g1.1 49 0 p (by unfold fs_at; omega)
        have cρ : ∀ i, fs_c ρ i = fs_c τ0 i := fun i => fs_c_of (fun K o p _ _ => g4 K o p (by omega)) i
        refine fs_Rc hR (fun K o p hK => ?_) (fs_kp.of p1 (by rw [cρ]; exact p2.symm.trans g2) (fs_m_row p1 g47) (fs_bt_e p3 (by rw [cρ]; exact g2) okc (fun t x y => ?_))) g10 (by rw [g5, g11]) (by rw [g12]; exact u2) (by rw [g11]; omega) (fun j j0 j1 => by rw [g11] at j1; omega) (fun o p => ?_)
        · rw [g4 K o p (fun z => hK (z.elim (fun y => Or.inr (Or.inr (Or.inl y))) (fun y => y.elim (fun w => Or.inr (Or.inr (Or.inr (Or.inl ⟨w.1, w.2.1, by omega, by omega⟩)))) (fun w => Or.inr (Or.inr (Or.inr (Or.inr w)))))))]
          exact g1.1 K o p (fun z => hK (Or.inl z))
        · rw [g4 22 _ _ (by omega)]; exact g3 t x y
        · rw [g4 14 o p (by omega), g4 20 o p (by omega)]; exact g1.2 bw o p
      · intro q
        rw [g4 9 0 q (by omega)]; exact g1.1 9 0 q (by unfold fs_at; omega)
end FXO3
