section FXAS
variable {T : Int → Int} {N p : Int} {m : Nat}
theorem fs_tk_z : fs_tk T N p = 0 ↔ N ≤ p := by
  have hw := @fs_kw_r (fs_sl T p (fs_rn fs_let T N p - p).toNat)
  have hs := @fs_sy_r (T p)
  unfold fs_tk
  by_cases q : N ≤ p
  · rw [if_pos q]; exact ⟨fun _ => q, fun _ => rfl⟩
  · rw [if_neg q]
    by_cases l : fs_let (T p) = true
    · rw [if_pos l]; exact ⟨fun z => by omega, fun z => by omega⟩
    · rw [if_neg l]
      by_cases d : fs_dig (T p) = true
      · rw [if_pos d]
        by_cases g : 4 < fs_rn fs_dig T N p - p
        · rw [if_pos g]; exact ⟨fun z => by omega, fun z => by omega⟩
        · rw [if_neg g]; exact ⟨fun z => by omega, fun z => by omega⟩
      · rw [if_neg d]; exact ⟨fun z => by omega, fun z => by omega⟩
theorem fr_K_z {j : Nat} : fr_K T N j = 0 ↔ N ≤ fs_a T N j := fs_tk_z
def fr_i1 (σ τ : fx_S) : Prop := ∀ K o p, ¬ (K = 46 ∧ o = 0 ∧ p = 11) → τ K o p = σ K o p
/-- blanks are passed over, wherever the place is -/
theorem c181x {σ : fx_S} (h : fs_tp σ T N) (c0 : 0 ≤ σ 46 0 11) : fx_Ca 181 [(46, 0)] σ (fun v τ => ∃ y, v = (0, y) ∧ fr_i1 σ τ) := by
  by_cases z : σ 46 0 11 ≤ N
  · refine fx_Wp.mono (c181 h rfl c0 z) (fun v τ hv => ?_)
    obtain ⟨rfl, h1, h2, h3⟩ := hv
    refine ⟨_, rfl, fun K o p hK => ?_⟩
    by_cases g : K = 46 ∧ o = 0 ∧ p = 12
    · obtain ⟨rfl, rfl, rfl⟩ := g; exact h3
    · exact h1 K o p (by omega)
  · refine t181_0 ?_
    rw [h.2.1]
    exact ⟨fun _ => ⟨_, rfl, fun _ _ _ _ => rfl⟩, fun q => by omega⟩
/-- the row as it was, written back -/
theorem r203_220 {w1 w2 w3 : fx_V} {Q : fx_V → fx_S → Prop} {σ : fx_S} (k : ∀ τ, (∀ K o p, ¬ (K = 47 ∧ o = 0) → τ K o p = σ K o p) → (∀ p, 0 ≤ p → p < 1130 → τ 47 0 p = σ 48 0 p) → Q (0, 0) τ) : fx_Wp 203 220 [(46, 0), w1, w2, w3, (0, 0)] [] σ Q := by
  refine fx_whl (X := Int × fx_S) (fun y => [(46, 0), w1, w2, w3, (0, y.1)]) (fun y => y.2) (fun y => (0 ≤ y.1 ∧ y.1 ≤ 1130) ∧ (∀ K o p, ¬ (K = 47 ∧ o = 0) → y.2 K o p = σ K o p) ∧ ∀ p, 0 ≤ p → p < y.1 → y.2 47 0 p = σ 48 0 p) (fun y => (1130 - y.1).toNat) ?_ (0, σ) ⟨⟨by simp, by simp⟩, fun _ _ _ _ => rfl, fun p p0 p1 => by simp only at p1; omega⟩
  rintro ⟨x, τ⟩ ⟨⟨x0, x1⟩, hf, hp⟩ ih
  simp only at x0 x1 hf hp
  show fx_Wp 203 220 [(46, 0), w1, w2, w3, (0, x)] [] τ Q
  refine t203_220 ⟨fun a => k τ hf (fun p p0 p1 => hp p p0 (by omega)), fun a => ⟨⟨by omega, by omega⟩, ⟨by omega, by omega⟩, ?_⟩⟩
  rw [hf 48 0 x (by omega)]
  generalize hE : fx_up τ 47 0 x (σ 48 0 x) = ρ
  refine ih (x + 1, ρ) ⟨⟨by simp only; omega, by simp only; omega⟩, fun K o p hK => ?_, fun p p0 p1 => ?_⟩ (by simp only; omega)
  · simp only
    rw [← hE, fx_upE, if_neg (by omega)]; exact hf K o p hK
  · simp only at p1 ⊢
    rw [← hE]
    by_cases e : p = x
    · rw [e, fx_upS]
    · rw [fx_upJ (by omega)]; exact hp p p0 (by omega)
/-- what the acts of a tape come to, reference -/
def fr_pr (T : Int → Int) (N : Int) (σ : fx_S) (r : Bool × Nat × Int × Nat × fx_S) : fx_V → fx_S → Prop := fun v τ => (∀ K o p, ¬ (K = 47 ∨ K = 52 ∨ K = 53 ∨ K = 54 ∨ (K = 46 ∧ o = 0 ∧ (p = 0 ∨ p = 5 ∨ p = 7 ∨ p = 11 ∨ p = 12 ∨ p = 15 ∨ p = 17 ∨ p = 18 ∨ p = 29))) → τ K o p = σ K o p) ∧ (r.1 = true → v = (0, (r.2.2.2.1 : Int)) ∧ τ 46 0 0 = 0 ∧ τ 46 0 7 = (if r.2.2.2.1 = 0 then σ 46 0 7 else 0) ∧ τ 46 0 5 = 0 ∧ τ 46 0 12 = -1 ∧ fs_eq r.2.2.2.2 (fs_m τ 47 0)) ∧ (r.1 = false → (∃ y, v = (0, y)) ∧ τ 46 0 0 = 1 ∧ τ 46 0 7 = (if r.2.2.1 = 0 then σ 46 0 7 else r.2.2.1) ∧ τ 46 0 5 = σ 46 0 5 ∧ τ 46 0 12 = fs_a T N r.2.1 ∧ ∀ p, 0 ≤ p → p < 1130 → τ 47 0 p = σ 48 0 p)
theorem fr_pr.t {σ τ ρ : fx_S} {r : Bool × Nat × Int × Nat × fx_S} {v : fx_V} (g : fr_fz σ τ) (h : fr_pr T N τ r v ρ) : fr_pr T N σ r v ρ := by
  obtain ⟨h1, h2, h3⟩ := h
  have g7 : τ 46 0 7 = σ 46 0 7 := g 46 0 7 (by omega)
  have g5 : τ 46 0 5 = σ 46 0 5 := g 46 0 5 (by omega)
  rw [g7] at h2 h3
  rw [g5] at h3
  refine ⟨fun K o p hK => (h1 K o p hK).trans (g K o p (by omega)), h2, fun z => ?_⟩
  obtain ⟨a, b, c, d, e, f⟩ := h3 z
  exact ⟨a, b, c, d, e, fun p p0 p1 => (f p p0 p1).trans (g 48 0 p (by omega))⟩
/-- the end of a wrong text -/
theorem r203x {σ τ : fx_S} {x1 x2 : Int} {w3 w4 : fx_V} {j d : Nat} {S : fx_S} (hN : 0 ≤ N) (hf : τ 46 0 12 = fs_a T N j) (h2 : 0 ≤ x2) (g : fr_fz σ τ) : fx_Wp 203 154 [(46, 0), (0, x1), (0, x2), w3, w4] [] τ (fr_pr T N σ (false, j, x2, d, S)) := by
  have ha := fs_a_r (T := T) hN j
  refine fx_Wp.mono (Q := fr_pr T N τ (false, j, x2, d, S)) ?_ (fun v u hu => hu.t g)
  refine t203_154 ⟨fun _ => ⟨fun le => r203_220 (fun ρ h3 h4 => ?_), fun lt => r203_220 (fun ρ h3 h4 => ?_)⟩, fun z => by omega⟩
  all_goals
    refine ⟨fun K o p hK => ?_, fun z => absurd z Bool.false_ne_true, fun _ => ⟨⟨0, rfl⟩, ?_, ?_, ?_, ?_, fun p p0 p1 => ?_⟩⟩
    · rw [h3 K o p (by omega), fx_upE, if_neg (by omega), fx_upE, if_neg (by omega)]
    · rw [h3 46 0 0 (by omega), fx_upJ (by omega), fx_upS]
    · rw [h3 46 0 7 (by omega), fx_upS]
      simp only
      first | rw [if_pos (by omega)] | rw [if_neg (by omega)]
    · rw [h3 46 0 5 (by omega), fx_upJ (by omega), fx_upJ (by omega)]
    · rw [h3 46 0 12 (by omega), fx_upJ (by omega), fx_upJ (by omega)]; exact hf
    · rw [h4 p p0 p1, fx_upK rfl, fx_upK rfl]
theorem r203f {σ τ : fx_S} {x1 x2 x3 : Int} {w4 : fx_V} {j d : Nat} {S : fx_S} (hN : 0 ≤ N) (hf : τ 46 0 12 = fs_a T N j) (h2 : 0 ≤ x2) (g : fr_fz σ τ) : fx_Wp 203 48 [(46, 0), (0, x1), (0, x2), (0, x3), w4] [] τ (fr_pr T N σ (false, j, x2, d, S)) := by
  have ha := fs_a_r (T := T) hN j
  exact t203_48 ⟨fun _ => r203x hN hf h2 g, fun _ => ⟨fun _ => r203x hN hf h2 g, fun z => by omega⟩⟩
theorem r203y {σ τ : fx_S} {x1 x2 : Int} {w3 w4 : fx_V} {j d : Nat} {S : fx_S} (h : fs_tp τ T N) (hf : τ 46 0 12 = fs_a T N j) (h0 : 0 ≤ τ 46 0 11) (h1 : 0 ≤ x1 ∧ x1 ≤ 14) (h2 : 0 ≤ x2) (g : fr_fz σ τ) : fx_Wp 203 87 [(46, 0), (0, x1), (0, x2), w3, w4] [] τ (fr_pr T N σ (false, j, x2, d, S)) := by
  have hN := h.1.1
  have ha := fs_a_r (T := T) hN j
  refine t203_87 ⟨⟨by omega, by omega⟩, fx_CI_of (c181x h h0) ?_⟩
  rintro v ρ ⟨y, rfl, hi⟩
  have hf2 : ρ 46 0 12 = fs_a T N j := (hi 46 0 12 (by omega)).trans hf
  have g2 : fr_fz σ ρ := g.trans (fun K o p hK => hi K o p (by omega))
  exact Or.inl ⟨rfl, fun _ => r203f hN hf2 h2 g2, fun _ => ⟨fun _ => r203f hN hf2 h2 g2, fun z => by omega⟩⟩
theorem r203s {σ τ : fx_S} {x2 : Int} {w3 w4 : fx_V} {j d : Nat} {y : Int} {S : fx_S} (hf : τ 46 0 12 = -1) (he : fs_eq S (fs_m τ 47 0)) (g : fr_fz σ τ) : fx_Wp 203 48 [(46, 0), (0, (d : Int)), (0, x2), (0, 0), w4] [] τ (fr_pr T N σ (true, j, y, d, S)) := by
  refine fx_Wp.mono (Q := fr_pr T N τ (true, j, y, d, S)) ?_ (fun v u hu => hu.t g)
  refine t203_48 ⟨fun _ => t203_154 ⟨fun z => absurd hf z, fun _ => ⟨fun le => ?_, fun lt => ?_⟩⟩, fun z => absurd rfl z⟩
  all_goals
    refine ⟨fun K o p hK => ?_, fun _ => ⟨rfl, ?_, ?_, ?_, ?_, ?_⟩, fun z => absurd z.symm Bool.false_ne_true⟩
    · rw [fx_upE, if_neg (by omega), fx_upE, if_neg (by omega), fx_upE, if_neg (by omega)]
    · rw [fx_upJ (by omega), fx_upJ (by omega), fx_upS]
    · rw [fx_upJ (by omega), fx_upS]
      simp only
      first | rw [if_pos (by omega)] | rw [if_neg (by omega)]
    · rw [fx_upS]
    · rw [fx_upJ (by omega), fx_upJ (by omega), fx_upJ (by omega)]; exact hf
    · rw [fs_m_c (τ := fx_up _ 46 0 5 0) (σ := τ) (fun q => by rw [fx_upK rfl, fx_upK rfl, fx_upK rfl])]; exact he
theorem r203l (hm : fs_a T N m = N) : ∀ (n d i : Nat) (S τ : fx_S) (w4 : fx_V), n + d = 14 → fs_tp τ T N → τ 46 0 12 = -1 → fr_at τ T N i → fs_ok S → fs_eq S (fs_m τ 47 0) → fx_Wp 203 48 [(46, 0), (0, (d : Int)), (0, 0), (0, 1), w4] [] τ (fr_pr T N τ (fr_run T N m n S i d))
  | 0, d, i, S, τ, w4, hd, h, hf, ha, ho, he => by
    have hN := h.1.1
    have har := fs_a_r (T := T) hN i
    refine t203_48 ⟨fun z => absurd z (by decide), fun _ => ⟨fun z => absurd hf z, fun _ => ⟨fun z => by omega, fun _ => fx_CI_of (r181 h ha) ?_⟩⟩⟩
    rintro v ρ ⟨rfl, r⟩
    rw [hf] at r
    refine Or.inl ⟨rfl, fx_CV_of (c182 r.2.1) ?_⟩
    rintro v ρ2 ⟨rfl, r2⟩
    rw [r.2.2, if_pos rfl] at r2
    have rr := r.trans r2
    exact Or.inl ⟨rfl, fun _ => r203y (rr.tp h) rr.2.2 (by rw [rr.2.1]; exact har.1) ⟨by omega, by omega⟩ (by omega) rr.z, fun z => by rw [rr.2.2] at z; omega⟩
  | n + 1, d, i, S, τ, w4, hd, h, hf, ha, ho, he => by
    have hN := h.1.1
    have hN4 := h.1.2
    have hoτ := he.ok ho
    refine t203_48 ⟨fun z => absurd z (by decide), fun _ => ⟨fun z => absurd hf z, fun _ => ⟨fun _ => ⟨fun z => absurd hf z, fun _ => fx_CI_of (r202 h hm hf ha hoτ) ?_⟩, fun z => by omega⟩⟩⟩
    rintro v ρ ⟨hz, hc⟩
    have hR : (fr_ac T N m i).1 = true → fr_rf S T N i = fr_rf (fs_m τ 47 0) T N i := fun hac => fs_ref_c he ho (fr_par hN hm hac).2.1
    have htp : fs_tp ρ T N := ⟨h.1, (hz 46 0 10 (by omega)).trans h.2.1, fun j a b => (hz 51 0 j (by omega)).trans (h.2.2 j a b)⟩
    rcases hc with ⟨hac, hrf, rfl, f12, hat, heq⟩ | ⟨hac, hrf, rfl, f12, h11⟩ | ⟨hac, rfl, f12, h11⟩
    · have hpw := fr_par hN hm hac
      have hrS : fr_rf S T N i = 0 := (hR hac).trans hrf
      have heS : fs_eq (fr_dn S T N m i) (fs_m ρ 47 0) := (fs_do_c he ho hpw hrS (fun _ => ⟨rfl, rfl, fun _ _ _ => ⟨rfl, rfl, fun _ => rfl⟩⟩)).trans heq
      have hoS : fs_ok (fr_dn S T N m i) := fs_do_ok ho hpw hrS
      generalize hj : (fr_ac T N m i).2.1 = j at hat
      have har := fs_a_r (T := T) hN j
      refine Or.inl ⟨rfl, t203_87 ⟨⟨by omega, by omega⟩, fx_CI_of (r181 htp hat) ?_⟩⟩
      rintro v ρ2 ⟨rfl, r⟩
      rw [f12] at r
      have hz2 : fr_fz τ ρ2 := hz.trans r.z
      have em : fs_m ρ2 47 0 = fs_m ρ 47 0 := fs_m_c (fun q => r.1 47 0 q (by omega))
      rw [← em] at heS
      have htp2 := r.tp htp
      rw [htp2.2.1, r.2.1]
      have ed : (d : Int) + 1 = ((d + 1 : Nat) : Int) := by omega
      rw [ed]
      refine Or.inl ⟨rfl, fun le => ?_, fun lt => ⟨fun z => absurd r.2.2 z, fun _ => ⟨⟨har.1, by omega⟩, ?_⟩⟩⟩
      · have e : fr_run T N m (n + 1) S i d = (true, j, 0, d + 1, fr_dn S T N m i) := by
          rw [fr_run, if_neg (by rw [hac]; decide), if_neg (fun z => z hrS), hj, if_pos (fr_K_z.mpr le)]
        rw [e]
        exact r203s (w3 := (3, 0)) r.2.2 heS hz2
      · have k0 : fr_K T N j ≠ 0 := fun z => by have := fr_K_z.mp z; have lt : fs_a T N j < N := lt; omega
        have lt : fs_a T N j < N := lt
        rw [htp2.2.2 _ har.1 lt]
        have ks : (fs_a T N j < N ∧ T (fs_a T N j) = 59) ↔ fr_K T N j = 3 := fs_tk_s (c := 59) (by omega)
        refine ⟨fun y => ⟨⟨by omega, by omega⟩, ?_⟩, fun y => fx_CV_of (c182 r.2.1) ?_⟩
        · have k3 : fr_K T N j = 3 := ks.mp ⟨lt, y⟩
          have e : fr_run T N m (n + 1) S i d = fr_run T N m n (fr_dn S T N m i) (j + 1) (d + 1) := by
            rw [fr_run, if_neg (by rw [hac]; decide), if_neg (fun z => z hrS), hj, if_neg k0, if_neg (fun z => z k3)]
          rw [e]
          have hte := fs_te_s (c := 59) (by omega) lt y
          generalize hE : fx_up ρ2 46 0 11 (fs_a T N j + 1) = ρ3
          have r3 : fs_rp ρ2 ρ3 (fs_te T N (fs_a T N j)) (-1) := ⟨fun K o p hK => by rw [← hE, fx_upE, if_neg (by omega)], by rw [hte, ← hE, fx_upS], by rw [← hE, fx_upJ (by omega)]; exact r.2.2⟩
          have em3 : fs_m ρ3 47 0 = fs_m ρ2 47 0 := fs_m_c (fun q => r3.1 47 0 q (by omega))
          exact fx_Wp.mono (r203l hm n (d + 1) (j + 1) (fr_dn S T N m i) ρ3 w4 (by omega) (r3.tp htp2) r3.2.2 (fr_at_y hN r3) hoS (by rw [em3]; exact heS)) (fun v u hu => hu.t (hz2.trans r3.z))
        · have k3 : fr_K T N j ≠ 3 := fun z => y (ks.mpr z).2
          have e : fr_run T N m (n + 1) S i d = (false, j, 0, d + 1, fr_dn S T N m i) := by
            rw [fr_run, if_neg (by rw [hac]; decide), if_neg (fun z => z hrS), hj, if_neg k0, if_pos k3]
          rw [e]
          rintro v ρ3 ⟨rfl, r3⟩
          rw [r.2.2, if_pos rfl] at r3
          refine Or.inl ⟨rfl, ⟨by rw [r3.2.1]; omega, by rw [r3.2.1]; omega⟩, r203f hN (by rw [fx_upJ (by omega)]; exact r3.2.2) (by omega) (hz2.trans (r3.z.trans (fun K o p hK => ?_)))⟩
          rw [fx_upE, if_neg (by omega)]
    · have hrS : fr_rf S T N i ≠ 0 := by rw [hR hac]; exact hrf
      have e : fr_run T N m (n + 1) S i d = (false, i, fr_rf S T N i, d, S) := by
        rw [fr_run, if_neg (by rw [hac]; decide), if_pos hrS]
      rw [e, hR hac]
      exact Or.inl ⟨rfl, r203y htp f12 h11 ⟨by omega, by omega⟩ fs_ref_r.1 hz⟩
    · have e : fr_run T N m (n + 1) S i d = (false, (fr_ac T N m i).2.1, 0, d, S) := by
        rw [fr_run, if_pos hac]
      rw [e]
      exact Or.inl ⟨rfl, r203y htp f12 h11 ⟨by omega, by omega⟩ (by omega) hz⟩
/-- what acts() comes to, reference -/
def fr_q203 (T : Int → Int) (N : Int) (σ : fx_S) (r : Bool × Nat × Int × Nat × fx_S) : fx_V → fx_S → Prop := fun v τ => (∀ K o p, ¬ (K = 47 ∨ K = 48 ∨ K = 52 ∨ K = 53 ∨ K = 54 ∨ (K = 46 ∧ o = 0 ∧ (p = 0 ∨ p = 5 ∨ p = 7 ∨ (9 ≤ p ∧ p ≤ 12) ∨ p = 15 ∨ p = 17 ∨ p = 18 ∨ p = 29))) → τ K o p = σ K o p) ∧ τ 46 0 9 = 0 ∧ (r.1 = true → v = (0, (r.2.2.2.1 : Int)) ∧ τ 46 0 0 = 0 ∧ τ 46 0 7 = (if r.2.2.2.1 = 0 then σ 46 0 7 else 0) ∧ τ 46 0 5 = 0 ∧ τ 46 0 12 = -1 ∧ fs_eq r.2.2.2.2 (fs_m τ 47 0)) ∧ (r.1 = false → (∃ y, v = (0, y)) ∧ τ 46 0 0 = 1 ∧ τ 46 0 7 = (if r.2.2.1 = 0 then σ 46 0 7 else r.2.2.1) ∧ τ 46 0 5 = σ 46 0 5 ∧ τ 46 0 12 = fs_a T N r.2.1 ∧ ∀ p, 0 ≤ p → p < 1130 → τ 47 0 p = σ 47 0 p)
theorem c203 {σ : fx_S} (hN : σ 46 0 9 = N) (h0 : 0 ≤ N) (h4 : N ≤ 400) (hT : ∀ j, 0 ≤ j → j < N → σ 51 0 j = T j) (hm : fs_a T N m = N) (ho : fs_ok (fs_m σ 47 0)) : fx_Ca 203 [(46, 0)] σ (fr_q203 T N σ (fr_all T N m (fs_m σ 47 0))) := by
  refine t203_0 (c176.V ?_)
  rw [hN]
  generalize hE : fx_fill (fx_up (fx_up (fx_up (fx_up σ 46 0 12 (-1)) 46 0 10 N) 46 0 9 0) 46 0 11 0) 48 0 1130 (fun p => fx_up (fx_up (fx_up (fx_up σ 46 0 12 (-1)) 46 0 10 N) 46 0 9 0) 46 0 11 0 47 0 p) = τ
  have g : ∀ K o p, ¬ ((K = 48 ∧ o = 0) ∨ (K = 46 ∧ o = 0 ∧ 9 ≤ p ∧ p ≤ 12)) → τ K o p = σ K o p := fun K o p hK => by
    rw [← hE, fx_fillE, if_neg (by omega), fx_upE, if_neg (by omega), fx_upE, if_neg (by omega), fx_upE, if_neg (by omega), fx_upE, if_neg (by omega)]
  have g48 : ∀ p, 0 ≤ p → p < 1130 → τ 48 0 p = σ 47 0 p := fun p p0 p1 => by
    rw [← hE, fx_fillE, if_pos ⟨rfl, rfl, p0, p1⟩, fx_upK rfl, fx_upK rfl, fx_upK rfl, fx_upK rfl]
  have h12 : τ 46 0 12 = -1 := by rw [← hE, fx_fillE, if_neg (by omega), fx_upJ (by omega), fx_upJ (by omega), fx_upJ (by omega), fx_upS]
  have h10 : τ 46 0 10 = N := by rw [← hE, fx_fillE, if_neg (by omega), fx_upJ (by omega), fx_upJ (by omega), fx_upS]
  have h9 : τ 46 0 9 = 0 := by rw [← hE, fx_fillE, if_neg (by omega), fx_upJ (by omega), fx_upS]
  have h11 : τ 46 0 11 = 0 := by rw [← hE, fx_fillE, if_neg (by omega), fx_upS]
  have htp : fs_tp τ T N := ⟨⟨h0, h4⟩, h10, fun j a b => (g 51 0 j (by omega)).trans (hT j a b)⟩
  have hat : fr_at τ T N 0 := ⟨0, h11, by omega, h0, rfl⟩
  have em : fs_m τ 47 0 = fs_m σ 47 0 := fs_m_c (fun q => g 47 0 q (by omega))
  have post : ∀ ρ r v u, fr_fz τ ρ → fr_pr T N ρ r v u → fr_q203 T N σ r v u := fun ρ r v u hz hu => by
    obtain ⟨h1, h2, h3⟩ := hu.t hz
    rw [g 46 0 7 (by omega)] at h2 h3
    rw [g 46 0 5 (by omega)] at h3
    refine ⟨fun K o p hK => (h1 K o p (by omega)).trans (g K o p (by omega)), (h1 46 0 9 (by omega)).trans h9, h2, fun z => ?_⟩
    obtain ⟨a, b, c, d, e, f⟩ := h3 z
    exact ⟨a, b, c, d, e, fun p p0 p1 => (f p p0 p1).trans (g48 p p0 p1)⟩
  refine fx_CI_of (r181 htp hat) ?_
  rintro v ρ ⟨rfl, r⟩
  rw [h12] at r
  have em2 : fs_m ρ 47 0 = fs_m σ 47 0 := (fs_m_c (fun q => r.1 47 0 q (by omega))).trans em
  rw [(r.tp htp).2.1]
  refine Or.inl ⟨rfl, fun le => ?_, fun lt => ?_⟩
  · have e : fr_all T N m (fs_m σ 47 0) = (true, 0, 0, 0, fs_m σ 47 0) := if_pos (fr_K_z.mpr le)
    rw [e]
    exact fx_Wp.mono (r203s (d := 0) (w3 := (3, 0)) r.2.2 (by rw [em2]; exact fs_eq.rfl) (σ := ρ) (fun _ _ _ _ => rfl)) (fun v u hu => post ρ _ v u r.z hu)
  · have lt : fs_a T N 0 < N := lt
    have e : fr_all T N m (fs_m σ 47 0) = fr_run T N m 14 (fs_m σ 47 0) 0 0 := if_neg (fun z => by have := fr_K_z.mp z; omega)
    rw [e]
    exact fx_Wp.mono (r203l hm 14 0 0 (fs_m σ 47 0) ρ (3, 0) rfl (r.tp htp) r.2.2 (fr_at_n h0 r) ho (by rw [em2]; exact fs_eq.rfl)) (fun v u hu => post ρ _ v u r.z hu)
end FXAS
