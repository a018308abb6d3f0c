/-- frame of acts(), class -/
def fr_G (σ τ : fx_S) : Prop := ∀ K o p, ¬ (((K = 11 ∨ (13 ≤ K ∧ K ≤ 20)) ∧ (o = 0 ∨ o = 1)) ∨ (22 ≤ K ∧ K ≤ 25 ∧ ((0 ≤ o ∧ o < 16) ∨ o = 89)) ∨ (K = 33 ∧ o = 0 ∧ 4 ≤ p ∧ p ≤ 9) ∨ K = 34 ∨ K = 35 ∨ ((K = 26 ∨ K = 27) ∧ o = 1) ∨ (30 ≤ K ∧ K ≤ 32) ∨ (K = 28 ∧ o = 0 ∧ (p = 4 ∨ p = 5)) ∨ (K = 10 ∧ o = 0 ∧ (p = 10 ∨ p = 11 ∨ p = 13 ∨ p = 14))) → τ K o p = σ K o p
def fr_p98 (T : Int → Int) (N : Int) (σ : fx_S) (r : Bool × Nat × Int × Nat × fx_S) : fx_V → fx_S → Prop := fun v τ => (fr_G σ τ ∧ fx_bw τ ∧ fs_bt τ 0 ∧ τ 28 0 4 = 0 ∧ τ 10 0 10 = 0) ∧ (r.1 = true → v = (0, (r.2.2.2.1 : Int)) ∧ τ 10 0 14 = -1 ∧ τ 10 0 11 = 0 ∧ τ 10 0 13 = (if r.2.2.2.1 = 0 then σ 10 0 13 else 0) ∧ fs_eq r.2.2.2.2 (fs_c τ 0) ∧ fs_ok r.2.2.2.2) ∧ (r.1 = false → v = (5, 0) ∧ τ 10 0 14 = fs_a T N r.2.1 ∧ τ 10 0 11 = σ 10 0 11 ∧ τ 10 0 13 = (if r.2.2.1 = 0 then σ 10 0 13 else r.2.2.1) ∧ fs_eq (fs_c σ 0) (fs_c τ 0))
section FXAT
variable {N : Int} {σ : fx_S}
theorem c98 (hN : σ 28 0 4 = N) (h0 : 0 ≤ N) (h4 : N ≤ 400) (ho : fs_ok (fs_c σ 0)) (hb : fs_bt σ 0) (hw : fx_bw σ) {S : fx_S} (hS : fs_ok S) (he : fs_eq S (fs_c σ 0)) : fx_Ca 98 [(10, 0)] σ (fun v τ => ∃ m : Nat, fs_a (σ 29 0) N m = N ∧ fr_p98 (σ 29 0) N σ (fr_all (σ 29 0) N m S) v τ) := by
  refine t98_0 (fx_CV_of (c23 (σ := σ) (i := 1) (j := 0) (by omega) ho hw) ?_)
  rintro v σ1 ⟨rfl, f1, e1, b1⟩
  have h1 : ∀ K o p, ¬ fs_at 1 K o → σ1 K o p = σ K o p := f1.1
  have hT : σ1 29 0 = σ 29 0 := funext fun p => h1 29 0 p (by unfold fs_at; omega)
  have hat : ∀ K o p, fs_at 0 K o → σ1 K o p = σ K o p := fun K o p hK => h1 K o p (by unfold fs_at at hK ⊢; omega)
  have he0 := fs_c_at hat
  have c49 := c49 (σ := σ1) (N := N) (by rw [h1 28 0 4 (by unfold fs_at; omega)]; exact hN) h0 h4 (he0.ok ho) (fs_bt_e hb he0 ho (fun t t0 t1 => hat 22 _ 5 (by unfold fs_at; omega))) hS (he.trans he0)
  rw [hT] at c49
  refine Or.inl ⟨rfl, fx_CI_of c49 ?_⟩
  rintro v σ2 ⟨m, hm, hv, hF, hbw, q9, qn, qy⟩
  have w2 := hbw (f1.2 hw)
  have post : ∀ v u, fr_p98 (σ 29 0) N σ (fr_all (σ 29 0) N m S) v u → ∃ m : Nat, fs_a (σ 29 0) N m = N ∧ fr_p98 (σ 29 0) N σ (fr_all (σ 29 0) N m S) v u := fun v u h => ⟨m, hm, h⟩
  generalize fr_all (σ 29 0) N m S = r at hv q9 qn qy post
  have h2 : ∀ K o p, ¬ (((K = 11 ∨ (13 ≤ K ∧ K ≤ 20)) ∧ (o = 0 ∨ o = 1)) ∨ (22 ≤ K ∧ K ≤ 25 ∧ ((0 ≤ o ∧ o < 16) ∨ o = 89)) ∨ (K = 33 ∧ o = 0 ∧ 4 ≤ p ∧ p ≤ 9) ∨ K = 34 ∨ K = 35 ∨ ((K = 26 ∨ K = 27) ∧ o = 1) ∨ (30 ≤ K ∧ K ≤ 32) ∨ (K = 28 ∧ o = 0 ∧ p = 5)) → σ2 K o p = σ K o p := fun K o p hK => (hF K o p (by omega)).trans (h1 K o p (by unfold fs_at; omega))
  cases hr : r.1 with
  | true =>
    obtain ⟨y8, y7, ye, yb, yo⟩ := qy hr
    rw [hr] at hv
    subst hv
    rw [y7, y8]
    refine Or.inl ⟨rfl, fun _ => ⟨fun le => post _ _ ?_, fun lt => post _ _ ?_⟩, fun z => absurd z (by decide)⟩
    · generalize hE : fx_up (fx_up (fx_up (fx_up σ2 28 0 4 0) 10 0 14 (-1)) 10 0 10 0) 10 0 11 0 = τ
      have g : ∀ K o p, ¬ ((K = 28 ∧ o = 0 ∧ p = 4) ∨ (K = 10 ∧ o = 0 ∧ (p = 10 ∨ p = 11 ∨ p = 14))) → τ K o p = σ2 K o p := fun K o p hK => by rw [← hE, fx_upE, if_neg (by omega), fx_upE, if_neg (by omega), fx_upE, if_neg (by omega), fx_upE, if_neg (by omega)]
      have ec : fs_c τ 0 = fs_c σ2 0 := fs_c_of (fun K o p a b => g K o p (by omega)) 0
      refine ⟨⟨fun K o p hK => (g K o p (by omega)).trans (h2 K o p (by omega)), fun o p => by rw [g 14 o p (by omega), g 20 o p (by omega)]; exact w2 o p, fun t t0 t1 => by rw [g 22 _ 5 (by omega), ec]; exact yb t t0 t1, ?_, ?_⟩, fun _ => ⟨rfl, ?_, ?_, ?_, by rw [ec]; exact ye, yo⟩, fun z => absurd (hr.symm.trans z).symm Bool.false_ne_true⟩
      · rw [← hE, fx_upK rfl, fx_upK rfl, fx_upK rfl, fx_upS]
      · rw [← hE, fx_upJ (by omega), fx_upS]
      · rw [← hE, fx_upJ (by omega), fx_upJ (by omega), fx_upS]
      · rw [← hE, fx_upS]
      · rw [g 10 0 13 (by omega), h2 10 0 13 (by omega), if_pos (by omega)]
    · generalize hE : fx_up (fx_up (fx_up (fx_up (fx_up σ2 28 0 4 0) 10 0 14 (-1)) 10 0 10 0) 10 0 11 0) 10 0 13 0 = τ
      have g : ∀ K o p, ¬ ((K = 28 ∧ o = 0 ∧ p = 4) ∨ (K = 10 ∧ o = 0 ∧ (p = 10 ∨ p = 11 ∨ p = 13 ∨ p = 14))) → τ K o p = σ2 K o p := fun K o p hK => by rw [← hE, fx_upE, if_neg (by omega), fx_upE, if_neg (by omega), fx_upE, if_neg (by omega), fx_upE, if_neg (by omega), fx_upE, if_neg (by omega)]
      have ec : fs_c τ 0 = fs_c σ2 0 := fs_c_of (fun K o p a b => g K o p (by omega)) 0
      refine ⟨⟨fun K o p hK => (g K o p (by omega)).trans (h2 K o p (by omega)), fun o p => by rw [g 14 o p (by omega), g 20 o p (by omega)]; exact w2 o p, fun t t0 t1 => by rw [g 22 _ 5 (by omega), ec]; exact yb t t0 t1, ?_, ?_⟩, fun _ => ⟨rfl, ?_, ?_, ?_, by rw [ec]; exact ye, yo⟩, fun z => absurd (hr.symm.trans z).symm Bool.false_ne_true⟩
      · rw [← hE, fx_upK rfl, fx_upK rfl, fx_upK rfl, fx_upK rfl, fx_upS]
      · rw [← hE, fx_upJ (by omega), fx_upJ (by omega), fx_upS]
      · rw [← hE, fx_upJ (by omega), fx_upJ (by omega), fx_upJ (by omega), fx_upS]
      · rw [← hE, fx_upJ (by omega), fx_upS]
      · rw [← hE, fx_upS, if_neg (by omega)]
  | false =>
    have q8 := qn hr
    rw [hr] at hv
    subst hv
    rw [q8]
    refine Or.inl ⟨rfl, fun z => absurd rfl z, fun _ => ?_⟩
    generalize hE : fx_up (fx_up (fx_up σ2 28 0 4 0) 10 0 14 (fs_a (σ 29 0) N r.2.1)) 10 0 10 0 = τ
    have g : ∀ K o p, ¬ ((K = 28 ∧ o = 0 ∧ p = 4) ∨ (K = 10 ∧ o = 0 ∧ (p = 10 ∨ p = 14))) → τ K o p = σ2 K o p := fun K o p hK => by rw [← hE, fx_upE, if_neg (by omega), fx_upE, if_neg (by omega), fx_upE, if_neg (by omega)]
    have w3 : fx_bw τ := fun o p => by rw [g 14 o p (by omega), g 20 o p (by omega)]; exact w2 o p
    have hat1 : ∀ K o p, fs_at 1 K o → τ K o p = σ1 K o p := fun K o p hK => by unfold fs_at at hK; exact (g K o p (by omega)).trans (hF K o p (by omega))
    have e3 := e1.trans (fs_c_at hat1)
    refine fx_CV_of (c23 (σ := τ) (i := 0) (j := 1) (by omega) (e3.ok ho) w3) ?_
    rintro v ρ ⟨rfl, f4, e4, b4⟩
    have h4' : ∀ K o p, ¬ fs_at 0 K o → ρ K o p = τ K o p := f4.1
    have e5 := e3.trans e4
    have gG : ∀ K o p, ¬ (fs_at 0 K o ∨ (K = 28 ∧ o = 0 ∧ p = 4) ∨ (K = 10 ∧ o = 0 ∧ (p = 10 ∨ p = 14))) → ρ K o p = σ2 K o p := fun K o p hK => (h4' K o p (fun z => hK (Or.inl z))).trans (g K o p (fun z => hK (Or.inr z)))
    have hb5 : fs_bt ρ 0 := fs_bt_e hb e5 ho (fun t t0 t1 => (b4 t t0 t1).trans ((hat1 22 _ 5 (by unfold fs_at; omega)).trans (b1 t t0 t1)))
    have w5 : fx_bw ρ := f4.2 w3
    have hG : fr_G σ ρ := fun K o p hK => (gG K o p (by unfold fs_at; omega)).trans (h2 K o p (by omega))
    have r9 : ρ 33 0 9 = r.2.2.1 := (gG 33 0 9 (by unfold fs_at; omega)).trans q9
    have r284 : ρ 28 0 4 = 0 := by rw [h4' 28 0 4 (by unfold fs_at; omega), ← hE, fx_upK rfl, fx_upK rfl, fx_upS]
    have r10 : ρ 10 0 10 = 0 := by rw [h4' 10 0 10 (by unfold fs_at; omega), ← hE, fx_upS]
    have r14 : ρ 10 0 14 = fs_a (σ 29 0) N r.2.1 := by rw [h4' 10 0 14 (by unfold fs_at; omega), ← hE, fx_upJ (by omega), fx_upS]
    have r11 : ρ 10 0 11 = σ 10 0 11 := (gG 10 0 11 (by unfold fs_at; omega)).trans (h2 10 0 11 (by omega))
    have r13 : ρ 10 0 13 = σ 10 0 13 := (gG 10 0 13 (by unfold fs_at; omega)).trans (h2 10 0 13 (by omega))
    rw [r9]
    refine Or.inl ⟨rfl, fun z => post _ _ ⟨⟨hG, w5, hb5, r284, r10⟩, fun y => absurd (hr.symm.trans y) Bool.false_ne_true, fun _ => ⟨rfl, r14, r11, by rw [if_pos z]; exact r13, e5⟩⟩, fun z => post _ _ ?_⟩
    have ec : fs_c (fx_up ρ 10 0 13 r.2.2.1) 0 = fs_c ρ 0 := fs_c_of (fun K o p a b => by rw [fx_upE, if_neg (by omega)]) 0
    refine ⟨⟨fun K o p hK => ?_, fun o p => ?_, fun t t0 t1 => ?_, ?_, ?_⟩, fun y => absurd (hr.symm.trans y) Bool.false_ne_true, fun _ => ⟨rfl, ?_, ?_, ?_, by rw [ec]; exact e5⟩⟩
    · rw [fx_upE, if_neg (by omega)]; exact hG K o p hK
    · rw [fx_upK rfl, fx_upK rfl]; exact w5 o p
    · rw [fx_upK rfl, ec]; exact hb5 t t0 t1
    · rw [fx_upK rfl]; exact r284
    · rw [fx_upJ (by omega)]; exact r10
    · rw [fx_upJ (by omega)]; exact r14
    · rw [fx_upJ (by omega)]; exact r11
    · rw [fx_upS, if_neg z]
theorem o318 {σ : fx_S} {x4 : Int} {Q : fx_V → fx_S → Prop} {w5 w6 : fx_V} (hR : fs_R σ) (hk : fs_K σ x4 Q) : fx_Wp 293 318 [(9, 0), (10, 0), (46, 0), (61, 0), (0, x4), w5, w6] [] σ Q := by
  obtain ⟨⟨km, ke, kb⟩, -, ⟨u1, u2, u3, u4⟩, ⟨k1, k2⟩, ⟨t1, t2, t3⟩, ⟨f1, f2⟩, lim, bw⟩ := hR
  have hoc : fs_ok (fs_c σ 0) := ke.symm.ok km
  -- what both have come to, is again the relation
  have fin : ∀ (m : Nat) (τ0 τ ρ : fx_S) (v w : fx_V), (∀ K o p, K ≠ 61 → τ K o p = τ0 K o p) → fr_p98 (σ 29 0) (σ 28 0 4) σ (fr_all (σ 29 0) (σ 28 0 4) m (fs_m σ 47 0)) v τ0 → fr_q203 (σ 29 0) (σ 28 0 4) τ (fr_all (σ 29 0) (σ 28 0 4) m (fs_m σ 47 0)) w ρ → fs_R ρ ∧ ∀ q, ρ 9 0 q = σ 9 0 q := by
    intro m τ0 τ ρ v w h01 ⟨⟨hG0, w1, w2, w3, w4⟩, py, pn⟩ ⟨hF, m9, qy, qn⟩
    generalize fr_all (σ 29 0) (σ 28 0 4) m (fs_m σ 47 0) = r at *
    have hG : ∀ K o p, ¬ (((K = 11 ∨ (13 ≤ K ∧ K ≤ 20)) ∧ (o = 0 ∨ o = 1)) ∨ (22 ≤ K ∧ K ≤ 25 ∧ ((0 ≤ o ∧ o < 16) ∨ o = 89)) ∨ (K = 33 ∧ o = 0 ∧ 4 ≤ p ∧ p ≤ 9) ∨ K = 34 ∨ K = 35 ∨ ((K = 26 ∨ K = 27) ∧ o = 1) ∨ (30 ≤ K ∧ K ≤ 32) ∨ (K = 28 ∧ o = 0 ∧ (p = 4 ∨ p = 5)) ∨ (K = 10 ∧ o = 0 ∧ (p = 10 ∨ p = 11 ∨ p = 13 ∨ p = 14)) ∨ K = 61) → τ K o p = σ K o p := fun K o p hK => (h01 K o p (by omega)).trans (hG0 K o p (by omega))
    have h0 : ∀ K o p, 10 ≤ K → K ≤ 28 → ρ K o p = τ0 K o p := fun K o p a b => (hF K o p (by omega)).trans (h01 K o p (by omega))
    have hat : ∀ i K o p, 2 ≤ i → i ≤ 10 → fs_at i K o → ρ K o p = σ K o p := fun i K o p i0 i1 hK => by
      unfold fs_at at hK
      exact (hF K o p (by omega)).trans (hG K o p (by omega))
    have ec : fs_c ρ 0 = fs_c τ0 0 := fs_c_of (fun K o p a b => h0 K o p (by omega) (by omega)) 0
    have hbt : fs_bt ρ 0 := fun t t0 t1 => by rw [h0 22 _ 5 (by omega) (by omega), ec]; exact w2 t t0 t1
    have hkp : fs_kp ρ 0 47 0 := by
      cases hr : r.1 with
      | true =>
        obtain ⟨-, -, -, -, a, b⟩ := py hr
        obtain ⟨-, -, -, -, -, c⟩ := qy hr
        exact fs_kp.of b (by rw [ec]; exact a) c hbt
      | false =>
        obtain ⟨-, -, -, -, a⟩ := pn hr
        obtain ⟨-, -, -, -, -, c⟩ := qn hr
        have e2 : fs_eq (fs_m σ 47 0) (fs_m ρ 47 0) := fs_m_row km (fun p p0 p1 => by rw [show 0 + p = p by omega, c p p0 p1]; exact hG 47 0 p (by omega))
        exact ⟨e2.ok km, (by rw [ec]; exact a.symm.trans (ke.trans e2)), hbt⟩
    have h12 : ρ 10 0 12 = σ 10 0 12 := (hF 10 0 12 (by omega)).trans (hG 10 0 12 (by omega))
    have h11 : ρ 10 0 11 = τ0 10 0 11 := h0 10 0 11 (by omega) (by omega)
    have h13 : ρ 10 0 13 = τ0 10 0 13 := h0 10 0 13 (by omega) (by omega)
    have h14 : ρ 10 0 14 = τ0 10 0 14 := h0 10 0 14 (by omega) (by omega)
    have h9 : ρ 10 0 9 = σ 10 0 9 := (hF 10 0 9 (by omega)).trans (hG 10 0 9 (by omega))
    have h284 : ρ 28 0 4 = 0 := (h0 28 0 4 (by omega) (by omega)).trans w3
    have g7 : τ 46 0 7 = σ 46 0 7 := hG 46 0 7 (by omega)
    have g5 : τ 46 0 5 = σ 46 0 5 := hG 46 0 5 (by omega)
    refine ⟨⟨hkp, fun z => absurd ((h0 10 0 10 (by omega) (by omega)).trans w4) z, ?_, ⟨?_, fun z => ?_⟩, ⟨?_, ?_, fun j j0 j1 => ?_⟩, ?_, ?_, fun o p => ?_⟩, fun q => (hF 9 0 q (by omega)).trans (hG 9 0 q (by omega))⟩
    · cases hr : r.1 with
      | true =>
        obtain ⟨-, -, a, -⟩ := py hr
        obtain ⟨-, -, -, b, -⟩ := qy hr
        rw [h11, h12, a, b]
        exact ⟨⟨by omega, by omega⟩, u2, rfl, fun j j0 j1 => by omega⟩
      | false =>
        obtain ⟨-, -, a, -⟩ := pn hr
        obtain ⟨-, -, -, b, -⟩ := qn hr
        rw [h11, h12, a, b, g5]
        refine ⟨u1, u2, u3, fun j j0 j1 => (u4 j j0 j1).at (fun K o p hK => hat _ K o p (by omega) (by omega) hK) (fun p p0 p1 => ?_)⟩
        exact (hF 50 0 _ (by omega)).trans (hG 50 0 _ (by omega))
    · rw [h9, hF 46 0 6 (by omega), hG 46 0 6 (by omega)]; exact k1
    · rw [h9] at z
      exact (k2 z).at (fun K o p hK => hat 2 K o p (by omega) (by omega) hK) (fun p p0 p1 => (hF 49 0 _ (by omega)).trans (hG 49 0 _ (by omega)))
    · rw [h284]; exact ⟨by omega, by omega⟩
    · rw [h284]; exact m9
    · rw [h284] at j1; omega
    · rw [h14, h13]
      cases hr : r.1 with
      | true =>
        obtain ⟨-, a, -, b, -⟩ := py hr
        obtain ⟨-, -, c, -, d, -⟩ := qy hr
        rw [a, b, c, d, g7, f2]; exact ⟨rfl, rfl⟩
      | false =>
        obtain ⟨-, a, -, b, -⟩ := pn hr
        obtain ⟨-, -, c, -, d, -⟩ := qn hr
        rw [a, b, c, d, g7, f2]; exact ⟨rfl, rfl⟩
    · rw [hF 46 0 21 (by omega), hG 46 0 21 (by omega)]; exact lim
    · rw [h0 14 o p (by omega) (by omega), h0 20 o p (by omega) (by omega)]; exact w1 o p
  have hc98 := c98 (σ := σ) (N := σ 28 0 4) rfl t1.1 t1.2 hoc kb bw km ke.symm
  have mcall : ∀ (m : Nat) (τ : fx_S), fs_a (σ 29 0) (σ 28 0 4) m = σ 28 0 4 → (∀ p, τ 47 0 p = σ 47 0 p) → τ 46 0 9 = σ 46 0 9 → (∀ j, τ 51 0 j = σ 51 0 j) → fx_Ca 203 [(46, 0)] τ (fr_q203 (σ 29 0) (σ 28 0 4) τ (fr_all (σ 29 0) (σ 28 0 4) m (fs_m σ 47 0))) := fun m τ hm h47 h9 h51 => by
    have em : fs_m τ 47 0 = fs_m σ 47 0 := fs_m_c h47
    have := c203 (T := σ 29 0) (N := σ 28 0 4) (m := m) (σ := τ) (h9.trans t2) t1.1 t1.2 (fun j j0 j1 => (h51 j).trans (t3 j j0 j1).1) hm (by rw [em]; exact km)
    rwa [em] at this
  refine t293_318 (fx_CI_of (P := fun v τ => ∃ (m : Nat) (τ0 : fx_S) (v0 : fx_V), fs_a (σ 29 0) (σ 28 0 4) m = σ 28 0 4 ∧ fr_p98 (σ 29 0) (σ 28 0 4) σ (fr_all (σ 29 0) (σ 28 0 4) m (fs_m σ 47 0)) v0 τ0 ∧ (((fr_all (σ 29 0) (σ 28 0 4) m (fs_m σ 47 0)).1 = true ∧ v = (0, 0) ∧ τ = fx_up τ0 61 0 0 ((fr_all (σ 29 0) (σ 28 0 4) m (fs_m σ 47 0)).2.2.2.1 : Int)) ∨ ((fr_all (σ 29 0) (σ 28 0 4) m (fs_m σ 47 0)).1 = false ∧ v = (0, 1) ∧ τ = τ0))) (t261_0 (fx_CI_of hc98 ?_)) ?_)
  · rintro v τ ⟨m, hm, hp⟩
    cases hr : (fr_all (σ 29 0) (σ 28 0 4) m (fs_m σ 47 0)).1 with
    | true =>
      have hp' := hp
      obtain ⟨rfl, -⟩ := hp.2.1 hr
      exact Or.inl ⟨rfl, m, τ, _, hm, hp', Or.inl ⟨hr, rfl, rfl⟩⟩
    | false =>
      have hp' := hp
      obtain ⟨rfl, -⟩ := hp.2.2 hr
      exact Or.inr ⟨rfl, fun _ => ⟨m, τ, _, hm, hp', Or.inr ⟨hr, rfl, rfl⟩⟩, fun z => absurd rfl z⟩
  · rintro v τ ⟨m, τ0, v0, hm, hp, hv⟩
    have hG0 := hp.1.1
    have h01 : ∀ K o p, K ≠ 61 → τ K o p = τ0 K o p := fun K o p hK => by
      rcases hv with ⟨-, -, rfl⟩ | ⟨-, -, rfl⟩
      · rw [fx_upE, if_neg (fun z => hK z.1)]
      · rfl
    have mc := mcall m τ hm (fun p => (h01 47 0 p (by omega)).trans (hG0 47 0 p (by omega))) ((h01 46 0 9 (by omega)).trans (hG0 46 0 9 (by omega))) (fun j => (h01 51 0 j (by omega)).trans (hG0 51 0 j (by omega)))
    rcases hv with ⟨hr, rfl, h61⟩ | ⟨hr, rfl, -⟩
    · have h61 : τ 61 0 0 = ((fr_all (σ 29 0) (σ 28 0 4) m (fs_m σ 47 0)).2.2.2.1 : Int) := by rw [h61, fx_upS]
      refine Or.inl ⟨rfl, fs_tail (c := 0) (P := fun ρ => fs_R ρ ∧ ∀ q, ρ 9 0 q = σ 9 0 q) (fx_Wp.mono mc (fun w ρ hq => ?_)) (fun ρ h => h) hk⟩
      obtain ⟨a, b, c, -⟩ := hq.2.2.1 hr
      exact ⟨_, a, b, fun _ => by rw [hq.1 61 0 0 (by omega)]; exact h61.symm, fin m τ0 τ ρ v0 w h01 hp hq⟩
    · refine Or.inl ⟨rfl, fs_tail (c := 1) (P := fun ρ => fs_R ρ ∧ ∀ q, ρ 9 0 q = σ 9 0 q) (fx_Wp.mono mc (fun w ρ hq => ?_)) (fun ρ h => h) hk⟩
      obtain ⟨⟨y, a⟩, b, -⟩ := hq.2.2.2 hr
      exact ⟨y, a, b, fun z => absurd z (by decide), fin m τ0 τ ρ v0 w h01 hp hq⟩
/-- the law's loop answers 1 -/
theorem fs_law1 {w4 w5 w6 : fx_V} (hR : fs_R σ) (hl : 0 ≤ σ 9 0 (-1) ∧ σ 9 0 (-1) ≤ 3072) : fx_Wp 293 20 [(9, 0), (10, 0), (46, 0), (61, 0), w4, w5, w6] [] σ (fun v _ => v = (0, 1)) := fs_law (fun _ _ _ _ _ hR _ hk => o318 hR hk) hR hl
end FXAT
