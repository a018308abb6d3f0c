/-- acts one behind another: whether all is right; the wrong token, the refusal, how many were done, what is then -/
noncomputable def fr_run (T : Int → Int) (N : Int) (m : Nat) : Nat → fx_S → Nat → Nat → Bool × Nat × Int × Nat × fx_S
  | 0, S, i, d => (false, i, 0, d, S)
  | n + 1, S, i, d => if (fr_ac T N m i).1 = false then (false, (fr_ac T N m i).2.1, 0, d, S)
    else if fr_rf S T N i ≠ 0 then (false, i, fr_rf S T N i, d, S)
    else if fr_K T N (fr_ac T N m i).2.1 = 0 then (true, (fr_ac T N m i).2.1, 0, d + 1, fr_dn S T N m i)
    else if fr_K T N (fr_ac T N m i).2.1 ≠ 3 then (false, (fr_ac T N m i).2.1, 0, d + 1, fr_dn S T N m i)
    else fr_run T N m n (fr_dn S T N m i) ((fr_ac T N m i).2.1 + 1) (d + 1)
noncomputable def fr_all (T : Int → Int) (N : Int) (m : Nat) (S : fx_S) : Bool × Nat × Int × Nat × fx_S := if fr_K T N 0 = 0 then (true, 0, 0, 0, S) else fr_run T N m 14 S 0 0
/-- frame of the class's reading -/
def fr_F (σ τ : fx_S) : Prop := ∀ K o p, ¬ (((K = 11 ∨ (13 ≤ K ∧ K ≤ 20)) ∧ o = 0) ∨ (22 ≤ K ∧ K ≤ 25 ∧ ((0 ≤ o ∧ o < 8) ∨ o = 89)) ∨ (K = 33 ∧ o = 0 ∧ 4 ≤ p ∧ p ≤ 9) ∨ K = 34 ∨ K = 35 ∨ ((K = 26 ∨ K = 27) ∧ o = 1) ∨ (30 ≤ K ∧ K ≤ 32) ∨ (K = 28 ∧ o = 0 ∧ p = 5)) → τ K o p = σ K o p
theorem fr_F.trans {σ τ ρ : fx_S} (h : fr_F σ τ) (g : fr_F τ ρ) : fr_F σ ρ := fun K o p hK => (g K o p hK).trans (h K o p hK)
def fr_pc (T : Int → Int) (N : Int) (σ : fx_S) (r : Bool × Nat × Int × Nat × fx_S) : fx_V → fx_S → Prop := fun v τ => v = (0, fs_b r.1) ∧ fr_F σ τ ∧ (fx_bw σ → fx_bw τ) ∧ τ 33 0 9 = r.2.2.1 ∧ (r.1 = false → τ 33 0 8 = fs_a T N r.2.1) ∧ (r.1 = true → τ 33 0 8 = -1 ∧ τ 33 0 7 = (r.2.2.2.1 : Int) ∧ fs_eq r.2.2.2.2 (fs_c τ 0) ∧ fs_bt τ 0 ∧ fs_ok r.2.2.2.2)
section FXAR
variable {T : Int → Int} {N : Int} {m : Nat}
theorem fr_pc0 {σ τ : fx_S} {j d : Nat} {x : Int} {S : fx_S} (hF : fr_F σ τ) (hb : fx_bw σ → fx_bw τ) (h9 : τ 33 0 9 = x) : fr_pc T N σ (false, j, x, d, S) (0, 0) (fx_up τ 33 0 8 (fs_a T N j)) :=
  ⟨rfl, fun K o p hK => by rw [fx_upE, if_neg (by omega)]; exact hF K o p hK, fun b => (hb b).up (by omega), by rw [fx_upJ (by omega)]; exact h9, fun _ => fx_upS, fun z => absurd z Bool.false_ne_true⟩
theorem fr_pc.t {σ τ : fx_S} {r : Bool × Nat × Int × Nat × fx_S} {v : fx_V} {ρ : fx_S} (hF : fr_F σ τ) (hb : fx_bw σ → fx_bw τ) (h : fr_pc T N τ r v ρ) : fr_pc T N σ r v ρ := ⟨h.1, hF.trans h.2.1, fun b => h.2.2.1 (hb b), h.2.2.2⟩
theorem c49l : ∀ (n d i : Nat) (S σ : fx_S) (w2 : fx_V), n + d = 14 → fr_tk σ T N m → i ≤ m → σ 33 0 6 = (i : Int) → σ 33 0 7 = (d : Int) → σ 33 0 9 = 0 → σ 33 0 8 = -1 → fs_ok S → fs_eq S (fs_c σ 0) → fs_bt σ 0 → fx_Wp 49 36 [(33, 0), (11, 0), w2] [] σ (fr_pc T N σ (fr_run T N m n S i d))
  | 0, d, i, S, σ, w2, hd, h, hi, h6, h7, h9, h8, ho, he, hb => by
    refine t49_36 ?_
    rw [h6, h7]
    exact ⟨fun _ => (c51 h).I ⟨Or.inl rfl, fr_pc0 (fun _ _ _ _ => rfl) id h9⟩, fun z => by omega⟩
  | n + 1, d, i, S, σ, w2, hd, h, hi, h6, h7, h9, h8, ho, he, hb => by
    have hN := h.1
    have hmN := h.2.1
    refine t49_36 ?_
    rw [h6, h7]
    refine ⟨fun z => by omega, fun _ => fx_CI_of (c52 h h6 hi) ?_⟩
    rintro v τ ⟨rfl, hE, t6, ty⟩
    have hFτ : fr_F σ τ := fun K o p hK => hE K o p (by omega)
    have htk : fr_tk τ T N m := h.k (fun K o p hK => hE K o p (by omega))
    have hbw : fx_bw σ → fx_bw τ := fun b o p => by rw [hE 14 o p (by omega), hE 20 o p (by omega)]; exact b o p
    have t7 : τ 33 0 7 = (d : Int) := (hE 33 0 7 (by omega)).trans h7
    have t9 : τ 33 0 9 = 0 := (hE 33 0 9 (by omega)).trans h9
    have t8 : τ 33 0 8 = -1 := (hE 33 0 8 (by omega)).trans h8
    have hat : ∀ K o p, fs_at 0 K o → τ K o p = σ K o p := fun K o p hK => hE K o p (by unfold fs_at at hK; omega)
    have heτ : fs_eq S (fs_c τ 0) := he.trans (fs_c_at hat)
    have hoτ : fs_ok (fs_c τ 0) := heτ.ok ho
    have hbτ : fs_bt τ 0 := fs_bt_e hb (fs_c_at hat) (he.ok ho) (fun t t0 t1 => hE 22 _ 5 (by omega))
    cases hac : (fr_ac T N m i).1 with
    | false =>
      have e : fr_run T N m (n + 1) S i d = (false, (fr_ac T N m i).2.1, 0, d, S) := by rw [fr_run, if_pos hac]
      rw [e]
      refine Or.inl ⟨rfl, fun z => absurd rfl z, fun _ => ?_⟩
      rw [t6]
      exact (c51 htk).I ⟨Or.inl rfl, fr_pc0 hFτ hbw t9⟩
    | true =>
      obtain ⟨tk, tv, tr⟩ := ty hac
      have hpw := fr_par (m := m) hN.1 h.2.2.1 hac
      have hw0 : τ 27 1 0 = fr_w T N i 0 := by
        have := @fr_nn1 (fr_kk T N i)
        have := tv 0 (by omega)
        unfold fr_w; rw [if_pos (by omega)]; exact this
      have hw1 : 2 ≤ fr_nn (fr_kk T N i) → τ 27 1 1 = fr_w T N i 1 := fun z => by
        have := tv 1 (by omega)
        unfold fr_w; rw [if_pos (by omega)]; exact this
      have hw5 : fr_nn (fr_kk T N i) = 5 → τ 27 1 2 = fr_w T N i 2 ∧ τ 27 1 3 = fr_w T N i 3 ∧ τ 27 1 4 = fr_w T N i 4 := fun z => by
        have a2 := tv 2 (by omega)
        have a3 := tv 3 (by omega)
        have a4 := tv 4 (by omega)
        unfold fr_w
        rw [if_pos (by omega), if_pos (by omega), if_pos (by omega)]
        exact ⟨a2, a3, a4⟩
      obtain ⟨nP, nR, nD⟩ := fs_nn_eq hw0 hw1 hw5
      have hpa : fs_par (fr_kk T N i) (τ 27 1 0) (τ 27 1 1) (τ 27 1 2) (τ 27 1 3) (τ 27 1 4) (fr_ac T N m i).2.2 := (nP _).mpr hpw
      have hrefS : fs_ref (fs_c τ 0) (fr_kk T N i) (τ 27 1 0) (τ 27 1 1) (τ 27 1 2) (τ 27 1 3) = fr_rf S T N i := by
        rw [nR, ← fs_ref_c heτ ho hpw.2.1]; rfl
      have c26 := c26 (σ := τ) (i := 0) hoτ (o := 1) (by rw [tk]; exact hpa.2.1)
      rw [tk, hrefS] at c26
      refine Or.inl ⟨rfl, fun _ => c26.I ?_, fun z => absurd z (by decide)⟩
      by_cases hrf : fr_rf S T N i = 0
      · rw [hrf]
        refine ⟨fun _ => ?_, fun z => absurd rfl z⟩
        generalize hE1 : fx_up τ 33 0 9 0 = τ1
        have g1 : ∀ K o p, ¬ (K = 33 ∧ o = 0 ∧ p = 9) → τ1 K o p = τ K o p := fun K o p hK => by rw [← hE1, fx_upE, if_neg (by omega)]
        have ec : fs_c τ1 0 = fs_c τ 0 := fs_c_of (fun K o p a b => g1 K o p (by omega)) 0
        have hb1 : fs_bt τ1 0 := fun t t0 t1 => by rw [g1 22 _ 5 (by omega), ec]; exact hbτ t t0 t1
        have hrr : fr_kk T N i = 24 → fs_rr τ1 (fr_ac T N m i).2.2 := fun z => by
          obtain ⟨a, b, c, d⟩ := tr z
          refine ⟨(g1 22 89 3 (by omega)).trans a, (g1 22 89 4 (by omega)).trans b, fun j j0 j1 => ?_, (g1 22 89 5 (by omega)).trans d⟩
          rw [g1 23 89 j (by omega), g1 24 89 j (by omega), g1 25 89 j (by omega)]
          exact c j j0 j1
        have hp1 : fs_par (fr_kk T N i) (τ 27 1 0) (τ 27 1 1) (τ 27 1 2) (τ 27 1 3) (τ 27 1 4) (fs_ra τ1 1) := ⟨hpa.1, hpa.2.1, hpa.2.2.1, hpa.2.2.2.1, hpa.2.2.2.2.1, hpa.2.2.2.2.2.1, fun z => ⟨(hpa.2.2.2.2.2.2 z).1, fs_okr_rr (hrr z) (hpa.2.2.2.2.2.2 z).2⟩⟩
        have hr1 : fs_ref (fs_c τ1 0) (fr_kk T N i) (τ 27 1 0) (τ 27 1 1) (τ 27 1 2) (τ 27 1 3) = 0 := by rw [ec, hrefS, hrf]
        refine fx_CV_of (c31 (σ := τ1) (i := 0) (by rw [ec]; exact hoτ) hb1 (by omega) (q := 1) ((g1 26 1 2 (by omega)).trans tk) (g1 27 1 0 (by omega)) (g1 27 1 1 (by omega)) (g1 27 1 2 (by omega)) (g1 27 1 3 (by omega)) (g1 27 1 4 (by omega)) (by omega) hp1 hr1 (fun z => fs_bit_rr (hrr z))) ?_
        rintro v ρ ⟨rfl, hfr, heρ, hbρ⟩
        have hSo : fs_ok (fr_dn S T N m i) := fs_do_ok ho hpw hrf
        have hSe : fs_eq (fr_dn S T N m i) (fs_c ρ 0) := by
          have d := fs_do_c heτ ho (R := (fr_ac T N m i).2.2) (Q := fs_ra τ1 1) hpw hrf (fun z => by
            obtain ⟨a, b, c, -⟩ := hrr z
            exact ⟨a.symm, b.symm, fun k k0 k1 => by obtain ⟨c1, c2, c3⟩ := c k k0 k1; exact ⟨c1.symm, c2.symm, fun _ => c3.symm⟩⟩)
          rw [← nD (fs_c τ 0), ← ec] at d
          exact d.trans heρ
        have gρ : ∀ K o p, ¬ (fs_at 0 K o) → ρ K o p = τ1 K o p := hfr.1
        have q7 : ρ 33 0 7 = (d : Int) := (gρ 33 0 7 (by unfold fs_at; omega)).trans ((g1 33 0 7 (by omega)).trans t7)
        rw [q7]
        refine Or.inl ⟨rfl, ⟨by omega, by omega⟩, ?_⟩
        generalize hE2 : fx_up ρ 33 0 7 ((d : Int) + 1) = ρ2
        have g2 : ∀ K o p, ¬ (K = 33 ∧ o = 0 ∧ p = 7) → ρ2 K o p = ρ K o p := fun K o p hK => by rw [← hE2, fx_upE, if_neg (by omega)]
        have gt : ∀ K o p, ¬ (fs_at 0 K o ∨ (K = 33 ∧ o = 0 ∧ (p = 7 ∨ p = 9))) → ρ2 K o p = τ K o p := fun K o p hK => by rw [g2 K o p (fun z => hK (Or.inr ⟨z.1, z.2.1, Or.inl z.2.2⟩)), gρ K o p (fun z => hK (Or.inl z)), g1 K o p (fun z => hK (Or.inr ⟨z.1, z.2.1, Or.inr z.2.2⟩))]
        have hF2 : fr_F σ ρ2 := hFτ.trans (fun K o p hK => gt K o p (by unfold fs_at; omega))
        have hbw2 : fx_bw σ → fx_bw ρ2 := fun b => by rw [← hE2]; exact (hfr.2 (by rw [← hE1]; exact (hbw b).up (by omega))).up (by omega)
        have htk2 : fr_tk ρ2 T N m := htk.k (fun K o p hK => gt K o p (by unfold fs_at; omega))
        have s6 : ρ2 33 0 6 = ((fr_ac T N m i).2.1 : Int) := (gt 33 0 6 (by unfold fs_at; omega)).trans t6
        have s7 : ρ2 33 0 7 = ((d + 1 : Nat) : Int) := by rw [← hE2, fx_upS]; omega
        have s8 : ρ2 33 0 8 = -1 := (gt 33 0 8 (by unfold fs_at; omega)).trans t8
        have s9 : ρ2 33 0 9 = 0 := by rw [g2 33 0 9 (by omega), gρ 33 0 9 (by unfold fs_at; omega), ← hE1, fx_upS]
        have ec2 : fs_c ρ2 0 = fs_c ρ 0 := fs_c_of (fun K o p a b => g2 K o p (by omega)) 0
        have hb2 : fs_bt ρ2 0 := fun t t0 t1 => by rw [g2 22 _ 5 (by omega), ec2]; exact hbρ t t0 t1
        rw [← ec2] at hSe
        refine (c50 htk2 s6).I ⟨fun y4 => (c50 htk2 s6).I ⟨fun y5 => ?_, fun y5 => ?_⟩, fun y4 => ?_⟩
        · have hj := fr_K_m htk2 (j := (fr_ac T N m i).2.1) y4
          have e : fr_run T N m (n + 1) S i d = fr_run T N m n (fr_dn S T N m i) ((fr_ac T N m i).2.1 + 1) (d + 1) := by
            rw [fr_run, if_neg (by rw [hac]; decide), if_neg (fun z => z hrf), if_neg y4, if_neg (fun z => z y5)]
          rw [e, s6]
          refine ⟨⟨by omega, by omega⟩, ?_⟩
          generalize hE3 : fx_up ρ2 33 0 6 (((fr_ac T N m i).2.1 : Int) + 1) = ρ3
          have g3 : ∀ K o p, ¬ (K = 33 ∧ o = 0 ∧ p = 6) → ρ3 K o p = ρ2 K o p := fun K o p hK => by rw [← hE3, fx_upE, if_neg (by omega)]
          have ec3 : fs_c ρ3 0 = fs_c ρ2 0 := fs_c_of (fun K o p a b => g3 K o p (by omega)) 0
          refine fx_Wp.mono (c49l n (d + 1) ((fr_ac T N m i).2.1 + 1) (fr_dn S T N m i) ρ3 _ (by omega) (htk2.k (fun K o p hK => g3 K o p (by omega))) (by omega) (by rw [← hE3, fx_upS]; omega) ((g3 33 0 7 (by omega)).trans s7) ((g3 33 0 9 (by omega)).trans s9) ((g3 33 0 8 (by omega)).trans s8) hSo (by rw [ec3]; exact hSe) (fun t t0 t1 => by rw [g3 22 _ 5 (by omega), ec3]; exact hb2 t t0 t1)) (fun v u hu => hu.t (hF2.trans (fun K o p hK => g3 K o p (by omega))) (fun b => by rw [← hE3]; exact (hbw2 b).up (by omega)))
        · have e : fr_run T N m (n + 1) S i d = (false, (fr_ac T N m i).2.1, 0, d + 1, fr_dn S T N m i) := by
            rw [fr_run, if_neg (by rw [hac]; decide), if_neg (fun z => z hrf), if_neg y4, if_pos y5]
          rw [e, s6]
          exact (c51 htk2).I ⟨Or.inl rfl, fr_pc0 hF2 hbw2 s9⟩
        · have e : fr_run T N m (n + 1) S i d = (true, (fr_ac T N m i).2.1, 0, d + 1, fr_dn S T N m i) := by
            rw [fr_run, if_neg (by rw [hac]; decide), if_neg (fun z => z hrf), if_pos y4]
          rw [e]
          exact ⟨rfl, hF2, hbw2, s9, fun z => absurd z.symm Bool.false_ne_true, fun _ => ⟨s8, s7, hSe, hb2, hSo⟩⟩
      · have e : fr_run T N m (n + 1) S i d = (false, i, fr_rf S T N i, d, S) := by
          rw [fr_run, if_neg (by rw [hac]; decide), if_pos hrf]
        rw [e]
        refine ⟨fun z => absurd z hrf, fun _ => (c51 (htk.k (fun K o p hK => ?_))).I ⟨Or.inl rfl, fr_pc0 (fun K o p hK => ?_) (fun b => (hbw b).up (by omega)) fx_upS⟩⟩
        · rw [fx_upE, if_neg (by omega)]
        · rw [fx_upE, if_neg (by omega)]; exact hFτ K o p hK
theorem c49 {σ : fx_S} (hN : σ 28 0 4 = N) (h0 : 0 ≤ N) (h4 : N ≤ 400) (ho : fs_ok (fs_c σ 0)) (hb : fs_bt σ 0) {S : fx_S} (hS : fs_ok S) (he : fs_eq S (fs_c σ 0)) : fx_Ca 49 [(33, 0), (11, 0)] σ (fun v τ => ∃ m : Nat, fs_a (σ 29 0) N m = N ∧ fr_pc (σ 29 0) N σ (fr_all (σ 29 0) N m S) v τ) := by
  refine t49_0 (fx_CV_of (c10 hN h0 h4) ?_)
  rintro v τ ⟨rfl, hE, m, hmN, hm, h5, h31, h30, hj⟩
  refine Or.inl ⟨rfl, ?_⟩
  generalize hE1 : fx_up (fx_up (fx_up (fx_up τ 33 0 6 0) 33 0 7 0) 33 0 9 0) 33 0 8 (-1) = ρ
  have g : ∀ K o p, ¬ (K = 33 ∧ o = 0 ∧ 6 ≤ p ∧ p ≤ 9) → ρ K o p = τ K o p := fun K o p hK => by rw [← hE1, fx_upE, if_neg (by omega), fx_upE, if_neg (by omega), fx_upE, if_neg (by omega), fx_upE, if_neg (by omega)]
  have hF : fr_F σ ρ := fun K o p hK => by rw [g K o p (by omega)]; exact hE K o p (by omega)
  have hat : ∀ K o p, fs_at 0 K o → ρ K o p = σ K o p := fun K o p hK => by unfold fs_at at hK; rw [g K o p (by omega)]; exact hE K o p (by omega)
  have heρ : fs_eq S (fs_c ρ 0) := he.trans (fs_c_at hat)
  have hbρ : fs_bt ρ 0 := fs_bt_e hb (fs_c_at hat) ho (fun t t0 t1 => hat 22 _ 5 (by unfold fs_at; omega))
  have hbw : fx_bw σ → fx_bw ρ := fun b o p => by rw [g 14 o p (by omega), g 20 o p (by omega), hE 14 o p (by omega), hE 20 o p (by omega)]; exact b o p
  have htk : fr_tk ρ (σ 29 0) N m := by
    refine ⟨⟨h0, h4⟩, hmN, hm, (g 28 0 5 (by omega)).trans h5, (g 28 0 4 (by omega)).trans ((hE 28 0 4 (by omega)).trans hN), fun j jm => ?_⟩
    rw [g 31 0 j (by omega), g 30 0 j (by omega), g 32 0 j (by omega)]
    by_cases z : j < m
    · obtain ⟨a, b, c, d⟩ := hj j z
      exact ⟨b, c, d, fun _ => a⟩
    · have e : j = m := by omega
      subst e
      exact ⟨by rw [hm]; exact h31, by rw [fr_K_0 hm (Nat.le_refl _)]; exact h30, fun q => by omega, fun q => by omega⟩
  have r6 : ρ 33 0 6 = ((0 : Nat) : Int) := by rw [← hE1, fx_upJ (by omega), fx_upJ (by omega), fx_upJ (by omega), fx_upS]; rfl
  have r7 : ρ 33 0 7 = ((0 : Nat) : Int) := by rw [← hE1, fx_upJ (by omega), fx_upJ (by omega), fx_upS]; rfl
  have r9 : ρ 33 0 9 = 0 := by rw [← hE1, fx_upJ (by omega), fx_upS]
  have r8 : ρ 33 0 8 = -1 := by rw [← hE1, fx_upS]
  refine (c50 htk r6).I ⟨fun y => ?_, fun y => ⟨m, hm, ?_⟩⟩
  · have e : fr_all (σ 29 0) N m S = fr_run (σ 29 0) N m 14 S 0 0 := if_neg y
    refine fx_Wp.mono (c49l 14 0 0 S ρ (3, 0) rfl htk (by omega) r6 r7 r9 r8 hS heρ hbρ) (fun v u hu => ⟨m, hm, by rw [e]; exact hu.t hF hbw⟩)
  · have e : fr_all (σ 29 0) N m S = (true, 0, 0, 0, S) := if_pos y
    rw [e]
    exact ⟨rfl, hF, hbw, r9, fun z => absurd z.symm Bool.false_ne_true, fun _ => ⟨r8, r7, heρ, hbρ, hS⟩⟩
end FXAR
