theorem fs_leaf_e {R : fx_S} {k a : Int} : fs_add (fx_up R 10 0 0 (R 10 0 0 + 1)) k a 0 = fs_leaf R k a := by
  funext K o p
  have e : fx_up R 10 0 0 (R 10 0 0 + 1) 9 0 0 = R 9 0 0 := fx_upK rfl
  unfold fs_leaf fs_add
  rw [e]
  simp only [fx_upE]
  grind
section FXRB
variable {T : Int → Int} {N t : Int} {m : Nat}
theorem fs_pr_f {n i : Nat} {d : Int} {ops ands : List Int} {R : fx_S} (h1 : ¬ (fr_K T N i = 4 ∧ d < 4)) (h2 : R 10 0 0 ≠ 12 → fr_K T N i ≠ 13 ∧ ¬ (fr_K T N i = 1 ∧ fr_V T N i < 100)) : fs_pr T N t (n + 1) true i d ops ands R = (false, i, R) := by
  rw [fs_pr, if_neg h1]
  by_cases z : R 10 0 0 = 12
  · rw [if_pos z]
  · rw [if_neg z, if_neg (h2 z).1, if_neg (h2 z).2]
theorem r193f {σ : fx_S} {x2 : Int} {w3 w4 : fx_V} {Q : fx_V → fx_S → Prop} (hf : σ 46 0 12 ≠ -1) (hr : fx_rg (t - 1)) (k : Q (4, 0) σ) : (∀ x3, fx_Wp 193 109 [(46, 0), (0, t), (0, x2), (0, x3), w4] [] σ Q) ∧ (∀ x3, fx_Wp 193 85 [(46, 0), (0, t), (0, x2), (0, x3), w4] [] σ Q) ∧ fx_Wp 193 56 [(46, 0), (0, t), (0, x2), w3, w4] [] σ Q ∧ fx_Wp 193 35 [(46, 0), (0, t), (0, x2), w3, w4] [] σ Q := by
  have k109 : ∀ x3, fx_Wp 193 109 [(46, 0), (0, t), (0, x2), (0, x3), w4] [] σ Q := fun x3 => t193_109 ⟨fun _ => (r187f hf).I ⟨fun a => absurd a hf, fun _ => k⟩, fun _ => ⟨hr, (r187f hf).I ⟨fun a => absurd a hf, fun _ => k⟩⟩⟩
  have k85 : ∀ x3, fx_Wp 193 85 [(46, 0), (0, t), (0, x2), (0, x3), w4] [] σ Q := fun x3 => t193_85 ⟨fun _ => k109 x3, fun a => absurd a hf⟩
  have k56 : fx_Wp 193 56 [(46, 0), (0, t), (0, x2), w3, w4] [] σ Q := t193_56 ⟨fun _ => k85 0, fun a => absurd a hf⟩
  exact ⟨k109, k85, k56, t193_35 ⟨fun _ => k56, fun a => absurd a hf⟩⟩
theorem r188l {σ : fx_S} {Q : fx_V → fx_S → Prop} {x1 y k : Int} {ops ands : List Int} {R : fx_S} (h : fr_ms σ ops ands R) (hv : fr_iv ands R) (hl : R 10 0 0 ≠ 12) (hk : fs_kd x1 = k) (hx : x1 ≤ 1) (q : ∀ τ, (∀ K o p, ¬ ((K = 52 ∧ o = 0) ∨ K = 54 ∨ (K = 46 ∧ o = 0 ∧ p = 17)) → τ K o p = σ K o p) → fr_ms τ ops (R 9 0 0 :: ands) (fs_leaf R k y) → fr_iv (R 9 0 0 :: ands) (fs_leaf R k y) → Q (4, 0) τ) : fx_CV 188 [(46, 0), (0, x1), (0, y), (0, 0), (0, 0)] (fx_up σ 52 0 1 (R 10 0 0 + 1)) Q (fun σ2 => Q (4, 0) σ2) := by
  obtain ⟨h1, h2, h3, h4, h5, h6, h7⟩ := h
  have hal := fr_ands hv
  obtain ⟨v1, v2, v3, v4⟩ := hv
  have e9 : fx_up R 10 0 0 (R 10 0 0 + 1) 9 0 0 = R 9 0 0 := fx_upK rfl
  have c := c188 (σ := fx_up σ 52 0 1 (R 10 0 0 + 1)) (x1 := x1) (x2 := y) (x3 := 0) (x4 := 0) (k := k) (a := y) (b := 0) (ands := ands) (R := fx_up R 10 0 0 (R 10 0 0 + 1)) (by rw [fx_upK rfl]; exact h2) (fs_stk_k h4 (fun j _ _ => fx_upK rfl)) ⟨by rw [fx_upJ (by omega), e9]; exact h5, by rw [fx_upS, fx_upS], fun j j0 j1 => ?_⟩ (by rw [e9]; exact v1) (by rw [e9]; omega) hal hk (if_pos hx) rfl
  · rw [e9, fs_leaf_e] at c
    refine fx_CV_of c ?_
    rintro v τ ⟨rfl, g1, g2, g3, g4⟩
    have lr := fs_leaf_r (R := R) (k := k) (a := y) (j := 0)
    refine Or.inl ⟨rfl, q τ (fun K o p hK => ?_) ⟨?_, g2, fs_stk_k h3 (fun j _ _ => ?_), g3, g4⟩ ⟨?_, ?_, ?_, ?_⟩⟩
    · rw [g1 K o p hK, fx_upE, if_neg (by omega)]
    · rw [g1 46 0 15 (by omega), fx_upK rfl]; exact h1
    · rw [g1 53 0 j (by omega), fx_upK rfl]
    · rw [lr.1.1]; omega
    · have : ((R 9 0 0 :: ands).length : Int) = ands.length + 1 := by simp
      rw [lr.1.1, lr.1.2]; omega
    · rw [lr.1.2]; omega
    · rw [lr.1.1, lr.1.2]; omega
  · rw [e9] at j1
    have g : ∀ p, p ≠ 1 → fx_up σ 52 0 1 (R 10 0 0 + 1) 52 0 p = σ 52 0 p := fun p hp => fx_upJ hp
    have gR : ∀ K, K ≠ 10 → fx_up R 10 0 0 (R 10 0 0 + 1) K 0 j = R K 0 j := fun K hK => by rw [fx_upE, if_neg (by omega)]
    rw [g _ (by omega), g _ (by omega), g _ (by omega), g _ (by omega), gR 11 (by decide), gR 12 (by decide), gR 13 (by decide)]
    exact h7 j j0 j1
def fr_p193 (T : Int → Int) (N t : Int) (m : Nat) (σ : fx_S) (i : Nat) (r : Bool × Nat × fx_S) : fx_V → fx_S → Prop := fun v τ => v = (4, 0) ∧ fr_g σ τ ∧ ((∃ (n' i' : Nat) (d' : Int) (ops' ands' : List Int) (R' : fx_S), r = fs_pr T N t n' false i' d' ops' ands' R' ∧ (i < i' ∧ i' ≤ m) ∧ m + 1 ≤ n' + i' ∧ fr_J τ T N false i' d' ops' ands' R') ∨ (r.1 = false ∧ τ 46 0 12 = fs_a T N r.2.1 ∧ 0 ≤ τ 46 0 11))
theorem r193l (ht : 0 ≤ t ∧ t < 8) : ∀ (n i : Nat) (d : Int) (ops ands : List Int) (R σ : fx_S) (w3 w4 : fx_V), fs_tp σ T N → fs_a T N m = N → i ≤ m → m + 1 ≤ n + i → fr_J σ T N true i d ops ands R → fx_Wp 193 5 [(46, 0), (0, t), (0, fs_a T N i), w3, w4] [] σ (fr_p193 T N t m σ i (fs_pr T N t n true i d ops ands R))
  | 0, i, d, ops, ands, R, σ, w3, w4, h, hm, hi, hn, hJ => by omega
  | n + 1, i, d, ops, ands, R, σ, w3, w4, h, hm, hi, hn, hJ => by
    have hN := h.1.1
    have har := fs_a_r (T := T) hN i
    obtain ⟨j1, j2, j3, j4, j5, j6, j7, j8, j9⟩ := hJ
    simp only [if_true] at j6
    have hol := fr_oo_l ops j3
    have hph := fr_phi_r ops
    have hc4 := fr_c4_r ops
    have hal := fr_ands j2
    have hrt : fx_rg (t - 1) := ⟨by omega, by omega⟩
    refine t193_5 ⟨fun a => absurd j8 a, fun _ => fx_CI_of (r185 (by omega) h j8 j9) ?_⟩
    rintro v τ (⟨k, rfl, r⟩ | ⟨k, rfl, r⟩)
    · have k4 : fr_K T N i = 4 := k
      have him := fr_K_M hm (j := i) (by omega)
      have r18 : τ 46 0 18 = d := (r.1 46 0 18 (by omega)).trans j7
      have jm := j1.k (fun K o p hK => r.1 K o p (by omega))
      have push : ∀ (ρ : fx_S) (f : Int) (Q : fx_V → fx_S → Prop), fs_rp τ ρ (fs_te T N (fs_a T N i)) f → (∀ τ', fr_g σ τ' → fr_ms τ' (4 :: ops) ands R → τ' 46 0 18 = d + 1 → τ' 46 0 12 = f → fr_at τ' T N (i + 1) → Q (4, 0) τ') → fx_Wp 192 13 [(46, 0), (0, fs_a T N i)] [] ρ Q := by
        intro ρ f Q hρ hq
        have jr := jm.k (fun K o p hK => hρ.1 K o p (by omega))
        obtain ⟨b1, b2, b3, b4, b5⟩ := jr
        refine t192_13 ?_
        rw [hρ.1 46 0 18 (by omega), r18, b1]
        refine ⟨⟨by omega, by omega⟩, ⟨by omega, by omega⟩, ⟨by omega, by omega⟩, ?_⟩
        generalize hE : fx_up (fx_up (fx_up ρ 46 0 18 (d + 1)) 53 0 (ops.length : Int) 20) 46 0 15 ((ops.length : Int) + 1) = τ'
        have g : ∀ (K : Nat) (o p : Int), ¬ ((K = 46 ∧ o = 0 ∧ (p = 15 ∨ p = 18)) ∨ (K = 53 ∧ o = 0 ∧ p = ops.length)) → τ' K o p = ρ K o p := fun K o p hK => by rw [← hE, fx_upE, if_neg (by omega), fx_upE, if_neg (by omega), fx_upE, if_neg (by omega)]
        refine hq τ' (r.g.trans (hρ.g.trans (fun K o p hK => g K o p (by omega)))) ⟨?_, (g 46 0 17 (by omega)).trans b2, ⟨?_, fs_stk_k b3 (fun j j0 j1 => g 53 0 j (by simp at j1; omega))⟩, fs_stk_k b4 (fun j _ _ => g 54 0 j (by omega)), b5.k (fun p => g 52 0 p (by omega))⟩ ?_ ((g 46 0 12 (by omega)).trans hρ.2.2) ((fr_at_y hN hρ).k (g 46 0 11 (by omega)))
        · rw [← hE, fx_upS]; simp
        · rw [← hE, fx_upK rfl]; simp [fx_upS]; rfl
        · rw [← hE, fx_upJ (by omega), fx_upK rfl, fx_upS]
      refine Or.inl ⟨rfl, fun z => absurd z (by decide), fun _ => ?_⟩
      by_cases hd : d < 4
      · have e : fs_pr T N t (n + 1) true i d ops ands R = fs_pr T N t n true (i + 1) (d + 1) (4 :: ops) ands R := by rw [fs_pr, if_pos ⟨k4, hd⟩]
        rw [e]
        refine t192_0 ?_
        rw [r18]
        refine ⟨fun _ => push τ (-1) _ (fs_rp.rfl r.2.1 r.2.2) (fun τ' g1 g2 g3 g4 g5 => Or.inl ⟨rfl, fx_CI_of (r181 (g1.tp h) g5) ?_⟩), fun z => by omega⟩
        rintro v τ2 ⟨rfl, r2⟩
        rw [g4] at r2
        have hg := g1.trans r2.g
        refine Or.inl ⟨rfl, fx_Wp.mono (r193l ht n (i + 1) (d + 1) (4 :: ops) ands R τ2 w3 w4 (hg.tp h) hm (by omega) (by omega) ⟨g2.k (fun K o p hK => r2.1 K o p (by omega)), j2, ⟨j3, Or.inl rfl⟩, ?_, by omega, ?_, (r2.1 46 0 18 (by omega)).trans g3, r2.2.2, fr_at_n hN r2⟩) ?_⟩
        · rw [fr_c4, if_pos rfl]; omega
        · simp; omega
        · rintro v τ3 ⟨p1, p2, p3⟩
          refine ⟨p1, hg.trans p2, p3.elim (fun z => ?_) Or.inr⟩
          obtain ⟨n', i', d', o', a', R', z1, z2, z3⟩ := z
          exact Or.inl ⟨n', i', d', o', a', R', z1, ⟨by omega, z2.2⟩, z3⟩
      · have e : fs_pr T N t (n + 1) true i d ops ands R = (false, i, R) := fs_pr_f (fun z => hd z.2) (fun _ => ⟨by omega, by omega⟩)
        rw [e]
        refine t192_0 ?_
        rw [r18]
        refine ⟨fun z => by omega, fun _ => fx_CV_of (c182 r.2.1) ?_⟩
        rintro v ρ ⟨rfl, r2⟩
        rw [r.2.2, if_pos rfl] at r2
        refine Or.inl ⟨rfl, push ρ _ _ r2 (fun τ' g1 g2 g3 g4 g5 => Or.inl ⟨rfl, fx_CI_of (r181 (g1.tp h) g5) ?_⟩)⟩
        rintro v τ2 ⟨rfl, r3⟩
        rw [g4] at r3
        refine Or.inl ⟨rfl, t193_5 ⟨fun _ => (r193f (by rw [r3.2.2]; omega) hrt ⟨rfl, g1.trans r3.g, Or.inr ⟨rfl, r3.2.2, by rw [r3.2.1]; exact (fs_a_r (T := T) hN (i + 1)).1⟩⟩).2.2.2, fun z => by rw [r3.2.2] at z; omega⟩⟩
    · have n4 : ¬ (fr_K T N i = 4 ∧ d < 4) := fun z => k z.1
      have fault : ∀ ρ : fx_S, fr_g σ ρ → ρ 46 0 12 = fs_a T N i → 0 ≤ ρ 46 0 11 → fs_pr T N t (n + 1) true i d ops ands R = (false, i, R) → fr_p193 T N t m σ i (fs_pr T N t (n + 1) true i d ops ands R) (4, 0) ρ := by
        intro ρ g1 g2 g4 g3
        rw [g3]
        exact ⟨rfl, g1, Or.inr ⟨rfl, g2, g4⟩⟩
      -- a leaf is laid
      have leaf : ∀ (ρ : fx_S) (i' : Nat) (x1 kk y : Int), fr_g σ ρ → fr_ms ρ ops ands R → ρ 46 0 18 = d → ρ 46 0 12 = -1 → fr_at ρ T N (i' + 1) → i ≤ i' → i' < m → R 10 0 0 ≠ 12 → fs_kd x1 = kk → x1 ≤ 1 → fs_pr T N t (n + 1) true i d ops ands R = fs_pr T N t n false (i' + 1) d ops (R 9 0 0 :: ands) (fs_leaf R kk y) → fx_CV 188 [(46, 0), (0, x1), (0, y), (0, 0), (0, 0)] (fx_up ρ 52 0 1 (R 10 0 0 + 1)) (fr_p193 T N t m σ i (fs_pr T N t (n + 1) true i d ops ands R)) (fun σ2 => fr_p193 T N t m σ i (fs_pr T N t (n + 1) true i d ops ands R) (4, 0) σ2) := by
        intro ρ i' x1 kk y g1 g2 g3 g4 g5 g6 g7 g8 g9 g10 g11
        refine r188l g2 j2 g8 g9 g10 (fun τ' q1 q2 q3 => ?_)
        rw [g11]
        refine ⟨rfl, g1.trans (fun K o p hK => q1 K o p (by omega)), Or.inl ⟨n, i' + 1, d, ops, _, _, rfl, ⟨by omega, by omega⟩, by omega, q2, q3, j3, j4, j5, ?_, (q1 46 0 18 (by omega)).trans g3, (q1 46 0 12 (by omega)).trans g4, g5.k (q1 46 0 11 (by omega))⟩⟩
        simp; omega
      have r18 : τ 46 0 18 = d := (r.1 46 0 18 (by omega)).trans j7
      have jm := j1.k (fun K o p hK => r.1 K o p (by omega))
      refine Or.inl ⟨rfl, fun _ => t193_35 ⟨fun z => absurd r.2.2 z, fun _ => fx_CI_of (r183 (o := 8) (by omega) (r.tp h) r.2.2 (fr_at_n hN r)) ?_⟩, fun z => absurd rfl z⟩
      rintro v τ1 (⟨k13, rfl, r1⟩ | ⟨k13, rfl, r1⟩)
      · have k13 : fr_K T N i = 13 := k13
        have him := fr_K_M hm (j := i) (by omega)
        have rr := r.trans r1
        have jm1 := jm.k (fun K o p hK => r1.1 K o p (by omega))
        have m52 : τ1 52 0 1 = R 10 0 0 := jm1.2.2.2.2.2.1
        refine Or.inl ⟨rfl, fun z => absurd z (by decide), fun _ => ⟨fun z => absurd r1.2.2 z, fun _ => ?_⟩⟩
        refine t193_85 ⟨fun z => absurd r1.2.2 z, fun _ => ?_⟩
        rw [m52]
        refine ⟨fun hl => ?_, fun hl => fx_CV_of (c182 r1.2.1) ?_⟩
        · refine t193_109 ⟨fun z => absurd z (by decide), fun _ => ⟨hrt, fx_CI_of (r187 (rr.tp h) r1.2.2 (fr_at_y hN rr)) ?_⟩⟩
          rintro v τ2 (⟨⟨q1, q2, q3⟩, rfl, r2⟩ | ⟨q1, y, c', rfl, q2, r2⟩)
          · have hj := fr_K_M hm (j := i + 1) (by omega)
            have rr2 := rr.trans r2
            have m52b : τ2 52 0 1 = R 10 0 0 := (r2.1 52 0 1 (by omega)).trans m52
            have hL := j2.2.2.1
            rw [m52b]
            refine Or.inl ⟨rfl, fun _ => ⟨⟨by have := j2.1; have := j2.2.1; omega, by omega⟩, fun z => absurd z (by decide), fun _ => leaf τ2 (i + 1) 0 13 _ rr2.g (jm1.k (fun K o p hK => r2.1 K o p (by omega))) ((rr2.1 46 0 18 (by omega)).trans j7) r2.2.2 (fr_at_y hN r2) (by omega) hj hl rfl (by omega) ?_⟩, fun z => absurd r2.2.2 z⟩
            rw [fs_pr, if_neg n4, if_neg hl, if_pos k13, if_pos ⟨q1, by omega⟩]
          · have har1 := fs_a_r (T := T) hN (i + 1)
            refine Or.inl ⟨rfl, fun z => by rw [r2.2.2] at z; omega, fun _ => ?_⟩
            have e : fs_pr T N t (n + 1) true i d ops ands R = (false, i + 1, R) := by
              rw [fs_pr, if_neg n4, if_neg hl, if_pos k13, if_neg (fun z => q1 ⟨z.1, fr_V_0 hN _, by omega⟩)]
            rw [e]
            exact ⟨rfl, (rr.trans r2).g, Or.inr ⟨rfl, r2.2.2, by rw [r2.2.1]; exact q2.1⟩⟩
        · rintro v ρ ⟨rfl, r2⟩
          rw [r1.2.2, if_pos rfl] at r2
          exact Or.inl ⟨rfl, (r193f (w3 := (3, 0)) (by rw [r2.2.2]; omega) hrt (fault ρ (rr.trans r2).g r2.2.2 (by rw [r2.2.1]; have := fs_te_r (T := T) har.2; omega) (fs_pr_f n4 (fun z => absurd hl z)))).1 1⟩
      · have k13 : fr_K T N i ≠ 13 := k13
        have rr := r.trans r1
        have jm1 := jm.k (fun K o p hK => r1.1 K o p (by omega))
        refine Or.inl ⟨rfl, fun _ => t193_56 ⟨fun z => absurd r1.2.2 z, fun _ => fx_CI_of (r186 (rr.tp h) r1.2.2 (fr_at_n hN rr)) ?_⟩, fun z => absurd rfl z⟩
        rintro v τ2 ⟨b, rfl, q1, r2⟩
        have rr2 := rr.trans r2
        have jm2 := jm1.k (fun K o p hK => r2.1 K o p (by omega))
        have m52 : τ2 52 0 1 = R 10 0 0 := jm2.2.2.2.2.2.1
        refine Or.inl ⟨rfl, fun _ => t193_85 ⟨fun z => absurd r2.2.2 z, fun _ => ?_⟩, fun hb => fx_CV_of (c182 r2.2.1) ?_⟩
        · rw [m52]
          refine ⟨fun hl => ?_, fun hl => fx_CV_of (c182 r2.2.1) ?_⟩
          · refine t193_109 ⟨fun _ => fx_CI_of (r187 (rr2.tp h) r2.2.2 (fr_at_n hN rr2)) ?_, fun z => absurd rfl z⟩
            rintro v τ3 (⟨⟨p1, p2, p3⟩, rfl, r3⟩ | ⟨p1, y, c', rfl, p2, r3⟩)
            · have hj := fr_K_M hm (j := i) (by omega)
              have rr3 := rr2.trans r3
              have m52b : τ3 52 0 1 = R 10 0 0 := (r3.1 52 0 1 (by omega)).trans m52
              have hL := j2.2.2.1
              rw [m52b]
              refine Or.inl ⟨rfl, fun _ => ⟨⟨by have := j2.1; have := j2.2.1; omega, by omega⟩, fun _ => leaf τ3 i 1 1 _ rr3.g (jm2.k (fun K o p hK => r3.1 K o p (by omega))) ((rr3.1 46 0 18 (by omega)).trans j7) r3.2.2 (fr_at_y hN r3) (by omega) hj hl rfl (by omega) ?_, fun z => absurd rfl z⟩, fun z => absurd r3.2.2 z⟩
              rw [fs_pr, if_neg n4, if_neg hl, if_neg k13, if_pos ⟨p1, by omega⟩]
            · refine Or.inl ⟨rfl, fun z => by rw [r3.2.2] at z; omega, fun _ => fault τ3 (rr2.trans r3).g r3.2.2 (by rw [r3.2.1]; exact p2.1) (fs_pr_f n4 (fun _ => ⟨k13, fun z => p1 ⟨z.1, fr_V_0 hN _, by omega⟩⟩))⟩
          · rintro v ρ ⟨rfl, r3⟩
            rw [r2.2.2, if_pos rfl] at r3
            exact Or.inl ⟨rfl, (r193f (w3 := (3, 0)) (by rw [r3.2.2]; omega) hrt (fault ρ (rr2.trans r3).g r3.2.2 (by rw [r3.2.1]; exact har.1) (fs_pr_f n4 (fun z => absurd hl z)))).1 0⟩
        · rintro v ρ ⟨rfl, r3⟩
          rw [r2.2.2, if_pos rfl, r2.2.1] at r3
          exact Or.inl ⟨rfl, (r193f (w3 := (3, 0)) (by rw [r3.2.2]; omega) hrt (fault ρ (rr2.trans r3).g r3.2.2 (by rw [r3.2.1]; exact har.1) (fs_pr_f n4 (fun _ => ⟨k13, fun z => q1 (fs_b0.mp hb) z.1⟩)))).2.1 0⟩
theorem r193 (ht : 0 ≤ t ∧ t < 8) {n i : Nat} {d : Int} {ops ands : List Int} {R σ : fx_S} (h : fs_tp σ T N) (hm : fs_a T N m = N) (hi : i ≤ m) (hn : m + 1 ≤ n + i) (hJ : fr_J σ T N true i d ops ands R) : fx_Ca 193 [(46, 0), (0, t)] σ (fr_p193 T N t m σ i (fs_pr T N t n true i d ops ands R)) := by
  obtain ⟨j1, j2, j3, j4, j5, j6, j7, j8, j9⟩ := hJ
  refine t193_0 (fx_CI_of (r181 h j9) ?_)
  rintro v τ ⟨rfl, r⟩
  rw [j8] at r
  refine Or.inl ⟨rfl, fx_Wp.mono (r193l ht n i d ops ands R τ _ _ (r.tp h) hm hi hn ⟨j1.k (fun K o p hK => r.1 K o p (by omega)), j2, j3, j4, j5, j6, (r.1 46 0 18 (by omega)).trans j7, r.2.2, fr_at_n h.1.1 r⟩) ?_⟩
  rintro v ρ ⟨p1, p2, p3⟩
  exact ⟨p1, r.g.trans p2, p3⟩
end FXRB
