theorem fx_rem8 {x : Int} (h0 : 0 ≤ x) (h1 : x < 16) : fx_rem x 8 = x % 8 := by
  have : x = 0 ∨ x = 1 ∨ x = 2 ∨ x = 3 ∨ x = 4 ∨ x = 5 ∨ x = 6 ∨ x = 7 ∨ x = 8 ∨ x = 9 ∨ x = 10 ∨ x = 11 ∨ x = 12 ∨ x = 13 ∨ x = 14 ∨ x = 15 := by omega
  rcases this with rfl | rfl | rfl | rfl | rfl | rfl | rfl | rfl | rfl | rfl | rfl | rfl | rfl | rfl | rfl | rfl <;> decide
theorem fs_do_R {S R R' : fx_S} {k a b c d e : Int} (hk : 16 ≤ k ∧ k ≤ 23) : fs_do S k a b c d e R = fs_do S k a b c d e R' := by
  have : k = 16 ∨ k = 17 ∨ k = 18 ∨ k = 19 ∨ k = 20 ∨ k = 21 ∨ k = 22 ∨ k = 23 := by omega
  rcases this with rfl | rfl | rfl | rfl | rfl | rfl | rfl | rfl <;> simp [fs_do]
theorem fs_par_R {R R' : fx_S} {k a b c d e : Int} (hk : k ≤ 23) (h : fs_par k a b c d e R) : fs_par k a b c d e R' := by
  obtain ⟨p0, p1, p2, p3, p4, p5, p6⟩ := h
  exact ⟨p0, p1, p2, p3, p4, p5, fun z => (show False by omega).elim⟩
theorem fs_ref_nn {S : fx_S} {k a b c d : Int} : 0 ≤ fs_ref S k a b c d ∧ fs_ref S k a b c d ≤ 6 := by
  unfold fs_ref
  repeat' split
  all_goals omega
theorem fs_c_at {σ τ : fx_S} {i : Int} (h : ∀ K o p, fs_at i K o → τ K o p = σ K o p) : fs_eq (fs_c σ i) (fs_c τ i) := by
  have q : ∀ K p, K = 11 ∨ (13 ≤ K ∧ K ≤ 20) → σ K i p = τ K i p := fun K p hK => (h K i p (by unfold fs_at; omega)).symm
  have r : ∀ K t p, 22 ≤ K → K ≤ 25 → 0 ≤ t → t < 8 → σ K (8 * i + t) p = τ K (8 * i + t) p := fun K t p a b c d => (h K _ p (by unfold fs_at; omega)).symm
  refine ⟨?_, ?_, fun s s0 s1 => ⟨?_, ?_⟩, fun f f0 f1 => ⟨?_, ?_, ?_, ?_, ?_, ?_⟩, fun t t0 t1 => ⟨?_, ?_, fun k k0 k1 => ⟨?_, ?_, fun _ => ?_⟩⟩⟩
  all_goals simp only [fs_c]
  · exact q 11 _ (by omega)
  · exact q 11 _ (by omega)
  · exact q 13 _ (by omega)
  · exact q 14 _ (by omega)
  · exact q 15 _ (by omega)
  · exact q 16 _ (by omega)
  · exact q 17 _ (by omega)
  · exact q 18 _ (by omega)
  · exact q 19 _ (by omega)
  · exact q 20 _ (by omega)
  · exact r 22 t _ (by omega) (by omega) t0 t1
  · exact r 22 t _ (by omega) (by omega) t0 t1
  · exact r 23 t _ (by omega) (by omega) t0 t1
  · exact r 24 t _ (by omega) (by omega) t0 t1
  · exact r 25 t _ (by omega) (by omega) t0 t1
theorem fs_bt_e {σ τ : fx_S} {i j : Int} (h : fs_bt σ i) (he : fs_eq (fs_c σ i) (fs_c τ j)) (ho : fs_ok (fs_c σ i)) (hb : ∀ t, 0 ≤ t → t < 8 → τ 22 (8 * j + t) 5 = σ 22 (8 * i + t) 5) : fs_bt τ j := fun t t0 t1 => by rw [hb t t0 t1, h t t0 t1]; exact fs_bit_c he ho t0 t1
theorem fs_kp.at {σ ρ : fx_S} {i : Int} {K K' : Nat} {b b' : Int} (h : fs_kp σ i K b) (h1 : ∀ K o p, fs_at i K o → ρ K o p = σ K o p) (h2 : ∀ p, 0 ≤ p → p < 1130 → ρ K' 0 (b' + p) = σ K 0 (b + p)) : fs_kp ρ i K' b' := by
  obtain ⟨a, b1, c⟩ := h
  have e := fs_m_row a h2
  have g := fs_c_at h1
  have ho := b1.symm.ok a
  exact ⟨e.ok a, (g.symm.trans b1).trans e, fs_bt_e c g ho (fun t t0 t1 => h1 22 _ 5 (by unfold fs_at; omega))⟩
theorem fs_kp.of {ρ S : fx_S} {i : Int} {K : Nat} {b : Int} (ho : fs_ok S) (h : fs_eq S (fs_c ρ i)) (g : fs_eq S (fs_m ρ K b)) (hb : fs_bt ρ i) : fs_kp ρ i K b := ⟨g.ok ho, h.symm.trans g, hb⟩
/-- refused -/
def fs_T1 (σ : fx_S) (r : Int) (τ : fx_S) : Prop := (∀ K o p, ¬ (K = 26 ∨ K = 27 ∨ (K = 10 ∧ o = 0 ∧ p = 13)) → τ K o p = σ K o p) ∧ τ 10 0 13 = r
/-- done -/
def fs_T2 (σ A τ : fx_S) : Prop := (∀ K o p, ¬ (K = 26 ∨ K = 27 ∨ K = 61 ∨ (K = 10 ∧ o = 0 ∧ 10 ≤ p ∧ p ≤ 13) ∨ fs_at 0 K o ∨ fs_at (3 + σ 10 0 12) K o) → τ K o p = σ K o p) ∧ fx_bw τ ∧ fs_eq A (fs_c τ 0) ∧ fs_bt τ 0 ∧ fs_eq (fs_m σ 47 0) (fs_c τ (3 + σ 10 0 12)) ∧ fs_bt τ (3 + σ 10 0 12) ∧ τ 10 0 10 = 0 ∧ τ 10 0 11 = (if σ 10 0 11 = 8 then 8 else σ 10 0 11 + 1) ∧ τ 10 0 12 = (σ 10 0 12 + 1) % 8 ∧ τ 10 0 13 = 0
section FXT1
variable {σ τ : fx_S}
theorem c20 {o x1 x2 x3 x4 x5 x6 : Int} : fx_Rt 20 [(26, o), (0, x1), (0, x2), (0, x3), (0, x4), (0, x5), (0, x6)] σ (4, 0) (fx_up (fx_up (fx_up (fx_up (fx_up (fx_up σ 26 o 2 x1) 27 o 0 x2) 27 o 1 x3) 27 o 2 x4) 27 o 3 x5) 27 o 4 x6) := t20_0 ⟨rfl, rfl⟩
theorem c143 (hR : fs_R σ) {k a b c d e : Int} (hk : 16 ≤ k ∧ k ≤ 23) {X : fx_S} (hp : fs_par k a b c d e X) : fx_Ca 143 [(10, 0), (0, k), (0, a), (0, b), (0, c), (0, d), (0, e)] σ (fun v τ => (fs_ref (fs_m σ 47 0) k a b c d ≠ 0 ∧ v = (5, 1) ∧ fs_T1 σ (fs_ref (fs_m σ 47 0) k a b c d) τ) ∨ (fs_ref (fs_m σ 47 0) k a b c d = 0 ∧ v = (4, 0) ∧ fs_T2 σ (fs_do (fs_m σ 47 0) k a b c d e X) τ)) := by
  obtain ⟨⟨ho, he, hbt⟩, -, ⟨u1, u2, u3, u4⟩, -, -, -, -, bw⟩ := hR
  have hoc : fs_ok (fs_c σ 0) := he.symm.ok ho
  have hrc : fs_ref (fs_c σ 0) k a b c d = fs_ref (fs_m σ 47 0) k a b c d := fs_ref_c he hoc hp.2.1
  refine t143_0 (c20.V ?_)
  generalize hE : fx_up (fx_up (fx_up (fx_up (fx_up (fx_up σ 26 0 2 k) 27 0 0 a) 27 0 1 b) 27 0 2 c) 27 0 3 d) 27 0 4 e = ρ
  have hρ : ∀ K o p, ¬ (K = 26 ∨ K = 27) → ρ K o p = σ K o p := by
    intro K o p hK
    rw [← hE, fx_upE, if_neg (by omega), fx_upE, if_neg (by omega), fx_upE, if_neg (by omega), fx_upE, if_neg (by omega), fx_upE, if_neg (by omega), fx_upE, if_neg (by omega)]
  have hcρ : fs_c ρ 0 = fs_c σ 0 := fs_c_of (fun K o p _ _ => hρ K o p (by omega)) 0
  have k0 : ρ 26 0 2 = k := by rw [← hE]; simp [fx_up]
  have a0 : ρ 27 0 0 = a := by rw [← hE]; simp [fx_up]
  have b0 : ρ 27 0 1 = b := by rw [← hE]; simp [fx_up]
  have c0 : ρ 27 0 2 = c := by rw [← hE]; simp [fx_up]
  have d0 : ρ 27 0 3 = d := by rw [← hE]; simp [fx_up]
  have e0 : ρ 27 0 4 = e := by rw [← hE]; simp [fx_up]
  have h26 := c26 (σ := ρ) (i := 0) (by rw [hcρ]; exact hoc) (o := 0) (fun z => by rw [k0] at z; rw [a0]; exact hp.2.1 z)
  rw [k0, a0, b0, c0, d0, hcρ, hrc] at h26
  have n12 : ρ 10 0 12 = σ 10 0 12 := hρ 10 0 12 (by omega)
  refine h26.I ?_
  rw [n12]
  refine ⟨fun hz => ⟨u2, ?_⟩, fun hz => Or.inl ⟨hz, rfl, fun K o p hK => ?_, fx_upS⟩⟩
  · generalize hE1 : fx_up ρ 10 0 13 (fs_ref (fs_m σ 47 0) k a b c d) = ρ1
    have h1 : ∀ K o p, ¬ (K = 26 ∨ K = 27 ∨ (K = 10 ∧ o = 0 ∧ p = 13)) → ρ1 K o p = σ K o p := fun K o p hK => by rw [← hE1, fx_upE, if_neg (by omega)]; exact hρ K o p (by omega)
    have h13 : ρ1 10 0 13 = 0 := by rw [← hE1, fx_upS]; exact hz
    have h27 : ∀ K o p, K = 26 ∨ K = 27 → ρ1 K o p = ρ K o p := fun K o p hK => by rw [← hE1, fx_upE, if_neg (by omega)]
    have hc1 : fs_c ρ1 0 = fs_c σ 0 := fs_c_of (fun K o p _ _ => h1 K o p (by omega)) 0
    have bw1 : fx_bw ρ1 := fun o p => by rw [h1 14 o p (by omega), h1 20 o p (by omega)]; exact bw o p
    refine fx_CV_of (c23 (σ := ρ1) (i := 3 + σ 10 0 12) (j := 0) (by omega) (by rw [hc1]; exact hoc) bw1) ?_
    rintro v σ3 ⟨rfl, f1, f2, f3⟩
    have g3 : ∀ K o p, ¬ fs_at (3 + σ 10 0 12) K o → σ3 K o p = ρ1 K o p := f1.1
    have bw3 := f1.2 bw1
    have e12 : σ3 10 0 12 = σ 10 0 12 := (g3 10 0 12 (by unfold fs_at; omega)).trans (h1 10 0 12 (by omega))
    have e11 : σ3 10 0 11 = σ 10 0 11 := (g3 10 0 11 (by unfold fs_at; omega)).trans (h1 10 0 11 (by omega))
    rw [e12, e11, fx_rem8 (by omega) (by omega)]
    refine Or.inl ⟨rfl, ⟨by omega, by omega⟩, ⟨by omega, by omega⟩, c1.I ?_⟩
    generalize hE2 : fx_up (fx_up σ3 10 0 12 ((σ 10 0 12 + 1) % 8)) 10 0 11 (if σ 10 0 11 + 1 ≤ 8 then σ 10 0 11 + 1 else 8) = ρ2
    have h2 : ∀ K o p, ¬ (K = 10 ∧ o = 0 ∧ (p = 11 ∨ p = 12)) → ρ2 K o p = σ3 K o p := fun K o p hK => by rw [← hE2, fx_upE, if_neg (by omega), fx_upE, if_neg (by omega)]
    have h2a : ρ2 10 0 11 = (if σ 10 0 11 = 8 then 8 else σ 10 0 11 + 1) := by
      rw [← hE2, fx_upS]
      by_cases z : σ 10 0 11 = 8
      · rw [if_pos z, if_neg (by omega)]
      · rw [if_neg z, if_pos (by omega)]
    have h2b : ρ2 10 0 12 = (σ 10 0 12 + 1) % 8 := by rw [← hE2, fx_upJ (by omega), fx_upS]
    have s0 : fs_eq (fs_c σ 0) (fs_c ρ2 0) := by
      rw [← hc1]
      exact fs_c_at (fun K o p hK => by rw [h2 K o p (by unfold fs_at at hK; omega), g3 K o p (by unfold fs_at at hK ⊢; omega)])
    have ok2 := s0.ok hoc
    have b2 : fs_bt ρ2 0 := fs_bt_e hbt s0 hoc (fun t t0 t1 => by rw [h2 22 _ _ (by omega), g3 22 _ _ (by unfold fs_at; omega), h1 22 _ _ (by omega)])
    have em : fs_eq (fs_m σ 47 0) (fs_c ρ2 0) := he.symm.trans s0
    have hr2 : fs_ref (fs_c ρ2 0) k a b c d = 0 := by rw [← fs_ref_c s0 hoc hp.2.1, hrc]; exact hz
    have w27 : ∀ K o p, K = 26 ∨ K = 27 → ρ2 K o p = ρ K o p := fun K o p hK => by rw [h2 K o p (by omega), g3 K o p (by unfold fs_at; omega)]; exact h27 K o p hK
    refine fx_CV_of (c31 (σ := ρ2) (i := 0) ok2 b2 (by omega) (q := 0) (k := k) (a := a) (b := b) (c := c) (d := d) (e := e) ((w27 26 0 2 (by omega)).trans k0) ((w27 27 0 0 (by omega)).trans a0) ((w27 27 0 1 (by omega)).trans b0) ((w27 27 0 2 (by omega)).trans c0) ((w27 27 0 3 (by omega)).trans d0) ((w27 27 0 4 (by omega)).trans e0) (by omega) (fs_par_R hk.2 hp) hr2 (fun z => (show False by omega).elim)) ?_
    rintro v τ ⟨rfl, t1, t2, t3⟩
    have edo := (fs_do_c em ho (e := e) (R := X) (Q := fs_ra ρ2 0) hp hz (fun z => (show False by omega).elim)).trans t2
    refine Or.inl ⟨rfl, Or.inr ⟨hz, rfl, ?_⟩⟩
    generalize hE3 : fx_up τ 10 0 10 0 = τ'
    have h3 : ∀ K o p, ¬ (K = 10 ∧ o = 0 ∧ p = 10) → τ' K o p = τ K o p := fun K o p hK => by rw [← hE3, fx_upE, if_neg hK]
    have hc3 : ∀ i, fs_c τ' i = fs_c τ i := fun i => fs_c_of (fun K o p _ _ => h3 K o p (by omega)) i
    have p0 : fs_eq (fs_c σ3 (3 + σ 10 0 12)) (fs_c τ' (3 + σ 10 0 12)) := fs_c_at (fun K o p hK => by rw [h3 K o p (by unfold fs_at at hK; omega), t1.1 K o p (by unfold fs_at at hK ⊢; omega), h2 K o p (by unfold fs_at at hK; omega)])
    rw [hc1] at f2
    have pe : fs_eq (fs_c σ 0) (fs_c τ' (3 + σ 10 0 12)) := f2.trans p0
    refine ⟨fun K o p hK => ?_, fun o p => ?_, by rw [hc3]; exact edo, fun t t0 t1 => ?_, he.symm.trans pe, ?_, ?_, ?_, ?_, ?_⟩
    · rw [h3 K o p (by omega), t1.1 K o p (fun z => hK (Or.inr (Or.inr (Or.inr (Or.inr (Or.inl z)))))), h2 K o p (by omega), g3 K o p (fun z => hK (Or.inr (Or.inr (Or.inr (Or.inr (Or.inr z))))))]; exact h1 K o p (by omega)
    · rw [h3 14 o p (by omega), h3 20 o p (by omega)]
      exact t1.2 (fun o p => by rw [h2 14 o p (by omega), h2 20 o p (by omega)]; exact bw3 o p) o p
    · rw [h3 22 _ _ (by omega), hc3]; exact t3 t t0 t1
    · refine fs_bt_e hbt pe hoc (fun t t0 tt => ?_)
      rw [h3 22 _ _ (by omega), t1.1 22 _ _ (by unfold fs_at; omega), h2 22 _ _ (by omega), f3 t t0 tt, h1 22 _ _ (by omega)]
    · rw [← hE3, fx_upS]
    · rw [h3 10 0 11 (by omega), t1.1 10 0 11 (by unfold fs_at; omega)]; exact h2a
    · rw [h3 10 0 12 (by omega), t1.1 10 0 12 (by unfold fs_at; omega)]; exact h2b
    · rw [h3 10 0 13 (by omega), t1.1 10 0 13 (by unfold fs_at; omega), h2 10 0 13 (by omega), g3 10 0 13 (by unfold fs_at; omega)]; exact h13
  · rw [fx_upE, if_neg (by omega)]; exact hρ K o p (by omega)
/-- the reference, refused and done -/
def fs_fm (τ ρ : fx_S) : Prop := ∀ K o p, ¬ (K = 47 ∨ K = 48 ∨ K = 50 ∨ (55 ≤ K ∧ K ≤ 60) ∨ (K = 46 ∧ o = 0 ∧ (p = 0 ∨ p = 5 ∨ p = 7 ∨ p = 27 ∨ p = 28 ∨ p = 29))) → ρ K o p = τ K o p
def fs_M1 (τ ρ : fx_S) (e r : Int) : Prop := fs_fm τ ρ ∧ ρ 46 0 0 = e ∧ ρ 46 0 7 = r ∧ ρ 46 0 5 = τ 46 0 5 ∧ (∀ q, ρ 47 0 q = τ 47 0 q) ∧ ∀ q, ρ 50 0 q = τ 50 0 q
def fs_M2 (τ ρ A : fx_S) : Prop := fs_fm τ ρ ∧ ρ 46 0 0 = 0 ∧ ρ 46 0 7 = 0 ∧ fs_eq A (fs_m ρ 47 0) ∧ ρ 46 0 5 = (if τ 46 0 5 = 8 then 8 else τ 46 0 5 + 1) ∧ (∀ p, 0 ≤ p → p < 1130 → ρ 50 0 (1130 * (ρ 46 0 5 - 1) + p) = τ 47 0 p) ∧ ∀ j p, 0 ≤ j → j < ρ 46 0 5 - 1 → 0 ≤ p → p < 1130 → ρ 50 0 (1130 * j + p) = τ 50 0 (1130 * (if τ 46 0 5 = 8 then j + 1 else j) + p)
theorem fs_R1 {ρ : fx_S} {e r : Int} (hR : fs_R σ) (h : fs_T1 σ r τ) (m : fs_M1 τ ρ e r) : fs_R ρ := by
  obtain ⟨h1, h2⟩ := h
  obtain ⟨m1, m2, m3, m4, m5, m6⟩ := m
  have hσ : ∀ K o p, ¬ (K = 26 ∨ K = 27 ∨ (K = 10 ∧ o = 0 ∧ p = 13) ∨ K = 47 ∨ K = 48 ∨ K = 50 ∨ (55 ≤ K ∧ K ≤ 60) ∨ (K = 46 ∧ o = 0 ∧ (p = 0 ∨ p = 5 ∨ p = 7 ∨ p = 27 ∨ p = 28 ∨ p = 29))) → ρ K o p = σ K o p := fun K o p hK => by rw [m1 K o p (by omega)]; exact h1 K o p (by omega)
  have g13 : ρ 10 0 13 = r := (m1 10 0 13 (by omega)).trans h2
  have g7 := m3
  have g47 : ∀ q, ρ 47 0 q = σ 47 0 q := fun q => (m5 q).trans (h1 47 0 q (by omega))
  have g50 : ∀ q, ρ 50 0 q = σ 50 0 q := fun q => (m6 q).trans (h1 50 0 q (by omega))
  have g5 : ρ 46 0 5 = σ 46 0 5 := m4.trans (h1 46 0 5 (by omega))
  have hc : ∀ K o p, 11 ≤ K → K ≤ 25 → ρ K o p = σ K o p := fun K o p a b => hσ K o p (by omega)
  obtain ⟨a, d, ⟨u1, u2, u3, u4⟩, ⟨k1, k2⟩, ⟨t1, t2, t3⟩, ⟨f1, f2⟩, l, bw⟩ := hR
  refine ⟨a.k hc g47, fun z => ?_, ⟨?_, ?_, ?_, ?_⟩, ⟨?_, ?_⟩, ⟨?_, ?_, ?_⟩, ⟨?_, ?_⟩, ?_, ?_⟩
  · rw [hσ 10 0 10 (by omega)] at z
    rw [fs_m_of g47]
    exact fs_drawn_k (hσ 36 0 8 (by omega)) (fun p => hσ 37 0 p (by omega)) (fun p => hσ 38 0 p (by omega)) (fun o p x y => hσ 41 o p (by omega)) (fun o p x y => hσ 43 o p (by omega)) (d z)
  · rw [hσ 10 0 11 (by omega)]; exact u1
  · rw [hσ 10 0 12 (by omega)]; exact u2
  · rw [hσ 10 0 11 (by omega), g5]; exact u3
  · rw [hσ 10 0 11 (by omega), hσ 10 0 12 (by omega)]
    exact fun j j0 j1 => (u4 j j0 j1).k hc g50
  · rw [hσ 46 0 6 (by omega), hσ 10 0 9 (by omega)]; exact k1
  · rw [hσ 10 0 9 (by omega)]; exact fun z => (k2 z).k hc (fun p => hσ 49 0 p (by omega))
  · rw [hσ 28 0 4 (by omega)]; exact t1
  · rw [hσ 46 0 9 (by omega), hσ 28 0 4 (by omega)]; exact t2
  · rw [hσ 28 0 4 (by omega)]
    intro j j0 j1
    rw [hσ 51 0 j (by omega), hσ 29 0 j (by omega)]; exact t3 j j0 j1
  · rw [hσ 46 0 12 (by omega), hσ 10 0 14 (by omega)]; exact f1
  · rw [g7, g13]
  · rw [hσ 46 0 21 (by omega)]; exact l
  · intro o p
    rw [hσ 14 o p (by omega), hσ 20 o p (by omega)]; exact bw o p
theorem fs_R2 {ρ A : fx_S} (hR : fs_R σ) (h : fs_T2 σ A τ) (hA : fs_ok A) (m : fs_M2 τ ρ A) : fs_R ρ := by
  obtain ⟨h1, h2, h3, h4, h5, h6, h7, h8, h9, h10⟩ := h
  obtain ⟨m1, m2, m3, m4, m5, m6, m7⟩ := m
  obtain ⟨⟨ho, he, hbt⟩, d, ⟨u1, u2, u3, u4⟩, ⟨k1, k2⟩, ⟨t1, t2, t3⟩, ⟨f1, f2⟩, l, bw⟩ := hR
  have hc : ∀ K o p, 11 ≤ K → K ≤ 25 → ρ K o p = τ K o p := fun K o p a b => m1 K o p (by omega)
  have hσ : ∀ K o p, ¬ (K = 26 ∨ K = 27 ∨ K = 61 ∨ (K = 10 ∧ o = 0 ∧ 10 ≤ p ∧ p ≤ 13) ∨ fs_at 0 K o ∨ fs_at (3 + σ 10 0 12) K o) → ¬ (K = 47 ∨ K = 48 ∨ K = 50 ∨ (55 ≤ K ∧ K ≤ 60) ∨ (K = 46 ∧ o = 0 ∧ (p = 0 ∨ p = 5 ∨ p = 7 ∨ p = 27 ∨ p = 28 ∨ p = 29))) → ρ K o p = σ K o p := fun K o p a b => (m1 K o p b).trans (h1 K o p a)
  have hat : ∀ i, i ≠ 0 → i ≠ 3 + σ 10 0 12 → ∀ K o p, fs_at i K o → ρ K o p = σ K o p := fun i i0 i1 K o p hK => hσ K o p (by unfold fs_at at hK ⊢; omega) (by unfold fs_at at hK; omega)
  have g11 : ρ 10 0 11 = (if σ 10 0 11 = 8 then 8 else σ 10 0 11 + 1) := (m1 10 0 11 (by omega)).trans h8
  have g12 : ρ 10 0 12 = (σ 10 0 12 + 1) % 8 := (m1 10 0 12 (by omega)).trans h9
  have q5 : τ 46 0 5 = σ 10 0 11 := by rw [h1 46 0 5 (by unfold fs_at; omega)]; exact u3
  have q50 : ∀ q, τ 50 0 q = σ 50 0 q := fun q => h1 50 0 q (by unfold fs_at; omega)
  have q47 : ∀ q, τ 47 0 q = σ 47 0 q := fun q => h1 47 0 q (by unfold fs_at; omega)
  rw [q5] at m5 m7
  have g5 : ρ 46 0 5 = ρ 10 0 11 := by rw [m5, g11]
  rw [g5] at m6 m7
  have hcρ : ∀ i, fs_c ρ i = fs_c τ i := fun i => fs_c_of hc i
  have hbρ : ∀ i, fs_bt τ i → fs_bt ρ i := fun i h t t0 t1 => by rw [hc 22 _ 5 (by omega) (by omega), hcρ]; exact h t t0 t1
  refine ⟨fs_kp.of hA (by rw [hcρ]; exact h3) m4 (hbρ 0 h4), fun z => ?_, ⟨?_, ?_, g5, fun j j0 j1 => ?_⟩, ⟨?_, ?_⟩, ⟨?_, ?_, ?_⟩, ⟨?_, ?_⟩, ?_, ?_⟩
  · rw [m1 10 0 10 (by omega)] at z; exact absurd h7 z
  · rw [g11]
    by_cases z : σ 10 0 11 = 8
    · rw [if_pos z]; omega
    · rw [if_neg z]; omega
  · rw [g12]; omega
  · rw [g12]
    by_cases z : j = ρ 10 0 11 - 1
    · have ei : 3 + ((σ 10 0 12 + 1) % 8 + 8 - ρ 10 0 11 + j) % 8 = 3 + σ 10 0 12 := by omega
      rw [ei, z]
      refine fs_kp.of ho (by rw [hcρ]; exact h5) (fs_m_row ho (fun p p0 p1 => ?_)) (hbρ _ h6)
      rw [m6 p p0 p1, q47, show 0 + p = p by omega]
    · by_cases y : σ 10 0 11 = 8
      · rw [if_pos y] at g11
        have ei : 3 + ((σ 10 0 12 + 1) % 8 + 8 - ρ 10 0 11 + j) % 8 = 3 + (σ 10 0 12 + 8 - σ 10 0 11 + (j + 1)) % 8 := by omega
        rw [ei]
        refine (u4 (j + 1) (by omega) (by omega)).at (hat _ (by omega) (by omega)) (fun p p0 p1 => ?_)
        rw [m7 j p j0 (by omega) p0 p1, if_pos y, q50]
      · rw [if_neg y] at g11
        have ei : 3 + ((σ 10 0 12 + 1) % 8 + 8 - ρ 10 0 11 + j) % 8 = 3 + (σ 10 0 12 + 8 - σ 10 0 11 + j) % 8 := by omega
        rw [ei]
        refine (u4 j (by omega) (by omega)).at (hat _ (by omega) (by omega)) (fun p p0 p1 => ?_)
        rw [m7 j p j0 (by omega) p0 p1, if_neg y, q50]
  · rw [hσ 46 0 6 (by unfold fs_at; omega) (by omega), hσ 10 0 9 (by unfold fs_at; omega) (by omega)]; exact k1
  · rw [hσ 10 0 9 (by unfold fs_at; omega) (by omega)]
    intro z
    refine (k2 z).at (hat 2 (by omega) (by omega)) (fun p p0 p1 => ?_)
    rw [hσ 49 0 _ (by unfold fs_at; omega) (by omega)]
  · rw [hσ 28 0 4 (by unfold fs_at; omega) (by omega)]; exact t1
  · rw [hσ 46 0 9 (by unfold fs_at; omega) (by omega), hσ 28 0 4 (by unfold fs_at; omega) (by omega)]; exact t2
  · rw [hσ 28 0 4 (by unfold fs_at; omega) (by omega)]
    intro j j0 j1
    rw [hσ 51 0 j (by unfold fs_at; omega) (by omega), hσ 29 0 j (by unfold fs_at; omega) (by omega)]; exact t3 j j0 j1
  · rw [hσ 46 0 12 (by unfold fs_at; omega) (by omega), hσ 10 0 14 (by unfold fs_at; omega) (by omega)]; exact f1
  · rw [m3, m1 10 0 13 (by omega)]; exact h10.symm
  · rw [hσ 46 0 21 (by unfold fs_at; omega) (by omega)]; exact l
  · intro o p
    rw [hc 14 o p (by omega) (by omega), hc 20 o p (by omega) (by omega)]; exact h2 o p
end FXT1
