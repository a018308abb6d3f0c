/-- an act's numbers, those that it has -/
noncomputable def fr_w (T : Int → Int) (N : Int) (i p : Nat) : Int := if p < fr_nn (fr_kk T N i) then fr_vv T N i p else 0
noncomputable def fr_rf (S : fx_S) (T : Int → Int) (N : Int) (i : Nat) : Int := fs_ref S (fr_kk T N i) (fr_w T N i 0) (fr_w T N i 1) (fr_w T N i 2) (fr_w T N i 3)
noncomputable def fr_dn (S : fx_S) (T : Int → Int) (N : Int) (m i : Nat) : fx_S := fs_do S (fr_kk T N i) (fr_w T N i 0) (fr_w T N i 1) (fr_w T N i 2) (fr_w T N i 3) (fr_w T N i 4) (fr_ac T N m i).2.2
theorem fs_ref_r {S : fx_S} {k a b c d : Int} : 0 ≤ fs_ref S k a b c d ∧ fs_ref S k a b c d ≤ 6 := by
  unfold fs_ref
  repeat' split
  all_goals omega
/-- what an act comes to, reference -/
def fr_p202 (T : Int → Int) (N : Int) (m i : Nat) (σ : fx_S) : fx_V → fx_S → Prop := fun v τ => fr_fz σ τ ∧ (((fr_ac T N m i).1 = true ∧ fr_rf (fs_m σ 47 0) T N i = 0 ∧ v = (0, 0) ∧ τ 46 0 12 = -1 ∧ fr_at τ T N (fr_ac T N m i).2.1 ∧ fs_eq (fr_dn (fs_m σ 47 0) T N m i) (fs_m τ 47 0)) ∨ ((fr_ac T N m i).1 = true ∧ fr_rf (fs_m σ 47 0) T N i ≠ 0 ∧ v = (0, fr_rf (fs_m σ 47 0) T N i) ∧ τ 46 0 12 = fs_a T N i ∧ 0 ≤ τ 46 0 11) ∨ ((fr_ac T N m i).1 = false ∧ v = (0, 0) ∧ τ 46 0 12 = fs_a T N (fr_ac T N m i).2.1 ∧ 0 ≤ τ 46 0 11))
section FXAP
variable {T : Int → Int} {N : Int} {m i j : Nat} {σ τ : fx_S}
theorem p202y {k a b c d e x : Int} {w3 : fx_V} (hac : (fr_ac T N m i).1 = true) (hj : (fr_ac T N m i).2.1 = j) (hk : fr_kk T N i = k) (g0 : fr_w T N i 0 = a) (g1 : fr_w T N i 1 = b) (g2 : fr_w T N i 2 = c) (g3 : fr_w T N i 3 = d) (g4 : fr_w T N i 4 = e) (h : fr_yes T N σ j k a b c d e (fr_ac T N m i).2.2 (0, x) τ) : fx_Wp 202 197 [(46, 0), (0, fs_a T N i), (0, x), w3] [] τ (fr_p202 T N m i σ) := by
  obtain ⟨hv, hz, hf, hat, h0, h1⟩ := h
  have hx : x = fs_ref (fs_m σ 47 0) k a b c d := congrArg Prod.snd hv
  have hr : fr_rf (fs_m σ 47 0) T N i = x := by unfold fr_rf; rw [hk, g0, g1, g2, g3, hx]
  have hd : fr_dn (fs_m σ 47 0) T N m i = fs_do (fs_m σ 47 0) k a b c d e (fr_ac T N m i).2.2 := by unfold fr_dn; rw [hk, g0, g1, g2, g3, g4]
  have hr0 := @fs_ref_r (fs_m σ 47 0) k a b c d
  refine t202_197 ⟨fun _ => ⟨fun le => ⟨hz, Or.inl ⟨hac, by omega, ?_, hf, by rw [hj]; exact hat, ?_⟩⟩, fun lt => ?_⟩, fun z => absurd hf z⟩
  · have : x = 0 := by omega
    rw [this]
  · rw [hd]; exact h0 (by omega)
  · obtain ⟨p, b1, b2, b3, b4⟩ := hat
    refine fx_CV_of (c182 b1) ?_
    rintro v ρ ⟨rfl, r⟩
    rw [hf, if_pos rfl] at r
    exact Or.inl ⟨rfl, hz.trans r.z, Or.inr (Or.inl ⟨hac, by omega, by rw [hr], r.2.2, by rw [r.2.1]; exact b2⟩)⟩
theorem p202n {y y' : Int} {w3 : fx_V} (hN : 0 ≤ N) (hac : (fr_ac T N m i).1 = false) (hj : (fr_ac T N m i).2.1 = j) (h : fr_no T N σ j (0, y') τ) : fx_Wp 202 197 [(46, 0), (0, fs_a T N i), (0, y), w3] [] τ (fr_p202 T N m i σ) := by
  obtain ⟨-, hz, hf, -, h0⟩ := h
  have := fs_a_r (T := T) hN j
  exact t202_197 ⟨fun z => by omega, fun _ => ⟨hz, Or.inr (Or.inr ⟨hac, rfl, by rw [hj]; exact hf, h0⟩)⟩⟩
theorem fr_yes.t {k a b c d e p : Int} {R ρ : fx_S} {v : fx_V} (r : fs_rp σ τ p (-1)) (h : fr_yes T N τ j k a b c d e R v ρ) : fr_yes T N σ j k a b c d e R v ρ := by
  have em : fs_m τ 47 0 = fs_m σ 47 0 := fs_m_c (fun q => r.1 47 0 q (by omega))
  obtain ⟨h1, h2, h3, h4, h5, h6⟩ := h
  rw [em] at h1 h5 h6
  exact ⟨h1, r.z.trans h2, h3, h4, h5, fun z q => (h6 z q).trans (r.1 47 0 q (by omega))⟩
theorem fr_no.t {p : Int} {ρ : fx_S} {v : fx_V} (r : fs_rp σ τ p (-1)) (h : fr_no T N τ j v ρ) : fr_no T N σ j v ρ := by
  obtain ⟨h1, h2, h3, h4, h5⟩ := h
  exact ⟨h1, r.z.trans h2, h3, fun q => (h4 q).trans (r.1 47 0 q (by omega)), h5⟩
theorem fr_args_t : ∀ (l : List (Int × Int)) (i : Nat), (fr_args T N l i).1 = true → (fr_args T N l i).2 = i + l.length
  | [], i, _ => rfl
  | q :: l, i, h => by
    rw [fr_args] at h ⊢
    by_cases z : fr_K T N i = 1 ∧ q.1 ≤ fr_V T N i ∧ fr_V T N i < q.2
    · rw [if_pos z] at h ⊢
      rw [fr_args_t l (i + 1) h]; simp; omega
    · rw [if_neg z] at h; exact absurd h Bool.false_ne_true
theorem fr_kk_o {x : Int} (hx : fr_K T N i = x) (h24 : x ≠ 24) : fr_kk T N i = x := by unfold fr_kk; rw [if_neg (fun z => h24 (hx.symm.trans z.1))]; exact hx
theorem a202_0 (h : fs_tp σ T N) (ho : fs_ok (fs_m σ 47 0)) (k17 : fr_K T N i = 17) (r : fs_rp σ τ (fs_te T N (fs_a T N i)) (-1)) : fx_CI 187 [(46, 0), (0, 0), (0, 99)] τ (fr_p202 T N m i σ) (fun y18 σ19 => (((σ19 46 0 12) ≠ (-1) → fx_Wp 202 197 [(46, 0), (0, fs_a T N i), (0, 0), (0, y18)] [] σ19 (fr_p202 T N m i σ)) ∧ ((σ19 46 0 12) = (-1) → fx_CI 168 [(46, 0), (0, y18)] σ19 (fr_p202 T N m i σ) (fun y19 σ20 => fx_Wp 202 197 [(46, 0), (0, fs_a T N i), (0, y19), (0, y18)] [] σ20 (fr_p202 T N m i σ))))) := by
  have hN := h.1.1
  have kk := fr_kk_o k17 (by omega)
  refine k187 100 rfl (r.tp h) r.2.2 (fr_at_y hN r) (fun q τ1 r1 a1 => ⟨fun z => absurd r1.2.2 z, fun _ => fx_CI_of (c168 (σ := τ1) (by rw [fs_m_c (fun q => (r.trans r1).1 47 0 q (by omega))]; exact ho)) ?_⟩) (fun q y τ1 c c0 r1 => ⟨fun _ => ?_, fun z => absurd z (fr_a_f hN r1)⟩)
  · intro v ρ hv
    have hv' := hv
    obtain ⟨rfl, -⟩ := hv
    refine Or.inl ⟨rfl, p202y ?_ ?_ kk ?_ ?_ ?_ ?_ ?_ (fr_yes_ma (r.trans r1) a1 (by omega) hv')⟩
    · simp [fr_ac, fr_args, k17, q]
    · simp [fr_ac, fr_args, k17, q]
    all_goals simp [fr_w, fr_vv, fr_nn, kk, k17]
  · exact p202n hN (by simp [fr_ac, fr_args, k17, q]) (by simp [fr_ac, fr_args, k17, q]) (fr_no0 (y := y) c0 (r.trans r1))
theorem a202_2 (h : fs_tp σ T N) (ho : fs_ok (fs_m σ 47 0)) (k19 : fr_K T N i = 19) (r : fs_rp σ τ (fs_te T N (fs_a T N i)) (-1)) : fx_CI 187 [(46, 0), (0, 0), (0, 59)] τ (fr_p202 T N m i σ) (fun y18 σ19 => (((σ19 46 0 12) ≠ (-1) → fx_Wp 202 197 [(46, 0), (0, fs_a T N i), (0, 0), (0, y18)] [] σ19 (fr_p202 T N m i σ)) ∧ ((σ19 46 0 12) = (-1) → fx_CI 170 [(46, 0), (0, y18)] σ19 (fr_p202 T N m i σ) (fun y19 σ20 => fx_Wp 202 197 [(46, 0), (0, fs_a T N i), (0, y19), (0, y18)] [] σ20 (fr_p202 T N m i σ))))) := by
  have hN := h.1.1
  have kk := fr_kk_o k19 (by omega)
  refine k187 60 rfl (r.tp h) r.2.2 (fr_at_y hN r) (fun q τ1 r1 a1 => ⟨fun z => absurd r1.2.2 z, fun _ => fx_CI_of (c170 (σ := τ1) (by rw [fs_m_c (fun q => (r.trans r1).1 47 0 q (by omega))]; exact ho)) ?_⟩) (fun q y τ1 c c0 r1 => ⟨fun _ => ?_, fun z => absurd z (fr_a_f hN r1)⟩)
  · intro v ρ hv
    have hv' := hv
    obtain ⟨rfl, -⟩ := hv
    refine Or.inl ⟨rfl, p202y ?_ ?_ kk ?_ ?_ ?_ ?_ ?_ (fr_yes_ma (r.trans r1) a1 (by omega) hv')⟩
    · simp [fr_ac, fr_args, k19, q]
    · simp [fr_ac, fr_args, k19, q]
    all_goals simp [fr_w, fr_vv, fr_nn, kk, k19]
  · exact p202n hN (by simp [fr_ac, fr_args, k19, q]) (by simp [fr_ac, fr_args, k19, q]) (fr_no0 (y := y) c0 (r.trans r1))
theorem a202_1 (h : fs_tp σ T N) (ho : fs_ok (fs_m σ 47 0)) (k18 : fr_K T N i = 18) (r : fs_rp σ τ (fs_te T N (fs_a T N i)) (-1)) : fx_CI 198 [(46, 0)] τ (fr_p202 T N m i σ) (fun y17 σ18 => fx_Wp 202 197 [(46, 0), (0, fs_a T N i), (0, y17), (3, 0)] [] σ18 (fr_p202 T N m i σ)) := by
  have hN := h.1.1
  have kk := fr_kk_o k18 (by omega)
  have em : fs_m τ 47 0 = fs_m σ 47 0 := fs_m_c (fun q => r.1 47 0 q (by omega))
  have e1 : (fr_ac T N m i).1 = (fr_args T N [(0, 8), (0, 8), (0, 1000), (1, 1001), (0, 100)] (i + 1)).1 := by simp [fr_ac, k18]
  have e2 : (fr_ac T N m i).2.1 = (fr_args T N [(0, 8), (0, 8), (0, 1000), (1, 1001), (0, 100)] (i + 1)).2 := by simp [fr_ac, k18]
  refine fx_CI_of (r198 (R := (fr_ac T N m i).2.2) (r.tp h) r.2.2 (fr_at_y hN r) (by rw [em]; exact ho)) ?_
  rintro v ρ (⟨q, hy⟩ | ⟨q, hn⟩)
  · have hy' := hy
    obtain ⟨rfl, -⟩ := hy
    refine Or.inl ⟨rfl, p202y (j := i + 1 + 5) (e1.trans q) (by rw [e2, fr_args_t _ _ q]; rfl) kk ?_ ?_ ?_ ?_ ?_ (hy'.t r)⟩
    all_goals simp [fr_w, fr_vv, fr_nn, kk, k18]
  · have hn' := hn
    obtain ⟨⟨y, rfl⟩, -⟩ := hn
    exact Or.inl ⟨rfl, p202n hN (e1.trans q) e2 (hn'.t r)⟩
theorem a202_34 {x o : Int} (hx : (x = 20 ∧ o = 1) ∨ (x = 21 ∧ o = 0)) (h : fs_tp σ T N) (ho : fs_ok (fs_m σ 47 0)) (k20 : fr_K T N i = x) (r : fs_rp σ τ (fs_te T N (fs_a T N i)) (-1)) : fx_CI 200 [(46, 0), (0, o)] τ (fr_p202 T N m i σ) (fun y17 σ18 => fx_Wp 202 197 [(46, 0), (0, fs_a T N i), (0, y17), (3, 0)] [] σ18 (fr_p202 T N m i σ)) := by
  have hN := h.1.1
  have kk := fr_kk_o k20 (by omega)
  have em : fs_m τ 47 0 = fs_m σ 47 0 := fs_m_c (fun q => r.1 47 0 q (by omega))
  have e0 : fr_ac T N m i = ((fr_args T N [(0, 8)] (i + 1)).1, (fr_args T N [(0, 8)] (i + 1)).2, fr_R0) := by unfold fr_ac; rw [k20, if_neg (by omega), if_neg (by omega), if_neg (by omega), if_pos (by omega)]
  have e1 : (fr_ac T N m i).1 = (fr_args T N [(0, 8)] (i + 1)).1 := by rw [e0]
  have e2 : (fr_ac T N m i).2.1 = (fr_args T N [(0, 8)] (i + 1)).2 := by rw [e0]
  have en : fr_nn x = 1 := by unfold fr_nn; rw [if_neg (by omega), if_neg (by omega)]
  refine fx_CI_of (r200 (R := (fr_ac T N m i).2.2) (r.tp h) r.2.2 (fr_at_y hN r) (by rw [em]; exact ho) hx) ?_
  rintro v ρ (⟨q, hy⟩ | ⟨q, hn⟩)
  · have hy' := hy
    obtain ⟨rfl, -⟩ := hy
    refine Or.inl ⟨rfl, p202y (j := i + 1 + 1) (e1.trans q) (by rw [e2, fr_args_t _ _ q]; rfl) kk ?_ ?_ ?_ ?_ ?_ (hy'.t r)⟩
    all_goals simp [fr_w, fr_vv, en, kk]
  · have hn' := hn
    obtain ⟨⟨y, rfl⟩, -⟩ := hn
    exact Or.inl ⟨rfl, p202n hN (e1.trans q) e2 (hn'.t r)⟩
theorem a202_5 (h : fs_tp σ T N) (ho : fs_ok (fs_m σ 47 0)) (k22 : fr_K T N i = 22) (r : fs_rp σ τ (fs_te T N (fs_a T N i)) (-1)) : fx_CI 201 [(46, 0)] τ (fr_p202 T N m i σ) (fun y17 σ18 => fx_Wp 202 197 [(46, 0), (0, fs_a T N i), (0, y17), (3, 0)] [] σ18 (fr_p202 T N m i σ)) := by
  have hN := h.1.1
  have kk := fr_kk_o k22 (by omega)
  have em : fs_m τ 47 0 = fs_m σ 47 0 := fs_m_c (fun q => r.1 47 0 q (by omega))
  have e1 : (fr_ac T N m i).1 = (fr_args T N [(0, 8), (0, 100)] (i + 1)).1 := by simp [fr_ac, k22]
  have e2 : (fr_ac T N m i).2.1 = (fr_args T N [(0, 8), (0, 100)] (i + 1)).2 := by simp [fr_ac, k22]
  refine fx_CI_of (r201 (R := (fr_ac T N m i).2.2) (r.tp h) r.2.2 (fr_at_y hN r) (by rw [em]; exact ho)) ?_
  rintro v ρ (⟨q, hy⟩ | ⟨q, hn⟩)
  · have hy' := hy
    obtain ⟨rfl, -⟩ := hy
    refine Or.inl ⟨rfl, p202y (j := i + 1 + 2) (e1.trans q) (by rw [e2, fr_args_t _ _ q]; rfl) kk ?_ ?_ ?_ ?_ ?_ (hy'.t r)⟩
    all_goals simp [fr_w, fr_vv, fr_nn, kk, k22]
  · have hn' := hn
    obtain ⟨⟨y, rfl⟩, -⟩ := hn
    exact Or.inl ⟨rfl, p202n hN (e1.trans q) e2 (hn'.t r)⟩
theorem a202_6 (h : fs_tp σ T N) (ho : fs_ok (fs_m σ 47 0)) (k23 : fr_K T N i = 23) (r : fs_rp σ τ (fs_te T N (fs_a T N i)) (-1)) : fx_CI 199 [(46, 0)] τ (fr_p202 T N m i σ) (fun y17 σ18 => fx_Wp 202 197 [(46, 0), (0, fs_a T N i), (0, y17), (3, 0)] [] σ18 (fr_p202 T N m i σ)) := by
  have hN := h.1.1
  have kk := fr_kk_o k23 (by omega)
  have em : fs_m τ 47 0 = fs_m σ 47 0 := fs_m_c (fun q => r.1 47 0 q (by omega))
  refine fx_CI_of (r199 (R := (fr_ac T N m i).2.2) (r.tp h) r.2.2 (fr_at_y hN r) (by rw [em]; exact ho)) ?_
  rintro v ρ (⟨q1, q2, q3, hy⟩ | ⟨q1, hn⟩ | ⟨q1, q2, hn⟩ | ⟨q1, q2, q3, hn⟩)
  · have q2 : fr_K T N (i + 2) = 15 := q2
    have hy' := hy
    obtain ⟨rfl, -⟩ := hy
    have q3 : fr_K T N (i + 3) = 1 ∧ 1 ≤ fr_V T N (i + 3) ∧ fr_V T N (i + 3) < 1000 := q3
    refine Or.inl ⟨rfl, p202y (j := i + 1 + 3) (by simp [fr_ac, fr_args, k23, q1, q2, q3]) (by simp [fr_ac, fr_args, k23, q1, q2, q3]) kk ?_ ?_ ?_ ?_ ?_ (hy'.t r)⟩
    all_goals simp [fr_w, fr_vv, fr_nn, kk, k23]
  · have hn' := hn
    obtain ⟨⟨y, rfl⟩, -⟩ := hn
    exact Or.inl ⟨rfl, p202n hN (by simp [fr_ac, fr_args, k23, q1]) (by simp [fr_ac, fr_args, k23, q1]) (hn'.t r)⟩
  · have q2 : fr_K T N (i + 2) ≠ 15 := q2
    have hn' := hn
    obtain ⟨⟨y, rfl⟩, -⟩ := hn
    exact Or.inl ⟨rfl, p202n hN (by simp [fr_ac, fr_args, k23, q1, q2]) (by simp [fr_ac, fr_args, k23, q1, q2]) (hn'.t r)⟩
  · have q2 : fr_K T N (i + 2) = 15 := q2
    have q3 : ¬ (fr_K T N (i + 3) = 1 ∧ 1 ≤ fr_V T N (i + 3) ∧ fr_V T N (i + 3) < 1000) := q3
    have hn' := hn
    obtain ⟨⟨y, rfl⟩, -⟩ := hn
    exact Or.inl ⟨rfl, p202n hN (by simp [fr_ac, fr_args, k23, q1, q2, q3]) (by simp [fr_ac, fr_args, k23, q1, q2, q3]) (hn'.t r)⟩
theorem a202_7 (h : fs_tp σ T N) (hm : fs_a T N m = N) (ho : fs_ok (fs_m σ 47 0)) (k24 : fr_K T N i = 24) (r : fs_rp σ τ (fs_te T N (fs_a T N i)) (-1)) : fx_CI 197 [(46, 0)] τ (fr_p202 T N m i σ) (fun y17 σ18 => fx_Wp 202 197 [(46, 0), (0, fs_a T N i), (0, y17), (3, 0)] [] σ18 (fr_p202 T N m i σ)) := by
  have hN := h.1.1
  have em : fs_m τ 47 0 = fs_m σ 47 0 := fs_m_c (fun q => r.1 47 0 q (by omega))
  refine fx_CI_of (r197 (R := (fr_ac T N m i).2.2) (r.tp h) hm r.2.2 (fr_at_y hN r) (by rw [em]; exact ho)) ?_
  rintro v ρ (⟨q1, hn⟩ | ⟨q1, q2, hy⟩ | ⟨q1, q2, q3, hn⟩ | ⟨q1, q2, ⟨q3, hn⟩ | ⟨q3, hy⟩⟩)
  · have hn' := hn
    obtain ⟨⟨y, rfl⟩, -⟩ := hn
    exact Or.inl ⟨rfl, p202n hN (by simp [fr_ac, fr_args, k24, q1]) (by simp [fr_ac, fr_args, k24, q1]) (hn'.t r)⟩
  · have q2 : fr_K T N (i + 2) = 16 := q2
    have kk : fr_kk T N i = 16 := if_pos ⟨k24, q2⟩
    have hy' := hy
    obtain ⟨rfl, -⟩ := hy
    refine Or.inl ⟨rfl, p202y (j := i + 1 + 2) (by simp [fr_ac, fr_args, k24, q1, q2]) (by simp [fr_ac, fr_args, k24, q1, q2]) kk ?_ ?_ ?_ ?_ ?_ (hy'.t r)⟩
    all_goals simp [fr_w, fr_vv, fr_nn, kk, k24]
  · have q2 : fr_K T N (i + 2) ≠ 16 := q2
    have q3 : fr_K T N (i + 2) ≠ 14 := q3
    have hn' := hn
    obtain ⟨⟨y, rfl⟩, -⟩ := hn
    exact Or.inl ⟨rfl, p202n hN (by simp [fr_ac, fr_args, k24, q1, q2, q3]) (by simp [fr_ac, fr_args, k24, q1, q2, q3]) (hn'.t r)⟩
  · have q2 : fr_K T N (i + 2) = 14 := q2
    have e : fr_ac T N m i = fs_pr T N (fr_V T N (i + 1)) (m + 1) true (i + 3) 0 [] [] fr_R0 := by simp [fr_ac, fr_args, k24, q1, q2]
    have hn' := hn
    obtain ⟨⟨y, rfl⟩, -⟩ := hn
    exact Or.inl ⟨rfl, p202n hN (by rw [e]; exact q3) (by rw [e]) (hn'.t r)⟩
  · have q2 : fr_K T N (i + 2) = 14 := q2
    have e : fr_ac T N m i = fs_pr T N (fr_V T N (i + 1)) (m + 1) true (i + 3) 0 [] [] fr_R0 := by simp [fr_ac, fr_args, k24, q1, q2]
    have kk : fr_kk T N i = 24 := by unfold fr_kk; rw [if_neg (fun z => by omega)]; exact k24
    have hy := hy.t r
    have e3 : (fs_pr T N (fr_V T N (i + 1)) (m + 1) true (i + 1 + 2) 0 [] [] fr_R0).2.2 = (fr_ac T N m i).2.2 := by rw [e]
    rw [e3] at hy
    have hy' := hy
    obtain ⟨rfl, -⟩ := hy
    refine Or.inl ⟨rfl, p202y (by rw [e]; exact q3) (by rw [e]) kk ?_ ?_ ?_ ?_ ?_ hy'⟩
    all_goals simp [fr_w, fr_vv, fr_nn, kk, k24]
theorem r202 (h : fs_tp σ T N) (hm : fs_a T N m = N) (hf : σ 46 0 12 = -1) (ha : fr_at σ T N i) (ho : fs_ok (fs_m σ 47 0)) : fx_Ca 202 [(46, 0)] σ (fr_p202 T N m i σ) := by
  have hN := h.1.1
  refine t202_0 (fx_CI_of (r181 h ha) ?_)
  rintro v σ1 ⟨rfl, r⟩
  rw [hf] at r
  refine Or.inl ⟨rfl, fx_CI_of (r183 (o := 0) (by omega) (r.tp h) r.2.2 (fr_at_n hN r)) ?_⟩
  rintro v σ2 (⟨k, rfl, r2⟩ | ⟨n17, rfl, r2⟩)
  · exact Or.inl ⟨rfl, fun z => absurd z (by decide), fun _ => a202_0 h ho k (r.trans r2)⟩
  have n17 : fr_K T N i ≠ 17 := n17
  have r := r.trans r2
  clear r2
  refine Or.inl ⟨rfl, fun _ => fx_CI_of (r183 (o := 1) (by omega) (r.tp h) r.2.2 (fr_at_n hN r)) ?_, fun z => absurd rfl z⟩
  rintro v σ3 (⟨k, rfl, r2⟩ | ⟨n18, rfl, r2⟩)
  · exact Or.inl ⟨rfl, fun z => absurd z (by decide), fun _ => a202_1 h ho k (r.trans r2)⟩
  have n18 : fr_K T N i ≠ 18 := n18
  have r := r.trans r2
  clear r2
  refine Or.inl ⟨rfl, fun _ => fx_CI_of (r183 (o := 2) (by omega) (r.tp h) r.2.2 (fr_at_n hN r)) ?_, fun z => absurd rfl z⟩
  rintro v σ4 (⟨k, rfl, r2⟩ | ⟨n19, rfl, r2⟩)
  · exact Or.inl ⟨rfl, fun z => absurd z (by decide), fun _ => a202_2 h ho k (r.trans r2)⟩
  have n19 : fr_K T N i ≠ 19 := n19
  have r := r.trans r2
  clear r2
  refine Or.inl ⟨rfl, fun _ => fx_CI_of (r183 (o := 3) (by omega) (r.tp h) r.2.2 (fr_at_n hN r)) ?_, fun z => absurd rfl z⟩
  rintro v σ5 (⟨k, rfl, r2⟩ | ⟨n20, rfl, r2⟩)
  · exact Or.inl ⟨rfl, fun z => absurd z (by decide), fun _ => a202_34 (Or.inl ⟨rfl, rfl⟩) h ho k (r.trans r2)⟩
  have n20 : fr_K T N i ≠ 20 := n20
  have r := r.trans r2
  clear r2
  refine Or.inl ⟨rfl, fun _ => fx_CI_of (r183 (o := 4) (by omega) (r.tp h) r.2.2 (fr_at_n hN r)) ?_, fun z => absurd rfl z⟩
  rintro v σ6 (⟨k, rfl, r2⟩ | ⟨n21, rfl, r2⟩)
  · exact Or.inl ⟨rfl, fun z => absurd z (by decide), fun _ => a202_34 (Or.inr ⟨rfl, rfl⟩) h ho k (r.trans r2)⟩
  have n21 : fr_K T N i ≠ 21 := n21
  have r := r.trans r2
  clear r2
  refine Or.inl ⟨rfl, fun _ => fx_CI_of (r183 (o := 5) (by omega) (r.tp h) r.2.2 (fr_at_n hN r)) ?_, fun z => absurd rfl z⟩
  rintro v σ7 (⟨k, rfl, r2⟩ | ⟨n22, rfl, r2⟩)
  · exact Or.inl ⟨rfl, fun z => absurd z (by decide), fun _ => a202_5 h ho k (r.trans r2)⟩
  have n22 : fr_K T N i ≠ 22 := n22
  have r := r.trans r2
  clear r2
  refine Or.inl ⟨rfl, fun _ => fx_CI_of (r183 (o := 6) (by omega) (r.tp h) r.2.2 (fr_at_n hN r)) ?_, fun z => absurd rfl z⟩
  rintro v σ8 (⟨k, rfl, r2⟩ | ⟨n23, rfl, r2⟩)
  · exact Or.inl ⟨rfl, fun z => absurd z (by decide), fun _ => a202_6 h ho k (r.trans r2)⟩
  have n23 : fr_K T N i ≠ 23 := n23
  have r := r.trans r2
  clear r2
  refine Or.inl ⟨rfl, fun _ => fx_CI_of (r183 (o := 7) (by omega) (r.tp h) r.2.2 (fr_at_n hN r)) ?_, fun z => absurd rfl z⟩
  rintro v σ9 (⟨k, rfl, r2⟩ | ⟨n24, rfl, r2⟩)
  · exact Or.inl ⟨rfl, fun z => absurd z (by decide), fun _ => a202_7 h hm ho k (r.trans r2)⟩
  have n24 : fr_K T N i ≠ 24 := n24
  have r := r.trans r2
  clear r2
  refine Or.inl ⟨rfl, fun _ => fx_CV_of (c182 r.2.1) ?_, fun z => absurd rfl z⟩
  rintro v ρ ⟨rfl, r2⟩
  rw [r.2.2, if_pos rfl] at r2
  have e : fr_ac T N m i = (false, i, fr_R0) := by simp [fr_ac, n17, n18, n19, n20, n21, n22, n23, n24]
  exact Or.inl ⟨rfl, p202n hN (by rw [e]) (by rw [e]) (fr_no0 (y := 0) (fs_a_r (T := T) hN i).1 (r.trans r2))⟩
end FXAP
