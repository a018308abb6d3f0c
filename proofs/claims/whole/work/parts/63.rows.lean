/-- a row of the reference's, copied -/
theorem fs_m_row {σ τ : fx_S} {K K' : Nat} {b b' : Int} (ho : fs_ok (fs_m σ K b)) (h : ∀ p, 0 ≤ p → p < 1130 → τ K' 0 (b' + p) = σ K 0 (b + p)) : fs_eq (fs_m σ K b) (fs_m τ K' b') := by
  have hh : ∀ x y p : Int, x = b + p → y = b' + p → 0 ≤ p → p < 1130 → σ K 0 x = τ K' 0 y := fun x y p hx hy p0 p1 => by rw [hx, hy]; exact (h p p0 p1).symm
  have hn := ho.1
  have hf := ho.2.1
  refine ⟨hh _ _ 0 (by omega) (by omega) (by omega) (by omega), hh _ _ 1 (by omega) (by omega) (by omega) (by omega), fun s s0 s1 => ?_, fun f f0 f1 => ?_, fun t t0 t1 => ?_⟩
  · exact ⟨hh _ _ (2 + s) (by omega) (by omega) (by omega) (by omega), hh _ _ (10 + s) (by omega) (by omega) (by omega) (by omega)⟩
  · exact ⟨hh _ _ (18 + 6 * f) (by omega) (by omega) (by omega) (by omega), hh _ _ (18 + 6 * f + 1) (by omega) (by omega) (by omega) (by omega), hh _ _ (18 + 6 * f + 2) (by omega) (by omega) (by omega) (by omega), hh _ _ (18 + 6 * f + 3) (by omega) (by omega) (by omega) (by omega), hh _ _ (18 + 6 * f + 4) (by omega) (by omega) (by omega) (by omega), hh _ _ (18 + 6 * f + 5) (by omega) (by omega) (by omega) (by omega)⟩
  · have hr := (ho.2.2.2.2 t t0 t1).1
    refine ⟨hh _ _ (378 + 94 * t) (by omega) (by omega) (by omega) (by omega), hh _ _ (378 + 94 * t + 1) (by omega) (by omega) (by omega) (by omega), fun k k0 k1 => ?_⟩
    unfold fs_m
    simp only
    rw [hh (b + 378 + 94 * t + 2 + 4 * k) (b' + 378 + 94 * t + 2 + 4 * k) (378 + 94 * t + 2 + 4 * k) (by omega) (by omega) (by omega) (by omega), hh (b + 378 + 94 * t + 2 + 4 * k + 1) (b' + 378 + 94 * t + 2 + 4 * k + 1) (378 + 94 * t + 2 + 4 * k + 1) (by omega) (by omega) (by omega) (by omega), hh (b + 378 + 94 * t + 2 + 4 * k + 2) (b' + 378 + 94 * t + 2 + 4 * k + 2) (378 + 94 * t + 2 + 4 * k + 2) (by omega) (by omega) (by omega) (by omega), hh (b + 378 + 94 * t + 2 + 4 * k + 3) (b' + 378 + 94 * t + 2 + 4 * k + 3) (378 + 94 * t + 2 + 4 * k + 3) (by omega) (by omega) (by omega) (by omega)]
    exact ⟨rfl, rfl, fun _ => rfl⟩
section FXM
variable {σ : fx_S} {o : Int}
theorem c174 (ho : fs_ok (fs_m σ 47 0)) {th time : Int} (h1 : 0 ≤ th ∧ th < 8) (h2 : 0 ≤ time ∧ time ≤ 1000) : fx_Ca 174 [(46, o), (0, th), (0, time)] σ (fun v τ => v = (0, fs_ref (fs_m σ 47 0) 23 th time 0 0) ∧ (∀ K p q, ¬ (K = 47 ∨ (K = 46 ∧ p = o ∧ q = 29)) → τ K p q = σ K p q) ∧ τ 46 o 29 = fs_cnt (fun f => fs_cut (fs_m σ 47 0) f th time) (σ 47 0 1).toNat ∧ (fs_ref (fs_m σ 47 0) 23 th time 0 0 = 0 → fs_eq (fs_do (fs_m σ 47 0) 23 th time 0 0 0 σ) (fs_m τ 47 0)) ∧ (fs_ref (fs_m σ 47 0) 23 th time 0 0 ≠ 0 → ∀ q, τ 47 0 q = σ 47 0 q)) := by
  have hn := fs_mn ho
  have e1 : fs_m σ 47 0 0 1 0 = σ 47 0 1 := rfl
  generalize hS : fs_m σ 47 0 = S at ho e1
  generalize hC : (fun f => fs_cut S f th time) = C
  have hCf : ∀ f, fs_cut S f th time = C f := fun f => by rw [← hC]
  have href : fs_ref S 23 th time 0 0 = if fs_cnt C (σ 47 0 1).toNat = 0 then 6 else if σ 47 0 1 + fs_cnt C (σ 47 0 1).toNat ≤ 60 then 0 else 4 := by
    unfold fs_ref
    rw [if_neg (by decide), if_neg (by decide), if_neg (by decide), if_neg (by decide), if_neg (by decide), if_neg (by decide), if_neg (by decide), if_pos rfl, e1, hC]
  have hdo : fs_do S 23 th time 0 0 0 σ = fs_cutS S th time (σ 47 0 1).toNat := by
    unfold fs_do
    rw [if_neg (by decide), if_neg (by decide), if_neg (by decide), if_neg (by decide), if_neg (by decide), if_neg (by decide), if_neg (by decide), if_pos rfl, e1]
  rw [href, hdo]
  refine t174_0 ?_
  generalize hE0 : fx_up σ 46 o 29 0 = τ0
  refine fx_whl (X := Int × fx_S) (fun y => [(46, o), (0, th), (0, time), (0, σ 47 0 1), (0, y.1), (3, 0)]) (fun y => y.2) (fun y => (0 ≤ y.1 ∧ y.1 ≤ σ 47 0 1) ∧ (∀ K p q, ¬ (K = 46 ∧ p = o ∧ q = 29) → y.2 K p q = σ K p q) ∧ y.2 46 o 29 = fs_cnt C y.1.toNat) (fun y => (σ 47 0 1 - y.1).toNat) ?_ (0, τ0) ⟨⟨by simp, hn.2.1⟩, fun K p q hK => by simp only; rw [← hE0, fx_upE, if_neg hK], by simp only; rw [← hE0, fx_upS]; rfl⟩
  rintro ⟨f, τ⟩ ⟨⟨f0, f1⟩, hf, hc⟩ ih
  simp only at f0 f1 hf hc
  show fx_Wp 174 15 [(46, o), (0, th), (0, time), (0, σ 47 0 1), (0, f), (3, 0)] [] τ _
  have hSτ : fs_m τ 47 0 = S := (fs_m_c (fun p => hf 47 0 p (by omega))).trans hS
  have hcb := fs_cnt_b C f f0
  rw [← hc] at hcb
  refine t174_15 ⟨fun a => ?_, fun a => ?_⟩
  · have e : f = σ 47 0 1 := by omega
    rw [e] at hc
    rw [hc]
    refine ⟨fun b => ⟨⟨by omega, by omega⟩, fun d => ?_, fun d => ?_⟩, fun b => ?_⟩
    · rw [if_neg b, if_pos d]
      have hroom : S 0 1 0 + fs_cnt (fun f => fs_cut S f th time) (σ 47 0 1).toNat ≤ 60 := by rw [hC, e1]; exact d
      refine fx_whl (X := Int × fx_V × fx_S) (fun y => [(46, o), (0, th), (0, time), (0, σ 47 0 1), (0, y.1), y.2.1]) (fun y => y.2.2) (fun y => (0 ≤ y.1 ∧ y.1 ≤ σ 47 0 1) ∧ (∀ K p q, ¬ (K = 47 ∨ (K = 46 ∧ p = o ∧ q = 29)) → y.2.2 K p q = σ K p q) ∧ y.2.2 46 o 29 = fs_cnt C (σ 47 0 1).toNat ∧ fs_eq (fs_cutS S th time y.1.toNat) (fs_m y.2.2 47 0)) (fun y => (σ 47 0 1 - y.1).toNat) ?_ (0, (3, 0), τ) ⟨⟨by simp, hn.2.1⟩, fun K p q hK => by simp only; exact hf K p q (by omega), hc, by simp only; rw [hSτ]; exact fs_eq.rfl⟩
      clear ih hf hc hSτ e a
      rintro ⟨g, w, τ⟩ ⟨⟨g0, g1⟩, hf, hc, he⟩ ih
      simp only at g0 g1 hf hc he
      show fx_Wp 174 78 [(46, o), (0, th), (0, time), (0, σ 47 0 1), (0, g), w] [] τ _
      have hgg : ((g.toNat : Nat) : Int) = g := by omega
      have hs := fs_cnt_s (fun f => fs_cut S f th time) g0
      have hbb := fs_b01 (fs_cut S g th time)
      have hroomg : S 0 1 0 + fs_cnt (fun f => fs_cut S f th time) g.toNat ≤ 60 := by
        have := fs_cnt_mono (fun f => fs_cut S f th time) (show g.toNat ≤ (σ 47 0 1).toNat by omega)
        omega
      obtain ⟨p1, p2, p3, p4⟩ := fs_cutS_p ho h1 h2 g.toNat (by omega) hroomg
      have hok := he.ok p1
      have hle := (fs_cnt_le (fun f => fs_cut S f th time) g.toNat).1
      have hcn : τ 47 0 1 = S 0 1 0 + fs_cnt (fun f => fs_cut S f th time) g.toNat := by
        have := he.2.1
        rw [p3] at this
        exact this.symm
      refine t174_78 ⟨fun a => ?_, fun a => ?_⟩
      · rw [show g = σ 47 0 1 by omega] at he
        exact ⟨rfl, hf, hc, fun _ => he, fun z => absurd rfl z⟩
      · have hm := fs_cnt_mono (fun f => fs_cut S f th time) (show (g + 1).toNat ≤ (σ 47 0 1).toNat by omega)
        have hrest := p4 g (by omega) (by omega)
        have hek := he.2.2.2.1 g g0 (by rw [p3]; omega)
        obtain ⟨k3, k4, k5, k6, k7, k8⟩ := hek
        have ecut : fs_cut (fs_m τ 47 0) g th time = fs_cut S g th time := fs_cut_c (by rw [← k3, hrest.1]) (by rw [← k8, hrest.2.2.2.2.2]) (by rw [← k5, hrest.2.2.1]) (by rw [← k6, hrest.2.2.2.1])
        have ecut2 : fs_cut (fs_cutS S th time g.toNat) g th time = fs_cut S g th time := fs_cut_c hrest.1 hrest.2.2.2.2.2 hrest.2.2.1 hrest.2.2.2.1
        have estep : fs_cutS S th time (g + 1).toNat = if fs_cut S g th time then fx_up (fs_fct (fs_cutS S th time g.toNat) th (fs_cutS S th time g.toNat 4 g 0) time (fs_cutS S th time g.toNat 6 g 0) (fs_cutS S th time g.toNat 7 g 0)) 6 g 0 time else fs_cutS S th time g.toNat := by
          have e : (g + 1).toNat = g.toNat + 1 := by omega
          rw [e, fs_cutS, hgg, ecut2]
        refine (c173 g0 (by omega)).I ?_
        rw [ecut]
        refine ⟨fun b => ?_, fun b => ⟨⟨by omega, by omega⟩, ih (g + 1, w, τ) ⟨⟨by simp only; omega, by simp only; omega⟩, hf, hc, ?_⟩ (by simp only; omega)⟩⟩
        · have hct := fs_b1.mp b
          rw [if_pos hct] at estep
          have hcutv : S 5 g 0 < time ∧ time < S 6 g 0 := by
            unfold fs_cut at hct
            simp only [Bool.and_eq_true, decide_eq_true_eq] at hct
            omega
          have hSg := ho.2.2.2.1 g g0 (by omega)
          refine (c151b g0 (by omega)).I ((c151d g0 (by omega)).I ((c151e g0 (by omega)).I (fx_CI_of (c169 hok) ?_)))
          rintro v ρ ⟨rfl, r1, r2, r3⟩
          rw [← k4, ← k6, ← k7] at r2
          rw [← k4, ← k6]
          have hb1 : fs_b (fs_cut S g th time) = 1 := fs_bT hct
          have hr0 : fs_ref (fs_m τ 47 0) 18 th (fs_cutS S th time g.toNat 4 g 0) time (fs_cutS S th time g.toNat 6 g 0) = 0 := by
            have q0 : fs_m τ 47 0 0 0 0 = S 0 0 0 := he.1.symm.trans p2
            have q1 : fs_m τ 47 0 0 1 0 = τ 47 0 1 := rfl
            unfold fs_ref
            rw [if_neg (by decide), if_neg (by decide), if_pos rfl, q0, q1, hrest.2.1, hrest.2.2.2.1, if_pos (by omega), if_pos (by omega), if_pos (by omega)]
          have r2 := r2 hr0
          have hdo18 : fs_do (fs_m τ 47 0) 18 th (fs_cutS S th time g.toNat 4 g 0) time (fs_cutS S th time g.toNat 6 g 0) (fs_cutS S th time g.toNat 7 g 0) τ = fs_fct (fs_m τ 47 0) th (fs_cutS S th time g.toNat 4 g 0) time (fs_cutS S th time g.toNat 6 g 0) (fs_cutS S th time g.toNat 7 g 0) := by
            unfold fs_do
            rw [if_neg (by decide), if_neg (by decide), if_pos rfl]
          rw [hdo18] at r2
          have hfok : fs_ok (fs_fct (fs_cutS S th time g.toNat) th (fs_cutS S th time g.toNat 4 g 0) time (fs_cutS S th time g.toNat 6 g 0) (fs_cutS S th time g.toNat 7 g 0)) := by
            refine fs_fct_ok p1 (by omega) h1 ?_ ?_ ?_
            · rw [hrest.2.1, p2]; omega
            · rw [hrest.2.2.2.1]; omega
            · rw [hrest.2.2.2.2.1]; omega
          have heq := (fs_fct_c he (th := th) (s := fs_cutS S th time g.toNat 4 g 0) (a := time) (b := fs_cutS S th time g.toNat 6 g 0) (v := fs_cutS S th time g.toNat 7 g 0)).trans r2
          have hρok := heq.ok hfok
          have hρ1 : ρ 47 0 1 = τ 47 0 1 + 1 := by
            have := r2.2.1
            have q1 : fs_fct (fs_m τ 47 0) th (fs_cutS S th time g.toNat 4 g 0) time (fs_cutS S th time g.toNat 6 g 0) (fs_cutS S th time g.toNat 7 g 0) 0 1 0 = τ 47 0 1 + 1 := by simp [fs_fct, fx_up, fs_m]
            rw [q1] at this
            exact this.symm
          refine Or.inl ⟨rfl, ⟨by omega, by omega⟩, ⟨by omega, by omega⟩, ⟨by omega, by omega⟩, ⟨by omega, by omega⟩, ⟨by omega, by omega⟩, ?_⟩
          have hup := fs_up_mm (σ := ρ) hρok (kk := 6) (a := g) (v := time) (pos := 18 + 6 * g + 3) (Or.inr (Or.inl ⟨rfl, rfl, g0, by omega⟩))
          generalize hE5 : fx_up ρ 47 0 (18 + 6 * g + 3) time = ρ5 at hup
          refine ih (g + 1, _, ρ5) ⟨⟨by simp only; omega, by simp only; omega⟩, fun K p q hK => ?_, ?_, ?_⟩ (by simp only; omega)
          · simp only
            rw [← hE5, fx_upE, if_neg (by omega), r1 K p q (by omega)]; exact hf K p q hK
          · simp only
            rw [← hE5, fx_upK rfl, r1 46 o 29 (by omega)]; exact hc
          · simp only
            rw [estep]
            exact (fs_up6_c heq).trans hup
        · simp only
          rw [estep, fs_b0.mp b]
          exact he
    · rw [if_neg b, if_neg (by omega)]
      exact ⟨rfl, fun K p q hK => hf K p q (by omega), rfl, fun z => absurd z (by decide), fun _ q => hf 47 0 q (by omega)⟩
    · rw [if_pos b]
      exact ⟨rfl, fun K p q hK => hf K p q (by omega), rfl, fun z => absurd z (by decide), fun _ q => hf 47 0 q (by omega)⟩
  · have h173 := c173 (σ := τ) (o := o) (th := th) (time := time) f0 (show f < 60 by omega)
    rw [hSτ, hCf] at h173
    have hcs := fs_cnt_s C f0
    have step : ∀ ρ : fx_S, (∀ K p q, ¬ (K = 46 ∧ p = o ∧ q = 29) → ρ K p q = τ K p q) → ρ 46 o 29 = fs_cnt C (f + 1).toNat → fx_Wp 174 15 [(46, o), (0, th), (0, time), (0, σ 47 0 1), (0, f + 1), (3, 0)] [] ρ _ := fun ρ r1 r2 => ih (f + 1, ρ) ⟨⟨by simp only; omega, by simp only; omega⟩, fun K p q hK => by simp only; rw [r1 K p q hK]; exact hf K p q hK, r2⟩ (by simp only; omega)
    refine h173.I ⟨fun b => ⟨⟨by omega, by omega⟩, ⟨by omega, by omega⟩, step _ (fun K p q hK => by rw [fx_upE, if_neg hK]) ?_⟩, fun b => ⟨⟨by omega, by omega⟩, ⟨by omega, by omega⟩, step _ (fun K p q hK => by rw [fx_upE, if_neg hK]) ?_⟩⟩
    · rw [fx_upS, hcs, b, hc]
    · rw [fx_upS, hcs, fs_bT (fs_b1.mp b), hc]
theorem c176 : fx_Rt 176 [(46, o)] σ (4, 0) (fx_fill σ 48 0 1130 (fun p => σ 47 0 p)) := by
  refine t176_0 ?_
  have m := fun Q I => fx_for (mi := 176) (pc := 2) (Q := Q) (fun k => [(46, o), (0, k)]) (fun k => fx_fill σ 48 0 k (fun p => σ 47 0 p)) 0 1130 I
  simp only [fx_fill0] at m
  refine m _ (fun k => 0 ≤ k) (by omega) (by omega) ?_ ?_
  · intro k k0 k1 _ ih
    have ih := ih (by omega)
    rw [← fx_fill_s (f := fun p => σ 47 0 p) (v := σ 47 0 k) k0 rfl (fun _ _ _ => rfl)] at ih
    refine t176_2 ⟨fun a => by omega, fun a => ⟨⟨k0, a⟩, ⟨by omega, by omega⟩, ?_⟩⟩
    rw [fx_fillK (K := 48) (K' := 47) rfl]
    exact ih
  · intro _
    exact t176_2 ⟨fun a => ⟨rfl, rfl⟩, fun a => by omega⟩
/-- how many are remembered then, and what -/
def fs_rem (o : Int) (σ τ : fx_S) : Prop := τ 46 o 5 = (if σ 46 o 5 = 8 then 8 else σ 46 o 5 + 1) ∧ (∀ p, 0 ≤ p → p < 1130 → τ 50 0 (1130 * (τ 46 o 5 - 1) + p) = σ 48 0 p) ∧ ∀ j p, 0 ≤ j → j < τ 46 o 5 - 1 → 0 ≤ p → p < 1130 → τ 50 0 (1130 * j + p) = σ 50 0 (1130 * (if σ 46 o 5 = 8 then j + 1 else j) + p)
theorem c177 (h0 : 0 ≤ σ 46 o 5) (h8 : σ 46 o 5 ≤ 8) : fx_Ca 177 [(46, o)] σ (fun v τ => v = (4, 0) ∧ (∀ K p q, ¬ (K = 50 ∨ (K = 46 ∧ p = o ∧ q = 5)) → τ K p q = σ K p q) ∧ fs_rem o σ τ) := by
  have tail : ∀ (ρ : fx_S) (u : Int), 0 ≤ u → u < 8 → ρ 46 o 5 = u → (∀ K p q, ¬ (K = 50 ∨ (K = 46 ∧ p = o ∧ q = 5)) → ρ K p q = σ K p q) → (u + 1 = if σ 46 o 5 = 8 then 8 else σ 46 o 5 + 1) → (∀ j p, 0 ≤ j → j < u → 0 ≤ p → p < 1130 → ρ 50 0 (1130 * j + p) = σ 50 0 (1130 * (if σ 46 o 5 = 8 then j + 1 else j) + p)) → fx_Wp 177 52 [(46, o), (0, 0)] [] ρ (fun v τ => v = (4, 0) ∧ (∀ K p q, ¬ (K = 50 ∨ (K = 46 ∧ p = o ∧ q = 5)) → τ K p q = σ K p q) ∧ fs_rem o σ τ) := by
    intro ρ u u0 u1 hu hfr hu1 hold
    refine fx_whl (X := Int × fx_S) (fun y => [(46, o), (0, y.1)]) (fun y => y.2) (fun y => (0 ≤ y.1 ∧ y.1 ≤ 1130) ∧ (∀ K p q, ¬ (K = 50 ∧ p = 0 ∧ 1130 * u ≤ q) → y.2 K p q = ρ K p q) ∧ ∀ p, 0 ≤ p → p < y.1 → y.2 50 0 (1130 * u + p) = σ 48 0 p) (fun y => (1130 - y.1).toNat) ?_ (0, ρ) ⟨⟨by simp, by simp⟩, fun _ _ _ _ => rfl, fun p p0 p1 => by simp only at p1; omega⟩
    rintro ⟨k, τ⟩ ⟨⟨k0, k1⟩, hf, hp⟩ ih
    simp only at k0 k1 hf hp
    show fx_Wp 177 52 [(46, o), (0, k)] [] τ _
    have e5 : τ 46 o 5 = u := (hf 46 o 5 (by omega)).trans hu
    refine t177_52 ?_
    rw [e5]
    refine ⟨fun a => ⟨⟨by omega, by omega⟩, ?_⟩, fun a => ⟨⟨by omega, by omega⟩, ⟨by omega, by omega⟩, ⟨by omega, by omega⟩, ⟨by omega, by omega⟩, ⟨by omega, by omega⟩, ?_⟩⟩
    · generalize hE : fx_up τ 46 o 5 (u + 1) = τ'
      have e : τ' 46 o 5 = u + 1 := by rw [← hE, fx_upS]
      have t50 : ∀ q, τ' 50 0 q = τ 50 0 q := fun q => by rw [← hE, fx_upK rfl]
      refine ⟨rfl, fun K p q hK => ?_, ?_, fun p p0 p1 => ?_, fun j p j0 j1 p0 p1 => ?_⟩
      · rw [← hE, fx_upE, if_neg (by omega), hf K p q (by omega)]; exact hfr K p q hK
      · rw [e]; exact hu1
      · rw [e, t50, show u + 1 - 1 = u by omega]; exact hp p p0 (by omega)
      · rw [e] at j1
        rw [t50, hf 50 0 _ (by omega)]; exact hold j p j0 (by omega) p0 p1
    · rw [hf 48 0 k (by omega), hfr 48 0 k (by omega)]
      generalize hE : fx_up τ 50 0 (1130 * u + k) (σ 48 0 k) = τ'
      refine ih (k + 1, τ') ⟨⟨by simp only; omega, by simp only; omega⟩, fun K p q hK => ?_, fun p p0 p1 => ?_⟩ (by simp only; omega)
      · simp only
        rw [← hE, fx_upE, if_neg (by omega)]; exact hf K p q hK
      · simp only at p1 ⊢
        rw [← hE]
        by_cases e : p = k
        · rw [e, fx_upS]
        · rw [fx_upJ (by omega)]; exact hp p p0 (by omega)
  refine t177_0 ⟨fun a => ?_, fun a => ?_⟩
  · exact tail σ (σ 46 o 5) h0 (by omega) rfl (fun _ _ _ _ => rfl) (by rw [if_neg a]) (fun j p _ _ _ _ => by rw [if_neg a])
  · refine fx_whl (X := Int × fx_S) (fun y => [(46, o), (0, y.1)]) (fun y => y.2) (fun y => (0 ≤ y.1 ∧ y.1 ≤ 7910) ∧ (∀ K p q, K ≠ 50 → y.2 K p q = σ K p q) ∧ (∀ q, y.1 ≤ q → y.2 50 0 q = σ 50 0 q) ∧ ∀ q, 0 ≤ q → q < y.1 → y.2 50 0 q = σ 50 0 (q + 1130)) (fun y => (7910 - y.1).toNat) ?_ (0, σ) ⟨⟨by simp, by simp⟩, fun _ _ _ _ => rfl, fun _ _ => rfl, fun p p0 p1 => by simp only at p1; omega⟩
    rintro ⟨k, τ⟩ ⟨⟨k0, k1⟩, hf, hg, hp⟩ ih
    simp only at k0 k1 hf hg hp
    show fx_Wp 177 11 [(46, o), (0, k)] [] τ _
    have e5 : τ 46 o 5 = 8 := (hf 46 o 5 (by omega)).trans a
    refine t177_11 ?_
    rw [e5]
    refine ⟨fun b => ⟨⟨by omega, by omega⟩, tail _ 7 (by omega) (by omega) (by rw [fx_upS]; rfl) (fun K p q hK => by rw [fx_upE, if_neg (by omega)]; exact hf K p q (by omega)) (by rw [if_pos a]; rfl) (fun j p j0 j1 p0 p1 => ?_)⟩, fun b => ⟨⟨by omega, by omega⟩, ⟨by omega, by omega⟩, ⟨by omega, by omega⟩, ⟨by omega, by omega⟩, ?_⟩⟩
    · rw [fx_upK rfl, hp (1130 * j + p) (by omega) (by omega), if_pos a]
      congr 1
      omega
    · rw [hg (k + 1130) (by omega)]
      generalize hE : fx_up τ 50 0 k (σ 50 0 (k + 1130)) = τ'
      refine ih (k + 1, τ') ⟨⟨by simp only; omega, by simp only; omega⟩, fun K p q hK => ?_, fun q q0 => ?_, fun q q0 q1 => ?_⟩ (by simp only; omega)
      · simp only
        rw [← hE, fx_upE, if_neg (fun e => hK e.1)]; exact hf K p q hK
      · simp only at q0 ⊢
        rw [← hE, fx_upJ (by omega)]; exact hg q (by omega)
      · simp only at q1 ⊢
        rw [← hE]
        by_cases e : q = k
        · rw [e, fx_upS]
        · rw [fx_upJ e]; exact hp q q0 (by omega)
theorem c178 (h0 : 0 ≤ σ 46 o 5) (h8 : σ 46 o 5 ≤ 8) {c e : Int} (hc : 0 ≤ c) : fx_Ca 178 [(46, o), (0, c), (0, e)] σ (fun v τ => v = (0, if c = 0 then 1 else 0) ∧ (∀ K p q, ¬ (K = 50 ∨ (K = 46 ∧ p = o ∧ (q = 0 ∨ q = 5 ∨ q = 7))) → τ K p q = σ K p q) ∧ τ 46 o 7 = c ∧ τ 46 o 0 = (if c = 0 then 0 else e) ∧ (c = 0 → fs_rem o σ τ) ∧ (c ≠ 0 → τ 46 o 5 = σ 46 o 5 ∧ ∀ q, τ 50 0 q = σ 50 0 q)) := by
  by_cases hz : c = 0
  · subst hz
    refine t178_0 ⟨fun _ => ⟨fun a => absurd rfl a, fun _ => ?_⟩, fun a => by omega⟩
    generalize hE : fx_up (fx_up σ 46 o 7 0) 46 o 0 0 = ρ
    have hρ : ∀ K p q, ¬ (K = 46 ∧ p = o ∧ (q = 0 ∨ q = 7)) → ρ K p q = σ K p q := fun K p q hK => by rw [← hE, fx_upE, if_neg (by omega), fx_upE, if_neg (by omega)]
    have h5 : ρ 46 o 5 = σ 46 o 5 := hρ 46 o 5 (by omega)
    refine fx_CV_of (c177 (σ := ρ) (o := o) (by omega) (by omega)) ?_
    rintro v τ ⟨rfl, g1, g2⟩
    refine Or.inl ⟨rfl, fun a => absurd rfl a, fun _ => ⟨by rw [if_pos rfl], fun K p q hK => ?_, ?_, ?_, fun _ => ?_, fun a => absurd rfl a⟩⟩
    · rw [g1 K p q (by omega), hρ K p q (by omega)]
    · rw [g1 46 o 7 (by omega), ← hE, fx_upJ (by omega), fx_upS]
    · rw [g1 46 o 0 (by omega), ← hE, fx_upS, if_pos rfl]
    · obtain ⟨r1, r2, r3⟩ := g2
      rw [h5] at r1
      refine ⟨r1, fun p p0 p1 => by rw [r2 p p0 p1, hρ 48 0 p (by omega)], fun j p j0 j1 p0 p1 => by rw [r3 j p j0 j1 p0 p1, h5, hρ 50 0 _ (by omega)]⟩
  · refine t178_0 ⟨fun a => by omega, fun _ => ⟨fun _ => ⟨fun _ => ⟨by rw [if_neg hz], fun K p q hK => ?_, ?_, ?_, fun a => absurd a hz, fun _ => ⟨?_, fun q => ?_⟩⟩, fun a => absurd a hz⟩, fun a => absurd a hz⟩⟩
    · rw [fx_upE, if_neg (by omega), fx_upE, if_neg (by omega)]
    · rw [fx_upJ (by omega), fx_upS]
    · rw [fx_upS, if_neg hz]
    · rw [fx_upJ (by omega), fx_upJ (by omega)]
    · rw [fx_upK rfl, fx_upK rfl]
end FXM
