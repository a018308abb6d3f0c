/-- copied rows -/
def fx_cp (σ : fx_S) (lo hi : Nat) (i j n : Int) : fx_S := fun K o p => if lo ≤ K ∧ K ≤ hi ∧ o = i ∧ 0 ≤ p ∧ p < n then σ K j p else σ K o p
theorem fx_cp0 {σ : fx_S} {lo hi : Nat} {i j : Int} : fx_cp σ lo hi i j 0 = σ := by
  funext K o p
  unfold fx_cp
  rw [if_neg (by omega)]
theorem fx_cpK {σ : fx_S} {lo hi K : Nat} {i j n o p : Int} (h : K < lo ∨ hi < K) : fx_cp σ lo hi i j n K o p = σ K o p := if_neg (by omega)
theorem fx_cpP {σ : fx_S} {lo hi K : Nat} {i j n o p : Int} (h : n ≤ p) : fx_cp σ lo hi i j n K o p = σ K o p := if_neg (by omega)
theorem fx_cpI {σ : fx_S} {lo hi K : Nat} {i j n o p : Int} (h : lo ≤ K ∧ K ≤ hi) (h0 : 0 ≤ p) (h1 : p < n) : fx_cp σ lo hi i j n K i p = σ K j p := if_pos ⟨h.1, h.2, rfl, h0, h1⟩
theorem fx_cpO {σ : fx_S} {lo hi K : Nat} {i j n o p : Int} (h : o ≠ i) : fx_cp σ lo hi i j n K o p = σ K o p := if_neg (fun e => h e.2.2.1)
theorem fx_upE {σ : fx_S} {K K' : Nat} {i j v i' j' : Int} : fx_up σ K i j v K' i' j' = if K' = K ∧ i' = i ∧ j' = j then v else σ K' i' j' := rfl
theorem fx_cpE {σ : fx_S} {lo hi K : Nat} {i j n o p : Int} : fx_cp σ lo hi i j n K o p = if lo ≤ K ∧ K ≤ hi ∧ o = i ∧ 0 ≤ p ∧ p < n then σ K j p else σ K o p := rfl
section FXC
variable {σ : fx_S} {i j : Int}
theorem c4 {r : Int} : fx_Rt 4 [(22, r)] σ (4, 0) (fx_up (fx_up (fx_up σ 22 r 3 0) 22 r 4 0) 22 r 5 0) := t4_0 ⟨rfl, rfl⟩
theorem c5 (hn : σ 22 j 3 ≤ 23) (h0 : 0 ≤ σ 22 j 3) : fx_Rt 5 [(22, i), (22, j)] σ (4, 0) (fx_up (fx_up (fx_up (fx_cp σ 23 25 i j (σ 22 j 3)) 22 i 3 (σ 22 j 3)) 22 i 4 (σ 22 j 4)) 22 i 5 (σ 22 j 5)) := by
  refine t5_0 ?_
  have main := fx_for (mi := 5) (pc := 2) (Q := fun v t => v = (4, 0) ∧ t = fx_up (fx_up (fx_up (fx_cp σ 23 25 i j (σ 22 j 3)) 22 i 3 (σ 22 j 3)) 22 i 4 (σ 22 j 4)) 22 i 5 (σ 22 j 5)) (fun k => [(22, i), (22, j), (0, k)]) (fun k => fx_cp σ 23 25 i j k) 0 (σ 22 j 3) (fun _ => True) h0 trivial
  simp only [fx_cp0] at main
  refine main ?_ ?_
  · intro k h0 h1 _ ih
    have ih := ih trivial
    refine t5_2 ⟨fun a => ?_, fun a => ⟨by omega, ⟨by omega, by omega⟩, ?_⟩⟩
    · rw [fx_cpK (by omega)] at a; omega
    · have e : fx_up (fx_up (fx_up (fx_cp σ 23 25 i j k) 23 i k (fx_cp σ 23 25 i j k 23 j k)) 24 i k (fx_cp σ 23 25 i j k 24 j k)) 25 i k (fx_cp σ 23 25 i j k 25 j k) = fx_cp σ 23 25 i j (k + 1) := by
        rw [fx_cpP (Int.le_refl _), fx_cpP (Int.le_refl _), fx_cpP (Int.le_refl _)]
        funext K o p
        unfold fx_up fx_cp
        grind
      rw [e]
      exact ih
  · intro _
    refine t5_2 ⟨fun a => ⟨rfl, ?_⟩, fun a => ?_⟩
    · rw [fx_cpK (by omega), fx_cpK (by omega), fx_cpK (by omega)]
    · rw [fx_cpK (by omega)] at a; omega
theorem fx_cpS2 {k : Int} (hk : 0 ≤ k) : fx_up (fx_up (fx_cp σ 13 14 i j k) 13 i k (σ 13 j k)) 14 i k (σ 14 j k) = fx_cp σ 13 14 i j (k + 1) := by
  funext K o p
  unfold fx_up fx_cp
  grind
theorem fx_cpS6 {k : Int} (hk : 0 ≤ k) : fx_up (fx_up (fx_up (fx_up (fx_up (fx_up (fx_cp σ 15 20 i j k) 15 i k (σ 15 j k)) 16 i k (σ 16 j k)) 17 i k (σ 17 j k)) 18 i k (σ 18 j k)) 19 i k (σ 19 j k)) 20 i k (σ 20 j k) = fx_cp σ 15 20 i j (k + 1) := by
  funext K o p
  unfold fx_up fx_cp
  grind
def fs_ru (K : Nat) (o i : Int) : Prop := 22 ≤ K ∧ K ≤ 25 ∧ 8 * i ≤ o ∧ o < 8 * i + 8
theorem c23r (S : fx_S) (hij : i ≠ j) (hr : ∀ t, 0 ≤ t → t < 8 → 0 ≤ S 22 (8 * j + t) 3 ∧ S 22 (8 * j + t) 3 ≤ 23) (Q : fx_V → fx_S → Prop)
    (hQ : ∀ τ : fx_S, (∀ K o p, ¬ fs_ru K o i → τ K o p = S K o p) → (∀ t, 0 ≤ t → t < 8 → (τ 22 (8 * i + t) 3 = S 22 (8 * j + t) 3 ∧ τ 22 (8 * i + t) 4 = S 22 (8 * j + t) 4 ∧ τ 22 (8 * i + t) 5 = S 22 (8 * j + t) 5) ∧ ∀ p, 0 ≤ p → p < S 22 (8 * j + t) 3 → τ 23 (8 * i + t) p = S 23 (8 * j + t) p ∧ τ 24 (8 * i + t) p = S 24 (8 * j + t) p ∧ τ 25 (8 * i + t) p = S 25 (8 * j + t) p) → Q (4, 0) τ) :
    fx_Wp 23 144 [(11, i), (11, j), (0, 0)] [] S Q := by
  refine fx_whl (X := Int × fx_S) (fun x => [(11, i), (11, j), (0, x.1)]) (fun x => x.2) (fun x => 0 ≤ x.1 ∧ x.1 ≤ 8 ∧ (∀ K o p, ¬ fs_ru K o i → x.2 K o p = S K o p) ∧ ∀ t, 0 ≤ t → t < x.1 → (x.2 22 (8 * i + t) 3 = S 22 (8 * j + t) 3 ∧ x.2 22 (8 * i + t) 4 = S 22 (8 * j + t) 4 ∧ x.2 22 (8 * i + t) 5 = S 22 (8 * j + t) 5) ∧ ∀ p, 0 ≤ p → p < S 22 (8 * j + t) 3 → x.2 23 (8 * i + t) p = S 23 (8 * j + t) p ∧ x.2 24 (8 * i + t) p = S 24 (8 * j + t) p ∧ x.2 25 (8 * i + t) p = S 25 (8 * j + t) p) (fun x => (8 - x.1).toNat) ?_ (0, S) ⟨Int.le_refl _, (by omega : (0 : Int) ≤ 8), fun _ _ _ _ => rfl, fun t h0 h1 => absurd h1 (by simp only; omega)⟩
  rintro ⟨k, τ⟩ ⟨h0, h1, hf, ht⟩ ih
  simp only at h0 h1 hf ht
  show fx_Wp 23 144 [(11, i), (11, j), (0, k)] [] τ _
  refine t23_144 ⟨fun a => ?_, fun a => ⟨by omega, ?_⟩⟩
  · exact hQ τ hf (fun t g0 g1 => ht t g0 (by omega))
  · have hj : ∀ K p, 22 ≤ K → K ≤ 25 → τ K (8 * j + k) p = S K (8 * j + k) p := fun K p _ _ => hf K _ p (by unfold fs_ru; omega)
    have hr' := hr k h0 a
    have e1 : 8 * i + 0 + k = 8 * i + k := by omega
    have e2 : 8 * j + 0 + k = 8 * j + k := by omega
    rw [e1, e2]
    refine (c5 (i := 8 * i + k) (j := 8 * j + k) (by rw [hj 22 3 (by omega) (by omega)]; omega) (by rw [hj 22 3 (by omega) (by omega)]; omega)).V ⟨⟨by omega, by omega⟩, ?_⟩
    rw [hj 22 3 (by omega) (by omega), hj 22 4 (by omega) (by omega), hj 22 5 (by omega) (by omega)]
    generalize hE : fx_up _ 22 (8 * i + k) 5 _ = τ'
    refine ih (k + 1, τ') ⟨by simp only; omega, by simp only; omega, ?_, ?_⟩ (by simp only; omega)
    · intro K o p hn
      simp only
      rw [← hf K o p hn]
      unfold fs_ru at hn
      clear ih hf ht hr hQ hj hr'
      simp only [← hE]
      simp only [fx_upE, fx_cpE]
      grind
    · intro t g0 g1
      simp only at g1 ⊢
      by_cases e : t = k
      · subst e
        refine ⟨?_, fun p p0 p1 => ?_⟩
        · clear ih hf ht hr hQ hj hr'
          simp only [← hE]
          simp only [fx_upE, fx_cpE]
          grind
        · have a3 := hj 23 p (by omega) (by omega)
          have a4 := hj 24 p (by omega) (by omega)
          have a5 := hj 25 p (by omega) (by omega)
          clear ih hf ht hr hQ hj hr'
          simp only [← hE]
          simp only [fx_upE, fx_cpE]
          grind
      · obtain ⟨b1, b2⟩ := ht t g0 (by omega)
        refine ⟨?_, fun p p0 p1 => ?_⟩
        · clear ih hf ht hr hQ hj hr' b2
          simp only [← hE]
          simp only [fx_upE, fx_cpE]
          grind
        · have b3 := b2 p p0 p1
          clear ih hf ht hr hQ hj hr' b2
          simp only [← hE]
          simp only [fx_upE, fx_cpE]
          grind
theorem c23 (hij : i ≠ j) (ho : fs_ok (fs_c σ j)) (hb : fx_bw σ) : fx_Ca 23 [(11, i), (11, j)] σ (fun v σ' => v = (4, 0) ∧ fs_fr i σ σ' ∧ fs_eq (fs_c σ j) (fs_c σ' i) ∧ ∀ t, 0 ≤ t → t < 8 → σ' 22 (8 * i + t) 5 = σ 22 (8 * j + t) 5) := by
  have hn := fs_cn ho
  refine t23_0 ?_
  have m1 := fun Q I => fx_for (mi := 23) (pc := 10) (Q := Q) (fun k => [(11, i), (11, j), (0, k)]) (fun k => fx_cp (fx_up σ 11 i 9 (σ 11 j 9)) 13 14 i j k) 0 8 I
  simp only [fx_cp0] at m1
  refine m1 _ (fun k => 0 ≤ k) (by omega) (by omega) ?_ ?_
  · intro k h0 h1 _ ih
    have ih := ih (by omega)
    rw [← fx_cpS2 h0] at ih
    have hv : (fx_cp (fx_up σ 11 i 9 (σ 11 j 9)) 13 14 i j k) 14 j k = σ 14 j k := by
      rw [fx_cpO (fun e => hij e.symm)]; exact fx_upK rfl
    refine t23_10 ⟨fun a => by omega, fun a => ⟨by omega, ?_, ⟨by omega, by omega⟩, ?_⟩⟩
    · rw [hv]; exact (hb j k).1
    · rw [fx_cpO (fun e => hij e.symm), fx_cpO (fun e => hij e.symm)]; exact ih
  · intro _
    refine t23_10 ⟨fun a => ?_, fun a => by omega⟩
    have hv : (fx_cp (fx_up σ 11 i 9 (σ 11 j 9)) 13 14 i j 8) 11 j 10 = σ 11 j 10 := by
      rw [fx_cpK (by omega)]; exact fx_upJ (by omega)
    rw [hv]
    have m2 := fun Q I => fx_for (mi := 23) (pc := 56) (Q := Q) (fun k => [(11, i), (11, j), (0, k)]) (fun k => fx_cp (fx_up (fx_cp (fx_up σ 11 i 9 (σ 11 j 9)) 13 14 i j 8) 11 i 10 (σ 11 j 10)) 15 20 i j k) 0 (σ 11 j 10) I
    simp only [fx_cp0] at m2
    have hj : ∀ K p k, 13 ≤ K → fx_cp (fx_up (fx_cp (fx_up σ 11 i 9 (σ 11 j 9)) 13 14 i j 8) 11 i 10 (σ 11 j 10)) 15 20 i j k K j p = σ K j p := by
      intro K p k hK
      unfold fx_up fx_cp
      grind
    have h11 : ∀ k, fx_cp (fx_up (fx_cp (fx_up σ 11 i 9 (σ 11 j 9)) 13 14 i j 8) 11 i 10 (σ 11 j 10)) 15 20 i j k 11 j 10 = σ 11 j 10 := by
      intro k
      unfold fx_up fx_cp
      grind
    refine m2 _ (fun k => 0 ≤ k) (by omega) (by omega) ?_ ?_
    · intro k h0 h1 _ ih
      have ih := ih (by omega)
      rw [← fx_cpS6 h0] at ih
      have hj0 : ∀ K p, 13 ≤ K → (fx_up (fx_cp (fx_up σ 11 i 9 (σ 11 j 9)) 13 14 i j 8) 11 i 10 (σ 11 j 10)) K j p = σ K j p := by
        intro K p hK
        unfold fx_up fx_cp
        grind
      refine t23_56 ⟨fun a => ?_, fun a => ⟨by omega, ?_, ⟨by omega, by omega⟩, ?_⟩⟩
      · rw [h11] at a; omega
      · rw [hj 20 k k (by omega)]; exact (hb j k).2
      · rw [hj0 15 k (by omega), hj0 16 k (by omega), hj0 17 k (by omega), hj0 18 k (by omega), hj0 19 k (by omega), hj0 20 k (by omega)] at ih
        rw [hj 15 k k (by omega), hj 16 k k (by omega), hj 17 k k (by omega), hj 18 k k (by omega), hj 19 k k (by omega), hj 20 k k (by omega)]
        exact ih
    · intro _
      refine t23_56 ⟨fun a => ?_, fun a => ?_⟩
      · have hru : ∀ K o p, 22 ≤ K → fx_cp (fx_up (fx_cp (fx_up σ 11 i 9 (σ 11 j 9)) 13 14 i j 8) 11 i 10 (σ 11 j 10)) 15 20 i j (σ 11 j 10) K o p = σ K o p := by
          intro K o p hK
          unfold fx_up fx_cp
          grind
        have hfr : ∀ K o p, ¬ fs_at i K o → fx_cp (fx_up (fx_cp (fx_up σ 11 i 9 (σ 11 j 9)) 13 14 i j 8) 11 i 10 (σ 11 j 10)) 15 20 i j (σ 11 j 10) K o p = σ K o p := by
          intro K o p hK
          unfold fs_at at hK
          unfold fx_up fx_cp
          grind
        have h9 : fx_cp (fx_up (fx_cp (fx_up σ 11 i 9 (σ 11 j 9)) 13 14 i j 8) 11 i 10 (σ 11 j 10)) 15 20 i j (σ 11 j 10) 11 i 9 = σ 11 j 9 := by
          unfold fx_up fx_cp
          grind
        have h10 : fx_cp (fx_up (fx_cp (fx_up σ 11 i 9 (σ 11 j 9)) 13 14 i j 8) 11 i 10 (σ 11 j 10)) 15 20 i j (σ 11 j 10) 11 i 10 = σ 11 j 10 := by
          unfold fx_up fx_cp
          grind
        have h13 : ∀ s, 0 ≤ s → s < 8 → fx_cp (fx_up (fx_cp (fx_up σ 11 i 9 (σ 11 j 9)) 13 14 i j 8) 11 i 10 (σ 11 j 10)) 15 20 i j (σ 11 j 10) 13 i s = σ 13 j s ∧ fx_cp (fx_up (fx_cp (fx_up σ 11 i 9 (σ 11 j 9)) 13 14 i j 8) 11 i 10 (σ 11 j 10)) 15 20 i j (σ 11 j 10) 14 i s = σ 14 j s := by
          intro s s0 s1
          unfold fx_up fx_cp
          grind
        have h15 : ∀ K f, 15 ≤ K → K ≤ 20 → 0 ≤ f → f < σ 11 j 10 → fx_cp (fx_up (fx_cp (fx_up σ 11 i 9 (σ 11 j 9)) 13 14 i j 8) 11 i 10 (σ 11 j 10)) 15 20 i j (σ 11 j 10) K i f = σ K j f := by
          intro K f s0 s1 f0 f1
          unfold fx_up fx_cp
          grind
        have hbw : fx_bw (fx_cp (fx_up (fx_cp (fx_up σ 11 i 9 (σ 11 j 9)) 13 14 i j 8) 11 i 10 (σ 11 j 10)) 15 20 i j (σ 11 j 10)) := by
          intro o p
          have := hb o p
          have := hb j p
          unfold fx_up fx_cp
          grind
        generalize fx_cp (fx_up (fx_cp (fx_up σ 11 i 9 (σ 11 j 9)) 13 14 i j 8) 11 i 10 (σ 11 j 10)) 15 20 i j (σ 11 j 10) = S at hru hfr h9 h10 h13 h15 hbw ⊢
        refine c23r S hij (fun t t0 t1 => by rw [hru 22 _ 3 (by omega)]; exact (ho.2.2.2.2 t t0 t1).1) _ (fun τ hτ ht => ⟨rfl, ⟨fun K o p hK => ?_, fun _ => ?_⟩, ?_, fun t t0 t1 => ?_⟩)
        · rw [hτ K o p (fun e => hK (Or.inr e)), hfr K o p hK]
        · intro o p
          rw [hτ 14 o p (by unfold fs_ru; omega), hτ 20 o p (by unfold fs_ru; omega)]
          exact hbw o p
        · refine ⟨?_, ?_, fun s s0 s1 => ?_, fun f f0 f1 => ?_, fun t t0 t1 => ?_⟩
          · show σ 11 j 9 = τ 11 i 9
            rw [hτ 11 i 9 (by unfold fs_ru; omega), h9]
          · show σ 11 j 10 = τ 11 i 10
            rw [hτ 11 i 10 (by unfold fs_ru; omega), h10]
          · have e1 : s < σ 11 j 9 := s1
            show σ 13 j s = τ 13 i s ∧ σ 14 j s = τ 14 i s
            rw [hτ 13 i s (by unfold fs_ru; omega), hτ 14 i s (by unfold fs_ru; omega), (h13 s s0 (by omega)).1, (h13 s s0 (by omega)).2]
            exact ⟨rfl, rfl⟩
          · have e1 : f < σ 11 j 10 := f1
            show σ 15 j f = τ 15 i f ∧ σ 16 j f = τ 16 i f ∧ σ 17 j f = τ 17 i f ∧ σ 18 j f = τ 18 i f ∧ σ 19 j f = τ 19 i f ∧ σ 20 j f = τ 20 i f
            rw [hτ 15 i f (by unfold fs_ru; omega), hτ 16 i f (by unfold fs_ru; omega), hτ 17 i f (by unfold fs_ru; omega), hτ 18 i f (by unfold fs_ru; omega), hτ 19 i f (by unfold fs_ru; omega), hτ 20 i f (by unfold fs_ru; omega), h15 15 f (by omega) (by omega) f0 e1, h15 16 f (by omega) (by omega) f0 e1, h15 17 f (by omega) (by omega) f0 e1, h15 18 f (by omega) (by omega) f0 e1, h15 19 f (by omega) (by omega) f0 e1, h15 20 f (by omega) (by omega) f0 e1]
            exact ⟨rfl, rfl, rfl, rfl, rfl, rfl⟩
          · obtain ⟨⟨a1, a2, a3⟩, a4⟩ := ht t t0 t1
            rw [hru 22 _ _ (by omega)] at a1 a2 a3
            refine ⟨a1.symm, a2.symm, fun k k0 k1 => ?_⟩
            have := a4 k k0 (by rw [hru 22 _ _ (by omega)]; exact k1)
            rw [hru 23 _ _ (by omega), hru 24 _ _ (by omega), hru 25 _ _ (by omega)] at this
            exact ⟨this.1.symm, this.2.1.symm, fun _ => this.2.2.symm⟩
        · rw [(ht t t0 t1).1.2.2, hru 22 _ _ (by omega)]
      · rw [h11] at a; omega
end FXC
