theorem fs_cutp_mn {S : fx_S} {n : Int} {st pa : Int → Int} (hc : fs_cutp S n st pa) : ∀ p q : Int, 0 ≤ p → p ≤ q → q ≤ n → st p ≤ st q := by
  obtain ⟨h1, h2, h3, h4, h5, h6, h7⟩ := hc
  have mono : ∀ (k : Nat) (p : Int), 0 ≤ p → p + k ≤ n → st p ≤ st (p + k) := by
    intro k
    induction k with
    | zero => intro p p0 p1; simp
    | succ k ih =>
      intro p p0 p1
      have := ih p p0 (by omega)
      have := h6 (p + k) (by omega) (by omega)
      rw [show p + ((k + 1 : Nat) : Int) = p + k + 1 by omega]
      omega
  intro p q p0 pq qn
  have := mono (q - p).toNat p p0 (by omega)
  rwa [show p + (((q - p).toNat : Nat) : Int) = q by omega] at this
theorem fs_cutp_lt {S : fx_S} {n : Int} {st pa : Int → Int} (hc : fs_cutp S n st pa) {p q : Int} (p0 : 0 ≤ p) (pq : p < q) (qn : q ≤ n) : st p < st q := by
  have h1 := fs_cutp_mn hc (p + 1) q (by omega) (by omega) qn
  have h2 := (hc.2.2.2.2.2.1 p p0 (by omega)).2.1
  omega
theorem fs_cutp_in {S : fx_S} (ho : fs_ok S) {n : Int} {st pa : Int → Int} (hc : fs_cutp S n st pa) {f p : Int} (f0 : 0 ≤ f) (f1 : f < S 0 1 0) (p0 : 0 ≤ p) (p1 : p < n) : ((pa (S 5 f 0) ≤ p ↔ S 5 f 0 ≤ st p) ∧ (p < pa (S 6 f 0) ↔ st p < S 6 f 0)) ∧ 0 ≤ pa (S 5 f 0) ∧ pa (S 6 f 0) ≤ n := by
  have hf := (ho.2.2.2.1 f f0 f1).2.2.1
  have mn := fs_cutp_mn hc
  have lt := fun (a b : Int) (h : 0 ≤ a) => fs_cutp_lt hc (p := a) (q := b) h
  obtain ⟨h1, h2, h3, h4, h5, h6, h7⟩ := hc
  obtain ⟨e5, e6⟩ := h7 f f0 f1
  have a5 := h2 (S 5 f 0) (by omega) (by omega)
  have a6 : 0 ≤ pa (S 6 f 0) ∧ pa (S 6 f 0) ≤ n := by
    by_cases e : S 6 f 0 = 1000
    · rw [e, h4]; omega
    · have := h2 (S 6 f 0) (by omega) (by omega); omega
  refine ⟨⟨⟨fun h => ?_, fun h => ?_⟩, ⟨fun h => ?_, fun h => ?_⟩⟩, a5.1, a6.2⟩
  · have := mn _ _ a5.1 h (by omega); omega
  · apply Classical.byContradiction
    intro g
    have := lt p (pa (S 5 f 0)) p0 (by omega) (by omega)
    omega
  · have := lt p (pa (S 6 f 0)) p0 h a6.2
    omega
  · apply Classical.byContradiction
    intro g
    have := mn (pa (S 6 f 0)) p a6.1 (by omega) (by omega)
    omega
theorem fs_best_e {P : Int → Bool} {B : Int → Int → Bool} {m : Nat} : ∀ n : Nat, m ≤ n → (∀ k : Int, m ≤ k → k < n → P k = false) → fs_best P B n = fs_best P B m
  | 0, h, _ => by rw [show m = 0 by omega]
  | n + 1, h, hP => by
    by_cases e : m = n + 1
    · rw [e]
    · rw [fs_best, hP n (by omega) (by omega), fs_best_e n (by omega) (fun k k0 k1 => hP k k0 (by omega))]
      simp
theorem fs_best_no {P : Int → Bool} {B : Int → Int → Bool} {k : Int} (hk : 0 ≤ k) (h : P k = false) : fs_best P B (k + 1).toNat = fs_best P B k.toNat := by
  rw [fs_best_s _ _ hk, h]
  simp
/-- all but rows lo .. hi - 1 of a kind is as it was -/
def fs_kr (K0 : Nat) (lo hi : Int) (σ ρ : fx_S) : Prop := ∀ K o p, ¬ (K = K0 ∧ lo ≤ o ∧ o < hi) → ρ K o p = σ K o p
/-- all but what draw writes is as it was -/
def fs_lw (l : Int) (σ ρ : fx_S) : Prop := ∀ K o p, ¬ ((((36 ≤ K ∧ K ≤ 39) ∨ (44 ≤ K ∧ K ≤ 45)) ∧ o = l) ∨ ((K = 41 ∨ K = 43) ∧ 8 * l ≤ o ∧ o < 8 * l + 8)) → ρ K o p = σ K o p
theorem fs_lw.rfl {l : Int} {σ : fx_S} : fs_lw l σ σ := fun _ _ _ _ => Eq.refl _
theorem fs_lw.trans {l : Int} {σ τ ρ : fx_S} (h : fs_lw l σ τ) (g : fs_lw l τ ρ) : fs_lw l σ ρ := fun K o p hK => (g K o p hK).trans (h K o p hK)
theorem fs_c_of {σ ρ : fx_S} (h : ∀ K o p, 11 ≤ K → K ≤ 25 → ρ K o p = σ K o p) (i : Int) : fs_c ρ i = fs_c σ i := by
  funext a b c
  unfold fs_c
  split <;> exact h _ _ _ (by omega) (by omega)
theorem fs_lw.c {l : Int} {σ ρ : fx_S} (h : fs_lw l σ ρ) (i : Int) : fs_c ρ i = fs_c σ i := fs_c_of (fun K o p a b => h K o p (by omega)) i
/-- what a Lines holds, drawn from S, of the facts that W lets in -/
def fs_drawn (σ : fx_S) (l : Int) (S : fx_S) (W : Int → Bool) : Prop := fs_cutp S (σ 36 l 8) (fun p => σ 37 l p) (fun t => σ 38 l t) ∧ fs_cutq S (σ 36 l 8) (fun p => σ 37 l p) ∧ ∀ t p, 0 ≤ t → t < 8 → 0 ≤ p → p < σ 36 l 8 → σ 41 (8 * l + t) p = fs_bs S W t (σ 37 l p) ∧ σ 43 (8 * l + t) p = fs_is S W t (σ 37 l p)
section FXD
variable {σ : fx_S} {l : Int} {Q : fx_V → fx_S → Prop}
theorem c62a {n x1 x2 : Int} (hn : σ 36 l 8 = n) (n0 : 0 ≤ n) (n1 : n ≤ 121) (w4 w5 w6 : fx_V) (k : ∀ ρ : fx_S, fs_kr 41 (8 * l) (8 * l + 8) σ ρ → (∀ t p, 0 ≤ t → t < 8 → 0 ≤ p → p < n → ρ 41 (8 * l + t) p = -1) → fx_CI 1 [(0, x1), (0, ρ 11 0 10)] ρ Q (fun y1 σ1 => fx_Wp 62 61 [(36, l), (0, x1), (0, x2), (0, y1), (0, 0), w5, w6] [] σ1 Q)) :
    fx_Wp 62 6 [(36, l), (0, x1), (0, x2), (0, 0), w4, w5, w6] [] σ Q := by
  refine fx_whl (X := Int × fx_V × fx_S) (fun x => [(36, l), (0, x1), (0, x2), (0, x.1), x.2.1, w5, w6]) (fun x => x.2.2) (fun x => (0 ≤ x.1 ∧ x.1 ≤ 8) ∧ fs_kr 41 (8 * l) (8 * l + 8) σ x.2.2 ∧ ∀ t p, 0 ≤ t → t < x.1 → 0 ≤ p → p < n → x.2.2 41 (8 * l + t) p = -1) (fun x => (8 - x.1).toNat) ?_ (0, w4, σ) ⟨⟨by simp, by simp⟩, fun _ _ _ _ => rfl, fun t p a b => absurd b (by simp only; omega)⟩
  rintro ⟨t, w, τ⟩ ⟨⟨t0, t1⟩, hf, ha⟩ ih
  simp only at t0 t1 hf ha
  show fx_Wp 62 6 [(36, l), (0, x1), (0, x2), (0, t), w, w5, w6] [] τ Q
  have e8 : τ 36 l 8 = n := by rw [hf 36 l 8 (by omega)]; exact hn
  refine t62_6 ⟨fun a => k τ hf (fun s p s0 s1 p0 p1 => ha s p s0 (by omega) p0 p1), fun a => ?_⟩
  have m1 := fun Q I => fx_for (mi := 62) (pc := 15) (Q := Q) (fun q => [(36, l), (0, x1), (0, x2), (0, t), (0, q), w5, w6]) (fun q => fx_fill τ 41 (8 * l + t) q (fun _ => -1)) 0 n I
  simp only [fx_fill0] at m1
  refine m1 Q (fun q => 0 ≤ q) n0 (by omega) ?_ ?_
  · intro q q0 q1 _ ih2
    have ih2 := ih2 (by omega)
    rw [← fx_fill_s (f := fun _ => -1) (v := -1) q0 rfl (fun _ _ _ => rfl)] at ih2
    refine t62_15 ⟨fun b => ?_, fun b => ⟨⟨t0, a⟩, ⟨by omega, by omega⟩, ⟨by omega, by omega⟩, ?_⟩⟩
    · rw [fx_fillK rfl, e8] at b; omega
    · rw [show 8 * l + 0 + t = 8 * l + t by omega]; exact ih2
  · intro _
    refine t62_15 ⟨fun b => ⟨⟨by omega, by omega⟩, ?_⟩, fun b => ?_⟩
    · generalize hE : fx_fill τ 41 (8 * l + t) n (fun _ => -1) = τ'
      refine ih (t + 1, (0, n), τ') ⟨⟨by simp only; omega, by simp only; omega⟩, ?_, ?_⟩ (by simp only; omega)
      · intro K o p hK
        simp only [← hE]
        rw [fx_fillE, if_neg (by omega)]
        exact hf K o p hK
      · intro s p s0 s1 p0 p1
        simp only at s1
        simp only [← hE]
        by_cases e : s = t
        · rw [e, fx_fillI p0 p1]
        · rw [fx_fillE, if_neg (by omega)]
          exact ha s p s0 (by omega) p0 p1
    · rw [fx_fillK rfl, e8] at b; omega
theorem fs_hold_no {S : fx_S} {k t x : Int} (h : ¬ (S 8 k 0 = 0 ∧ S 2 (S 4 k 0) 0 = 0)) : fs_hold S k t x = false := by
  cases e : fs_hold S k t x with
  | false => rfl
  | true =>
    unfold fs_hold fs_holds at e
    simp only [Bool.and_eq_true, decide_eq_true_eq] at e
    exact absurd ⟨e.2.1.1.1, e.2.1.1.2⟩ h
theorem c62b {S : fx_S} (ho : fs_ok S) (hS : fs_c σ 0 = S) {n bound wo : Int} (hc : fs_cutp S n (fun p => σ 37 l p) (fun t => σ 38 l t)) (hm : ∀ t p, 0 ≤ t → t < 8 → 0 ≤ p → p < n → σ 41 (8 * l + t) p = -1) (b0 : 0 ≤ bound) (b1 : bound ≤ S 0 1 0) (w1 w5 w6 : fx_V)
    (k : ∀ ρ : fx_S, fs_kr 41 (8 * l) (8 * l + 8) σ ρ → (∀ t p, 0 ≤ t → t < 8 → 0 ≤ p → p < n → ρ 41 (8 * l + t) p = fs_best (fun f => decide (f ≠ wo) && fs_hold S f t (σ 37 l p)) (fs_better S) bound.toNat) → fx_Wp 62 100 [(36, l), w1, (0, wo), (0, bound), (0, 0), w5, w6] [] ρ Q) :
    fx_Wp 62 61 [(36, l), w1, (0, wo), (0, bound), (0, 0), w5, w6] [] σ Q := by
  have hfa := ho.2.1
  refine fx_whl (X := Int × fx_S) (fun x => [(36, l), w1, (0, wo), (0, bound), (0, x.1), w5, w6]) (fun x => x.2) (fun x => (0 ≤ x.1 ∧ x.1 ≤ bound) ∧ fs_kr 41 (8 * l) (8 * l + 8) σ x.2 ∧ ∀ t p, 0 ≤ t → t < 8 → 0 ≤ p → p < n → x.2 41 (8 * l + t) p = fs_best (fun f => decide (f ≠ wo) && fs_hold S f t (σ 37 l p)) (fs_better S) x.1.toNat) (fun x => (bound - x.1).toNat) ?_ (0, σ) ⟨⟨by simp, b0⟩, fun _ _ _ _ => rfl, hm⟩
  rintro ⟨f, τ⟩ ⟨⟨f0, f1⟩, hf, ha⟩ ih
  simp only at f0 f1 hf ha
  show fx_Wp 62 61 [(36, l), w1, (0, wo), (0, bound), (0, f), w5, w6] [] τ Q
  have hcτ : fs_c τ 0 = S := (fs_c_of (fun K o p a b => hf K o p (by omega)) 0).trans hS
  refine t62_61 ⟨fun a => ?_, fun a => ?_⟩
  · have e : f = bound := by omega
    rw [e] at ha
    exact k τ hf ha
  have same : (∀ t x, (decide (f ≠ wo) && fs_hold S f t x) = false) → fx_Wp 62 61 [(36, l), w1, (0, wo), (0, bound), (0, f + 1), w5, w6] [] τ Q := by
    intro hno
    refine ih (f + 1, τ) ⟨⟨by simp only; omega, by simp only; omega⟩, hf, ?_⟩ (by simp only; omega)
    intro t p t0 t1 p0 p1
    simp only
    rw [ha t p t0 t1 p0 p1]
    exact (fs_best_no (P := fun f => decide (f ≠ wo) && fs_hold S f t (σ 37 l p)) f0 (hno t _)).symm
  have g3 : S 3 f 0 = τ 15 0 f := by rw [← hcτ]; rfl
  have g5 : S 5 f 0 = τ 17 0 f := by rw [← hcτ]; rfl
  have g6 : S 6 f 0 = τ 18 0 f := by rw [← hcτ]; rfl
  have g8 : S 8 f 0 = τ 20 0 f := by rw [← hcτ]; rfl
  have g4 : S 4 f 0 = τ 16 0 f := by rw [← hcτ]; rfl
  have g2 : S 2 (S 4 f 0) 0 = τ 14 0 (τ 16 0 f) := by rw [← hcτ]; rfl
  have g10 : S 0 1 0 = τ 11 0 10 := by rw [← hcτ]; rfl
  have hfk := ho.2.2.2.1 f f0 (by omega)
  refine ⟨fun b => ⟨⟨by omega, by omega⟩, same (fun t x => by rw [decide_eq_false (by omega)]; rfl)⟩, fun b => (c35 (σ := τ) (by rw [hcτ]; exact ho) f0 (by omega)).I ⟨fun d => ⟨⟨by omega, by omega⟩, same (fun t x => ?_)⟩, fun d => ?_⟩⟩
  · rw [fs_b0, Bool.and_eq_false_iff, decide_eq_false_iff_not, decide_eq_false_iff_not] at d
    rw [fs_hold_no (by omega), Bool.and_false]
  · rw [fs_b1, Bool.and_eq_true, decide_eq_true_eq, decide_eq_true_eq] at d
    have hcut := fun p p0 p1 => fs_cutp_in ho hc (f := f) (p := p) f0 (by omega) p0 p1
    have h38 : ∀ x, τ 38 l x = σ 38 l x := fun x => hf 38 l x (by omega)
    have hc0 := hcut 0 (by omega) (by have := hc.1; omega)
    rw [g5, g6] at hc0
    have hn121 := hc.1
    refine fx_CV_of (c64 (σ := τ) (by rw [hcτ]; exact ho) f0 (by omega) (by rw [h38]; exact hc0.2.1) (by rw [h38]; omega) ?_) ?_
    · intro p p0 p1
      rw [h38] at p1
      rw [← g3, ha (S 3 f 0) p (by omega) (by omega) p0 (by omega)]
      have := fs_best_in (fun g => decide (g ≠ wo) && fs_hold S g (S 3 f 0) (σ 37 l p)) (fs_better S) f.toNat
      omega
    · rintro v ρ ⟨rfl, h1, h2⟩
      refine Or.inl ⟨rfl, ⟨by omega, by omega⟩, ?_⟩
      rw [hcτ] at h2
      rw [← g3] at h1 h2
      rw [h38, h38, ← g5, ← g6] at h2
      refine ih (f + 1, ρ) ⟨⟨by simp only; omega, by simp only; omega⟩, ?_, ?_⟩ (by simp only; omega)
      · intro K o p hK
        simp only
        rw [h1 K o p (by omega)]
        exact hf K o p hK
      · intro t p t0 t1 p0 p1
        simp only
        have hst := fs_best_s (fun f => decide (f ≠ wo) && fs_hold S f t (σ 37 l p)) (fs_better S) f0
        rw [hst]
        have hcp := hcut p p0 p1
        have hold := ha t p t0 t1 p0 p1
        by_cases e : t = S 3 f 0
        · rw [← e] at h2
          rw [h2 p, hold]
          generalize fs_best (fun f => decide (f ≠ wo) && fs_hold S f t (σ 37 l p)) (fs_better S) f.toNat = B
          have hP : ((decide (f ≠ wo) && fs_hold S f t (σ 37 l p)) && (decide (B = -1) || fs_better S f B)) = true ↔ (σ 38 l (S 5 f 0) ≤ p ∧ p < σ 38 l (S 6 f 0) ∧ (B = -1 ∨ fs_better S f B = true)) := by
            unfold fs_hold fs_holds
            simp only [Bool.and_eq_true, Bool.or_eq_true, decide_eq_true_eq]
            rw [hcp.1.1, hcp.1.2]
            constructor
            · rintro ⟨⟨_, _, ⟨⟨⟨_, _⟩, q1⟩, q2⟩⟩, q3⟩
              exact ⟨q1, q2, q3⟩
            · rintro ⟨q1, q2, q3⟩
              exact ⟨⟨b, e.symm, ⟨⟨⟨by omega, by omega⟩, q1⟩, q2⟩⟩, q3⟩
          by_cases hh : σ 38 l (S 5 f 0) ≤ p ∧ p < σ 38 l (S 6 f 0) ∧ (B = -1 ∨ fs_better S f B = true)
          · rw [if_pos hh, if_pos (hP.mpr hh)]
          · rw [if_neg hh, if_neg (fun q => hh (hP.mp q))]
        · rw [h1 41 (8 * l + t) p (by omega), hold]
          have : fs_hold S f t (σ 37 l p) = false := by
            unfold fs_hold
            rw [decide_eq_false (fun q => e q.symm), Bool.false_and]
          rw [this, Bool.and_false, Bool.false_and]
          simp
/-- all but what things are, and the row of nodes -/
def fs_lm (l : Int) (σ ρ : fx_S) : Prop := ∀ K o p, ¬ ((K = 43 ∧ 8 * l ≤ o ∧ o < 8 * l + 8) ∨ (K = 44 ∧ o = l)) → ρ K o p = σ K o p
theorem c62c {S : fx_S} (ho : fs_ok S) (hS : fs_c σ 0 = S) {n : Int} {W : Int → Bool} (n0 : 0 ≤ n) (n1 : n ≤ 121) (hn : σ 36 l 8 = n) (hb : ∀ t p, 0 ≤ t → t < 8 → 0 ≤ p → p < n → σ 41 (8 * l + t) p = fs_bs S W t (σ 37 l p)) (w1 w2 w3 w5 w6 : fx_V)
    (k : ∀ ρ : fx_S, fs_lm l σ ρ → (∀ t p, 0 ≤ t → t < 8 → 0 ≤ p → p < n → ρ 43 (8 * l + t) p = fs_is S W t (σ 37 l p)) → Q (4, 0) ρ) : fx_Wp 62 100 [(36, l), w1, w2, w3, (0, 0), w5, w6] [] σ Q := by
  refine fx_whl (X := Int × fx_V × fx_V × fx_S) (fun x => [(36, l), w1, w2, w3, (0, x.1), x.2.1, x.2.2.1]) (fun x => x.2.2.2) (fun x => (0 ≤ x.1 ∧ x.1 ≤ 8) ∧ fs_lm l σ x.2.2.2 ∧ ∀ t p, 0 ≤ t → t < x.1 → 0 ≤ p → p < n → x.2.2.2 43 (8 * l + t) p = fs_is S W t (σ 37 l p)) (fun x => (8 - x.1).toNat) ?_ (0, w5, w6, σ) ⟨⟨by simp, by simp⟩, fun _ _ _ _ => rfl, fun t p a b => absurd b (by simp only; omega)⟩
  clear w5 w6
  rintro ⟨t, w5, w6, τ⟩ ⟨⟨t0, t1⟩, hf, ha⟩ ih
  simp only at t0 t1 hf ha
  show fx_Wp 62 100 [(36, l), w1, w2, w3, (0, t), w5, w6] [] τ Q
  refine t62_100 ⟨fun a => k τ hf (fun s p s0 s1 => ha s p s0 (by omega)), fun a => ?_⟩
  refine fx_whl (X := Int × fx_V × fx_S) (fun x => [(36, l), w1, w2, w3, (0, t), (0, x.1), x.2.1]) (fun x => x.2.2) (fun x => (0 ≤ x.1 ∧ x.1 ≤ n) ∧ fs_lm l σ x.2.2 ∧ (∀ s p, 0 ≤ s → s < t → 0 ≤ p → p < n → x.2.2 43 (8 * l + s) p = fs_is S W s (σ 37 l p)) ∧ ∀ p, 0 ≤ p → p < x.1 → x.2.2 43 (8 * l + t) p = fs_is S W t (σ 37 l p)) (fun x => (n - x.1).toNat) ?_ (0, w6, τ) ⟨⟨by simp, n0⟩, hf, ha, fun p a b => absurd b (by simp only; omega)⟩
  clear hf ha
  rintro ⟨p, w6, τ⟩ ⟨⟨p0, p1⟩, hf, ha, hp⟩ ih2
  simp only at p0 p1 hf ha hp
  show fx_Wp 62 110 [(36, l), w1, w2, w3, (0, t), (0, p), w6] [] τ Q
  have hcτ : fs_c τ 0 = S := (fs_c_of (fun K o p a b => hf K o p (by omega)) 0).trans hS
  have e8 : τ 36 l 8 = n := by rw [hf 36 l 8 (by omega)]; exact hn
  have e41 : τ 41 (8 * l + t) p = σ 41 (8 * l + t) p := hf 41 _ p (by omega)
  refine t62_110 ⟨fun b => ⟨⟨by omega, by omega⟩, ?_⟩, fun b => ⟨⟨t0, a⟩, ⟨p0, by omega⟩, ?_⟩⟩
  · refine ih (t + 1, (0, p), w6, τ) ⟨⟨by simp only; omega, by simp only; omega⟩, hf, ?_⟩ (by simp only; omega)
    intro s q s0 s1 q0 q1
    simp only at s1 ⊢
    by_cases e : s = t
    · rw [e]; exact hp q q0 (by omega)
    · exact ha s q s0 (by omega) q0 q1
  rw [e8] at b
  rw [show 8 * l + 0 + t = 8 * l + t by omega, e41]
  have hbs := hb t p t0 a p0 b
  have hie := fs_is_e ho (W := W) (time := σ 37 l p) t0 a
  unfold fs_ia at hie
  rw [← hbs] at hie
  have hin := fs_bs_in (W := W) (t := t) (time := σ 37 l p) ho
  rw [← hbs] at hin
  generalize hBB : σ 41 (8 * l + t) p = B at hie hin hbs
  have hfa := ho.2.1
  have hai : ∀ x, 0 ≤ x → x < t → τ 43 (8 * l + x) p = fs_is S W x (σ 37 l p) := fun x x0 x1 => ha x p x0 x1 p0 b
  have step : ∀ (v : Int) (w : fx_V) (τ1 : fx_S), v = fs_is S W t (σ 37 l p) → (∀ K o q, ¬ (K = 44 ∧ o = l) → τ1 K o q = τ K o q) → fx_Wp 62 110 [(36, l), w1, w2, w3, (0, t), (0, p + 1), w] [] (fx_up τ1 43 (8 * l + t) p v) Q := by
    intro v w τ1 hv h44
    generalize hE : fx_up τ1 43 (8 * l + t) p v = τ2
    have e2 : ∀ K o q, ¬ (K = 44 ∧ o = l) → ¬ (K = 43 ∧ o = 8 * l + t ∧ q = p) → τ2 K o q = τ K o q := by
      intro K o q h1 h2
      rw [← hE, fx_upE, if_neg h2]
      exact h44 K o q h1
    refine ih2 (p + 1, w, τ2) ⟨⟨by simp only; omega, by simp only; omega⟩, ?_, ?_, ?_⟩ (by simp only; omega)
    · intro K o q hK
      simp only
      rw [e2 K o q (by omega) (by omega)]
      exact hf K o q hK
    · intro s q s0 s1 q0 q1
      simp only
      rw [e2 43 _ q (by omega) (by omega)]
      exact ha s q s0 s1 q0 q1
    · intro q q0 q1
      simp only at q1 ⊢
      by_cases e : q = p
      · rw [e, ← hE, fx_upS]; exact hv
      · rw [e2 43 _ q (by omega) (by omega)]
        exact hp q q0 (by omega)
  refine ⟨fun c => ?_, fun c => ⟨⟨by omega, by omega⟩, ⟨by omega, by omega⟩, step _ _ τ ?_ (fun _ _ _ _ => rfl)⟩⟩
  · have hr : ∀ x, 0 ≤ x → x < t → -1 ≤ τ 43 (8 * l + x) p ∧ τ 43 (8 * l + x) p ≤ 99 := fun x x0 x1 => by
      rw [hai x x0 x1]; exact fs_is_r ho 8 (by omega) x x0 (by omega)
    refine (c65 (σ := τ) (by rw [hcτ]; exact ho) t0 a p0 (by omega) hr).I ⟨⟨by omega, by omega⟩, step _ _ _ ?_ ?_⟩
    · rw [hie, if_pos c, hcτ, ← fs_c9 (σ := τ) (b := 0), hcτ]
      exact fs_mv_c fs_eq.rfl ho t0 a hai
    · intro K o q hK
      rw [fx_fillE, if_neg (fun e => hK ⟨e.1, e.2.1⟩)]
  · rw [hie, if_neg c, ← hcτ]
    rfl
theorem c62 (ho : fs_ok (fs_c σ 0)) {told wo : Int} (ht : 0 ≤ told) : fx_Ca 62 [(36, l), (0, told), (0, wo)] σ (fun v ρ => v = (4, 0) ∧ fs_lw l σ ρ ∧ fs_drawn ρ l (fs_c σ 0) (fun f => decide (f < told) && decide (f ≠ wo))) := by
  have hcn := fs_cn ho
  refine t62_0 (fx_CV_of (c63 ho (l := l)) ?_)
  rintro v σ1 ⟨rfl, h1, h2, h2q⟩
  refine Or.inl ⟨rfl, ?_⟩
  have hw1 : fs_lw l σ σ1 := fun K o p hK => h1 K o p (by omega)
  have hn := h2.1
  refine c62a rfl (by omega) hn.2 _ _ _ ?_
  intro σ2 f2 m2
  refine c1.I ?_
  have hw2 : fs_lw l σ1 σ2 := fun K o p hK => f2 K o p (by omega)
  have hS2 : fs_c σ2 0 = fs_c σ 0 := (hw2.c 0).trans (hw1.c 0)
  have e10 : σ2 11 0 10 = σ 11 0 10 := by rw [f2 11 0 10 (by omega), h1 11 0 10 (by omega)]
  rw [e10]
  have e37 : ∀ p, σ2 37 l p = σ1 37 l p := fun p => f2 37 l p (by omega)
  have e38 : ∀ p, σ2 38 l p = σ1 38 l p := fun p => f2 38 l p (by omega)
  have e36 : σ2 36 l 8 = σ1 36 l 8 := f2 36 l 8 (by omega)
  have h2' : fs_cutp (fs_c σ 0) (σ1 36 l 8) (fun p => σ2 37 l p) (fun t => σ2 38 l t) := by
    simp only [e37, e38]
    exact h2
  have hbd : ∀ B, (if told ≤ σ 11 0 10 then told else σ 11 0 10) = B → 0 ≤ B ∧ B ≤ σ 11 0 10 ∧ B ≤ told ∧ (B < σ 11 0 10 → B = told) := by
    intro B h
    split at h <;> omega
  generalize hB : (if told ≤ σ 11 0 10 then told else σ 11 0 10) = B
  have hbd := hbd B hB
  refine c62b ho hS2 h2' m2 (by omega) hbd.2.1 _ _ _ ?_
  intro σ3 f3 m3
  have hw3 : fs_lw l σ2 σ3 := fun K o p hK => f3 K o p (by omega)
  have hS3 : fs_c σ3 0 = fs_c σ 0 := (hw3.c 0).trans hS2
  have e37' : ∀ p, σ3 37 l p = σ1 37 l p := fun p => by rw [f3 37 l p (by omega), e37]
  have e38' : ∀ p, σ3 38 l p = σ1 38 l p := fun p => by rw [f3 38 l p (by omega), e38]
  have e36' : σ3 36 l 8 = σ1 36 l 8 := by rw [f3 36 l 8 (by omega), e36]
  refine c62c ho hS3 (W := fun f => decide (f < told) && decide (f ≠ wo)) (by omega) hn.2 e36' ?_ _ _ _ _ _ ?_
  · intro t p t0 t1 p0 p1
    rw [m3 t p t0 t1 p0 p1, e37' p, e37 p]
    unfold fs_bs
    have : fs_c σ 0 0 1 0 = σ 11 0 10 := rfl
    rw [this]
    rw [fs_best_e (m := B.toNat) (σ 11 0 10).toNat (by omega) (fun k k0 k1 => by show ((decide (k < told) && decide (k ≠ wo)) && _) = false; rw [decide_eq_false (by omega), Bool.false_and, Bool.false_and])]
    refine fs_best_c _ (fun k k0 k1 => ?_) (fun a b _ _ _ _ _ _ => rfl)
    show _ = ((decide (k < told) && decide (k ≠ wo)) && _)
    rw [(decide_eq_true (by omega) : decide (k < told) = true), Bool.true_and]
  · intro ρ f4 m4
    have hw4 : fs_lw l σ3 ρ := fun K o p hK => f4 K o p (by omega)
    have g36 : ρ 36 l 8 = σ1 36 l 8 := by rw [f4 36 l 8 (by omega), e36']
    have g37 : ∀ p, ρ 37 l p = σ1 37 l p := fun p => by rw [f4 37 l p (by omega), e37']
    have g38 : ∀ p, ρ 38 l p = σ1 38 l p := fun p => by rw [f4 38 l p (by omega), e38']
    refine ⟨rfl, ((hw1.trans hw2).trans hw3).trans hw4, ?_, ?_, ?_⟩
    · simp only [g36, g37, g38]
      exact h2
    · simp only [g36, g37]
      exact h2q
    · intro t p t0 t1 p0 p1
      rw [g36] at p1
      rw [m4 t p t0 t1 p0 p1, e37' p, f4 41 _ p (by omega), m3 t p t0 t1 p0 p1, e37 p, g37 p]
      refine ⟨?_, rfl⟩
      unfold fs_bs
      have : fs_c σ 0 0 1 0 = σ 11 0 10 := rfl
      rw [this]
      rw [fs_best_e (m := B.toNat) (σ 11 0 10).toNat (by omega) (fun k k0 k1 => by show ((decide (k < told) && decide (k ≠ wo)) && _) = false; rw [decide_eq_false (by omega), Bool.false_and, Bool.false_and])]
      refine fs_best_c _ (fun k k0 k1 => ?_) (fun a b _ _ _ _ _ _ => rfl)
      show _ = ((decide (k < told) && decide (k ≠ wo)) && _)
      rw [(decide_eq_true (by omega) : decide (k < told) = true), Bool.true_and]
end FXD
