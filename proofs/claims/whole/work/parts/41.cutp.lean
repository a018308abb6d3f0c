/-- all but the places of a Lines that cutPieces writes is as it was -/
def fs_lf (l : Int) (σ τ : fx_S) : Prop := ∀ K o p, ¬ ((K = 36 ∧ o = l ∧ p = 8) ∨ (37 ≤ K ∧ K ≤ 39 ∧ o = l)) → τ K o p = σ K o p
theorem fs_lf.up {l : Int} {σ τ : fx_S} (h : fs_lf l σ τ) {K : Nat} {o p v : Int} (hk : (K = 36 ∧ o = l ∧ p = 8) ∨ (37 ≤ K ∧ K ≤ 39 ∧ o = l)) : fs_lf l σ (fx_up τ K o p v) := by
  intro K' o' p' hn
  rw [fx_upE, if_neg]
  · exact h K' o' p' hn
  · rintro ⟨rfl, rfl, rfl⟩
    exact hn hk
section FXP
variable {σ : fx_S}
theorem c63c {A : Int → Bool} {l : Int} (hA : ∀ k : Nat, fs_cnt A k ≤ 121) (S : fx_S) (hS : fs_lf l S σ) (h39 : ∀ t, 0 ≤ t → t ≤ 1000 → σ 39 l t = fs_b (A t)) (h36 : σ 36 l 8 = 0) (hA0 : A 0 = true) (Q : fx_V → fx_S → Prop)
    (hQ : ∀ ρ : fx_S, fs_lf l S ρ → ρ 36 l 8 = fs_cnt A 1000 → (∀ t, 0 ≤ t → t < 1000 → A t = true → ρ 37 l (fs_cnt A t.toNat) = t) → (∀ t, 0 ≤ t → t < 1000 → ρ 38 l t = fs_cnt A (t + 1).toNat - 1) → ρ 37 l (fs_cnt A 1000) = 1000 → ρ 38 l 1000 = fs_cnt A 1000 → Q (4, 0) ρ) :
    fx_Wp 63 85 [(36, l), (0, 0)] [] σ Q := by
  refine fx_whl (X := Int × fx_S) (fun x => [(36, l), (0, x.1)]) (fun x => x.2) (fun x => (0 ≤ x.1 ∧ x.1 ≤ 1000) ∧ fs_lf l S x.2 ∧ (∀ t, 0 ≤ t → t ≤ 1000 → x.2 39 l t = fs_b (A t)) ∧ x.2 36 l 8 = fs_cnt A x.1.toNat ∧ (∀ t, 0 ≤ t → t < x.1 → A t = true → x.2 37 l (fs_cnt A t.toNat) = t) ∧ ∀ t, 0 ≤ t → t < x.1 → x.2 38 l t = fs_cnt A (t + 1).toNat - 1) (fun x => (1000 - x.1).toNat) ?_ (0, σ) ⟨⟨by simp, by simp⟩, hS, h39, h36, fun a a0 a1 => absurd a1 (by simp only; omega), fun a a0 a1 => absurd a1 (by simp only; omega)⟩
  rintro ⟨t, τ⟩ ⟨⟨t0, t1⟩, hf, hm, hn, hs, hp⟩ ih
  simp only at t0 t1 hf hm hn hs hp
  show fx_Wp 63 85 [(36, l), (0, t)] [] τ _
  have hr := (fs_cnt_le A t.toNat).1
  have hr2 := hA t.toNat
  have hcs := fs_cnt_s A t0
  have hmn : ∀ s, 0 ≤ s → s < t → A s = true → fs_cnt A s.toNat < fs_cnt A t.toNat := by
    intro s s0 s1 h
    have h2 := fs_cnt_s A s0
    rw [h] at h2
    have h3 := fs_cnt_mono A (show (s + 1).toNat ≤ t.toNat by omega)
    have h4 : fs_b true = 1 := rfl
    omega
  refine t63_85 ⟨fun a => ?_, fun a => ⟨by omega, fun b => ?_, fun b => ⟨fun c => ?_, fun c => ?_⟩⟩⟩
  · have e : t = 1000 := by omega
    rw [e] at hn hs hp hmn hr hr2
    have e2 : (1000 : Int).toNat = 1000 := rfl
    rw [e2] at hn hmn hr hr2
    refine ⟨by omega, ?_⟩
    rw [hn]
    generalize hE : fx_up (fx_up τ 37 l (fs_cnt A 1000) 1000) 38 l 1000 (fs_cnt A 1000) = ρ
    refine hQ ρ ?_ ?_ ?_ ?_ ?_ ?_
    · rw [← hE]; exact (hf.up (by omega)).up (by omega)
    · rw [← hE, fx_upK rfl, fx_upK rfl]; exact hn
    · intro s s0 s1 h
      have := hmn s s0 s1 h
      rw [← hE, fx_upK rfl, fx_upJ (by omega)]
      exact hs s s0 s1 h
    · intro s s0 s1
      rw [← hE, fx_upJ (by omega), fx_upK rfl]
      exact hp s s0 s1
    · rw [← hE, fx_upK rfl, fx_upS]
    · rw [← hE, fx_upS]
  · have hb : A t = false := fs_b0.mp (by rw [← hm t t0 (by omega)]; exact b)
    rw [hb] at hcs
    have h0 : fs_b false = 0 := rfl
    refine ⟨⟨by omega, by omega⟩, ⟨by omega, by omega⟩, ?_⟩
    generalize hE : fx_up τ 38 l t (τ 36 l 8 - 1) = τ'
    refine ih (t + 1, τ') ⟨⟨by simp only; omega, by simp only; omega⟩, ?_, ?_, ?_, ?_, ?_⟩ (by simp only; omega)
    · show fs_lf l S τ'
      rw [← hE]; exact hf.up (by omega)
    · intro s s0 s1
      simp only [← hE]
      rw [fx_upK rfl]; exact hm s s0 s1
    · simp only [← hE]
      rw [fx_upK rfl, hn]; omega
    · intro s s0 s1 h
      simp only at s1
      simp only [← hE]
      rw [fx_upK rfl]
      have : s ≠ t := fun e => by rw [e, hb] at h; cases h
      exact hs s s0 (by omega) h
    · intro s s0 s1
      simp only at s1
      simp only [← hE]
      by_cases e : s = t
      · rw [e, fx_upS, hn]; omega
      · rw [fx_upJ e]; exact hp s s0 (by omega)
  · have hb : A t = true := fs_b1.mp (by rw [← hm t t0 (by omega)]; exact b)
    rw [hb] at hcs
    have h1 : fs_b true = 1 := rfl
    have := hA (t + 1).toNat
    omega
  · have hb : A t = true := fs_b1.mp (by rw [← hm t t0 (by omega)]; exact b)
    rw [hb] at hcs
    have h1 : fs_b true = 1 := rfl
    refine ⟨by omega, ⟨by omega, by omega⟩, ⟨by omega, by omega⟩, ⟨by omega, by omega⟩, ?_⟩
    generalize hE : fx_up (fx_up (fx_up τ 37 l (τ 36 l 8) t) 36 l 8 (τ 36 l 8 + 1)) 38 l t (τ 36 l 8 + 1 - 1) = τ'
    refine ih (t + 1, τ') ⟨⟨by simp only; omega, by simp only; omega⟩, ?_, ?_, ?_, ?_, ?_⟩ (by simp only; omega)
    · show fs_lf l S τ'
      rw [← hE]; exact ((hf.up (by omega)).up (by omega)).up (by omega)
    · intro s s0 s1
      simp only [← hE]
      rw [fx_upK rfl, fx_upK rfl, fx_upK rfl]; exact hm s s0 s1
    · simp only [← hE]
      rw [fx_upK rfl, fx_upS, hn]; omega
    · intro s s0 s1 h
      simp only at s1
      simp only [← hE]
      rw [fx_upK rfl, fx_upK rfl]
      by_cases e : s = t
      · rw [e, hn, fx_upS]
      · have := hmn s s0 (by omega) h
        rw [fx_upJ (by omega)]; exact hs s s0 (by omega) h
    · intro s s0 s1
      simp only at s1
      simp only [← hE]
      by_cases e : s = t
      · rw [e, fx_upS, hn]; omega
      · rw [fx_upJ e, fx_upK rfl, fx_upK rfl]; exact hp s s0 (by omega)
theorem c63 (ho : fs_ok (fs_c σ 0)) {l : Int} : fx_Ca 63 [(36, l)] σ (fun v ρ => v = (4, 0) ∧ fs_lf l σ ρ ∧ fs_cutp (fs_c σ 0) (ρ 36 l 8) (fun p => ρ 37 l p) (fun t => ρ 38 l t) ∧ fs_cutq (fs_c σ 0) (ρ 36 l 8) (fun p => ρ 37 l p)) := by
  have hcn := fs_cn ho
  refine t63_0 ?_
  have m1 := fun Q I => fx_for (mi := 63) (pc := 2) (Q := Q) (fun k => [(36, l), (0, k)]) (fun k => fx_fill σ 39 l k (fun _ => 0)) 0 1001 I
  simp only [fx_fill0] at m1
  refine m1 _ (fun k => 0 ≤ k) (by omega) (by omega) ?_ ?_
  · intro k h0 h1 _ ih
    have ih := ih (by omega)
    rw [← fx_fill_s (f := fun _ => 0) (v := 0) h0 rfl (fun _ _ _ => rfl)] at ih
    exact t63_2 ⟨fun a => by omega, fun a => ⟨by omega, ⟨by omega, by omega⟩, ih⟩⟩
  · intro _
    refine t63_2 ⟨fun a => ?_, fun a => by omega⟩
    generalize hE : fx_up (fx_fill σ 39 l 1001 (fun _ => 0)) 39 l 0 1 = τ0
    have hf0 : fs_lf l σ τ0 := by
      intro K o p hn
      rw [← hE, fx_upE, if_neg (by omega), fx_fillE, if_neg (by omega)]
    have hm0 : ∀ t, 0 ≤ t → t ≤ 1000 → τ0 39 l t = fs_b (fs_mark (fs_c σ 0) 0 t) := by
      intro t t0 t1
      rw [← hE]
      unfold fs_mark
      rw [fs_any, Bool.or_false]
      by_cases e : t = 0
      · rw [e, fx_upS]; rfl
      · rw [fx_upJ e, fx_fillI t0 (by omega), decide_eq_false (by omega)]; rfl
    refine fx_whl (X := Int × fx_S) (fun x => [(36, l), (0, x.1)]) (fun x => x.2) (fun x => (0 ≤ x.1 ∧ x.1 ≤ σ 11 0 10) ∧ fs_lf l σ x.2 ∧ ∀ t, 0 ≤ t → t ≤ 1000 → x.2 39 l t = fs_b (fs_mark (fs_c σ 0) x.1.toNat t)) (fun x => (σ 11 0 10 - x.1).toNat) ?_ (0, τ0) ⟨⟨by simp, hcn.2.1⟩, hf0, hm0⟩
    rintro ⟨k, τ⟩ ⟨⟨k0, k1⟩, hf, hm⟩ ih
    simp only at k0 k1 hf hm
    show fx_Wp 63 31 [(36, l), (0, k)] [] τ _
    have e10 : τ 11 0 10 = σ 11 0 10 := hf 11 0 10 (by omega)
    refine t63_31 ⟨fun a => ?_, fun a => ?_⟩
    · have e : k = σ 11 0 10 := by omega
      rw [e] at hm
      have hok := ho
      refine c63c (A := fs_mark (fs_c σ 0) (σ 11 0 10).toNat) (fun n => ?_) σ (hf.up (by omega)) (fun t t0 t1 => by rw [fx_upK rfl]; exact hm t t0 t1) fx_upS (by unfold fs_mark; simp) _ ?_
      · have := fs_mark_le (fs_c σ 0) n (σ 11 0 10).toNat
        omega
      · intro ρ r1 r2 r3 r4 r5 r6
        refine ⟨rfl, r1, fs_cutp_of ho (fs_mark (fs_c σ 0) (σ 11 0 10).toNat) rfl r2 r3 r4 ?_ ?_, r2, r3⟩
        · show ρ 37 l (ρ 36 l 8) = 1000
          rw [r2]; exact r5
        · show ρ 38 l 1000 = ρ 36 l 8
          rw [r2]; exact r6
    · have hk := fs_cf ho k0 (by omega)
      rw [hf 17 0 k (by omega), hf 18 0 k (by omega)]
      refine ⟨by omega, by omega, by omega, ⟨by omega, by omega⟩, ?_⟩
      generalize hE2 : fx_up (fx_up τ 39 l (σ 17 0 k) 1) 39 l (σ 18 0 k) 1 = τ'
      refine ih (k + 1, τ') ⟨⟨by simp only; omega, by simp only; omega⟩, ?_, ?_⟩ (by simp only; omega)
      · show fs_lf l σ τ'
        rw [← hE2]; exact (hf.up (by omega)).up (by omega)
      · intro t t0 t1
        simp only [← hE2]
        have e : (k + 1).toNat = k.toNat + 1 := by omega
        have ek : ((k.toNat : Nat) : Int) = k := by omega
        rw [e, fs_mark_s, ek]
        show _ = fs_b ((fs_mark (fs_c σ 0) k.toNat t || decide (σ 17 0 k = t)) || decide (σ 18 0 k = t))
        by_cases h6 : t = σ 18 0 k
        · rw [h6, fx_upS, decide_eq_true rfl, Bool.or_true]; rfl
        · rw [fx_upJ h6, (decide_eq_false (fun e => h6 e.symm) : decide (σ 18 0 k = t) = false), Bool.or_false]
          by_cases h5 : t = σ 17 0 k
          · rw [h5, fx_upS, (decide_eq_true rfl : decide (σ 17 0 k = σ 17 0 k) = true), Bool.or_true]; rfl
          · rw [fx_upJ h5, (decide_eq_false (fun e => h5 e.symm) : decide (σ 17 0 k = t) = false), Bool.or_false]
            exact hm t t0 t1
end FXP
