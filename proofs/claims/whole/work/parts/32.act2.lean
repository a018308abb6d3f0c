theorem fs_up6_c {S T : fx_S} (h : fs_eq S T) {n v : Int} : fs_eq (fx_up S 6 n 0 v) (fx_up T 6 n 0 v) := by
  obtain ⟨h0, h1, hs, hf, hr⟩ := h
  refine ⟨?_, ?_, fun q a b => ?_, fun f a b => ?_, fun t a b => ?_⟩
  · simpa [fx_up] using h0
  · simpa [fx_up] using h1
  · have := hs q a (by simpa [fx_up] using b)
    simpa [fx_up] using this
  · have := hf f a (by simpa [fx_up] using b)
    by_cases e : f = n
    · simp [fx_up, e]; rw [e] at this; simp [this]
    · simpa [fx_up, e] using this
  · have := hr t a b
    simpa [fx_up] using this
section FXD
variable {σ : fx_S} {i : Int}
theorem c34 (ho : fs_ok (fs_c σ i)) {th time : Int} (h1 : 0 ≤ th ∧ th < 8) (h2 : 0 ≤ time ∧ time ≤ 1000) (hr : σ 11 i 10 + fs_cnt (fun f => fs_cut (fs_c σ i) f th time) (σ 11 i 10).toNat ≤ 60) :
    fx_Ca 34 [(11, i), (0, th), (0, time)] σ (fun v σ' => v = (4, 0) ∧ fs_fr i σ σ' ∧ fs_eq (fs_cutS (fs_c σ i) th time (σ 11 i 10).toNat) (fs_c σ' i) ∧ ∀ t, σ' 22 (8 * i + t) 5 = σ 22 (8 * i + t) 5) := by
  have hn := fs_cn ho
  refine t34_0 ?_
  refine fx_whl (X := Int × fx_S) (fun x => [(11, i), (0, th), (0, time), (0, σ 11 i 10), (0, x.1)]) (fun x => x.2) (fun x => 0 ≤ x.1 ∧ x.1 ≤ σ 11 i 10 ∧ fs_fr i σ x.2 ∧ fs_eq (fs_cutS (fs_c σ i) th time x.1.toNat) (fs_c x.2 i) ∧ ∀ t, x.2 22 (8 * i + t) 5 = σ 22 (8 * i + t) 5) (fun x => (σ 11 i 10 - x.1).toNat) ?_ (0, σ) ⟨Int.le_refl _, hn.2.1, fs_fr.rfl, fs_eq.rfl, fun _ => rfl⟩
  rintro ⟨k, τ⟩ ⟨k0, k1, hf, he, hb⟩ ih
  simp only at k0 k1 hf he hb
  show fx_Wp 34 8 [(11, i), (0, th), (0, time), (0, σ 11 i 10), (0, k)] [] τ _
  refine t34_8 ⟨fun a => ?_, fun a => ?_⟩
  · have e : k = σ 11 i 10 := by omega
    rw [e] at he
    exact ⟨rfl, hf, he, hb⟩
  · have hm := fs_cnt_mono (fun f => fs_cut (fs_c σ i) f th time) (show (k + 1).toNat ≤ (σ 11 i 10).toNat by omega)
    have hs := fs_cnt_s (fun f => fs_cut (fs_c σ i) f th time) k0
    have hk : ((k.toNat : Nat) : Int) = k := by omega
    have hbb := fs_b01 (fs_cut (fs_c σ i) k th time)
    have hroom : fs_c σ i 0 1 0 + fs_cnt (fun f => fs_cut (fs_c σ i) f th time) k.toNat ≤ 60 := by
      show σ 11 i 10 + _ ≤ 60
      omega
    obtain ⟨p1, p2, p3, p4⟩ := fs_cutS_p ho h1 h2 k.toNat (by show _ ≤ σ 11 i 10; omega) hroom
    have hok := he.ok p1
    have hrest := p4 k (by omega) a
    have hcn : τ 11 i 10 = σ 11 i 10 + fs_cnt (fun f => fs_cut (fs_c σ i) f th time) k.toNat := by
      have := he.2.1
      rw [p3] at this
      exact this.symm
    have hk2 : k < τ 11 i 10 := by
      have := (fs_cnt_le (fun f => fs_cut (fs_c σ i) f th time) k.toNat).1
      omega
    have hek := he.2.2.2.1 k k0 (by rw [p3]; show k < σ 11 i 10 + _; have := (fs_cnt_le (fun f => fs_cut (fs_c σ i) f th time) k.toNat).1; omega)
    have ecut : fs_cut (fs_c τ i) k th time = fs_cut (fs_c σ i) k th time := fs_cut_c (by rw [← hek.1, hrest.1]) (by rw [← hek.2.2.2.2.2, hrest.2.2.2.2.2]) (by rw [← hek.2.2.1, hrest.2.2.1]) (by rw [← hek.2.2.2.1, hrest.2.2.2.1])
    have estep : fs_cutS (fs_c σ i) th time (k + 1).toNat = if fs_cut (fs_cutS (fs_c σ i) th time k.toNat) k th time then fx_up (fs_fct (fs_cutS (fs_c σ i) th time k.toNat) th (fs_cutS (fs_c σ i) th time k.toNat 4 k 0) time (fs_cutS (fs_c σ i) th time k.toNat 6 k 0) (fs_cutS (fs_c σ i) th time k.toNat 7 k 0)) 6 k 0 time else fs_cutS (fs_c σ i) th time k.toNat := by
      have e : (k + 1).toNat = k.toNat + 1 := by omega
      rw [e, fs_cutS, hk]
    have ecut2 : fs_cut (fs_cutS (fs_c σ i) th time k.toNat) k th time = fs_cut (fs_c σ i) k th time := fs_cut_c hrest.1 hrest.2.2.2.2.2 hrest.2.2.1 hrest.2.2.2.1
    rw [ecut2] at estep
    refine (c30 k0 (by omega)).I ?_
    rw [ecut]
    refine ⟨fun b => ⟨⟨by omega, by omega⟩, ih (k + 1, τ) ⟨by simp only; omega, by simp only; omega, hf, ?_, hb⟩ (by simp only; omega)⟩, fun b => ⟨by omega, ?_⟩⟩
    · show fs_eq (fs_cutS (fs_c σ i) th time (k + 1).toNat) (fs_c τ i)
      rw [estep, fs_b0.mp b]
      exact he
    · have hc := fs_b1.mp b
      have hcb : fs_b (fs_cut (fs_c σ i) k th time) = 1 := fs_bT hc
      rw [if_pos hc] at estep
      refine fx_CV_of (c33 hok (by omega)) ?_
      rintro v σ2 ⟨rfl, f2, e2, b2⟩
      refine Or.inl ⟨rfl, ⟨by omega, by omega⟩, ?_⟩
      generalize hE : fx_up σ2 18 i k time = τ'
      refine ih (k + 1, τ') ⟨by simp only; omega, by simp only; omega, ?_, ?_, ?_⟩ (by simp only; omega)
      · show fs_fr i σ τ'
        rw [← hE]
        exact (hf.trans f2).up (by unfold fs_at; omega) (by omega)
      · show fs_eq (fs_cutS (fs_c σ i) th time (k + 1).toNat) (fs_c τ' i)
        rw [estep]
        have e3 : fs_eq (fx_up (fs_c σ2 i) 6 k 0 time) (fs_c τ' i) := by
          rw [← hE]
          refine ⟨?_, ?_, fun q a b => ?_, fun f a b => ?_, fun t a b => ?_⟩
          · simp [fs_c, fx_up]
          · simp [fs_c, fx_up]
          · simp [fs_c, fx_up]
          · simp [fs_c, fx_up]
          · simp [fs_c, fx_up]
        refine fs_eq.trans (fs_up6_c (fs_eq.trans ?_ e2)) e3
        have h4 : fs_cutS (fs_c σ i) th time k.toNat 4 k 0 = τ 16 i k := hek.2.1
        have h6 : fs_cutS (fs_c σ i) th time k.toNat 6 k 0 = τ 18 i k := hek.2.2.2.1
        have h7 : fs_cutS (fs_c σ i) th time k.toNat 7 k 0 = τ 19 i k := hek.2.2.2.2.1
        rw [h4, h6, h7]
        exact fs_fct_c he
      · intro t
        simp only [← hE]
        rw [fx_upK rfl, b2 t, hb t]
/-- the k-th best fact that holds -/
def fs_first (P : Int → Bool) : Nat → Int
  | 0 => -1
  | n + 1 => if fs_first P n = -1 then (if P n then n else -1) else fs_first P n
theorem c39 (ho : fs_ok (fs_c σ i)) {th time k : Int} : fx_Rt 39 [(11, i), (0, th), (0, time), (0, k)] σ (0, fs_first (fun f => fs_hold (fs_c σ i) f th time && decide (fs_cnt (fun g => fs_hold (fs_c σ i) g th time && fs_better (fs_c σ i) g f) (σ 11 i 10).toNat = k)) (σ 11 i 10).toNat) σ := by
  have hn := fs_cn ho
  have key : ∀ P : Int → Bool, ∀ m : Nat, (fs_first P m = -1 ∨ (0 ≤ fs_first P m ∧ fs_first P m < m)) ∧ ∀ n : Nat, m ≤ n → fs_first P m ≠ -1 → fs_first P n = fs_first P m := by
    intro P m
    constructor
    · induction m with
      | zero => exact Or.inl rfl
      | succ m ih =>
        rw [fs_first]
        rcases ih with h | h
        · rw [if_pos h]
          cases P m with
          | false => exact Or.inl rfl
          | true => refine Or.inr ⟨?_, ?_⟩ <;> simp <;> omega
        · rw [if_neg (by omega)]; exact Or.inr ⟨h.1, by omega⟩
    · intro n hmn hne
      induction hmn with
      | refl => rfl
      | step _ ih => rw [fs_first, ih, if_neg hne]
  refine t39_0 (fx_for (fun k' => [(11, i), (0, th), (0, time), (0, k), (0, k')]) (fun _ => σ) 0 (σ 11 i 10) (fun m => 0 ≤ m ∧ fs_first (fun f => fs_hold (fs_c σ i) f th time && decide (fs_cnt (fun g => fs_hold (fs_c σ i) g th time && fs_better (fs_c σ i) g f) (σ 11 i 10).toNat = k)) m.toNat = -1) (by omega) ⟨Int.le_refl _, rfl⟩ ?_ ?_)
  · rintro m m0 m1 ⟨_, hm⟩ ih
    have es : ∀ P : Int → Bool, fs_first P m.toNat = -1 → fs_first P (m + 1).toNat = if P m then m else -1 := by
      intro P h
      have e : (m + 1).toNat = m.toNat + 1 := by omega
      rw [e, fs_first, if_pos h, show ((m.toNat : Nat) : Int) = m by omega]
    have h2 := es _ hm
    refine t39_3 ⟨fun a => by omega, fun _ => (c36 ho m0 m1).I ⟨fun b => ⟨⟨by omega, by omega⟩, ih ⟨by omega, ?_⟩⟩, fun b => (c40 ho m0 m1).I ?_⟩⟩
    · rw [h2, fs_b0.mp b]; rfl
    · have hth : σ 15 i m = th := by
        have := fs_b1.mp b
        unfold fs_hold at this
        simp only [Bool.and_eq_true, decide_eq_true_eq] at this
        exact this.1
      rw [hth]
      refine ⟨fun d => ⟨⟨by omega, by omega⟩, ih ⟨by omega, ?_⟩⟩, fun d => ⟨?_, rfl⟩⟩
      · rw [h2, decide_eq_false d, Bool.and_false]; rfl
      · have h3 : fs_first (fun f => fs_hold (fs_c σ i) f th time && decide (fs_cnt (fun g => fs_hold (fs_c σ i) g th time && fs_better (fs_c σ i) g f) (σ 11 i 10).toNat = k)) (m + 1).toNat = m := by
          rw [h2, if_pos (by rw [fs_b1.mp b, decide_eq_true d]; rfl)]
        rw [(key _ (m + 1).toNat).2 _ (by omega) (by omega), h3]
  · rintro ⟨_, hm⟩
    refine t39_3 ⟨fun a => ⟨?_, rfl⟩, fun a => by omega⟩
    rw [hm]
end FXD
