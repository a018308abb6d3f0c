theorem fs_bit_k2 {S T : fx_S} {t u : Int} : ∀ n : Nat, (∀ k : Int, 0 ≤ k → k < n → S 11 t k = T 11 u k ∧ S 12 t k = T 12 u k) → fs_bit S t n = fs_bit T u n
  | 0, _ => rfl
  | n + 1, h => by rw [fs_bit, fs_bit, fs_bit_k2 n (fun k a b => h k a (by omega)), (h n (by omega) (by omega)).1, (h n (by omega) (by omega)).2]
section FXA
variable {σ : fx_S} {i : Int}
theorem fs_up_cc {kk K : Nat} {a v : Int} (h : (kk = 8 ∧ K = 20) ∨ (kk = 2 ∧ K = 14) ∨ (kk = 1 ∧ K = 13)) : fs_eq (fx_up (fs_c σ i) kk a 0 v) (fs_c (fx_up σ K i a v) i) := by
  rcases h with ⟨rfl, rfl⟩ | ⟨rfl, rfl⟩ | ⟨rfl, rfl⟩
  all_goals
    refine ⟨?_, ?_, fun s s0 s1 => ?_, fun f f0 f1 => ?_, fun t t0 t1 => ?_⟩
    all_goals simp [fs_c, fx_up]
theorem c31 (ho : fs_ok (fs_c σ i)) (hb : fs_bt σ i) (hi : i ≤ 10) {q k a b c d e : Int} (hk : σ 26 q 2 = k) (ha : σ 27 q 0 = a) (hb1 : σ 27 q 1 = b) (hc : σ 27 q 2 = c) (hd : σ 27 q 3 = d) (he : σ 27 q 4 = e) (hq : 0 ≤ q) (hp : fs_par k a b c d e (fs_ra σ q)) (hr : fs_ref (fs_c σ i) k a b c d = 0) (hrb : k = 24 → σ 22 (q + 88) 5 = fs_bit (fs_ra σ q) 0 (σ 22 (q + 88) 3).toNat) :
    fx_Ca 31 [(11, i), (26, q)] σ (fun v τ => v = (4, 0) ∧ fs_fr i σ τ ∧ fs_eq (fs_do (fs_c σ i) k a b c d e (fs_ra σ q)) (fs_c τ i) ∧ fs_bt τ i) := by
  have hn := fs_cn ho
  have hA := fs_do_ok ho hp hr
  have h0 := fs_ref_0 hr
  obtain ⟨p0, p16, p17, p18, p22, p23, p24⟩ := hp
  refine t31_0 ?_
  rw [hk, ha, hb1, hc, hd, he]
  have e8 : 8 * i + 0 + a = 8 * i + a := by omega
  rw [e8]
  refine ⟨fun k16 => ⟨p16 k16, c4.V ?_⟩, fun n16 => ⟨fun k17 => fx_CV_of (c32 ho (h0.1 k17)) ?_, fun n17 => ⟨fun k18 => fx_CV_of (c33 ho (h0.2.1 k18).2.2) ?_, fun n18 => ⟨fun k19 => ⟨?_, ?_⟩, fun n19 => ⟨fun k20 => ⟨fun z => absurd k20 z, fun _ => ⟨?_, ?_⟩⟩, fun n20 => ⟨fun k21 => ⟨fun _ => ⟨?_, ?_⟩, fun z => absurd z n20⟩, fun n21 => ⟨fun k22 => ⟨?_, ?_⟩, fun n22 => ⟨fun k23 => fx_CV_of (c34 ho (p23 k23).1 (p23 k23).2 (h0.2.2.2.2 k23)) ?_, fun n23 => ⟨fun k24 => ⟨(p24 k24).1, ?_⟩, fun n24 => (show False by omega).elim⟩⟩⟩⟩⟩⟩⟩⟩⟩
  · have hdo : fs_do (fs_c σ i) k a b c d e (fs_ra σ q) = fs_off (fs_c σ i) a := by unfold fs_do; rw [if_pos k16]
    rw [hdo] at hA ⊢
    have e1 : fs_eq (fs_off (fs_c σ i) a) (fs_c (fx_up (fx_up (fx_up σ 22 (8 * i + a) 3 0) 22 (8 * i + a) 4 0) 22 (8 * i + a) 5 0) i) := by
      refine ⟨?_, ?_, fun s s0 s1 => ?_, fun f f0 f1 => ?_, fun t t0 t1 => ?_⟩
      · simp [fs_off, fs_c, fx_up]
      · simp [fs_off, fs_c, fx_up]
      · simp [fs_off, fs_c, fx_up]
      · simp [fs_off, fs_c, fx_up]
      · by_cases g : t = a
        · simp [fs_off, fs_c, fx_up, g]
        · have g2 : ¬ 8 * i + t = 8 * i + a := by omega
          simp [fs_off, fs_c, fx_up, g]
    refine ⟨rfl, ?_, e1, fun t t0 t1 => ?_⟩
    · have := p16 k16
      exact ((fs_fr.rfl.up (by unfold fs_at; omega) (by omega)).up (by unfold fs_at; omega) (by omega)).up (by unfold fs_at; omega) (by omega)
    · rw [← fs_bit_c e1 hA t0 t1]
      by_cases g : t = a
      · rw [g, fx_upS]
        have : fs_off (fs_c σ i) a 9 a 0 = 0 := by simp [fs_off, fx_up]
        rw [this]; rfl
      · rw [fx_upE, if_neg (by omega), fx_upE, if_neg (by omega), fx_upE, if_neg (by omega), hb t t0 t1]
        have : fs_off (fs_c σ i) a 9 t 0 = fs_c σ i 9 t 0 := by simp [fs_off, fx_up, g]
        rw [this]
        exact fs_bit_k _ (fun k k0 k1 => by simp [fs_off, fx_up])
  · rintro v τ ⟨rfl, f1, f2, f3⟩
    have hdo : fs_do (fs_c σ i) k a b c d e (fs_ra σ q) = fs_src (fs_c σ i) a := by unfold fs_do; rw [if_neg n16, if_pos k17]
    rw [hdo] at hA ⊢
    refine Or.inl ⟨rfl, rfl, f1, f2, fs_bt_same hb f2 hA (fun k x y k0 k1 => ?_) f3⟩
    unfold fs_src
    simp only [fx_upE]
    rw [if_neg (by omega), if_neg (by omega), if_neg (by omega)]
  · rintro v τ ⟨rfl, f1, f2, f3⟩
    have hdo : fs_do (fs_c σ i) k a b c d e (fs_ra σ q) = fs_fct (fs_c σ i) a b c d e := by unfold fs_do; rw [if_neg n16, if_neg n17, if_pos k18]
    rw [hdo] at hA ⊢
    refine Or.inl ⟨rfl, rfl, f1, f2, fs_bt_same hb f2 hA (fun k x y k0 k1 => ?_) f3⟩
    unfold fs_fct
    simp only [fx_upE]
    rw [if_neg (by omega), if_neg (by omega), if_neg (by omega), if_neg (by omega), if_neg (by omega), if_neg (by omega), if_neg (by omega)]
  · have hh := (h0.2.2.1 k19).1
    have : a < σ 11 i 10 := hh.2
    omega
  · have hdo : fs_do (fs_c σ i) k a b c d e (fs_ra σ q) = fx_up (fs_c σ i) 8 a 0 1 := by unfold fs_do; rw [if_neg n16, if_neg n17, if_neg n18, if_pos k19]
    rw [hdo] at hA ⊢
    have e1 := fs_up_cc (σ := σ) (i := i) (a := a) (v := 1) (Or.inl ⟨rfl, rfl⟩ : (8 = 8 ∧ 20 = 20) ∨ (8 = 2 ∧ 20 = 14) ∨ (8 = 1 ∧ 20 = 13))
    exact ⟨rfl, fs_fr.rfl.up (by unfold fs_at; omega) (by omega), e1, fs_bt_same hb e1 hA (fun k x y k0 k1 => by rw [fx_upE, if_neg (by omega)]) (fun t => fx_upK rfl)⟩
  · have hh := h0.2.2.2.1 (Or.inl k20)
    have : a < σ 11 i 9 := hh.2
    omega
  · have hdo : fs_do (fs_c σ i) k a b c d e (fs_ra σ q) = fx_up (fs_c σ i) 2 a 0 1 := by unfold fs_do; rw [if_neg n16, if_neg n17, if_neg n18, if_neg n19, if_pos k20]
    rw [hdo] at hA ⊢
    have e1 := fs_up_cc (σ := σ) (i := i) (a := a) (v := 1) (Or.inr (Or.inl ⟨rfl, rfl⟩) : (2 = 8 ∧ 14 = 20) ∨ (2 = 2 ∧ 14 = 14) ∨ (2 = 1 ∧ 14 = 13))
    exact ⟨rfl, fs_fr.rfl.up (by unfold fs_at; omega) (by omega), e1, fs_bt_same hb e1 hA (fun k x y k0 k1 => by rw [fx_upE, if_neg (by omega)]) (fun t => fx_upK rfl)⟩
  · have hh := h0.2.2.2.1 (Or.inr (Or.inl k21))
    have : a < σ 11 i 9 := hh.2
    omega
  · have hdo : fs_do (fs_c σ i) k a b c d e (fs_ra σ q) = fx_up (fs_c σ i) 2 a 0 0 := by unfold fs_do; rw [if_neg n16, if_neg n17, if_neg n18, if_neg n19, if_neg n20, if_pos k21]
    rw [hdo] at hA ⊢
    have e1 := fs_up_cc (σ := σ) (i := i) (a := a) (v := 0) (Or.inr (Or.inl ⟨rfl, rfl⟩) : (2 = 8 ∧ 14 = 20) ∨ (2 = 2 ∧ 14 = 14) ∨ (2 = 1 ∧ 14 = 13))
    exact ⟨rfl, fs_fr.rfl.up (by unfold fs_at; omega) (by omega), e1, fs_bt_same hb e1 hA (fun k x y k0 k1 => by rw [fx_upE, if_neg (by omega)]) (fun t => fx_upK rfl)⟩
  · have hh := h0.2.2.2.1 (Or.inr (Or.inr k22))
    have : a < σ 11 i 9 := hh.2
    omega
  · have hdo : fs_do (fs_c σ i) k a b c d e (fs_ra σ q) = fx_up (fs_c σ i) 1 a 0 b := by unfold fs_do; rw [if_neg n16, if_neg n17, if_neg n18, if_neg n19, if_neg n20, if_neg n21, if_pos k22]
    rw [hdo] at hA ⊢
    have e1 := fs_up_cc (σ := σ) (i := i) (a := a) (v := b) (Or.inr (Or.inr ⟨rfl, rfl⟩) : (1 = 8 ∧ 13 = 20) ∨ (1 = 2 ∧ 13 = 14) ∨ (1 = 1 ∧ 13 = 13))
    exact ⟨rfl, fs_fr.rfl.up (by unfold fs_at; omega) (by omega), e1, fs_bt_same hb e1 hA (fun k x y k0 k1 => by rw [fx_upE, if_neg (by omega)]) (fun t => fx_upK rfl)⟩
  · rintro v τ ⟨rfl, f1, f2, f3⟩
    have hdo : fs_do (fs_c σ i) k a b c d e (fs_ra σ q) = fs_cutS (fs_c σ i) a b (fs_c σ i 0 1 0).toNat := by unfold fs_do; rw [if_neg n16, if_neg n17, if_neg n18, if_neg n19, if_neg n20, if_neg n21, if_neg n22, if_pos k23]
    rw [hdo] at hA ⊢
    exact Or.inl ⟨rfl, rfl, f1, f2, fs_bt_same hb f2 hA (fun k x y k0 k1 => fs_cutS_rul (by omega) _) f3⟩
  · have hdo : fs_do (fs_c σ i) k a b c d e (fs_ra σ q) = fs_rul (fs_c σ i) a (fs_ra σ q) := by unfold fs_do; rw [if_neg n16, if_neg n17, if_neg n18, if_neg n19, if_neg n20, if_neg n21, if_neg n22, if_neg n23]
    rw [hdo] at hA ⊢
    obtain ⟨pa, pR⟩ := p24 k24
    have pn : 0 ≤ σ 22 (q + 88) 3 ∧ σ 22 (q + 88) 3 ≤ 23 := pR.1
    have hrb := hrb k24
    rw [show 1 * q + 88 = q + 88 by omega]
    refine (c5 (σ := σ) (i := 8 * i + a) (j := q + 88) pn.2 pn.1).V ?_
    generalize hE : fx_up (fx_up (fx_up (fx_cp σ 23 25 (8 * i + a) (q + 88) (σ 22 (q + 88) 3)) 22 (8 * i + a) 3 (σ 22 (q + 88) 3)) 22 (8 * i + a) 4 (σ 22 (q + 88) 4)) 22 (8 * i + a) 5 (σ 22 (q + 88) 5) = τ
    have t1 : ∀ K o p, ¬ (22 ≤ K ∧ K ≤ 25 ∧ o = 8 * i + a) → τ K o p = σ K o p := by
      intro K o p hK
      rw [← hE]
      simp only [fx_upE, fx_cpE]
      rw [if_neg (by omega), if_neg (by omega), if_neg (by omega), if_neg (by omega)]
    have t3 : τ 22 (8 * i + a) 3 = σ 22 (q + 88) 3 := by rw [← hE]; simp [fx_upE]
    have t4 : τ 22 (8 * i + a) 4 = σ 22 (q + 88) 4 := by rw [← hE]; simp [fx_upE]
    have t5 : τ 22 (8 * i + a) 5 = σ 22 (q + 88) 5 := by rw [← hE]; simp [fx_upE]
    have tk : ∀ K p, 23 ≤ K → K ≤ 25 → 0 ≤ p → p < σ 22 (q + 88) 3 → τ K (8 * i + a) p = σ K (q + 88) p := by
      intro K p K0 K1 p0 p1
      rw [← hE]
      rw [fx_upE, if_neg (by omega), fx_upE, if_neg (by omega), fx_upE, if_neg (by omega), fx_cpE, if_pos ⟨K0, K1, rfl, p0, p1⟩]
    have e1 : fs_eq (fs_rul (fs_c σ i) a (fs_ra σ q)) (fs_c τ i) := by
      refine ⟨?_, ?_, fun s s0 s1 => ?_, fun f f0 f1 => ?_, fun t t0 tt => ?_⟩
      · simp only [fs_rul, fs_c]; rw [if_neg (by omega)]; exact (t1 11 i _ (by omega)).symm
      · simp only [fs_rul, fs_c]; rw [if_neg (by omega)]; exact (t1 11 i _ (by omega)).symm
      · simp only [fs_rul, fs_c]; rw [if_neg (by omega), if_neg (by omega)]; exact ⟨(t1 13 i _ (by omega)).symm, (t1 14 i _ (by omega)).symm⟩
      · simp only [fs_rul, fs_c]
        rw [if_neg (by omega), if_neg (by omega), if_neg (by omega), if_neg (by omega), if_neg (by omega), if_neg (by omega)]
        exact ⟨(t1 15 i _ (by omega)).symm, (t1 16 i _ (by omega)).symm, (t1 17 i _ (by omega)).symm, (t1 18 i _ (by omega)).symm, (t1 19 i _ (by omega)).symm, (t1 20 i _ (by omega)).symm⟩
      · by_cases g : t = a
        · subst g
          simp only [fs_rul, fs_c, fs_ra]
          simp
          exact ⟨t3.symm, t4.symm, fun k k0 k1 => ⟨(tk 23 k (by omega) (by omega) k0 k1).symm, (tk 24 k (by omega) (by omega) k0 k1).symm, fun _ => (tk 25 k (by omega) (by omega) k0 k1).symm⟩⟩
        · simp only [fs_rul, fs_c]
          simp [g]
          exact ⟨(t1 22 _ _ (by omega)).symm, (t1 22 _ _ (by omega)).symm, fun k k0 k1 => ⟨(t1 23 _ _ (by omega)).symm, (t1 24 _ _ (by omega)).symm, fun _ => (t1 25 _ _ (by omega)).symm⟩⟩
    refine ⟨rfl, ⟨fun K o p hK => t1 K o p (by unfold fs_at at hK; omega), fun hw o p => ?_⟩, e1, fun t t0 tt => ?_⟩
    · rw [t1 14 o p (by omega), t1 20 o p (by omega)]; exact hw o p
    · rw [← fs_bit_c e1 hA t0 tt]
      by_cases g : t = a
      · rw [g, t5, hrb]
        have : fs_rul (fs_c σ i) a (fs_ra σ q) 9 a 0 = σ 22 (q + 88) 3 := by simp [fs_rul, fs_ra]
        rw [this]
        exact fs_bit_k2 _ (fun k k0 k1 => by simp [fs_rul])
      · rw [t1 22 _ _ (by omega), hb t t0 tt]
        have : fs_rul (fs_c σ i) a (fs_ra σ q) 9 t 0 = fs_c σ i 9 t 0 := by simp [fs_rul, g]
        rw [this]
        exact fs_bit_k _ (fun k k0 k1 => by simp [fs_rul, g])
end FXA
