theorem fx_ite_n {c : Prop} {i : Decidable c} {a b x : Int} (h1 : a ≠ x) (h2 : b ≠ x) : (if c then a else b) ≠ x := by
  by_cases h : c
  · rw [if_pos h]; exact h1
  · rw [if_neg h]; exact h2
theorem fs_k1_n {L : List Int} : fs_k1 L ≠ 1 := fx_ite_n (by decide) (fx_ite_n (by decide) (fx_ite_n (by decide) (fx_ite_n (by decide) (fx_ite_n (by decide) (fx_ite_n (by decide) (fx_ite_n (by decide) (fx_ite_n (by decide) (by decide))))))))
theorem fs_k2_n {L : List Int} : fs_k2 L ≠ 1 := fx_ite_n (by decide) (fx_ite_n (by decide) (fx_ite_n (by decide) (fx_ite_n (by decide) (fx_ite_n (by decide) (fx_ite_n (by decide) (fx_ite_n (by decide) (fx_ite_n (by decide) (fx_ite_n (by decide) (by decide)))))))))
theorem fs_kw_n {L : List Int} : fs_kw L ≠ 1 := fx_ite_n fs_k2_n fs_k1_n
theorem fx_up4 {τ : fx_S} {n a b c m : Int} {K : Nat} {o q : Int} (h : ¬ ((30 ≤ K ∧ K ≤ 32 ∧ o = 0 ∧ q = n) ∨ (K = 28 ∧ o = 0 ∧ q = 5))) : fx_up (fx_up (fx_up (fx_up τ 30 0 n a) 31 0 n b) 32 0 n c) 28 0 5 m K o q = τ K o q := by
  rw [fx_upE, if_neg (by omega), fx_upE, if_neg (by omega), fx_upE, if_neg (by omega), fx_upE, if_neg (by omega)]
/-- the tokens laid so far -/
def fs_ly (T : Int → Int) (N : Int) (τ : fx_S) (i : Nat) : Prop := τ 28 0 5 = i ∧ ∀ j : Nat, j < i → fs_a T N j < N ∧ τ 31 0 j = fs_a T N j ∧ τ 30 0 j = fs_tk T N (fs_a T N j) ∧ (τ 30 0 j = 1 → τ 32 0 j = fs_tv T N (fs_a T N j))
theorem fs_ly_s {T : Int → Int} {N : Int} {τ : fx_S} {i : Nat} {p k v : Int} (h : fs_ly T N τ i) (ha : fs_a T N i = p) (hp : p < N) (hk : fs_tk T N p = k) (hv : k = 1 → v = fs_tv T N p) : fs_ly T N (fx_up (fx_up (fx_up (fx_up τ 30 0 i k) 31 0 i p) 32 0 i v) 28 0 5 (i + 1)) (i + 1) := by
  refine ⟨by rw [fx_upS]; omega, fun j hj => ?_⟩
  by_cases e : j = i
  · subst e
    rw [ha]
    simp [fx_up]
    exact ⟨hp, hk.symm, hv⟩
  · have e2 : ¬ (j : Int) = i := by omega
    simp [fx_up, e2]
    exact h.2 j (by omega)
section FXTK
variable {σ : fx_S}
theorem c13 {p e : Int} (h0 : 0 ≤ p) (h1 : p ≤ e) (h2 : e ≤ 400) (h3 : e - p ≤ 4) (hd : ∀ k, p ≤ k → k < e → fs_dig (σ 29 0 k) = true) : fx_Rt 13 [(28, 0), (0, p), (0, e)] σ (0, fs_nm (σ 29 0) p (e - p).toNat 0) σ := by
  refine t13_0 ?_
  have key : ∀ (n : Nat) (k x : Int), (e - k).toNat = n → p ≤ k → k ≤ e → (0 ≤ x ∧ (k - p ≤ 0 → x ≤ 0) ∧ (k - p ≤ 1 → x ≤ 9) ∧ (k - p ≤ 2 → x ≤ 99) ∧ (k - p ≤ 3 → x ≤ 999)) → fx_Wp 13 5 [(28, 0), (0, p), (0, e), (0, x), (0, k)] [] σ (fun w s => w = (0, fs_nm (σ 29 0) k n x) ∧ s = σ) := by
    intro n
    induction n with
    | zero =>
      intro k x hn k0 k1 hx
      exact t13_5 ⟨fun a => ⟨rfl, rfl⟩, fun a => by omega⟩
    | succ n ih =>
      intro k x hn k0 k1 hx
      have hdk := hd k k0 (by omega)
      unfold fs_dig at hdk
      simp only [Bool.and_eq_true, decide_eq_true_eq] at hdk
      exact t13_5 ⟨fun a => by omega, fun a => ⟨⟨by omega, by omega⟩, ⟨by omega, by omega⟩, ⟨by omega, by omega⟩, ⟨by omega, by omega⟩, ⟨by omega, by omega⟩, ih (k + 1) _ (by omega) (by omega) (by omega) ⟨by omega, fun z => by omega, fun z => by omega, fun z => by omega, fun z => by omega⟩⟩⟩
  exact key _ p 0 rfl (Int.le_refl _) h1 ⟨by omega, fun _ => by omega, fun _ => by omega, fun _ => by omega, fun _ => by omega⟩
theorem c10l {N E p : Int} {Q : fx_V → fx_S → Prop} {w3 : fx_V} (hN : σ 28 0 4 = N) (h0 : 0 ≤ p) (hN4 : N ≤ 400) (k : fx_Wp 10 49 [(28, 0), (0, p), (0, E), w3] [] σ Q) : ∀ (n : Nat) (x : Int), (N - x).toNat = n → p ≤ x → x ≤ N → fs_rn fs_let (σ 29 0) N x = E → fx_Wp 10 27 [(28, 0), (0, p), (0, x), w3] [] σ Q
  | 0, x, hn, hp, hx, he => by
    rw [fs_rn_e (by omega)] at he
    subst he
    refine t10_27 ?_
    rw [hN]
    exact ⟨fun _ => k, fun a => by omega⟩
  | n + 1, x, hn, hp, hx, he => by
    refine t10_27 ?_
    rw [hN]
    refine ⟨fun _ => by omega, fun a => (c11 (by omega) (by omega)).I ⟨fun b => ?_, fun b => ⟨⟨by omega, by omega⟩, ?_⟩⟩⟩
    · rw [fs_rn_n (fs_b0.mp b)] at he
      subst he
      exact k
    · rw [fs_rn_y a (fs_b1.mp b)] at he
      exact c10l hN h0 hN4 k n (x + 1) (by omega) (by omega) (by omega) he
theorem c10d {N E p : Int} {Q : fx_V → fx_S → Prop} {w3 : fx_V} (hN : σ 28 0 4 = N) (h0 : 0 ≤ p) (hN4 : N ≤ 400) (k : fx_Wp 10 94 [(28, 0), (0, p), (0, E), w3] [] σ Q) : ∀ (n : Nat) (x : Int), (N - x).toNat = n → p ≤ x → x ≤ N → fs_rn fs_dig (σ 29 0) N x = E → fx_Wp 10 72 [(28, 0), (0, p), (0, x), w3] [] σ Q
  | 0, x, hn, hp, hx, he => by
    rw [fs_rn_e (by omega)] at he
    subst he
    refine t10_72 ?_
    rw [hN]
    exact ⟨fun _ => k, fun a => by omega⟩
  | n + 1, x, hn, hp, hx, he => by
    refine t10_72 ?_
    rw [hN]
    refine ⟨fun _ => by omega, fun a => (c12 (by omega) (by omega)).I ⟨fun b => ?_, fun b => ⟨⟨by omega, by omega⟩, ?_⟩⟩⟩
    · rw [fs_rn_n (fs_b0.mp b)] at he
      subst he
      exact k
    · rw [fs_rn_y a (fs_b1.mp b)] at he
      exact c10d hN h0 hN4 k n (x + 1) (by omega) (by omega) (by omega) he
theorem c10 {N : Int} (hN : σ 28 0 4 = N) (h0 : 0 ≤ N) (h4 : N ≤ 400) : fx_Ca 10 [(28, 0)] σ (fun v τ => v = (4, 0) ∧ (∀ K o q, ¬ ((30 ≤ K ∧ K ≤ 32) ∨ (K = 28 ∧ o = 0 ∧ q = 5)) → τ K o q = σ K o q) ∧ ∃ m : Nat, (m : Int) ≤ N ∧ fs_a (σ 29 0) N m = N ∧ τ 28 0 5 = (m : Int) + 1 ∧ τ 31 0 m = N ∧ τ 30 0 m = 0 ∧ ∀ j : Nat, j < m → fs_a (σ 29 0) N j < N ∧ τ 31 0 j = fs_a (σ 29 0) N j ∧ τ 30 0 j = fs_tk (σ 29 0) N (fs_a (σ 29 0) N j) ∧ (τ 30 0 j = 1 → τ 32 0 j = fs_tv (σ 29 0) N (fs_a (σ 29 0) N j))) := by
  refine t10_0 ?_
  generalize hQ : (fun (v : fx_V) (τ : fx_S) => v = (4, 0) ∧ (∀ K o q, ¬ ((30 ≤ K ∧ K ≤ 32) ∨ (K = 28 ∧ o = 0 ∧ q = 5)) → τ K o q = σ K o q) ∧ ∃ m : Nat, (m : Int) ≤ N ∧ fs_a (σ 29 0) N m = N ∧ τ 28 0 5 = (m : Int) + 1 ∧ τ 31 0 m = N ∧ τ 30 0 m = 0 ∧ ∀ j : Nat, j < m → fs_a (σ 29 0) N j < N ∧ τ 31 0 j = fs_a (σ 29 0) N j ∧ τ 30 0 j = fs_tk (σ 29 0) N (fs_a (σ 29 0) N j) ∧ (τ 30 0 j = 1 → τ 32 0 j = fs_tv (σ 29 0) N (fs_a (σ 29 0) N j))) = Q
  refine fx_whl (X := Int × fx_V × fx_V × fx_S × Nat) (fun y => [(28, 0), (0, y.1), y.2.1, y.2.2.1]) (fun y => y.2.2.2.1) (fun y => (0 ≤ y.1 ∧ y.1 ≤ N ∧ (y.2.2.2.2 : Int) ≤ y.1) ∧ (∀ K o q, ¬ ((30 ≤ K ∧ K ≤ 32) ∨ (K = 28 ∧ o = 0 ∧ q = 5)) → y.2.2.2.1 K o q = σ K o q) ∧ fs_rn fs_spc (σ 29 0) N y.1 = fs_a (σ 29 0) N y.2.2.2.2 ∧ fs_ly (σ 29 0) N y.2.2.2.1 y.2.2.2.2) (fun y => (N - y.1).toNat) ?_ (0, (3, 0), (3, 0), fx_up σ 28 0 5 0, 0) ⟨⟨by simp, by simpa using h0, by simp⟩, fun K o q hK => by simp only; rw [fx_upE, if_neg (by omega)], rfl, ⟨by simp only; rw [fx_upS]; rfl, fun j hj => absurd hj (Nat.not_lt_zero j)⟩⟩
  rintro ⟨p, w2, w3, τ, i⟩ ⟨⟨p0, pN, pi⟩, hf, ha, hl⟩ ih
  simp only at p0 pN pi hf ha hl
  show fx_Wp 10 7 [(28, 0), (0, p), w2, w3] [] τ Q
  have e4 : τ 28 0 4 = N := (hf 28 0 4 (by omega)).trans hN
  have e29 : τ 29 0 = σ 29 0 := funext (fun q => hf 29 0 q (by omega))
  refine t10_7 ?_
  rw [e4]
  refine ⟨fun hp => (c14 hl.1 (by omega) (by omega)).V ?_, fun hp => ⟨⟨by omega, by omega⟩, (c11 p0 (by omega)).I ?_⟩⟩
  · rw [← hQ]
    rw [fs_rn_e hp] at ha
    have hpN : p = N := by omega
    refine ⟨rfl, fun K o q hK => ?_, i, by omega, by rw [← ha]; exact hpN, fx_upS, ?_, ?_, fun j hj => ?_⟩
    · rw [fx_upE, if_neg (by omega), fx_upE, if_neg (by omega), fx_upE, if_neg (by omega), fx_upE, if_neg (by omega)]; exact hf K o q hK
    · rw [fx_upK rfl, fx_upK rfl, fx_upS]
    · rw [fx_upK rfl, fx_upK rfl, fx_upK rfl, fx_upS]
    · rw [fx_up4 (by omega), fx_up4 (by omega), fx_up4 (by omega)]
      exact hl.2 j hj
  · -- a token or a space stands at p
    have store : ∀ (k v E : Int) (w2 w3 : fx_V), fs_rn fs_spc (σ 29 0) N p = p → fs_tk (σ 29 0) N p = k → (k = 1 → v = fs_tv (σ 29 0) N p) → fs_te (σ 29 0) N p = E → p < E → E ≤ N → fx_CV 14 [(28, 0), (0, k), (0, p), (0, v)] τ Q (fun σ5 => fx_Wp 10 7 [(28, 0), (0, E), w2, w3] [] σ5 Q) := by
      intro k v E w2 w3 hs hk hv hE pE EN
      rw [hs] at ha
      refine (c14 hl.1 (by omega) (by omega)).V (ih (E, w2, w3, _, i + 1) ⟨⟨by simp only; omega, EN, by simp only; omega⟩, fun K o q hK => ?_, ?_, ?_⟩ (by simp only; omega))
      · exact (fx_up4 (by omega)).trans (hf K o q hK)
      · simp only
        rw [fs_a, ← ha, hE]
      · simp only
        exact fs_ly_s hl ha.symm hp hk hv
    rw [show τ 29 0 p = σ 29 0 p by rw [e29]]
    refine ⟨fun hL => (c12 p0 (by omega)).I ?_, fun hL => ?_⟩
    · have hL := fs_b0.mp hL
      rw [show τ 29 0 p = σ 29 0 p by rw [e29]]
      refine ⟨fun hD => ⟨⟨p0, by omega⟩, fun hs => ?_, fun hs => c15.I ?_⟩, fun hD => ?_⟩
      · exact ih (p + 1, (0, p + 1), w3, τ, i) ⟨⟨by simp only; omega, by simp only; omega, by simp only; omega⟩, hf, by simp only; rw [← ha, fs_rn_y hp (by unfold fs_spc; exact decide_eq_true hs)], hl⟩ (by simp only; omega)
      · have hD := fs_b0.mp hD
        refine store _ _ (p + 1) _ _ (fs_rn_n (by unfold fs_spc; exact decide_eq_false hs)) ?_ (fun z => ?_) ?_ (by omega) (by omega)
        · unfold fs_tk
          rw [if_neg (by omega), hL, hD]; rfl
        · unfold fs_sy at z
          exfalso
          revert z
          repeat' split
          all_goals decide
        · unfold fs_te
          rw [if_neg (by omega), hL, hD]; rfl
      · have hD := fs_b1.mp hD
        have hs : fs_rn fs_spc (σ 29 0) N p = p := fs_rn_n (by
          unfold fs_dig at hD
          simp only [Bool.and_eq_true, decide_eq_true_eq] at hD
          unfold fs_spc; exact decide_eq_false (by omega))
        have hr := fs_rn_r (P := fs_dig) (T := σ 29 0) (N := N) (p := p + 1) (by omega)
        have hE : fs_rn fs_dig (σ 29 0) N p = fs_rn fs_dig (σ 29 0) N (p + 1) := fs_rn_y hp hD
        have hte : fs_te (σ 29 0) N p = fs_rn fs_dig (σ 29 0) N p := by
          unfold fs_te
          rw [if_neg (by omega), hL, hD]; rfl
        refine c10d (N := N) (E := fs_rn fs_dig (σ 29 0) N p) e4 p0 h4 ?_ _ (p + 1) rfl (by omega) (by omega) (by rw [e29]; exact hE.symm)
        have hdd := (fs_rn_r (P := fs_dig) (T := σ 29 0) (N := N) (p := p) (by omega)).2.2.2
        refine t10_94 ⟨⟨by omega, by omega⟩, fun hb => store _ _ _ _ _ hs ?_ (fun z => absurd z (by decide)) hte (by omega) (by omega), fun hb => (c13 p0 (by omega) (by omega) hb (by rw [e29]; exact hdd)).I (store _ _ _ _ _ hs ?_ (fun _ => ?_) hte (by omega) (by omega))⟩
        · unfold fs_tk
          rw [if_neg (by omega), hL, hD]
          simp; omega
        · unfold fs_tk
          rw [if_neg (by omega), hL, hD]
          simp; omega
        · rw [e29]; rfl
    · have hL := fs_b1.mp hL
      have hs : fs_rn fs_spc (σ 29 0) N p = p := fs_rn_n (by
        unfold fs_let at hL
        simp only [Bool.and_eq_true, decide_eq_true_eq] at hL
        unfold fs_spc; exact decide_eq_false (by omega))
      have hr := fs_rn_r (P := fs_let) (T := σ 29 0) (N := N) (p := p + 1) (by omega)
      have hE : fs_rn fs_let (σ 29 0) N p = fs_rn fs_let (σ 29 0) N (p + 1) := fs_rn_y hp hL
      have hte : fs_te (σ 29 0) N p = fs_rn fs_let (σ 29 0) N p := by
        unfold fs_te
        rw [if_neg (by omega), hL]; rfl
      refine c10l (N := N) (E := fs_rn fs_let (σ 29 0) N p) e4 p0 h4 ?_ _ (p + 1) rfl (by omega) (by omega) (by rw [e29]; exact hE.symm)
      refine t10_49 ((c16 p0 (by omega) (by omega)).I ?_)
      rw [e29]
      have hk : fs_tk (σ 29 0) N p = fs_kw (fs_sl (σ 29 0) p (fs_rn fs_let (σ 29 0) N p - p).toNat) := by
        unfold fs_tk
        rw [if_neg (by omega), hL]; rfl
      refine store _ _ _ _ _ hs hk (fun z => ?_) hte (by omega) (by omega)
      exact absurd z fs_kw_n
end FXTK
