def fs_tp (σ : fx_S) (T : Int → Int) (N : Int) : Prop := (0 ≤ N ∧ N ≤ 400) ∧ σ 46 0 10 = N ∧ ∀ j, 0 ≤ j → j < N → σ 51 0 j = T j
/-- only the reference's place and fault changed -/
def fs_rp (σ τ : fx_S) (c f : Int) : Prop := (∀ K o p, ¬ (K = 46 ∧ o = 0 ∧ (p = 11 ∨ p = 12)) → τ K o p = σ K o p) ∧ τ 46 0 11 = c ∧ τ 46 0 12 = f
theorem fs_rp.rfl {σ : fx_S} {c f : Int} (hc : σ 46 0 11 = c) (hf : σ 46 0 12 = f) : fs_rp σ σ c f := ⟨fun _ _ _ _ => Eq.refl _, hc, hf⟩
theorem fs_rp.trans {σ τ ρ : fx_S} {c f c' f' : Int} (h : fs_rp σ τ c f) (g : fs_rp τ ρ c' f') : fs_rp σ ρ c' f' := ⟨fun K o p hK => (g.1 K o p hK).trans (h.1 K o p hK), g.2⟩
theorem fs_rp.tp {σ τ : fx_S} {c f N : Int} {T : Int → Int} (h : fs_rp σ τ c f) (g : fs_tp σ T N) : fs_tp τ T N := ⟨g.1, (h.1 46 0 10 (by omega)).trans g.2.1, fun j a b => (h.1 51 0 j (by omega)).trans (g.2.2 j a b)⟩
section FXRQ
variable {σ : fx_S} {T : Int → Int} {N c p : Int}
theorem fs_tk_1 (h : p ≤ N) : fs_tk T N p = 1 ↔ (p < fs_rn fs_dig T N p ∧ fs_rn fs_dig T N p - p ≤ 4) := by
  have hw := @fs_kw_r (fs_sl T p (fs_rn fs_let T N p - p).toNat)
  have hs := @fs_sy_r (T p)
  unfold fs_tk
  by_cases q : N ≤ p
  · rw [if_pos q, fs_rn_e q]
    exact ⟨fun z => by omega, fun z => by omega⟩
  · rw [if_neg q]
    by_cases l : fs_let (T p) = true
    · rw [if_pos l]
      have d : fs_dig (T p) = false := by
        unfold fs_let at l
        unfold fs_dig
        simp only [Bool.and_eq_true, decide_eq_true_eq] at l
        rw [decide_eq_false (show ¬ T p ≤ 57 by omega), Bool.and_false]
      rw [fs_rn_n d]
      exact ⟨fun z => by omega, fun z => by omega⟩
    · rw [if_neg l]
      by_cases d : fs_dig (T p) = true
      · rw [if_pos d]
        have e := fs_rn_y (P := fs_dig) (T := T) (N := N) (p := p) (by omega) d
        have r := fs_rn_r (P := fs_dig) (T := T) (N := N) (p := p + 1) (by omega)
        by_cases g : 4 < fs_rn fs_dig T N p - p
        · rw [if_pos g]
          exact ⟨fun z => by omega, fun z => by omega⟩
        · rw [if_neg g]
          exact ⟨fun z => ⟨by omega, by omega⟩, fun z => rfl⟩
      · rw [if_neg d, fs_rn_n (by simpa using d)]
        exact ⟨fun z => by omega, fun z => by omega⟩
theorem fs_te_1 (h : fs_tk T N p = 1) (hp : p ≤ N) : fs_te T N p = fs_rn fs_dig T N p := by
  have g := (fs_tk_1 hp).mp h
  have hw := @fs_kw_r (fs_sl T p (fs_rn fs_let T N p - p).toNat)
  unfold fs_te
  unfold fs_tk at h
  by_cases q : N ≤ p
  · rw [if_pos q] at h; omega
  · rw [if_neg q] at h ⊢
    by_cases l : fs_let (T p) = true
    · rw [if_pos l] at h; omega
    · rw [if_neg l] at h ⊢
      by_cases d : fs_dig (T p) = true
      · rw [if_pos d]
      · rw [fs_rn_n (by simpa using d)] at g; omega
theorem c181 (h : fs_tp σ T N) (hc : σ 46 0 11 = c) (c0 : 0 ≤ c) (cN : c ≤ N) : fx_Ca 181 [(46, 0)] σ (fun v τ => v = (0, fs_rn fs_spc T N c) ∧ fs_rp σ τ (fs_rn fs_spc T N c) (σ 46 0 12)) := by
  show fx_Wp 181 0 [(46, 0)] [] σ _
  obtain ⟨hN, h10, hT⟩ := h
  have key : ∀ (n : Nat) (k : Int) (τ : fx_S), (N - k).toNat = n → 0 ≤ k → k ≤ N → fs_rp σ τ k (σ 46 0 12) → fs_rn fs_spc T N k = fs_rn fs_spc T N c → fx_Wp 181 0 [(46, 0)] [] τ (fun v τ => v = (0, fs_rn fs_spc T N c) ∧ fs_rp σ τ (fs_rn fs_spc T N c) (σ 46 0 12)) := by
    intro n
    induction n with
    | zero =>
      intro k τ hn k0 kN hr he
      rw [fs_rn_e (by omega)] at he
      refine t181_0 ?_
      rw [hr.1 46 0 10 (by omega), h10, hr.2.1]
      exact ⟨fun a => ⟨by rw [he], by rw [← he]; exact hr⟩, fun a => by omega⟩
    | succ n ih =>
      intro k τ hn k0 kN hr he
      refine t181_0 ?_
      rw [hr.1 46 0 10 (by omega), h10, hr.2.1, hr.1 51 0 k (by omega), hT k k0 (by omega)]
      refine ⟨fun a => by omega, fun a => ⟨⟨k0, by omega⟩, fun b => ?_, fun b => ⟨⟨by omega, by omega⟩, ?_⟩⟩⟩
      · rw [fs_rn_n (by unfold fs_spc; exact decide_eq_false b)] at he
        exact ⟨by rw [he], by rw [← he]; exact hr⟩
      · refine ih (k + 1) _ (by omega) (by omega) (by omega) ⟨fun K o p hK => ?_, fx_upS, ?_⟩ ?_
        · rw [fx_upE, if_neg (by omega)]; exact hr.1 K o p hK
        · rw [fx_upJ (by omega)]; exact hr.2.2
        · exact (fs_rn_y (P := fs_spc) (p := k) a (by unfold fs_spc; exact decide_eq_true b)).symm.trans he
  exact key _ c σ rfl c0 cN (fs_rp.rfl hc rfl) rfl
theorem c182 {x : Int} (hc : σ 46 0 11 = c) : fx_Ca 182 [(46, 0), (0, x)] σ (fun v τ => v = (4, 0) ∧ fs_rp σ τ c (if σ 46 0 12 = -1 then x else σ 46 0 12)) := by
  refine t182_0 ⟨fun a => ⟨rfl, by rw [if_neg a]; exact fs_rp.rfl hc rfl⟩, fun a => ⟨rfl, ?_⟩⟩
  rw [if_pos a]
  exact ⟨fun K o p hK => by rw [fx_upE, if_neg (by omega)], by rw [fx_upJ (by omega)]; exact hc, fx_upS⟩
theorem fs_sk_r (hc : c ≤ N) : c ≤ fs_rn fs_spc T N c ∧ fs_rn fs_spc T N c ≤ N := ⟨(fs_rn_r hc).1, (fs_rn_r hc).2.1⟩
theorem fs_sl_c {T' : Int → Int} : ∀ (n : Nat) (p : Int), (∀ k, p ≤ k → k < p + n → T k = T' k) → fs_sl T p n = fs_sl T' p n
  | 0, _, _ => rfl
  | n + 1, p, h => by rw [fs_sl, fs_sl, h p (by omega) (by omega), fs_sl_c n (p + 1) (fun k a b => h k (by omega) (by omega))]
theorem c183 {o : Nat} (ho : o < 17) (h : fs_tp σ T N) (hc : σ 46 0 11 = c) (c0 : 0 ≤ c) (cN : c ≤ N) : fx_Ca 183 [(46, 0), (62, (o : Int))] σ (fun v τ => (σ 46 0 12 = -1 ∧ fs_tk T N (fs_rn fs_spc T N c) = fs_wk o ∧ v = (0, 1) ∧ fs_rp σ τ (fs_te T N (fs_rn fs_spc T N c)) (-1)) ∨ (¬ (σ 46 0 12 = -1 ∧ fs_tk T N (fs_rn fs_spc T N c) = fs_wk o) ∧ v = (0, 0) ∧ fs_rp σ τ (fs_rn fs_spc T N c) (σ 46 0 12))) := by
  generalize hQ : (fun (v : fx_V) (τ : fx_S) => (σ 46 0 12 = -1 ∧ fs_tk T N (fs_rn fs_spc T N c) = fs_wk o ∧ v = (0, 1) ∧ fs_rp σ τ (fs_te T N (fs_rn fs_spc T N c)) (-1)) ∨ (¬ (σ 46 0 12 = -1 ∧ fs_tk T N (fs_rn fs_spc T N c) = fs_wk o) ∧ v = (0, 0) ∧ fs_rp σ τ (fs_rn fs_spc T N c) (σ 46 0 12))) = Q
  have hsk := fs_sk_r (T := T) cN
  have hN := h.1
  refine t183_0 (fx_CI_of (c181 h hc c0 cN) ?_)
  rintro v τ ⟨rfl, hr⟩
  generalize fs_rn fs_spc T N c = p at *
  obtain ⟨-, h10, hT⟩ := hr.tp h
  have hp500 : fx_prim 500 [(62, (o : Int))] = some (0, ((fs_w o).length : Int)) := rfl
  have hrl := fs_rn_r (P := fs_let) (T := T) (N := N) (p := p) (by omega)
  have tkw := fs_tk_w (T := T) (N := N) (p := p) ho hsk.2
  refine Or.inl ⟨rfl, ?_⟩
  have k35 : fx_Wp 183 35 [(46, 0), (62, (o : Int)), (0, fs_rn fs_let T N p), (3, 0)] [] τ Q := by
    refine t183_35 ?_
    rw [hr.2.1, hr.2.2]
    refine ⟨fun a => by rw [← hQ]; exact Or.inr ⟨fun z => a z.1, rfl, hr⟩, fun a => ⟨⟨by omega, by omega⟩, _, hp500, fun hl => ?_, fun hl => ?_⟩⟩
    · have key : ∀ (n : Nat) (k : Nat), (fs_w o).length - k = n → k ≤ (fs_w o).length → (∀ j : Nat, j < k → T (p + j) = fx_nth (fs_w o) j 0) → fx_Wp 183 60 [(46, 0), (62, (o : Int)), (0, fs_rn fs_let T N p), (0, (k : Int))] [] τ Q := by
        intro n
        induction n with
        | zero =>
          intro k hk hle hj
          refine t183_60 ⟨_, hp500, fun b => ?_, fun b => by omega⟩
          have hkw := tkw.mp ((fs_sl_eq _ _ _).mpr ⟨by omega, fun j hj2 => hj j (by omega)⟩)
          rw [← hQ]
          refine Or.inl ⟨a, hkw, rfl, ?_⟩
          rw [fs_te_w ho hkw]
          exact ⟨fun K o p hK => by rw [fx_upE, if_neg (by omega)]; exact hr.1 K o p hK, fx_upS, by rw [fx_upJ (by omega), hr.2.2]; exact a⟩
        | succ n ih =>
          intro k hk hle hj
          have hp2 : fx_prim 501 [(62, (o : Int)), (0, (k : Int))] = some (0, fx_nth (fs_w o) k 0) := by
            show (if (0 : Int) ≤ (k : Int) ∧ (k : Int) < (((fs_w o).length : Nat) : Int) then some ((0 : Nat), fx_nth (fs_w o) ((k : Int).toNat) 0) else none) = _
            rw [if_pos ⟨by omega, by omega⟩]; rfl
          refine t183_60 ?_
          rw [hr.2.1, hT (p + k) (by omega) (by omega)]
          refine ⟨_, hp500, fun b => by omega, fun b => ⟨⟨by omega, by omega⟩, ⟨by omega, by omega⟩, _, hp2, fun d => ⟨⟨by omega, by omega⟩, ?_⟩, fun d => ?_⟩⟩
          · have := ih (k + 1) (by omega) (by omega) (fun j hj2 => by
              by_cases z : j = k
              · rw [z]; exact d
              · exact hj j (by omega))
            rw [show ((k + 1 : Nat) : Int) = (k : Int) + 1 by omega] at this
            exact this
          · rw [← hQ]
            exact Or.inr ⟨fun z => d (((fs_sl_eq _ _ _).mp (tkw.mpr z.2)).2 k (by omega)), rfl, hr⟩
      exact key _ 0 rfl (by omega) (fun j hj => by omega)
    · rw [← hQ]
      exact Or.inr ⟨fun z => hl (by have := ((fs_sl_eq _ _ _).mp (tkw.mpr z.2)).1; omega), rfl, hr⟩
  have k5 : ∀ (n : Nat) (x : Int), (N - x).toNat = n → p ≤ x → x ≤ N → fs_rn fs_let T N x = fs_rn fs_let T N p → fx_Wp 183 5 [(46, 0), (62, (o : Int)), (0, x), (3, 0)] [] τ Q := by
    intro n
    induction n with
    | zero =>
      intro x hn px xN he
      rw [fs_rn_e (by omega)] at he
      refine t183_5 ?_
      rw [h10]
      exact ⟨fun _ => by rw [he]; exact k35, fun a => by omega⟩
    | succ n ih =>
      intro x hn px xN he
      refine t183_5 ?_
      rw [h10, hT x (by omega) (by omega)]
      refine ⟨fun _ => by omega, fun a => ⟨⟨by omega, by omega⟩, c149.I ?_⟩⟩
      have e : (decide (97 ≤ T x) && decide (T x ≤ 122)) = fs_let (T x) := rfl
      rw [e]
      refine ⟨fun b => ?_, fun b => ⟨⟨by omega, by omega⟩, ih (x + 1) (by omega) (by omega) (by omega) (by rw [← he, fs_rn_y a (fs_b1.mp b)])⟩⟩
      rw [fs_rn_n (fs_b0.mp b)] at he
      rw [he]; exact k35
  exact k5 _ p rfl (Int.le_refl _) hsk.2 rfl
theorem c184 {o : Nat} (ho : o < 17) (h : fs_tp σ T N) (hc : σ 46 0 11 = c) (c0 : 0 ≤ c) (cN : c ≤ N) : fx_Ca 184 [(46, 0), (62, (o : Int))] σ (fun v τ => v = (4, 0) ∧ ((σ 46 0 12 ≠ -1 ∧ τ = σ) ∨ (σ 46 0 12 = -1 ∧ fs_tk T N (fs_rn fs_spc T N c) = fs_wk o ∧ fs_rp σ τ (fs_te T N (fs_rn fs_spc T N c)) (-1)) ∨ (σ 46 0 12 = -1 ∧ fs_tk T N (fs_rn fs_spc T N c) ≠ fs_wk o ∧ fs_rp σ τ (fs_rn fs_spc T N c) (fs_rn fs_spc T N c)))) := by
  refine t184_0 ⟨fun a => ⟨rfl, Or.inl ⟨a, rfl⟩⟩, fun a => fx_CI_of (c183 ho h hc c0 cN) ?_⟩
  rintro v τ (⟨-, h2, rfl, h3⟩ | ⟨h2, rfl, h3⟩)
  · exact Or.inl ⟨rfl, fun _ => ⟨rfl, Or.inr (Or.inl ⟨a, h2, h3⟩)⟩, fun z => absurd z (by decide)⟩
  · refine Or.inl ⟨rfl, fun z => absurd rfl z, fun _ => fx_CV_of (c182 h3.2.1) ?_⟩
    rintro v ρ ⟨rfl, h4⟩
    rw [h3.2.1, h3.2.2, if_pos a] at h4
    exact Or.inl ⟨rfl, rfl, Or.inr (Or.inr ⟨a, fun z => h2 ⟨a, z⟩, h3.trans h4⟩)⟩
theorem c185 {x : Int} (hx : x = 40 ∨ x = 41 ∨ x = 43 ∨ x = 45 ∨ x = 59) (h : fs_tp σ T N) (hc : σ 46 0 11 = c) (c0 : 0 ≤ c) (cN : c ≤ N) : fx_Ca 185 [(46, 0), (0, x)] σ (fun v τ => (σ 46 0 12 ≠ -1 ∧ v = (0, 0) ∧ τ = σ) ∨ (σ 46 0 12 = -1 ∧ fs_tk T N (fs_rn fs_spc T N c) = fs_sy x ∧ v = (0, 1) ∧ fs_rp σ τ (fs_te T N (fs_rn fs_spc T N c)) (-1)) ∨ (σ 46 0 12 = -1 ∧ fs_tk T N (fs_rn fs_spc T N c) ≠ fs_sy x ∧ v = (0, 0) ∧ fs_rp σ τ (fs_rn fs_spc T N c) (-1))) := by
  have hsk := fs_sk_r (T := T) cN
  have hN := h.1
  refine t185_0 ⟨fun a => Or.inl ⟨a, rfl, rfl⟩, fun a => fx_CI_of (c181 h hc c0 cN) ?_⟩
  rintro v τ ⟨rfl, hr⟩
  generalize fs_rn fs_spc T N c = p at *
  obtain ⟨-, h10, hT⟩ := hr.tp h
  rw [a] at hr
  have ks := fs_tk_s (T := T) (N := N) (p := p) hx
  rw [h10, hr.2.1]
  refine Or.inl ⟨rfl, fun e => Or.inr (Or.inr ⟨a, fun z => ?_, rfl, hr⟩), fun e => ⟨⟨by omega, by omega⟩, ?_⟩⟩
  · have := (ks.mpr z).1
    have e : p = N := e
    omega
  · have e : p ≠ N := e
    rw [hT p (by omega) (by omega)]
    refine ⟨fun b => ⟨⟨by omega, by omega⟩, Or.inr (Or.inl ⟨a, ks.mp ⟨by omega, b⟩, rfl, ?_⟩)⟩, fun b => Or.inr (Or.inr ⟨a, fun z => b (ks.mpr z).2, rfl, hr⟩)⟩
    rw [fs_te_s hx (by omega) b]
    exact ⟨fun K o p hK => by rw [fx_upE, if_neg (by omega)]; exact hr.1 K o p hK, fx_upS, by rw [fx_upJ (by omega)]; exact hr.2.2⟩
theorem c187 {lo hi : Int} (h : fs_tp σ T N) (hc : σ 46 0 11 = c) (c0 : 0 ≤ c) (cN : c ≤ N) : fx_Ca 187 [(46, 0), (0, lo), (0, hi)] σ (fun v τ => (σ 46 0 12 ≠ -1 ∧ v = (0, 0) ∧ τ = σ) ∨ (σ 46 0 12 = -1 ∧ (fs_tk T N (fs_rn fs_spc T N c) = 1 ∧ lo ≤ fs_tv T N (fs_rn fs_spc T N c) ∧ fs_tv T N (fs_rn fs_spc T N c) ≤ hi) ∧ v = (0, fs_tv T N (fs_rn fs_spc T N c)) ∧ fs_rp σ τ (fs_te T N (fs_rn fs_spc T N c)) (-1)) ∨ (σ 46 0 12 = -1 ∧ ¬ (fs_tk T N (fs_rn fs_spc T N c) = 1 ∧ lo ≤ fs_tv T N (fs_rn fs_spc T N c) ∧ fs_tv T N (fs_rn fs_spc T N c) ≤ hi) ∧ ∃ y c', v = (0, y) ∧ (0 ≤ c' ∧ c' ≤ N) ∧ fs_rp σ τ c' (fs_rn fs_spc T N c))) := by
  generalize hQ : (fun (v : fx_V) (τ : fx_S) => (σ 46 0 12 ≠ -1 ∧ v = (0, 0) ∧ τ = σ) ∨ (σ 46 0 12 = -1 ∧ (fs_tk T N (fs_rn fs_spc T N c) = 1 ∧ lo ≤ fs_tv T N (fs_rn fs_spc T N c) ∧ fs_tv T N (fs_rn fs_spc T N c) ≤ hi) ∧ v = (0, fs_tv T N (fs_rn fs_spc T N c)) ∧ fs_rp σ τ (fs_te T N (fs_rn fs_spc T N c)) (-1)) ∨ (σ 46 0 12 = -1 ∧ ¬ (fs_tk T N (fs_rn fs_spc T N c) = 1 ∧ lo ≤ fs_tv T N (fs_rn fs_spc T N c) ∧ fs_tv T N (fs_rn fs_spc T N c) ≤ hi) ∧ ∃ y c', v = (0, y) ∧ (0 ≤ c' ∧ c' ≤ N) ∧ fs_rp σ τ c' (fs_rn fs_spc T N c))) = Q
  have hsk := fs_sk_r (T := T) cN
  have hN := h.1
  refine t187_0 ⟨fun a => fx_CI_of (c181 h hc c0 cN) ?_, fun a => by rw [← hQ]; exact Or.inl ⟨a, rfl, rfl⟩⟩
  rintro v τ ⟨rfl, hr⟩
  generalize fs_rn fs_spc T N c = p at *
  rw [a] at hr
  have htp := hr.tp h
  have h1 := fs_tk_1 (T := T) (N := N) (p := p) hsk.2
  have hD := fs_rn_r (P := fs_dig) (T := T) (N := N) (p := p) hsk.2
  have hvD : fs_tv T N p = fs_nm T p (fs_rn fs_dig T N p - p).toNat 0 := rfl
  refine Or.inl ⟨rfl, ?_⟩
  have k91 : ∀ (k x : Int) (ρ : fx_S), fs_rp σ ρ k (-1) → p ≤ k → k ≤ N → (k = fs_rn fs_dig T N p ∧ x = fs_tv T N p ∧ k - p ≤ 4 ∨ 4 < k - p ∧ k ≤ fs_rn fs_dig T N p) → k - p ≤ 5 → fx_Wp 187 91 [(46, 0), (0, lo), (0, hi), (0, p), (0, x)] [] ρ Q := by
    intro k x ρ hρ pk kN hd k5
    have bad : ¬ (fs_tk T N p = 1 ∧ lo ≤ fs_tv T N p ∧ fs_tv T N p ≤ hi) → fx_CV 182 [(46, 0), (0, p)] ρ Q (fun σ1 => Q (0, x) σ1) := by
      intro hb
      refine fx_CV_of (c182 hρ.2.1) ?_
      rintro v ρ2 ⟨rfl, h4⟩
      rw [hρ.2.2, if_pos rfl] at h4
      refine Or.inl ⟨rfl, ?_⟩
      rw [← hQ]
      exact Or.inr (Or.inr ⟨a, hb, x, k, rfl, ⟨by omega, kN⟩, hρ.trans h4⟩)
    refine t187_91 ?_
    rw [hρ.2.1]
    refine ⟨fun e => bad (fun z => by have := h1.mp z.1; omega), fun e => ⟨⟨by omega, by omega⟩, fun g => bad (fun z => by have := h1.mp z.1; omega), fun g => ?_⟩⟩
    rcases hd with ⟨e1, e2, e3⟩ | ⟨e1, e2⟩
    · have k1 : fs_tk T N p = 1 := h1.mpr ⟨by omega, by omega⟩
      refine ⟨fun g => bad (fun z => by omega), fun g => ⟨fun g2 => ?_, fun g2 => bad (fun z => by omega)⟩⟩
      rw [← hQ]
      refine Or.inr (Or.inl ⟨a, ⟨k1, by omega, by omega⟩, by rw [e2], ?_⟩)
      rw [fs_te_1 k1 hsk.2, ← e1]
      exact hρ
    · omega
  have k18 : ∀ (n : Nat) (k x : Int) (ρ : fx_S), (N - k).toNat = n → fs_rp σ ρ k (-1) → p ≤ k → k ≤ fs_rn fs_dig T N p → k - p ≤ 5 → fs_rn fs_dig T N k = fs_rn fs_dig T N p → fs_nm T k (fs_rn fs_dig T N p - k).toNat x = fs_tv T N p → (0 ≤ x ∧ (k - p ≤ 0 → x ≤ 0) ∧ (k - p ≤ 1 → x ≤ 9) ∧ (k - p ≤ 2 → x ≤ 99) ∧ (k - p ≤ 3 → x ≤ 999) ∧ (k - p ≤ 4 → x ≤ 9999) ∧ x ≤ 99999) → fx_Wp 187 18 [(46, 0), (0, lo), (0, hi), (0, p), (0, x)] [] ρ Q := by
    intro n
    induction n with
    | zero =>
      intro k x ρ hn hρ pk kD k5 hk hx hb
      have e : k = fs_rn fs_dig T N p := by omega
      refine t187_18 ?_
      rw [(hρ.tp h).2.1, hρ.2.1]
      refine ⟨fun _ => k91 k x ρ hρ pk (by omega) ?_ k5, fun g => by omega⟩
      by_cases g : 4 < k - p
      · exact Or.inr ⟨g, kD⟩
      · rw [← e, show (k - k).toNat = 0 by omega, fs_nm] at hx
        exact Or.inl ⟨e, hx, by omega⟩
    | succ n ih =>
      intro k x ρ hn hρ pk kD k5 hk hx hb
      refine t187_18 ?_
      rw [(hρ.tp h).2.1, hρ.2.1, (hρ.tp h).2.2 k (by omega) (by omega)]
      refine ⟨fun g => by omega, fun g => ⟨⟨by omega, by omega⟩, c149.I ?_⟩⟩
      have e : (decide (48 ≤ T k) && decide (T k ≤ 57)) = fs_dig (T k) := rfl
      rw [e, hρ.2.1]
      refine ⟨fun b => ?_, fun b => ?_⟩
      · rw [fs_rn_n (fs_b0.mp b)] at hk
        refine k91 k x ρ hρ pk (by omega) ?_ k5
        by_cases g : 4 < k - p
        · exact Or.inr ⟨g, kD⟩
        · rw [← hk, show (k - k).toNat = 0 by omega, fs_nm] at hx
          exact Or.inl ⟨hk, hx, by omega⟩
      · have b := fs_b1.mp b
        have hk1 := fs_rn_y g b
        have hr1 := fs_rn_r (P := fs_dig) (T := T) (N := N) (p := k + 1) (by omega)
        have bd := b
        unfold fs_dig at bd
        simp only [Bool.and_eq_true, decide_eq_true_eq] at bd
        refine ⟨⟨by omega, by omega⟩, fun g4 => k91 k x ρ hρ pk (by omega) (Or.inr ⟨g4, kD⟩) k5, fun g4 => ?_⟩
        rw [(hρ.tp h).2.2 k (by omega) (by omega)]
        refine ⟨⟨by omega, by omega⟩, ⟨by omega, by omega⟩, ⟨by omega, by omega⟩, ⟨by omega, by omega⟩, ⟨by omega, by omega⟩, ?_⟩
        refine ih (k + 1) _ _ (by omega) ⟨fun K o p hK => ?_, fx_upS, ?_⟩ (by omega) (by omega) (by omega) (by rw [← hk1]; exact hk) ?_ ⟨by omega, fun z => by omega, fun z => by omega, fun z => by omega, fun z => by omega, fun z => by omega, by omega⟩
        · rw [fx_upE, if_neg (by omega)]; exact hρ.1 K o p hK
        · rw [fx_upJ (by omega)]; exact hρ.2.2
        · rw [show (fs_rn fs_dig T N p - k).toNat = (fs_rn fs_dig T N p - (k + 1)).toNat + 1 by omega, fs_nm, show x * 10 + T k - 48 = 10 * x + T k - 48 by omega] at hx
          exact hx
  exact k18 _ p 0 τ rfl hr (Int.le_refl _) hD.1 (by omega) rfl rfl ⟨by omega, fun _ => by omega, fun _ => by omega, fun _ => by omega, fun _ => by omega, fun _ => by omega, by omega⟩
end FXRQ
