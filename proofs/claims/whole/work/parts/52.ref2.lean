/-- a fact without another -/
def fs_gone (S : fx_S) (f : Int) : fx_S := fx_up S 8 f 0 1
theorem fs_gone_hold {S : fx_S} {f g t x : Int} : fs_hold (fs_gone S f) g t x = (decide (g ≠ f) && fs_hold S g t x) := by
  unfold fs_hold fs_holds fs_gone
  by_cases e : g = f
  · rw [e, (decide_eq_false (fun h => h rfl) : decide (f ≠ f) = false), Bool.false_and]
    simp [fx_up]
  · rw [decide_eq_true e, Bool.true_and]
    simp [fx_up, e]
theorem fs_gone_bs {S : fx_S} {f t x : Int} : fs_bs (fs_gone S f) fs_W1 t x = fs_bs S (fun g => decide (g ≠ f)) t x := by
  unfold fs_bs
  have e1 : (fs_gone S f) 0 1 0 = S 0 1 0 := by simp [fs_gone, fx_up]
  rw [e1]
  refine fs_best_c _ (fun k k0 k1 => ?_) (fun a b _ _ _ _ _ _ => ?_)
  · rw [fs_gone_hold]; simp [fs_W1]
  · unfold fs_better fs_gone
    simp [fx_up]
theorem fs_gone_ok {S : fx_S} (ho : fs_ok S) {f : Int} : fs_ok (fs_gone S f) := by
  obtain ⟨o0, o1, os, of, orr⟩ := ho
  refine ⟨by simpa [fs_gone, fx_up] using o0, by simpa [fs_gone, fx_up] using o1, fun s a b => ?_, fun g a b => ?_, fun t a b => ?_⟩
  · have := os s a (by simpa [fs_gone, fx_up] using b)
    simpa [fs_gone, fx_up] using this
  · have := of g a (by simpa [fs_gone, fx_up] using b)
    by_cases e : g = f
    · simp [fs_gone, fx_up, e]; rw [e] at this; omega
    · simpa [fs_gone, fx_up, e] using this
  · have := orr t a b
    simpa [fs_gone, fx_up, fs_okn] using this
theorem fs_gone_is {S : fx_S} (ho : fs_ok S) {f x : Int} : ∀ n : Nat, (n : Int) ≤ 8 → ∀ t : Int, 0 ≤ t → t < n → fs_is (fs_gone S f) fs_W1 t x = fs_is S (fun g => decide (g ≠ f)) t x
  | 0, _, t, h0, h1 => by omega
  | n + 1, hn, t, h0, h1 => by
    have ih := fs_gone_is ho (f := f) (x := x) n (by omega)
    rw [fs_is_e (fs_gone_ok ho) h0 (by omega), fs_is_e ho h0 (by omega)]
    unfold fs_ia
    rw [fs_gone_bs]
    have hmv : fs_mv (fs_gone S f) t (fun a => fs_is (fs_gone S f) fs_W1 a x) ((fs_gone S f) 9 t 0) = fs_mv S t (fun a => fs_is S (fun g => decide (g ≠ f)) a x) (S 9 t 0) := by
      have e9 : (fs_gone S f) 9 t 0 = S 9 t 0 := by simp [fs_gone, fx_up]
      have hr := (ho.2.2.2.2 t h0 (by omega)).1
      unfold fs_mv
      rw [e9]
      by_cases e : S 9 t 0 = 0
      · rw [if_pos e, if_pos e]
      · rw [if_neg e, if_neg e]
        have key : ∀ m : Nat, (m : Int) ≤ S 9 t 0 → ∀ j : Int, 0 ≤ j → j < m → fs_mk (fs_gone S f) t (fun a => fs_is (fs_gone S f) fs_W1 a x) m j = fs_mk S t (fun a => fs_is S (fun g => decide (g ≠ f)) a x) m j := by
          intro m
          induction m with
          | zero => intro _ j j0 j1; omega
          | succ m ihm =>
            intro hm j j0 j1
            have ihm := ihm (by omega)
            rw [fs_mk_n, fs_mk_n]
            by_cases q : j = m
            · rw [if_pos q, if_pos q]
              have hok := (ho.2.2.2.2 t h0 (by omega)).2.2.1 m (by omega) (by omega)
              unfold fs_nd
              have e11 : (fs_gone S f) 11 t m = S 11 t m := by simp [fs_gone, fx_up]
              have e12 : (fs_gone S f) 12 t m = S 12 t m := by simp [fs_gone, fx_up]
              have e13 : (fs_gone S f) 13 t m = S 13 t m := by simp [fs_gone, fx_up]
              rw [e11, e12, e13]
              rcases hok with ⟨a, b⟩ | ⟨a, b, c⟩ | ⟨a, b, c, d, g, h⟩
              · rw [if_pos a, if_pos a]
              · have h1 : ¬ S 11 t m = 1 := by omega
                simp only [if_neg h1, if_pos a]
                exact ih _ b (by omega)
              · have h1 : ¬ S 11 t m = 1 := by omega
                have h13 : ¬ S 11 t m = 13 := by omega
                simp only [if_neg h1, if_neg h13]
                rw [ihm _ c (by omega), ihm _ g (by omega)]
            · rw [if_neg q, if_neg q]
              exact ihm j j0 (by omega)
        exact key _ (by omega) _ (by omega) (by omega)
    rw [hmv]
    have : (fs_gone S f) 7 (fs_bs S (fun g => decide (g ≠ f)) t x) 0 = S 7 (fs_bs S (fun g => decide (g ≠ f)) t x) 0 := by simp [fs_gone, fx_up]
    rw [this]
section FXM
variable {σ : fx_S} {o : Int}
/-- all but the row of reigns -/
def fs_l58 (σ τ : fx_S) : Prop := ∀ K p q, K ≠ 58 → τ K p q = σ K p q
theorem c167 (ho : fs_ok (fs_m σ 47 0)) (hl : σ 46 o 21 = 60) : fx_Ca 167 [(46, o)] σ (fun v τ => v = (4, 0) ∧ fs_l58 σ τ ∧ ∀ f, 0 ≤ f → f < σ 47 0 1 → τ 58 0 f = fs_reign (fs_m σ 47 0) fs_W1 f) := by
  have hn := fs_mn ho
  have e1 : fs_m σ 47 0 0 1 0 = σ 47 0 1 := rfl
  generalize hS : fs_m σ 47 0 = S at ho e1
  have hm : ∀ τ : fx_S, fs_l58 σ τ → fs_m τ 47 0 = S := fun τ h => (fs_m_c (fun p => h 47 0 p (by omega))).trans hS
  generalize hF : (fun (f x : Int) => fs_b (decide (fs_bs S fs_W1 (S 3 f 0) x = f))) = F
  have hFf : ∀ f x, F f x = fs_b (decide (fs_bs S fs_W1 (S 3 f 0) x = f)) := fun f x => by rw [← hF]
  have hFr : ∀ f x, 0 ≤ F f x ∧ F f x ≤ 1 := fun f x => by rw [hFf]; exact fs_b_r _
  have hre : ∀ f, fs_reign S fs_W1 f = fs_sum (F f) 1000 := fun f => by rw [← hF]; rfl
  refine t167_0 ?_
  have m1 := fun Q I w2 w3 => fx_for (mi := 167) (pc := 2) (Q := Q) (fun k => [(46, o), (0, k), w2, w3]) (fun k => fx_fill σ 58 0 k (fun _ => 0)) 0 60 I
  simp only [fx_fill0] at m1
  refine m1 _ (fun k => 0 ≤ k) _ _ (by omega) (by omega) ?_ ?_
  · intro k k0 k1 _ ih
    have ih := ih (by omega)
    rw [← fx_fill_s (f := fun _ => 0) (v := 0) k0 rfl (fun _ _ _ => rfl)] at ih
    exact t167_2 ⟨fun a => by omega, fun a => ⟨⟨k0, a⟩, ⟨by omega, by omega⟩, ih⟩⟩
  · intro _
    refine t167_2 ⟨fun a => ?_, fun a => by omega⟩
    generalize hE : fx_fill σ 58 0 60 (fun _ => 0) = τ0
    refine fx_whl (X := Int × fx_V × fx_V × fx_S) (fun y => [(46, o), (0, y.1), y.2.1, y.2.2.1]) (fun y => y.2.2.2) (fun y => (0 ≤ y.1 ∧ y.1 ≤ 1000) ∧ fs_l58 σ y.2.2.2 ∧ ∀ f, 0 ≤ f → f < σ 47 0 1 → y.2.2.2 58 0 f = fs_sum (F f) y.1.toNat) (fun y => (1000 - y.1).toNat) ?_ (0, (3, 0), (3, 0), τ0) ⟨⟨by simp, by simp⟩, fun K p q hK => by simp only; rw [← hE, fx_fillE, if_neg (fun e => hK e.1)], fun f f0 f1 => by simp only; rw [← hE, fx_fillI f0 (by omega)]; rfl⟩
    rintro ⟨x, w2, w3, τ⟩ ⟨⟨x0, x1⟩, hf, hr⟩ ih
    simp only at x0 x1 hf hr
    show fx_Wp 167 23 [(46, o), (0, x), w2, w3] [] τ _
    refine t167_23 ⟨fun a => ⟨rfl, hf, fun f f0 f1 => by rw [hr f f0 f1, hre, show x = 1000 by omega]; rfl⟩, fun a => ?_⟩
    refine fx_whl (X := Int × fx_V × fx_S) (fun y => [(46, o), (0, x), (0, y.1), y.2.1]) (fun y => y.2.2) (fun y => (0 ≤ y.1 ∧ y.1 ≤ 8) ∧ fs_l58 σ y.2.2 ∧ ∀ f, 0 ≤ f → f < σ 47 0 1 → y.2.2 58 0 f = fs_sum (F f) x.toNat + (if S 3 f 0 < y.1 then F f x else 0)) (fun y => (8 - y.1).toNat) ?_ (0, w3, τ) ⟨⟨by simp, by simp⟩, hf, fun f f0 f1 => by simp only; rw [hr f f0 f1, if_neg (by have := (ho.2.2.2.1 f f0 (by omega)).1; omega), Int.add_zero]⟩
    clear hf hr
    rintro ⟨t, w3, τ⟩ ⟨⟨t0, t1⟩, hf, hr⟩ ih2
    simp only at t0 t1 hf hr
    show fx_Wp 167 32 [(46, o), (0, x), (0, t), w3] [] τ _
    refine t167_32 ⟨fun b => ⟨⟨by omega, by omega⟩, ?_⟩, fun b => ?_⟩
    · refine ih (x + 1, (0, t), w3, τ) ⟨⟨by simp only; omega, by simp only; omega⟩, hf, fun f f0 f1 => ?_⟩ (by simp only; omega)
      simp only
      rw [hr f f0 f1, if_pos (by have := (ho.2.2.2.1 f f0 (by omega)).1; omega), fs_sum_s _ x0]
    · have h159 := c159w (σ := τ) (o := o) (by rw [hm τ hf]; exact ho) (by rw [hf 46 o 21 (by omega)]; exact hl) (t := t) (x := x)
      rw [hm τ hf] at h159
      have hin := fs_bs_in (W := fs_W1) (t := t) (time := x) ho
      have hbt := fs_bs_t (S := S) (W := fs_W1) (t := t) (x := x)
      have hFt : ∀ f, S 3 f 0 = t → F f x = fs_b (decide (fs_bs S fs_W1 t x = f)) := fun f h => by rw [hFf, h]
      generalize fs_bs S fs_W1 t x = B at h159 hin hbt hFt
      refine h159.I ⟨fun c => ⟨⟨by omega, by omega⟩, ih2 (t + 1, _, τ) ⟨⟨by simp only; omega, by simp only; omega⟩, hf, fun f f0 f1 => ?_⟩ (by simp only; omega)⟩, fun c => ⟨⟨by omega, by omega⟩, ?_, ⟨by omega, by omega⟩, ?_⟩⟩
      · simp only
        rw [hr f f0 f1]
        by_cases e : S 3 f 0 = t
        · rw [if_neg (by omega), if_pos (by omega), hFt f e, decide_eq_false (by omega)]; rfl
        · by_cases g : S 3 f 0 < t
          · rw [if_pos g, if_pos (by omega)]
          · rw [if_neg g, if_neg (by omega)]
      · have h1 := hr B (by omega) (by omega)
        rw [if_neg (by have := hbt c; omega)] at h1
        have h2 := fs_sum01 (hFr B) x.toNat
        exact ⟨by omega, by omega⟩
      · generalize hE2 : fx_up τ 58 0 B (τ 58 0 B + 1) = τ2
        refine ih2 (t + 1, _, τ2) ⟨⟨by simp only; omega, by simp only; omega⟩, fun K p q hK => ?_, fun f f0 f1 => ?_⟩ (by simp only; omega)
        · simp only
          rw [← hE2, fx_upE, if_neg (fun e => hK e.1)]; exact hf K p q hK
        · simp only
          rw [← hE2]
          have hB := hbt c
          by_cases e : f = B
          · rw [e, fx_upS, hr B (by omega) (by omega), if_neg (by omega), if_pos (by omega), hFt B hB, decide_eq_true rfl]
            show _ + 0 + 1 = _ + 1
            omega
          · rw [fx_upJ e, hr f f0 f1]
            by_cases e2 : S 3 f 0 = t
            · rw [if_neg (by omega), if_pos (by omega), hFt f e2, decide_eq_false (fun q => e q.symm)]; rfl
            · by_cases g : S 3 f 0 < t
              · rw [if_pos g, if_pos (by omega)]
              · rw [if_neg g, if_neg (by omega)]
theorem c238 (ho : fs_ok (fs_m σ 47 0)) (hl : σ 46 o 21 = 60) {t : Int} : fx_Rt 238 [(46, o), (0, t)] σ (0, fs_sum (fun x => fs_b (fs_disp (fs_m σ 47 0) t x)) 1000) σ := by
  refine t238_0 (fx_for (fun x => [(46, o), (0, t), (0, fs_sum (fun x => fs_b (fs_disp (fs_m σ 47 0) t x)) x.toNat), (0, x)]) (fun _ => σ) 0 1000 (fun _ => True) (by omega) trivial ?_ ?_)
  · intro x x0 x1 _ ih
    have ih := ih trivial
    rw [fs_sum_s _ x0] at ih
    have hb := fs_sum_b (P := fun x => fs_disp (fs_m σ 47 0) t x) x x0
    refine t238_4 ⟨fun a => by omega, fun a => (c237 ho hl).I ⟨fun b => ⟨⟨by omega, by omega⟩, ⟨by omega, by omega⟩, ?_⟩, fun b => ⟨⟨by omega, by omega⟩, ⟨by omega, by omega⟩, ?_⟩⟩⟩
    · simp only [b] at ih; exact ih
    · simp only [fs_bT (fs_b1.mp b)] at ih; exact ih
  · intro _
    exact t238_4 ⟨fun a => ⟨rfl, rfl⟩, fun a => by omega⟩
/-- a line, drawn in row 0; what the reference's rows of reckoning are, is free -/
theorem c239 (ho : fs_ok (fs_m σ 47 0)) (hl : σ 46 o 21 = 60) {t : Int} (t0 : 0 ≤ t) (t1 : t < 8) {m : Int} : fx_Ca 239 [(46, o), (0, t), (0, m)] σ (fun v τ => v = (0, if m = 0 then fs_sum (fun x => if fs_is (fs_m σ 47 0) fs_W1 t x = -1 then 0 else fs_is (fs_m σ 47 0) fs_W1 t x) 1000 else fs_sum (fun x => fs_b (decide (fs_is (fs_m σ 47 0) fs_W1 t x ≠ -1) && decide (fs_is (fs_m σ 47 0) fs_W1 t x ≠ -1))) 1000) ∧ fs_sc σ τ) := by
  refine t239_0 (fx_CV_of (c166w ho hl t0 t1) ?_)
  rintro v τ ⟨rfl, h1, -, h3⟩
  refine Or.inl ⟨rfl, ?_⟩
  have hvr : ∀ x, -1 ≤ fs_is (fs_m σ 47 0) fs_W1 t x ∧ fs_is (fs_m σ 47 0) fs_W1 t x ≤ 99 := fun x => fs_is_r ho 8 (by omega) t t0 (by omega)
  generalize fs_is (fs_m σ 47 0) fs_W1 t = v at h3 hvr
  by_cases e : m = 0
  · rw [if_pos e]
    have hFr : ∀ x, 0 ≤ (fun x => if v x = -1 then 0 else v x) x ∧ (fun x => if v x = -1 then 0 else v x) x ≤ 99 := fun x => by have := hvr x; simp only; split <;> omega
    refine fx_for (fun x => [(46, o), (0, t), (0, m), (0, fs_sum (fun x => if v x = -1 then 0 else v x) x.toNat), (0, x)]) (fun _ => τ) 0 1000 (fun _ => True) (by omega) trivial ?_ ?_
    · intro x x0 x1 _ ih
      have ih := ih trivial
      rw [fs_sum_s _ x0] at ih
      have hb := fs_sum_r hFr x.toNat
      have := hvr x
      refine t239_14 ⟨fun a => by omega, fun a => ⟨⟨x0, a⟩, ?_⟩⟩
      rw [h3 x x0 a]
      refine ⟨fun b => ⟨fun _ => ⟨⟨by omega, by omega⟩, ⟨by omega, by omega⟩, ?_⟩, fun c => absurd e c⟩, fun b => ⟨⟨by omega, by omega⟩, ⟨by omega, by omega⟩, ?_⟩⟩
      · rw [if_neg b] at ih; exact ih
      · rw [if_pos b] at ih; exact ih
    · intro _
      exact t239_14 ⟨fun a => ⟨rfl, h1⟩, fun a => by omega⟩
  · rw [if_neg e]
    refine fx_for (fun x => [(46, o), (0, t), (0, m), (0, fs_sum (fun x => fs_b (decide (v x ≠ -1) && decide (v x ≠ -1))) x.toNat), (0, x)]) (fun _ => τ) 0 1000 (fun _ => True) (by omega) trivial ?_ ?_
    · intro x x0 x1 _ ih
      have ih := ih trivial
      rw [fs_sum_s _ x0] at ih
      have hb := fs_sum_b (P := fun x => decide (v x ≠ -1) && decide (v x ≠ -1)) x x0
      refine t239_14 ⟨fun a => by omega, fun a => ⟨⟨x0, a⟩, ?_⟩⟩
      rw [h3 x x0 a]
      refine ⟨fun b => ⟨fun c => absurd c e, fun _ => ⟨⟨by omega, by omega⟩, ⟨by omega, by omega⟩, ?_⟩⟩, fun b => ⟨⟨by omega, by omega⟩, ⟨by omega, by omega⟩, ?_⟩⟩
      · rw [decide_eq_true b] at ih; exact ih
      · rw [b] at ih; exact ih
    · intro _
      exact t239_14 ⟨fun a => ⟨rfl, h1⟩, fun a => by omega⟩
theorem c240 (ho : fs_ok (fs_m σ 47 0)) (hl : σ 46 o 21 = 60) {t : Int} (t0 : 0 ≤ t) (t1 : t < 8) : fx_Ca 240 [(46, o), (0, t)] σ (fun v τ => v = (0, (fs_md (fs_is (fs_m σ 47 0) fs_W1 t) 100).1) ∧ fs_sc σ τ) := by
  refine t240_0 (fx_CV_of (c166w ho hl t0 t1) ?_)
  rintro v τ ⟨rfl, h1, -, h3⟩
  refine Or.inl ⟨rfl, ?_⟩
  generalize fs_is (fs_m σ 47 0) fs_W1 t = v at h3
  refine fx_whl (X := Int × fx_V × fx_V) (fun y => [(46, o), (0, t), (0, (fs_md v y.1.toNat).1), (0, (fs_md v y.1.toNat).2), (0, y.1), y.2.1, y.2.2]) (fun _ => τ) (fun y => 0 ≤ y.1 ∧ y.1 ≤ 100) (fun y => (100 - y.1).toNat) ?_ (0, (3, 0), (3, 0)) ⟨by simp, by simp⟩
  rintro ⟨k, w5, w6⟩ ⟨k0, k1⟩ ih
  simp only at k0 k1
  have ih : ∀ (w w' : fx_V) (A B : Int), k < 100 → fs_md v (k + 1).toNat = (A, B) → fx_Wp 240 16 [(46, o), (0, t), (0, A), (0, B), (0, k + 1), w, w'] [] τ (fun w τ => w = (0, (fs_md v 100).1) ∧ fs_sc σ τ) := by
    intro w w' A B hk h1
    have := ih (k + 1, w, w') ⟨by simp only; omega, by simp only; omega⟩ (by simp only; omega)
    simp only at this
    rw [h1] at this
    exact this
  show fx_Wp 240 16 [(46, o), (0, t), (0, (fs_md v k.toNat).1), (0, (fs_md v k.toNat).2), (0, k), w5, w6] [] τ _
  refine t240_16 ⟨fun a => ⟨by rw [show k = 100 by omega]; rfl, h1⟩, fun a => ?_⟩
  refine fx_for (fun x => [(46, o), (0, t), (0, (fs_md v k.toNat).1), (0, (fs_md v k.toNat).2), (0, k), (0, fs_sum (fun x => fs_b (decide (v x = k))) x.toNat), (0, x)]) (fun _ => τ) 0 1000 (fun _ => True) (by omega) trivial ?_ ?_
  · intro x x0 x1 _ ih2
    have ih2 := ih2 trivial
    rw [fs_sum_s _ x0] at ih2
    have hb := fs_sum_b (P := fun x => decide (v x = k)) x x0
    refine t240_29 ⟨fun b => by omega, fun b => ⟨⟨x0, b⟩, ?_⟩⟩
    rw [h3 x x0 b]
    refine ⟨fun c => ⟨⟨by omega, by omega⟩, ⟨by omega, by omega⟩, ?_⟩, fun c => ⟨⟨by omega, by omega⟩, ⟨by omega, by omega⟩, ?_⟩⟩
    · rw [decide_eq_false c] at ih2; exact ih2
    · rw [decide_eq_true c] at ih2; exact ih2
  · intro _
    refine t240_29 ⟨fun b => ⟨fun c => ⟨⟨by omega, by omega⟩, ih _ _ _ _ a ?_⟩, fun c => ⟨⟨by omega, by omega⟩, ih _ _ _ _ a ?_⟩⟩, fun b => by omega⟩
    · have c' : (fs_md v k.toNat).2 < fs_sum (fun x => fs_b (decide (v x = k))) 1000 := c
      rw [fs_md_s k0, if_pos c']; rfl
    · rw [fs_md_s k0]
      have c' : ¬ (fs_md v k.toNat).2 < fs_sum (fun x => fs_b (decide (v x = k))) 1000 := by
        have : fs_sum (fun x => fs_b (decide (v x = k))) 1000 ≤ (fs_md v k.toNat).2 := c
        omega
      rw [if_neg c']
theorem c233 (ho : fs_ok (fs_m σ 47 0)) (hl : σ 46 o 21 = 60) {s : Int} : fx_Ca 233 [(46, o), (0, s)] σ (fun v τ => v = (0, fs_sum (fun f => if fs_m σ 47 0 4 f 0 = s then fs_reign (fs_m σ 47 0) fs_W1 f else 0) (σ 47 0 1).toNat) ∧ fs_l58 σ τ) := by
  have hn := fs_mn ho
  refine t233_0 (fx_CV_of (c167 ho hl) ?_)
  rintro v τ ⟨rfl, h1, h2⟩
  refine Or.inl ⟨rfl, ?_⟩
  have hm : fs_m τ 47 0 = fs_m σ 47 0 := fs_m_c (fun p => h1 47 0 p (by omega))
  have h47 : τ 47 0 1 = σ 47 0 1 := h1 47 0 1 (by omega)
  generalize hG : (fun f => if fs_m σ 47 0 4 f 0 = s then fs_reign (fs_m σ 47 0) fs_W1 f else 0) = G
  have hGf : ∀ f, G f = if fs_m σ 47 0 4 f 0 = s then fs_reign (fs_m σ 47 0) fs_W1 f else 0 := fun f => by rw [← hG]
  have hGr : ∀ f, 0 ≤ G f ∧ G f ≤ 1000 := fun f => by rw [hGf]; have := fs_reign_r (S := fs_m σ 47 0) (W := fs_W1) (f := f); split <;> omega
  refine fx_for (fun f => [(46, o), (0, s), (0, fs_sum G f.toNat), (0, f)]) (fun _ => τ) 0 (σ 47 0 1) (fun _ => True) (by omega) trivial ?_ ?_
  · intro f f0 f1 _ ih
    have ih := ih trivial
    rw [fs_sum_s _ f0, hGf f] at ih
    have hb := fs_sum_r hGr f.toNat
    have hb2 := fs_reign_r (S := fs_m σ 47 0) (W := fs_W1) (f := f)
    have h4 : fx_Rt 151 [(46, o), (0, f), (0, 1)] τ (0, fs_m σ 47 0 4 f 0) τ := by rw [← hm]; exact c151b f0 (by omega)
    refine t233_8 ?_
    rw [h47]
    refine ⟨fun a => by omega, fun a => h4.I ⟨fun b => ⟨⟨by omega, by omega⟩, ⟨by omega, by omega⟩, ?_⟩, fun b => ⟨⟨by omega, by omega⟩, ?_⟩⟩⟩
    · rw [if_neg b] at ih; exact ih
    · rw [if_pos b] at ih
      rw [h2 f f0 a]
      exact ⟨⟨by omega, by omega⟩, ⟨by omega, by omega⟩, ih⟩
  · intro _
    refine t233_8 ?_
    rw [h47]
    exact ⟨fun a => ⟨rfl, h1⟩, fun a => by omega⟩
theorem c252 (ho : fs_ok (fs_m σ 47 0)) (hl : σ 46 o 21 = 60) {k : Int} : fx_Ca 252 [(46, o), (0, k)] σ (fun v τ => v = (0, if k = -1 then fs_cnt (fs_idle (fs_m σ 47 0) fs_W1) (σ 47 0 1).toNat else fs_row (σ 47 0 1) (fs_idle (fs_m σ 47 0) fs_W1) k) ∧ fs_l58 σ τ) := by
  have hn := fs_mn ho
  refine t252_0 (fx_CV_of (c167 ho hl) ?_)
  rintro v τ ⟨rfl, h1, h2⟩
  refine Or.inl ⟨rfl, ?_⟩
  have hm : fs_m τ 47 0 = fs_m σ 47 0 := fs_m_c (fun p => h1 47 0 p (by omega))
  have h47 : τ 47 0 1 = σ 47 0 1 := h1 47 0 1 (by omega)
  have hok : ∀ f, 0 ≤ f → f < σ 47 0 1 → fs_m σ 47 0 8 f 0 = 0 ∨ fs_m σ 47 0 8 f 0 = 1 := fun f f0 f1 => (ho.2.2.2.1 f f0 f1).2.2.2.2
  have hid : ∀ f, fs_idle (fs_m σ 47 0) fs_W1 f = (decide (fs_m σ 47 0 8 f 0 = 0) && decide (fs_reign (fs_m σ 47 0) fs_W1 f = 0)) := fun f => rfl
  generalize fs_idle (fs_m σ 47 0) fs_W1 = P at hid
  refine fx_for (fun f => [(46, o), (0, k), (0, fs_cnt P f.toNat), (0, f)]) (fun _ => τ) 0 (σ 47 0 1) (fun f => ∀ y, 0 ≤ y → y < f → P y = true → fs_cnt P y.toNat ≠ k) (by omega) (fun y y0 y1 => by omega) ?_ ?_
  · intro f f0 f1 hI ih
    have ih : (P f = true → fs_cnt P f.toNat ≠ k) → _ := fun h => ih (fun y y0 y1 hy => by
      by_cases e : y = f
      · rw [e] at hy ⊢; exact h hy
      · exact hI y y0 (by omega) hy)
    rw [fs_cnt_s _ f0] at ih
    have hb := fs_cnt_b P f f0
    have hb2 := fs_reign_r (S := fs_m σ 47 0) (W := fs_W1) (f := f)
    have h8 : fx_Rt 151 [(46, o), (0, f), (0, 5)] τ (0, fs_m σ 47 0 8 f 0) τ := by rw [← hm]; exact c151f f0 (by omega)
    have h8v := hok f f0 f1
    have hidf := hid f
    refine t252_8 ?_
    rw [h47]
    refine ⟨fun a => by omega, fun a => h8.I ⟨fun b => ⟨⟨by omega, by omega⟩, ?_⟩, fun b => ⟨⟨by omega, by omega⟩, ?_⟩⟩⟩
    · have e : P f = false := by rw [hidf, decide_eq_false (by omega), Bool.false_and]
      have ih := ih (fun h => by rw [e] at h; cases h)
      rw [e] at ih
      simp only [fs_b, cond_false, Int.add_zero] at ih
      exact ih
    · rw [h2 f f0 a]
      refine ⟨fun c => ?_, fun c => ⟨⟨by omega, by omega⟩, ?_⟩⟩
      · have e : P f = true := by rw [hidf, decide_eq_true (by omega), decide_eq_true (by omega)]; rfl
        refine ⟨fun d => ⟨⟨by omega, by omega⟩, ⟨by omega, by omega⟩, ?_⟩, fun d => ⟨?_, h1⟩⟩
        · have ih := ih (fun _ => d)
          rw [e] at ih; exact ih
        · rw [if_neg (by omega), fs_row_u (Or.inr ⟨f0, a, e, d⟩)]
      · have e : P f = false := by rw [hidf, (decide_eq_false (by omega) : decide (fs_reign (fs_m σ 47 0) fs_W1 f = 0) = false), Bool.and_false]
        have ih := ih (fun h => by rw [e] at h; cases h)
        rw [e] at ih
        simp only [fs_b, cond_false, Int.add_zero] at ih
        exact ih
  · intro hI
    refine t252_8 ?_
    rw [h47]
    refine ⟨fun a => ⟨fun b => ⟨?_, h1⟩, fun b => ⟨?_, h1⟩⟩, fun a => by omega⟩
    · rw [if_neg b, fs_row_u (Or.inl ⟨rfl, hI⟩)]
    · rw [if_pos b]
theorem c256 (ho : fs_ok (fs_m σ 47 0)) : fx_Rt 256 [(46, o)] σ (0, fs_cnt (fun f => decide (fs_m σ 47 0 8 f 0 ≠ 0)) (σ 47 0 1).toNat) σ := by
  have hn := fs_mn ho
  refine t256_0 (fx_for (fun f => [(46, o), (0, fs_cnt (fun f => decide (fs_m σ 47 0 8 f 0 ≠ 0)) f.toNat), (0, f)]) (fun _ => σ) 0 (σ 47 0 1) (fun _ => True) (by omega) trivial ?_ ?_)
  · intro f f0 f1 _ ih
    have ih := ih trivial
    rw [fs_cnt_s _ f0] at ih
    have hb := fs_cnt_b (fun f => decide (fs_m σ 47 0 8 f 0 ≠ 0)) f f0
    have h8 := (ho.2.2.2.1 f f0 f1).2.2.2.2
    have e : fs_b (decide (fs_m σ 47 0 8 f 0 ≠ 0)) = fs_m σ 47 0 8 f 0 := by
      rcases h8 with h | h
      · rw [h]; rfl
      · rw [h]; rfl
    rw [e] at ih
    exact t256_4 ⟨fun a => by omega, fun a => (c151f f0 (by omega)).I ⟨⟨by omega, by omega⟩, ⟨by omega, by omega⟩, ih⟩⟩
  · intro _
    exact t256_4 ⟨fun a => ⟨rfl, rfl⟩, fun a => by omega⟩
theorem c257 (ho : fs_ok (fs_m σ 47 0)) : fx_Rt 257 [(46, o)] σ (0, fs_cnt (fun s => decide (fs_m σ 47 0 2 s 0 ≠ 0)) (σ 47 0 0).toNat) σ := by
  have hn := fs_mn ho
  refine t257_0 (fx_for (fun s => [(46, o), (0, fs_cnt (fun s => decide (fs_m σ 47 0 2 s 0 ≠ 0)) s.toNat), (0, s)]) (fun _ => σ) 0 (σ 47 0 0) (fun _ => True) (by omega) trivial ?_ ?_)
  · intro s s0 s1 _ ih
    have ih := ih trivial
    rw [fs_cnt_s _ s0] at ih
    have hb := fs_cnt_b (fun s => decide (fs_m σ 47 0 2 s 0 ≠ 0)) s s0
    have h8 := (ho.2.2.1 s s0 s1).2.2
    have e2 : fs_m σ 47 0 2 s 0 = σ 47 0 (10 + s) := fs_mi (by omega)
    have e : fs_b (decide (fs_m σ 47 0 2 s 0 ≠ 0)) = σ 47 0 (10 + s) := by
      rw [← e2]
      rcases h8 with h | h
      · rw [h]; rfl
      · rw [h]; rfl
    rw [e] at ih
    rw [e2] at h8
    exact t257_4 ⟨fun a => by omega, fun a => ⟨⟨by omega, by omega⟩, ⟨by omega, by omega⟩, ⟨by omega, by omega⟩, ⟨by omega, by omega⟩, ih⟩⟩
  · intro _
    exact t257_4 ⟨fun a => ⟨rfl, rfl⟩, fun a => by omega⟩
theorem c258 : fx_Rt 258 [(46, o)] σ (0, fs_cnt (fun t => decide (0 < fs_m σ 47 0 9 t 0)) 8) σ := by
  refine t258_0 (fx_for (fun t => [(46, o), (0, fs_cnt (fun t => decide (0 < fs_m σ 47 0 9 t 0)) t.toNat), (0, t)]) (fun _ => σ) 0 8 (fun _ => True) (by omega) trivial ?_ ?_)
  · intro t t0 t1 _ ih
    have ih := ih trivial
    rw [fs_cnt_s _ t0] at ih
    have hb := fs_cnt_b (fun t => decide (0 < fs_m σ 47 0 9 t 0)) t t0
    refine t258_4 ⟨fun a => by omega, fun a => (c162 t0 t1).I ⟨fun b => ⟨⟨by omega, by omega⟩, ⟨by omega, by omega⟩, ?_⟩, fun b => ⟨⟨by omega, by omega⟩, ⟨by omega, by omega⟩, ?_⟩⟩⟩
    · rw [b] at ih; exact ih
    · rw [fs_bT (fs_b1.mp b)] at ih; exact ih
  · intro _
    exact t258_4 ⟨fun a => ⟨rfl, rfl⟩, fun a => by omega⟩
theorem c259 (ho : fs_ok (fs_m σ 47 0)) (hl : σ 46 o 21 = 60) : fx_Ca 259 [(46, o)] σ (fun v τ => v = (0, fs_sum (fun t => fs_cnt (fs_beg (fs_is (fs_m σ 47 0) fs_W1 t) 0) 1000) 8) ∧ fs_sc σ τ) := by
  generalize hG : (fun t => fs_cnt (fs_beg (fs_is (fs_m σ 47 0) fs_W1 t) 0) 1000) = G
  have hGt : ∀ t, G t = fs_cnt (fs_beg (fs_is (fs_m σ 47 0) fs_W1 t) 0) 1000 := fun t => by rw [← hG]
  have hGr : ∀ t, 0 ≤ G t ∧ G t ≤ 1000 := fun t => by rw [hGt]; have := fs_cnt_le (fs_beg (fs_is (fs_m σ 47 0) fs_W1 t) 0) 1000; omega
  refine t259_0 (fx_whl (X := Int × fx_S) (fun y => [(46, o), (0, fs_sum G y.1.toNat), (0, y.1)]) (fun y => y.2) (fun y => (0 ≤ y.1 ∧ y.1 ≤ 8) ∧ fs_sc σ y.2) (fun y => (8 - y.1).toNat) ?_ (0, σ) ⟨⟨by simp, by simp⟩, fs_sc.rfl⟩)
  rintro ⟨t, τ⟩ ⟨⟨t0, t1⟩, hf⟩ ih
  simp only at t0 t1 hf
  show fx_Wp 259 4 [(46, o), (0, fs_sum G t.toNat), (0, t)] [] τ _
  have hm : fs_m τ 47 0 = fs_m σ 47 0 := hf.m (by omega)
  refine t259_4 ⟨fun a => ⟨by rw [show t = 8 by omega]; rfl, hf⟩, fun a => ?_⟩
  refine fx_CV_of (c166w (σ := τ) (o := o) (by rw [hm]; exact ho) (by rw [hf 46 o 21 (by omega)]; exact hl) t0 a) ?_
  rintro v τ2 ⟨rfl, h1, -, h3⟩
  rw [hm] at h3
  have hb := fs_sum_r hGr t.toNat
  have h219 := c219 (σ := τ2) (o := o) (r := 0) (k := -1) (g := 0) h3
  rw [if_pos rfl, ← hGt t] at h219
  have hb2 := hGr t
  refine Or.inl ⟨rfl, h219.I ⟨⟨by omega, by omega⟩, ⟨by omega, by omega⟩, ?_⟩⟩
  have := ih (t + 1, τ2) ⟨⟨by simp only; omega, by simp only; omega⟩, hf.trans h1⟩ (by simp only; omega)
  simp only at this
  rw [fs_sum_s G t0] at this
  exact this
end FXM
