def fs_W1 : Int → Bool := fun _ => true
theorem fs_is_W {S : fx_S} (ho : fs_ok S) {W V : Int → Bool} (hW : ∀ f, 0 ≤ f → f < S 0 1 0 → W f = V f) {t x : Int} (t0 : 0 ≤ t) (t1 : t < 8) : fs_is S W t x = fs_is S V t x := fs_is_c fs_eq.rfl ho hW 8 (by omega) t t0 (by omega)
theorem fs_bs_W {S : fx_S} (ho : fs_ok S) {W V : Int → Bool} (hW : ∀ f, 0 ≤ f → f < S 0 1 0 → W f = V f) {t x : Int} : fs_bs S W t x = fs_bs S V t x := fs_bs_c fs_eq.rfl ho hW
theorem fs_bs_t {S : fx_S} {W : Int → Bool} {t x : Int} (h : fs_bs S W t x ≠ -1) : S 3 (fs_bs S W t x) 0 = t := by
  rcases fs_best_in (fun f => W f && fs_hold S f t x) (fs_better S) (S 0 1 0).toNat with e | ⟨-, -, e⟩
  · exact absurd e h
  · unfold fs_bs
    simp only [Bool.and_eq_true] at e
    have := e.2
    unfold fs_hold at this
    simp only [Bool.and_eq_true, decide_eq_true_eq] at this
    exact this.1
/-- things of lesser numbers in a rule, as bits -/
def fs_bit (S : fx_S) (t : Int) : Nat → Int
  | 0 => 0
  | n + 1 => if S 11 t n = 13 then fx_or (fs_bit S t n) (fx_shl 1 (S 12 t n)) else fs_bit S t n
theorem fs_bit_s {S : fx_S} {t k : Int} (h : 0 ≤ k) : fs_bit S t (k + 1).toNat = if S 11 t k = 13 then fx_or (fs_bit S t k.toNat) (fx_shl 1 (S 12 t k)) else fs_bit S t k.toNat := by
  have e : (k + 1).toNat = k.toNat + 1 := by omega
  rw [e, fs_bit, show ((k.toNat : Nat) : Int) = k by omega]
theorem fs_bit_z {S : fx_S} {t : Int} : ∀ n : Nat, fx_or (fs_bit S t n) 0 = fs_bit S t n
  | 0 => by show fx_or 0 0 = 0; decide
  | n + 1 => by
    rw [fs_bit]
    split
    · unfold fx_or
      simp
    · exact fs_bit_z n
section FXM
variable {σ : fx_S} {o : Int}
theorem fs_lim_1 (ho : fs_ok (fs_m σ 47 0)) (hl : σ 46 o 21 = 60) : ∀ f, 0 ≤ f → f < fs_m σ 47 0 0 1 0 → fs_lim σ o f = fs_W1 f := by
  intro f f0 f1
  have := ho.2.1
  unfold fs_lim fs_W1
  exact decide_eq_true (by omega)
theorem c165w (ho : fs_ok (fs_m σ 47 0)) (hl : σ 46 o 21 = 60) {x : Int} : fx_Ca 165 [(46, o), (0, x)] σ (fun v τ => v = (4, 0) ∧ fs_sc σ τ ∧ (∀ K p q, 58 ≤ K → τ K p q = σ K p q) ∧ ∀ a, 0 ≤ a → a < 8 → τ 55 0 a = fs_is (fs_m σ 47 0) fs_W1 a x ∧ τ 56 0 a = fs_bs (fs_m σ 47 0) fs_W1 a x) :=
  fx_Wp.mono (c165' ho) (fun v τ h => ⟨h.1, h.2.1, h.2.2.1, fun a a0 a1 => by rw [(h.2.2.2 a a0 a1).1, (h.2.2.2 a a0 a1).2, fs_is_W ho (fs_lim_1 ho hl) a0 a1, fs_bs_W ho (fs_lim_1 ho hl)]; exact ⟨rfl, rfl⟩⟩)
theorem c166w (ho : fs_ok (fs_m σ 47 0)) (hl : σ 46 o 21 = 60) {t r : Int} (t0 : 0 ≤ t) (t1 : t < 8) : fx_Ca 166 [(46, o), (0, t), (59, r)] σ (fun v τ => v = (4, 0) ∧ fs_sc σ τ ∧ (∀ K p q, 58 ≤ K → ¬ (K = 59 ∧ p = r) → τ K p q = σ K p q) ∧ ∀ x, 0 ≤ x → x < 1000 → τ 59 r x = fs_is (fs_m σ 47 0) fs_W1 t x) :=
  fx_Wp.mono (c166 ho t0 t1) (fun v τ h => ⟨h.1, h.2.1, h.2.2.1, fun x x0 x1 => by rw [h.2.2.2 x x0 x1, fs_is_W ho (fs_lim_1 ho hl) t0 t1]⟩)
theorem c159w (ho : fs_ok (fs_m σ 47 0)) (hl : σ 46 o 21 = 60) {t x : Int} : fx_Rt 159 [(46, o), (0, t), (0, x), (0, -1)] σ (0, fs_bs (fs_m σ 47 0) fs_W1 t x) σ := by
  have h := c159 (σ := σ) (o := o) ho (th := t) (time := x) (s := -1)
  have e : fs_best (fun f => (decide ((-1 : Int) = -1) || decide (fs_m σ 47 0 4 f 0 = -1)) && (decide (f < σ 46 o 21) && fs_hold (fs_m σ 47 0) f t x)) (fs_better (fs_m σ 47 0)) (σ 47 0 1).toNat = fs_bs (fs_m σ 47 0) fs_W1 t x := by
    have hn := fs_mn ho
    refine fs_best_c _ (fun k k0 k1 => ?_) (fun _ _ _ _ _ _ _ _ => rfl)
    rw [(decide_eq_true (by omega) : decide (k < σ 46 o 21) = true)]
    simp [fs_W1]
  rwa [e] at h
theorem c159s (ho : fs_ok (fs_m σ 47 0)) (hl : σ 46 o 21 = 60) {t x s : Int} (hs : s ≠ -1) : fx_Rt 159 [(46, o), (0, t), (0, x), (0, s)] σ (0, fs_by (fs_m σ 47 0) s t x) σ := by
  have h := c159 (σ := σ) (o := o) ho (th := t) (time := x) (s := s)
  have e : fs_best (fun f => (decide (s = -1) || decide (fs_m σ 47 0 4 f 0 = s)) && (decide (f < σ 46 o 21) && fs_hold (fs_m σ 47 0) f t x)) (fs_better (fs_m σ 47 0)) (σ 47 0 1).toNat = fs_by (fs_m σ 47 0) s t x := by
    have hn := fs_mn ho
    refine fs_best_c _ (fun k k0 k1 => ?_) (fun _ _ _ _ _ _ _ _ => rfl)
    rw [(decide_eq_true (by omega) : decide (k < σ 46 o 21) = true), decide_eq_false hs]
    simp
  rwa [e] at h
theorem c231 {a b c d : Int} : fx_Rt 231 [(0, a), (0, b), (0, c), (0, d)] σ (0, fs_rel a b c d) σ := by
  generalize hJ : fs_rel a b c d = J
  unfold fs_rel at hJ
  refine t231_0 ?_
  repeat' (first | refine And.intro ?_ ?_ | intro _)
  all_goals first
    | omega
    | (refine Prod.ext rfl ?_; simp only; omega)
    | rfl
/-- the line of a thing, in row r -/
def fs_ln (σ : fx_S) (r : Int) (v : Int → Int) : Prop := ∀ x, 0 ≤ x → x < 1000 → σ 59 r x = v x
theorem c218 {r x : Int} {v : Int → Int} (hv : fs_ln σ r v) (x0 : 0 ≤ x) (x1 : x < 1000) : fx_Ca 218 [(46, o), (59, r), (0, x)] σ (fun w τ => ∃ e, w = (0, e) ∧ τ = σ ∧ fs_ise v x e) := by
  refine t218_0 (fx_whl (X := Int) (fun k => [(46, o), (59, r), (0, x), (0, k)]) (fun _ => σ) (fun k => x ≤ k ∧ k ≤ 1000 ∧ ∀ y, x ≤ y → y < k → v y = v x) (fun k => (1000 - k).toNat) ?_ x ⟨Int.le_refl _, by omega, fun y y0 y1 => by omega⟩)
  rintro k ⟨k0, k1, k2⟩ ih
  refine t218_2 ⟨fun a => ⟨k, rfl, rfl, by omega, k1, k2, Or.inl (by omega)⟩, fun a => ⟨⟨by omega, a⟩, ⟨x0, x1⟩, ?_⟩⟩
  rw [hv k (by omega) a, hv x x0 x1]
  refine ⟨fun b => ⟨k, rfl, rfl, ?_, k1, k2, Or.inr b⟩, fun b => ⟨⟨by omega, by omega⟩, ih (k + 1) ⟨by omega, by omega, fun y y0 y1 => ?_⟩ (by omega)⟩⟩
  · by_cases e : k = x
    · rw [e] at b; exact absurd rfl b
    · omega
  · by_cases e : y = k
    · rw [e]; exact b
    · exact k2 y y0 (by omega)
theorem fs_beg_e {v : Int → Int} {g t e : Int} (t0 : 0 ≤ t) (h : fs_ise v t e) : ∀ x, t < x → x < e → fs_beg v g x = false := fun x x0 x1 => by
  refine fs_beg_no (by omega) ?_
  rw [h.2.2.1 x (by omega) x1, h.2.2.1 (x - 1) (by omega) (by omega)]
/-- a place where a row begins, or the end -/
def fs_edge (v : Int → Int) (t : Int) : Prop := 0 ≤ t ∧ t ≤ 1000 ∧ (t = 0 ∨ t = 1000 ∨ v (t - 1) ≠ v t)
theorem fs_edge_e {v : Int → Int} {t e : Int} (t0 : 0 ≤ t) (h : fs_ise v t e) : fs_edge v e := by
  obtain ⟨h1, h2, h3, h4⟩ := h
  refine ⟨by omega, h2, ?_⟩
  rcases h4 with h4 | h4
  · exact Or.inr (Or.inl h4)
  · refine Or.inr (Or.inr ?_)
    rw [h3 (e - 1) (by omega) (by omega)]
    exact fun q => h4 q.symm
theorem fs_edge_b {v : Int → Int} {t g : Int} (h : fs_edge v t) (t1 : t < 1000) : fs_beg v g t = decide ((v t = -1 ∧ g = 1) ∨ (v t ≠ -1 ∧ g = 0)) := by
  unfold fs_beg
  rw [decide_eq_decide]
  have := h.2.2
  constructor
  · exact fun q => q.1
  · intro q
    refine ⟨q, ?_⟩
    rcases this with e | e | e
    · exact Or.inl e
    · omega
    · exact Or.inr e
theorem fs_edge_0 {v : Int → Int} : fs_edge v 0 := ⟨Int.le_refl _, by omega, Or.inl rfl⟩
theorem c219 {r k g : Int} {v : Int → Int} (hv : fs_ln σ r v) : fx_Rt 219 [(46, o), (59, r), (0, k), (0, g)] σ (0, if k = -1 then fs_cnt (fs_beg v g) 1000 else fs_row 1000 (fs_beg v g) k) σ := by
  refine t219_0 (fx_whl (X := Int × Int) (fun x => [(46, o), (59, r), (0, k), (0, g), (0, x.1), (0, x.2)]) (fun _ => σ) (fun x => x.1 = fs_cnt (fs_beg v g) x.2.toNat ∧ fs_edge v x.2 ∧ ∀ y, 0 ≤ y → y < x.2 → fs_beg v g y = true → fs_cnt (fs_beg v g) y.toNat ≠ k) (fun x => (1000 - x.2).toNat) ?_ (0, 0) ⟨rfl, fs_edge_0, fun y y0 y1 => by simp only at y1; omega⟩)
  rintro ⟨n, t⟩ ⟨hn, he, hI⟩ ih
  simp only at hn he hI
  show fx_Wp 219 6 [(46, o), (59, r), (0, k), (0, g), (0, n), (0, t)] [] σ _
  have hb := fs_cnt_b (fs_beg v g) t he.1
  refine t219_6 ⟨fun a => ?_, fun a => ⟨⟨he.1, a⟩, ?_⟩⟩
  · have e : t = 1000 := by have := he.2.1; omega
    rw [e] at hn hI
    refine ⟨fun b => ⟨?_, rfl⟩, fun b => ⟨?_, rfl⟩⟩
    · rw [if_neg b, fs_row_u (Or.inl ⟨rfl, hI⟩)]
    · rw [if_pos b, hn]; rfl
  · rw [hv t he.1 a]
    have hB := fs_edge_b (g := g) he a
    have found : fs_beg v g t = true → n = k → (((0, t) : fx_V) = (0, if k = -1 then fs_cnt (fs_beg v g) 1000 else fs_row 1000 (fs_beg v g) k) ∧ σ = σ) := by
      intro hbt hk
      refine ⟨?_, rfl⟩
      rw [if_neg (by omega), fs_row_u (Or.inr ⟨he.1, a, hbt, by omega⟩)]
    have jump : ∀ m : Int, (m = n + fs_b (fs_beg v g t)) → (fs_beg v g t = true → n ≠ k) → fx_CI 218 [(46, o), (59, r), (0, t)] σ (fun w τ => w = (0, if k = -1 then fs_cnt (fs_beg v g) 1000 else fs_row 1000 (fs_beg v g) k) ∧ τ = σ) (fun y1 σ1 => fx_Wp 219 6 [(46, o), (59, r), (0, k), (0, g), (0, m), (0, y1)] [] σ1 (fun w τ => w = (0, if k = -1 then fs_cnt (fs_beg v g) 1000 else fs_row 1000 (fs_beg v g) k) ∧ τ = σ)) := by
      intro m hm hk
      refine fx_CI_e (c218 hv he.1 a) (fun e h => ?_)
      have hno := fs_beg_e (g := g) he.1 h
      refine ih (m, e) ⟨?_, fs_edge_e he.1 h, fun y y0 y1 hy => ?_⟩ (by simp only; have := h.1; omega)
      · simp only
        rw [hm, hn, fs_cnt_z he.1 h.1 hno]
      · simp only at y1
        by_cases c : y < t
        · exact hI y y0 c hy
        · by_cases d : y = t
          · rw [d] at hy ⊢; rw [← hn]; exact hk hy
          · rw [hno y (by omega) y1] at hy; cases hy
    have tr : ∀ {b : Bool}, b = true → n + 1 = n + fs_b b := fun h => by rw [h]; rfl
    have fa : ∀ {b : Bool}, b = false → n = n + fs_b b := fun h => by rw [h]; exact (Int.add_zero n).symm
    refine ⟨fun b => ⟨fun c => ?_, fun c => ?_⟩, fun b => ⟨fun c => ?_, fun c => ?_⟩⟩
    · have h1 : fs_beg v g t = true := by rw [hB]; exact decide_eq_true (Or.inr ⟨b, c⟩)
      exact ⟨fun d => ⟨⟨by omega, by omega⟩, jump _ (tr h1) (fun _ => d)⟩, fun d => found h1 d⟩
    · have h1 : fs_beg v g t = false := by rw [hB]; exact decide_eq_false (by omega)
      exact jump _ (fa h1) (fun q => by rw [h1] at q; cases q)
    · have h1 : fs_beg v g t = true := by rw [hB]; exact decide_eq_true (Or.inl ⟨b, c⟩)
      exact ⟨fun d => ⟨⟨by omega, by omega⟩, jump _ (tr h1) (fun _ => d)⟩, fun d => found h1 d⟩
    · have h1 : fs_beg v g t = false := by rw [hB]; exact decide_eq_false (by omega)
      exact jump _ (fa h1) (fun q => by rw [h1] at q; cases q)
theorem c225 {x : Int} {v : Int → Int} (hv : fs_ln σ 0 v) (x0 : 0 ≤ x) (x1 : x < 1000) : fx_Ca 225 [(46, o), (0, x)] σ (fun w τ => ∃ b, w = (0, b) ∧ τ = σ ∧ fs_isb v x b) := by
  refine t225_0 (fx_whl (X := Int) (fun k => [(46, o), (0, x), (0, k)]) (fun _ => σ) (fun k => 0 ≤ k ∧ k ≤ x ∧ ∀ y, k ≤ y → y ≤ x → v y = v x) (fun k => k.toNat) ?_ x ⟨x0, Int.le_refl _, fun y y0 y1 => by rw [show y = x by omega]⟩)
  rintro k ⟨k0, k1, k2⟩ ih
  refine t225_2 ⟨fun a => ⟨k, rfl, rfl, k0, k1, k2, Or.inl (by omega)⟩, fun a => ⟨⟨by omega, by omega⟩, ⟨by omega, by omega⟩, ⟨x0, x1⟩, ?_⟩⟩
  rw [hv (k - 1) (by omega) (by omega), hv x x0 x1]
  refine ⟨fun b => ⟨k, rfl, rfl, k0, k1, k2, Or.inr b⟩, fun b => ⟨⟨by omega, by omega⟩, ih (k + -1) ⟨by omega, by omega, fun y y0 y1 => ?_⟩ (by omega)⟩⟩
  by_cases e : y = k - 1
  · rw [e]; exact b
  · exact k2 y (by omega) y1
theorem c209 (ho : fs_ok (fs_m σ 47 0)) {w s : Int} (hw : w = 0 ∨ w = 1) : fx_Rt 209 [(46, o), (0, w), (0, s)] σ (0, fs_cnt (fun f => decide (fs_m σ 47 0 (3 + w.toNat) f 0 = s) && decide (fs_m σ 47 0 8 f 0 = 0)) (σ 47 0 1).toNat) σ := by
  have hn := fs_mn ho
  refine t209_0 (fx_for (fun k => [(46, o), (0, w), (0, s), (0, fs_cnt (fun f => decide (fs_m σ 47 0 (3 + w.toNat) f 0 = s) && decide (fs_m σ 47 0 8 f 0 = 0)) k.toNat), (0, k)]) (fun _ => σ) 0 (σ 47 0 1) (fun _ => True) (by omega) trivial ?_ ?_)
  · intro k h0 h1 _ ih
    have ih := ih trivial
    rw [fs_cnt_s _ h0] at ih
    have hb := fs_cnt_b (fun f => decide (fs_m σ 47 0 (3 + w.toNat) f 0 = s) && decide (fs_m σ 47 0 8 f 0 = 0)) k h0
    have hw' : fx_Rt 151 [(46, o), (0, k), (0, w)] σ (0, fs_m σ 47 0 (3 + w.toNat) k 0) σ := by
      rcases hw with rfl | rfl
      · exact c151a h0 (by omega)
      · exact c151b h0 (by omega)
    refine t209_5 ⟨fun a => by omega, fun a => hw'.I ⟨fun b => ⟨⟨by omega, by omega⟩, ⟨by omega, by omega⟩, ?_⟩, fun b => (c151f h0 (by omega)).I ⟨fun c => ⟨⟨by omega, by omega⟩, ⟨by omega, by omega⟩, ?_⟩, fun c => ⟨⟨by omega, by omega⟩, ⟨by omega, by omega⟩, ?_⟩⟩⟩⟩
    · rw [decide_eq_false b, Bool.false_and] at ih; exact ih
    · rw [decide_eq_false c, Bool.and_false] at ih; exact ih
    · rw [decide_eq_true b, decide_eq_true c] at ih; exact ih
  · intro _
    exact t209_5 ⟨fun a => ⟨rfl, rfl⟩, fun a => by omega⟩
theorem c241 (ho : fs_ok (fs_m σ 47 0)) {t : Int} (t0 : 0 ≤ t) (t1 : t < 8) : fx_Rt 241 [(46, o), (0, t)] σ (0, fs_bit (fs_m σ 47 0) t (fs_m σ 47 0 9 t 0).toNat) σ := by
  have hr := ho.2.2.2.2 t t0 t1
  have hn := hr.1
  refine t241_0 (fx_for (fun k => [(46, o), (0, t), (0, fs_bit (fs_m σ 47 0) t k.toNat), (0, k)]) (fun _ => σ) 0 (fs_m σ 47 0 9 t 0) (fun _ => True) (by omega) trivial ?_ ?_)
  · intro k h0 h1 _ ih
    have ih := ih trivial
    rw [fs_bit_s h0] at ih
    generalize hK : σ 47 0 (378 + 94 * t + 2 + 4 * k) = K
    have e11 : fs_m σ 47 0 11 t k = fs_kd K := by
      show fs_kd (σ 47 0 (0 + 378 + 94 * t + 2 + 4 * k)) = _
      rw [← hK, show 0 + 378 + 94 * t + 2 + 4 * k = 378 + 94 * t + 2 + 4 * k by omega]
    have e12 : fs_m σ 47 0 12 t k = if K ≤ 1 then σ 47 0 (378 + 94 * t + 2 + 4 * k + 1) else σ 47 0 (378 + 94 * t + 2 + 4 * k + 2) := by
      show (if σ 47 0 (0 + 378 + 94 * t + 2 + 4 * k) ≤ 1 then σ 47 0 (0 + 378 + 94 * t + 2 + 4 * k + 1) else σ 47 0 (0 + 378 + 94 * t + 2 + 4 * k + 2)) = _
      rw [← hK, show 0 + 378 + 94 * t + 2 + 4 * k = 378 + 94 * t + 2 + 4 * k by omega]
    have hk0 := (fs_kd_i (m := K)).2.1
    rw [e11] at ih
    refine t241_4 ((c160n t0 t1).I ⟨fun a => by omega, fun a => (c161 t0 t1 h0 (by omega) (by omega) (by omega) (x := K) (by rw [← hK, Int.add_zero])).I ⟨fun b => ⟨⟨by omega, by omega⟩, ?_⟩, fun b => (c161 t0 t1 h0 (by omega) (by omega) (by omega) rfl).I ⟨⟨by omega, by omega⟩, ?_⟩⟩⟩)
    · rw [if_neg (fun q => b (hk0.mp q))] at ih
      rw [fs_bit_z]; exact ih
    · rw [if_pos (hk0.mpr b), e12, if_pos (by omega)] at ih; exact ih
  · intro _
    exact t241_4 ((c160n t0 t1).I ⟨fun a => ⟨rfl, rfl⟩, fun a => by omega⟩)
theorem c237 (ho : fs_ok (fs_m σ 47 0)) (hl : σ 46 o 21 = 60) {t x : Int} : fx_Rt 237 [(46, o), (0, t), (0, x)] σ (0, fs_b (fs_disp (fs_m σ 47 0) t x)) σ := by
  have hn := fs_mn ho
  have e1 : fs_m σ 47 0 0 1 0 = σ 47 0 1 := rfl
  generalize hS : fs_m σ 47 0 = S at ho e1
  have hH : ∀ f, 0 ≤ f → f < σ 47 0 1 → S 3 f 0 = t → fx_Rt 156 [(46, o), (0, f), (0, x)] σ (0, fs_b (fs_hold S f t x)) σ := by
    intro f f0 f1 h3
    have := c156 (σ := σ) (o := o) (by rw [hS]; exact ho) (f := f) (time := x) f0 f1
    rw [hS, (decide_eq_true (by omega) : decide (f < σ 46 o 21) = true), Bool.true_and] at this
    unfold fs_hold
    rw [decide_eq_true h3, Bool.true_and]
    exact this
  have hno : ∀ f, S 3 f 0 ≠ t → fs_hold S f t x = false := fun f h => by unfold fs_hold; rw [decide_eq_false h, Bool.false_and]
  have hdi : fs_disp S t x = true ↔ ∃ f g : Int, (0 ≤ f ∧ f < σ 47 0 1) ∧ (0 ≤ g ∧ g < f) ∧ fs_hold S f t x = true ∧ fs_hold S g t x = true ∧ S 4 g 0 ≠ S 4 f 0 ∧ S 7 g 0 ≠ S 7 f 0 := by
    unfold fs_disp
    rw [fs_two_both, e1]
    constructor
    · rintro ⟨f, g, ⟨f0, f1⟩, ⟨g0, g1⟩, h1, h2, h3, h4⟩
      by_cases c : g < f
      · exact ⟨f, g, ⟨f0, by omega⟩, ⟨g0, c⟩, h1, h2, fun e => h3 e.symm, fun e => h4 e.symm⟩
      · have : f ≠ g := fun e => by rw [e] at h3; exact h3 rfl
        exact ⟨g, f, ⟨g0, by omega⟩, ⟨f0, by omega⟩, h2, h1, h3, h4⟩
    · rintro ⟨f, g, ⟨f0, f1⟩, ⟨g0, g1⟩, h1, h2, h3, h4⟩
      exact ⟨f, g, ⟨f0, by omega⟩, ⟨g0, by omega⟩, h1, h2, fun e => h3 e.symm, fun e => h4 e.symm⟩
  have a3 : ∀ f, 0 ≤ f → f < σ 47 0 1 → fx_Rt 151 [(46, o), (0, f), (0, 0)] σ (0, S 3 f 0) σ := fun f f0 f1 => by rw [← hS]; exact c151a f0 (by omega)
  have a4 : ∀ f, 0 ≤ f → f < σ 47 0 1 → fx_Rt 151 [(46, o), (0, f), (0, 1)] σ (0, S 4 f 0) σ := fun f f0 f1 => by rw [← hS]; exact c151b f0 (by omega)
  have a7 : ∀ f, 0 ≤ f → f < σ 47 0 1 → fx_Rt 151 [(46, o), (0, f), (0, 4)] σ (0, S 7 f 0) σ := fun f f0 f1 => by rw [← hS]; exact c151e f0 (by omega)
  refine t237_0 (fx_whl (X := Int × fx_V) (fun y => [(46, o), (0, t), (0, x), (0, y.1), y.2]) (fun _ => σ) (fun y => 0 ≤ y.1 ∧ y.1 ≤ σ 47 0 1 ∧ ∀ f g : Int, (0 ≤ f ∧ f < y.1) → (0 ≤ g ∧ g < f) → fs_hold S f t x = true → fs_hold S g t x = true → S 4 g 0 ≠ S 4 f 0 → S 7 g 0 ≠ S 7 f 0 → False) (fun y => (σ 47 0 1 - y.1).toNat) ?_ (0, (3, 0)) ⟨Int.le_refl _, hn.2.1, fun f g h => by simp only at h; omega⟩)
  rintro ⟨f, w⟩ ⟨f0, f1, hI⟩ ih
  simp only at f0 f1 hI
  show fx_Wp 237 2 [(46, o), (0, t), (0, x), (0, f), w] [] σ _
  have next : ∀ w : fx_V, f < σ 47 0 1 → (∀ g : Int, (0 ≤ g ∧ g < f) → fs_hold S f t x = true → fs_hold S g t x = true → S 4 g 0 ≠ S 4 f 0 → S 7 g 0 ≠ S 7 f 0 → False) → fx_Wp 237 2 [(46, o), (0, t), (0, x), (0, f + 1), w] [] σ (fun v τ => v = (0, fs_b (fs_disp S t x)) ∧ τ = σ) := by
    intro w hf h
    refine ih (f + 1, w) ⟨by simp only; omega, by simp only; omega, fun a b ha hb h1 h2 h3 h4 => ?_⟩ (by simp only; omega)
    simp only at ha
    by_cases e : a = f
    · rw [e] at hb h1 h3 h4; exact h b hb h1 h2 h3 h4
    · exact hI a b ⟨ha.1, by omega⟩ hb h1 h2 h3 h4
  refine t237_2 ⟨fun a => ⟨?_, rfl⟩, fun a => (a3 f f0 a).I ⟨fun b => ⟨⟨by omega, by omega⟩, next w a (fun g _ h => by rw [hno f b] at h; cases h)⟩, fun b => (hH f f0 a b).I ⟨fun c => ?_, fun c => ⟨⟨by omega, by omega⟩, next w a (fun g _ h => by rw [fs_b0.mp c] at h; cases h)⟩⟩⟩⟩
  · have e : fs_disp S t x = false := by
      cases h : fs_disp S t x with
      | false => rfl
      | true =>
        obtain ⟨f', g, ⟨p1, p2⟩, p3, p4, p5, p6, p7⟩ := hdi.mp h
        exact (hI f' g ⟨p1, by omega⟩ p3 p4 p5 p6 p7).elim
    rw [e]; rfl
  · refine fx_for (fun g => [(46, o), (0, t), (0, x), (0, f), (0, g)]) (fun _ => σ) 0 f (fun g => ∀ b : Int, (0 ≤ b ∧ b < g) → fs_hold S f t x = true → fs_hold S b t x = true → S 4 b 0 ≠ S 4 f 0 → S 7 b 0 ≠ S 7 f 0 → False) f0 (fun b hb => by omega) ?_ ?_
    · intro g g0 g1 hJ ih2
      have ih2 : (fs_hold S g t x = true → S 4 g 0 ≠ S 4 f 0 → S 7 g 0 ≠ S 7 f 0 → False) → _ := fun h => ih2 (fun b hb h1 h2 h3 h4 => by
        by_cases e : b = g
        · rw [e] at h2 h3 h4; exact h h2 h3 h4
        · exact hJ b ⟨hb.1, by omega⟩ h1 h2 h3 h4)
      refine t237_37 ?_
      refine ⟨fun d => by omega, fun d => (a3 g g0 (by omega)).I ⟨fun e => ⟨⟨by omega, by omega⟩, ih2 (fun h => by rw [hno g e] at h; cases h)⟩, fun e => (hH g g0 (by omega) e).I ⟨fun q => ⟨⟨by omega, by omega⟩, ih2 (fun h => by rw [fs_b0.mp q] at h; cases h)⟩, fun q => (a4 g g0 (by omega)).I ((a4 f f0 a).I ⟨fun r => ⟨⟨by omega, by omega⟩, ih2 (fun _ h => absurd r h)⟩, fun r => (a7 g g0 (by omega)).I ((a7 f f0 a).I ⟨fun s => ⟨⟨by omega, by omega⟩, ih2 (fun _ _ h => absurd s h)⟩, fun s => ⟨?_, rfl⟩⟩)⟩)⟩⟩⟩
      rw [hdi.mpr ⟨f, g, ⟨f0, a⟩, ⟨g0, g1⟩, fs_b1.mp c, fs_b1.mp q, r, s⟩]; rfl
    · intro hJ
      exact t237_37 ⟨fun d => ⟨⟨by omega, by omega⟩, next _ a hJ⟩, fun d => by omega⟩
end FXM
