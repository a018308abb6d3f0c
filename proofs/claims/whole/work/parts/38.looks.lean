/-- the best fact of a thing at a time, of those that W lets in; and what the things are -/
def fs_bs (S : fx_S) (W : Int → Bool) (t time : Int) : Int := fs_best (fun f => W f && fs_hold S f t time) (fs_better S) (S 0 1 0).toNat
def fs_ia (S : fx_S) (W : Int → Bool) (time t : Int) (is : Int → Int) : Int := if fs_bs S W t time = -1 then fs_mv S t is (S 9 t 0) else S 7 (fs_bs S W t time) 0
def fs_iv (S : fx_S) (W : Int → Bool) (time : Int) : Nat → Int → Int
  | 0 => fun _ => 0
  | n + 1 => fun a => if a = n then fs_ia S W time n (fs_iv S W time n) else fs_iv S W time n a
def fs_is (S : fx_S) (W : Int → Bool) (t time : Int) : Int := fs_iv S W time (t.toNat + 1) t
theorem fs_iv_n {S : fx_S} {W : Int → Bool} {time : Int} {n : Nat} {a : Int} : fs_iv S W time (n + 1) a = if a = n then fs_ia S W time n (fs_iv S W time n) else fs_iv S W time n a := rfl
theorem fs_iv_is {S : fx_S} {W : Int → Bool} {time : Int} : ∀ (n : Nat) (a : Int), 0 ≤ a → a < n → fs_iv S W time n a = fs_is S W a time
  | 0, a, h0, h1 => by omega
  | n + 1, a, h0, h1 => by
    by_cases e : a = n
    · unfold fs_is
      rw [show a.toNat = n by omega]
    · rw [fs_iv_n, if_neg e]
      exact fs_iv_is n a h0 (by omega)
theorem fs_mv_c {S T : fx_S} (he : fs_eq S T) (ho : fs_ok S) {t : Int} (t0 : 0 ≤ t) (t1 : t < 8) {is is' : Int → Int} (hi : ∀ a, 0 ≤ a → a < t → is a = is' a) : fs_mv S t is (S 9 t 0) = fs_mv T t is' (T 9 t 0) := by
  have e := (he.2.2.2.2 t t0 t1).1
  have hn := (ho.2.2.2.2 t t0 t1).1
  unfold fs_mv
  rw [← e]
  by_cases h : S 9 t 0 = 0
  · rw [if_pos h, if_pos h]
  · rw [if_neg h, if_neg h]
    exact fs_mk_c he ho t0 t1 hi _ (by omega) _ (by omega) (by omega)
theorem fs_is_e {S : fx_S} (ho : fs_ok S) {W : Int → Bool} {t time : Int} (t0 : 0 ≤ t) (t1 : t < 8) : fs_is S W t time = fs_ia S W time t (fun a => fs_is S W a time) := by
  have e : ((t.toNat : Nat) : Int) = t := by omega
  unfold fs_is
  rw [fs_iv_n, if_pos e.symm, e]
  unfold fs_ia
  by_cases h : fs_bs S W t time = -1
  · rw [if_pos h, if_pos h]
    exact fs_mv_c fs_eq.rfl ho t0 t1 (fun a a0 a1 => fs_iv_is _ a a0 (by omega))
  · rw [if_neg h, if_neg h]
theorem fs_bs_in {S : fx_S} (ho : fs_ok S) {W : Int → Bool} {t time : Int} : fs_bs S W t time = -1 ∨ (0 ≤ fs_bs S W t time ∧ fs_bs S W t time < S 0 1 0) := by
  have := fs_best_in (fun f => W f && fs_hold S f t time) (fs_better S) (S 0 1 0).toNat
  have := ho.2.1
  unfold fs_bs
  omega
theorem fs_ia_r {S : fx_S} (ho : fs_ok S) {W : Int → Bool} {t time : Int} (t0 : 0 ≤ t) (t1 : t < 8) {is : Int → Int} (hi : ∀ a, 0 ≤ a → a < t → -1 ≤ is a ∧ is a ≤ 99) : -1 ≤ fs_ia S W time t is ∧ fs_ia S W time t is ≤ 99 := by
  unfold fs_ia
  have hn := (ho.2.2.2.2 t t0 t1).1
  rcases fs_bs_in (W := W) (t := t) (time := time) ho with h | ⟨h0, h1⟩
  · rw [if_pos h]
    unfold fs_mv
    by_cases e : S 9 t 0 = 0
    · rw [if_pos e]; omega
    · rw [if_neg e]
      exact fs_mk_r ho t0 t1 hi _ (by omega) _ (by omega) (by omega)
  · rw [if_neg (by omega)]
    have := (ho.2.2.2.1 _ h0 h1).2.2.2.1
    omega
theorem fs_is_r {S : fx_S} (ho : fs_ok S) {W : Int → Bool} {time : Int} : ∀ n : Nat, (n : Int) ≤ 8 → ∀ t : Int, 0 ≤ t → t < n → -1 ≤ fs_is S W t time ∧ fs_is S W t time ≤ 99
  | 0, _, t, h0, h1 => by omega
  | n + 1, hn, t, h0, h1 => by
    rw [fs_is_e ho h0 (by omega)]
    exact fs_ia_r ho h0 (by omega) (fun a a0 a1 => fs_is_r ho n (by omega) a a0 (by omega))
theorem fs_m_c {σ τ : fx_S} {K : Nat} {b0 : Int} (h : ∀ p, τ K 0 p = σ K 0 p) : fs_m τ K b0 = fs_m σ K b0 := by
  funext k a b
  unfold fs_m
  split <;> simp only [h]
section FXL
variable {σ : fx_S} {o : Int}
theorem c165 (ho : fs_ok (fs_m σ 47 0)) {time : Int} : fx_Ca 165 [(46, o), (0, time)] σ (fun v τ => v = (4, 0) ∧ (∀ K p q, ¬ (55 ≤ K ∧ K ≤ 57) → τ K p q = σ K p q) ∧ ∀ a, 0 ≤ a → a < 8 → τ 55 0 a = fs_is (fs_m σ 47 0) (fun f => decide (f < σ 46 o 21)) a time ∧ τ 56 0 a = fs_bs (fs_m σ 47 0) (fun f => decide (f < σ 46 o 21)) a time) := by
  refine t165_0 ?_
  refine fx_whl (X := Int × fx_S) (fun x => [(46, o), (0, time), (0, x.1)]) (fun x => x.2) (fun x => (0 ≤ x.1 ∧ x.1 ≤ 8) ∧ (∀ K p q, ¬ (55 ≤ K ∧ K ≤ 57) → x.2 K p q = σ K p q) ∧ ∀ a, 0 ≤ a → a < x.1 → x.2 55 0 a = fs_is (fs_m σ 47 0) (fun f => decide (f < σ 46 o 21)) a time ∧ x.2 56 0 a = fs_bs (fs_m σ 47 0) (fun f => decide (f < σ 46 o 21)) a time) (fun x => (8 - x.1).toNat) ?_ (0, σ) ⟨⟨by simp, by simp⟩, fun _ _ _ _ => rfl, fun a a0 a1 => absurd a1 (by simp only; omega)⟩
  rintro ⟨t, τ⟩ ⟨⟨t0, t1⟩, hf, ha⟩ ih
  simp only at t0 t1 hf ha
  show fx_Wp 165 2 [(46, o), (0, time), (0, t)] [] τ _
  refine t165_2 ⟨fun a => ⟨rfl, hf, fun b b0 b1 => ha b b0 (by omega)⟩, fun a => ?_⟩
  have hm : ∀ τ' : fx_S, (∀ K p q, ¬ (55 ≤ K ∧ K ≤ 57) → τ' K p q = σ K p q) → fs_m τ' 47 0 = fs_m σ 47 0 := fun τ' h => fs_m_c (fun p => h 47 0 p (by omega))
  have h21 : τ 46 o 21 = σ 46 o 21 := hf 46 o 21 (by omega)
  have h1 : τ 47 0 1 = σ 47 0 1 := hf 47 0 1 (by omega)
  have hB : fs_best (fun f => (decide ((-1 : Int) = -1) || decide (fs_m τ 47 0 4 f 0 = -1)) && (decide (f < τ 46 o 21) && fs_hold (fs_m τ 47 0) f t time)) (fs_better (fs_m τ 47 0)) (τ 47 0 1).toNat = fs_bs (fs_m σ 47 0) (fun f => decide (f < σ 46 o 21)) t time := by
    rw [hm τ hf, h21, h1]
    unfold fs_bs
    simp
    rfl
  have c := c159 (σ := τ) (o := o) (th := t) (time := time) (s := -1) (by rw [hm τ hf]; exact ho)
  rw [hB] at c
  refine c.I ⟨by omega, ?_⟩
  generalize hBB : fs_bs (fs_m σ 47 0) (fun f => decide (f < σ 46 o 21)) t time = B
  have hin := fs_bs_in (W := fun f => decide (f < σ 46 o 21)) (t := t) (time := time) ho
  rw [hBB] at hin
  have hn := fs_mn ho
  have e1 : fs_m σ 47 0 0 1 0 = σ 47 0 1 := rfl
  rw [e1] at hin
  have step : ∀ (v : Int) (τ1 : fx_S), v = fs_is (fs_m σ 47 0) (fun f => decide (f < σ 46 o 21)) t time → (∀ K p q, K ≠ 57 → τ1 K p q = fx_up τ 56 0 t B K p q) → fx_Wp 165 2 [(46, o), (0, time), (0, t + 1)] [] (fx_up τ1 55 0 t v) (fun v τ => v = (4, 0) ∧ (∀ K p q, ¬ (55 ≤ K ∧ K ≤ 57) → τ K p q = σ K p q) ∧ ∀ a, 0 ≤ a → a < 8 → τ 55 0 a = fs_is (fs_m σ 47 0) (fun f => decide (f < σ 46 o 21)) a time ∧ τ 56 0 a = fs_bs (fs_m σ 47 0) (fun f => decide (f < σ 46 o 21)) a time) := by
    intro v τ1 hv h57
    generalize hE : fx_up τ1 55 0 t v = τ2
    refine ih (t + 1, τ2) ⟨⟨by simp only; omega, by simp only; omega⟩, ?_, ?_⟩ (by simp only; omega)
    · intro K p q hK
      simp only [← hE]
      rw [fx_upE, if_neg (by omega), h57 K p q (by omega), fx_upE, if_neg (by omega)]
      exact hf K p q hK
    · intro b b0 b1
      simp only at b1
      simp only [← hE]
      rw [fx_upK (K := 55) (K' := 56) rfl, h57 56 0 b (by omega)]
      by_cases e : b = t
      · rw [e, fx_upS, fx_upS, hBB]
        exact ⟨hv, rfl⟩
      · rw [fx_upJ e, fx_upJ e, h57 55 0 b (by omega), fx_upK rfl]
        exact ha b b0 (by omega)
  have hm2 : fs_m (fx_up τ 56 0 t B) 47 0 = fs_m σ 47 0 := fs_m_c (fun p => (fx_upK rfl).trans (hf 47 0 p (by omega)))
  refine ⟨fun b => ?_, fun b => ?_⟩
  · have hr : ∀ a, 0 ≤ a → a < t → -1 ≤ (fx_up τ 56 0 t B) 55 0 a ∧ (fx_up τ 56 0 t B) 55 0 a ≤ 99 := by
      intro a a0 a1
      rw [fx_upK rfl, (ha a a0 a1).1]
      exact fs_is_r ho 8 (by omega) a a0 (by omega)
    have c2 := c164 (σ := fx_up τ 56 0 t B) (o := o) (by rw [hm2]; exact ho) t0 a hr
    rw [hm2] at c2
    refine c2.I ⟨⟨by omega, by omega⟩, step _ _ ?_ ?_⟩
    · rw [fs_is_e ho t0 a]
      unfold fs_ia
      rw [hBB, if_pos b]
      exact fs_mv_c fs_eq.rfl ho t0 a (fun x x0 x1 => (fx_upK rfl).trans (ha x x0 x1).1)
    · intro K p q hK
      rw [fx_fillE, if_neg (by omega)]
  · refine (c151e (σ := fx_up τ 56 0 t B) (by omega) (by omega)).I ⟨⟨by omega, by omega⟩, step _ _ ?_ (fun K p q _ => rfl)⟩
    rw [hm2, fs_is_e ho t0 a]
    unfold fs_ia
    rw [hBB, if_neg b]
end FXL
