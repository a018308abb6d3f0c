theorem fs_mE {σ : fx_S} (x b : Int) : fs_m σ 47 0 0 x 0 = σ 47 0 x ∧ fs_m σ 47 0 1 x 0 = σ 47 0 (2 + x) ∧ fs_m σ 47 0 2 x 0 = σ 47 0 (10 + x) ∧ fs_m σ 47 0 3 x 0 = σ 47 0 (18 + 6 * x) ∧ fs_m σ 47 0 4 x 0 = σ 47 0 (18 + 6 * x + 1) ∧ fs_m σ 47 0 5 x 0 = σ 47 0 (18 + 6 * x + 2) ∧ fs_m σ 47 0 6 x 0 = σ 47 0 (18 + 6 * x + 3) ∧ fs_m σ 47 0 7 x 0 = σ 47 0 (18 + 6 * x + 4) ∧ fs_m σ 47 0 8 x 0 = σ 47 0 (18 + 6 * x + 5) ∧ fs_m σ 47 0 9 x 0 = σ 47 0 (378 + 94 * x) ∧ fs_m σ 47 0 10 x 0 = σ 47 0 (378 + 94 * x + 1) :=
  ⟨fs_mi (by omega), fs_mi (by omega), fs_mi (by omega), fs_mi (by omega), fs_mi (by omega), fs_mi (by omega), fs_mi (by omega), fs_mi (by omega), fs_mi (by omega), fs_mi (by omega), fs_mi (by omega)⟩
/-- where the rules stay -/
theorem fs_eq_mf {σ τ A : fx_S} (hA : ∀ k x y, 9 ≤ k → k ≤ 13 → A k x y = fs_m σ 47 0 k x y) (hq : ∀ q, 378 ≤ q → τ 47 0 q = σ 47 0 q) (h0 : A 0 0 0 = τ 47 0 0) (h1 : A 0 1 0 = τ 47 0 1) (hs : ∀ s, 0 ≤ s → s < A 0 0 0 → A 1 s 0 = τ 47 0 (2 + s) ∧ A 2 s 0 = τ 47 0 (10 + s))
    (hf : ∀ f, 0 ≤ f → f < A 0 1 0 → A 3 f 0 = τ 47 0 (18 + 6 * f) ∧ A 4 f 0 = τ 47 0 (18 + 6 * f + 1) ∧ A 5 f 0 = τ 47 0 (18 + 6 * f + 2) ∧ A 6 f 0 = τ 47 0 (18 + 6 * f + 3) ∧ A 7 f 0 = τ 47 0 (18 + 6 * f + 4) ∧ A 8 f 0 = τ 47 0 (18 + 6 * f + 5)) : fs_eq A (fs_m τ 47 0) := by
  refine ⟨by rw [(fs_mE 0 0).1]; exact h0, by rw [(fs_mE 1 0).1]; exact h1, fun s s0 s1 => ?_, fun f f0 f1 => ?_, fun t t0 t1 => ?_⟩
  · rw [(fs_mE s 0).2.1, (fs_mE s 0).2.2.1]; exact hs s s0 s1
  · obtain ⟨-, -, -, m3, m4, m5, m6, m7, m8, -⟩ := fs_mE (σ := τ) f 0
    rw [m3, m4, m5, m6, m7, m8]; exact hf f f0 f1
  · have hm : ∀ (k : Nat) (b : Int), 9 ≤ k → k ≤ 13 → 0 ≤ b → fs_m τ 47 0 k t b = fs_m σ 47 0 k t b := by
      intro k b k0 k1 b0
      have hk : k = 9 ∨ k = 10 ∨ k = 11 ∨ k = 12 ∨ k = 13 := by omega
      unfold fs_m
      rcases hk with rfl | rfl | rfl | rfl | rfl
      · exact hq _ (by omega)
      · exact hq _ (by omega)
      · show fs_kd _ = fs_kd _
        rw [hq _ (by omega)]
      · show (if _ then _ else _) = _
        rw [hq _ (by omega), hq _ (by omega), hq _ (by omega)]
        rfl
      · exact hq _ (by omega)
    rw [hA 9 t 0 (by omega) (by omega), hA 10 t 0 (by omega) (by omega), hm 9 0 (by omega) (by omega) (by omega), hm 10 0 (by omega) (by omega) (by omega)]
    refine ⟨rfl, rfl, fun k k0 k1 => ?_⟩
    rw [hA 11 t k (by omega) (by omega), hA 12 t k (by omega) (by omega), hA 13 t k (by omega) (by omega), hm 11 k (by omega) (by omega) k0, hm 12 k (by omega) (by omega) k0, hm 13 k (by omega) (by omega) k0]
    exact ⟨rfl, rfl, fun _ => rfl⟩
def fs_ma (o : Int) (σ : fx_S) (k a b c d e : Int) (R : fx_S) : fx_V → fx_S → Prop := fun v τ => v = (0, fs_ref (fs_m σ 47 0) k a b c d) ∧ (∀ K p q, K ≠ 47 → τ K p q = σ K p q) ∧ (fs_ref (fs_m σ 47 0) k a b c d = 0 → fs_eq (fs_do (fs_m σ 47 0) k a b c d e R) (fs_m τ 47 0)) ∧ (fs_ref (fs_m σ 47 0) k a b c d ≠ 0 → ∀ q, τ 47 0 q = σ 47 0 q)
section FXM
variable {σ : fx_S} {o : Int}
theorem fs_ma_no {k a b c d e r : Int} {R : fx_S} (h : fs_ref (fs_m σ 47 0) k a b c d = r) (hr : r ≠ 0) : fs_ma o σ k a b c d e R (0, r) σ := ⟨by rw [h], fun _ _ _ _ => rfl, fun z => absurd (h.symm.trans z) hr, fun _ _ => rfl⟩
theorem c168 (ho : fs_ok (fs_m σ 47 0)) {r : Int} : fx_Ca 168 [(46, o), (0, r)] σ (fs_ma o σ 17 r 0 0 0 0 σ) := by
  have hn := fs_mn ho
  have e0 : fs_m σ 47 0 0 0 0 = σ 47 0 0 := rfl
  have href : fs_ref (fs_m σ 47 0) 17 r 0 0 0 = if σ 47 0 0 < 8 then 0 else 1 := by unfold fs_ref; rw [if_neg (by decide), if_pos rfl, e0]
  refine t168_0 ⟨fun a => ?_, fun a => fs_ma_no (by rw [href, if_neg (by omega)]) (by decide)⟩
  have e1 : fx_up σ 47 0 (2 + σ 47 0 0) r 47 0 0 = σ 47 0 0 := fx_upJ (by omega)
  rw [e1]
  have e2 : fx_up (fx_up σ 47 0 (2 + σ 47 0 0) r) 47 0 (10 + σ 47 0 0) 0 47 0 0 = σ 47 0 0 := (fx_upJ (by omega)).trans e1
  rw [e2]
  refine ⟨⟨by omega, by omega⟩, ⟨by omega, by omega⟩, ⟨by omega, by omega⟩, ⟨by omega, by omega⟩, ⟨by omega, by omega⟩, ?_⟩
  generalize hE : fx_up (fx_up (fx_up σ 47 0 (2 + σ 47 0 0) r) 47 0 (10 + σ 47 0 0) 0) 47 0 0 (σ 47 0 0 + 1) = τ
  have t1 : ∀ K p q, ¬ (K = 47 ∧ p = 0 ∧ (q = 0 ∨ q = 2 + σ 47 0 0 ∨ q = 10 + σ 47 0 0)) → τ K p q = σ K p q := fun K p q hK => by
    rw [← hE, fx_upE, if_neg (by omega), fx_upE, if_neg (by omega), fx_upE, if_neg (by omega)]
  refine ⟨by rw [href, if_pos (by omega)], fun K p q hK => t1 K p q (by omega), fun _ => ?_, fun z => ?_⟩
  · have hdo : fs_do (fs_m σ 47 0) 17 r 0 0 0 0 σ = fs_src (fs_m σ 47 0) r := by unfold fs_do; rw [if_neg (by decide), if_pos rfl]
    rw [hdo]
    refine fs_eq_mf (fun k x y k0 k1 => ?_) (fun q q0 => t1 47 0 q (by omega)) ?_ ?_ (fun s s0 s1 => ?_) (fun f f0 f1 => ?_)
    · unfold fs_src
      rw [fx_upE, if_neg (by omega), fx_upE, if_neg (by omega), fx_upE, if_neg (by omega)]
    · rw [← hE, fx_upS]
      simp [fs_src, fx_up, e0]
    · rw [t1 47 0 1 (by omega)]
      simp [fs_src, fx_up, fs_m]
    · have s1 : s < σ 47 0 0 + 1 := by simpa [fs_src, fx_up, e0] using s1
      by_cases e : s = σ 47 0 0
      · rw [e]
        have q1 : τ 47 0 (2 + σ 47 0 0) = r := by rw [← hE, fx_upJ (by omega), fx_upJ (by omega), fx_upS]
        have q2 : τ 47 0 (10 + σ 47 0 0) = 0 := by rw [← hE, fx_upJ (by omega), fx_upS]
        rw [q1, q2]
        simp [fs_src, fx_up, e0]
      · rw [t1 47 0 (2 + s) (by omega), t1 47 0 (10 + s) (by omega), ← (fs_mE (σ := σ) s 0).2.1, ← (fs_mE (σ := σ) s 0).2.2.1]
        simp [fs_src, fx_up, e0, e]
    · have f1 : f < σ 47 0 1 := by simpa [fs_src, fx_up, fs_m] using f1
      obtain ⟨-, -, -, m3, m4, m5, m6, m7, m8, -⟩ := fs_mE (σ := σ) f 0
      rw [t1 47 0 (18 + 6 * f) (by omega), t1 47 0 (18 + 6 * f + 1) (by omega), t1 47 0 (18 + 6 * f + 2) (by omega), t1 47 0 (18 + 6 * f + 3) (by omega), t1 47 0 (18 + 6 * f + 4) (by omega), t1 47 0 (18 + 6 * f + 5) (by omega), ← m3, ← m4, ← m5, ← m6, ← m7, ← m8]
      simp [fs_src, fx_up]
  · rw [href, if_pos (by omega)] at z; exact absurd rfl z
theorem c169 (ho : fs_ok (fs_m σ 47 0)) {th s a b v : Int} : fx_Ca 169 [(46, o), (0, th), (0, s), (0, a), (0, b), (0, v)] σ (fs_ma o σ 18 th s a b v σ) := by
  have hn := fs_mn ho
  have e0 : fs_m σ 47 0 0 0 0 = σ 47 0 0 := rfl
  have e1 : fs_m σ 47 0 0 1 0 = σ 47 0 1 := rfl
  have href : fs_ref (fs_m σ 47 0) 18 th s a b = if 0 ≤ s ∧ s < σ 47 0 0 then (if a < b then (if σ 47 0 1 < 60 then 0 else 4) else 3) else 2 := by unfold fs_ref; rw [if_neg (by decide), if_neg (by decide), if_pos rfl, e0, e1]
  refine t169_0 ((c152 ho).I ⟨fun w => ⟨fun ab => ⟨fun nf => ?_, fun nf => ?_⟩, fun ab => ?_⟩, fun w => ?_⟩)
  · rw [fs_b1, Bool.and_eq_true, decide_eq_true_eq, decide_eq_true_eq] at w
    generalize hN : σ 47 0 1 = N at *
    have up1 : ∀ (ρ : fx_S) (q v : Int), q ≠ 1 → ρ 47 0 1 = N → fx_up ρ 47 0 q v 47 0 1 = N := fun ρ q v hq h => (fx_upJ (fun e => hq e.symm)).trans h
    have eN : fx_up (fx_up (fx_up (fx_up (fx_up (fx_up σ 47 0 (18 + 6 * N + 0) th) 47 0 (18 + 6 * N + 1) s) 47 0 (18 + 6 * N + 2) a) 47 0 (18 + 6 * N + 3) b) 47 0 (18 + 6 * N + 4) v) 47 0 (18 + 6 * N + 5) 0 47 0 1 = N :=
      up1 _ _ _ (by omega) (up1 _ _ _ (by omega) (up1 _ _ _ (by omega) (up1 _ _ _ (by omega) (up1 _ _ _ (by omega) (up1 _ _ _ (by omega) hN)))))
    rw [eN]
    refine ⟨⟨by omega, by omega⟩, ⟨by omega, by omega⟩, ⟨by omega, by omega⟩, ⟨by omega, by omega⟩, ⟨by omega, by omega⟩, ⟨by omega, by omega⟩, ⟨by omega, by omega⟩, ⟨by omega, by omega⟩, ⟨by omega, by omega⟩, ⟨by omega, by omega⟩, ⟨by omega, by omega⟩, ⟨by omega, by omega⟩, ⟨by omega, by omega⟩, ⟨by omega, by omega⟩, ⟨by omega, by omega⟩, ?_⟩
    generalize hE : fx_up (fx_up (fx_up (fx_up (fx_up (fx_up (fx_up σ 47 0 (18 + 6 * N + 0) th) 47 0 (18 + 6 * N + 1) s) 47 0 (18 + 6 * N + 2) a) 47 0 (18 + 6 * N + 3) b) 47 0 (18 + 6 * N + 4) v) 47 0 (18 + 6 * N + 5) 0) 47 0 1 (N + 1) = τ
    have t1 : ∀ K p q, ¬ (K = 47 ∧ p = 0 ∧ (q = 1 ∨ (18 + 6 * N ≤ q ∧ q ≤ 18 + 6 * N + 5))) → τ K p q = σ K p q := fun K p q hK => by
      rw [← hE, fx_upE, if_neg (by omega), fx_upE, if_neg (by omega), fx_upE, if_neg (by omega), fx_upE, if_neg (by omega), fx_upE, if_neg (by omega), fx_upE, if_neg (by omega), fx_upE, if_neg (by omega)]
    refine ⟨by rw [href, if_pos w, if_pos ab, if_pos (by omega)], fun K p q hK => t1 K p q (by omega), fun _ => ?_, fun z => ?_⟩
    · have hdo : fs_do (fs_m σ 47 0) 18 th s a b v σ = fs_fct (fs_m σ 47 0) th s a b v := by unfold fs_do; rw [if_neg (by decide), if_neg (by decide), if_pos rfl]
      rw [hdo]
      refine fs_eq_mf (fun k x y k0 k1 => ?_) (fun q q0 => t1 47 0 q (by omega)) ?_ ?_ (fun s s0 s1 => ?_) (fun f f0 f1 => ?_)
      · unfold fs_fct
        rw [fx_upE, if_neg (by omega), fx_upE, if_neg (by omega), fx_upE, if_neg (by omega), fx_upE, if_neg (by omega), fx_upE, if_neg (by omega), fx_upE, if_neg (by omega), fx_upE, if_neg (by omega)]
      · rw [t1 47 0 0 (by omega)]
        simp [fs_fct, fx_up, fs_m]
      · rw [← hE, fx_upS]
        simp [fs_fct, fx_up, e1]
      · have s1 : s < σ 47 0 0 := by simpa [fs_fct, fx_up, e0] using s1
        rw [t1 47 0 (2 + s) (by omega), t1 47 0 (10 + s) (by omega), ← (fs_mE (σ := σ) s 0).2.1, ← (fs_mE (σ := σ) s 0).2.2.1]
        simp [fs_fct, fx_up]
      · have f1 : f < N + 1 := by simpa [fs_fct, fx_up, e1] using f1
        by_cases e : f = N
        · rw [e]
          have q0 : τ 47 0 (18 + 6 * N) = th := by rw [← hE, fx_upJ (by omega), fx_upJ (by omega), fx_upJ (by omega), fx_upJ (by omega), fx_upJ (by omega), fx_upJ (by omega), fx_upE, if_pos ⟨rfl, rfl, by omega⟩]
          have q1 : τ 47 0 (18 + 6 * N + 1) = s := by rw [← hE, fx_upJ (by omega), fx_upJ (by omega), fx_upJ (by omega), fx_upJ (by omega), fx_upJ (by omega), fx_upS]
          have q2 : τ 47 0 (18 + 6 * N + 2) = a := by rw [← hE, fx_upJ (by omega), fx_upJ (by omega), fx_upJ (by omega), fx_upJ (by omega), fx_upS]
          have q3 : τ 47 0 (18 + 6 * N + 3) = b := by rw [← hE, fx_upJ (by omega), fx_upJ (by omega), fx_upJ (by omega), fx_upS]
          have q4 : τ 47 0 (18 + 6 * N + 4) = v := by rw [← hE, fx_upJ (by omega), fx_upJ (by omega), fx_upS]
          have q5 : τ 47 0 (18 + 6 * N + 5) = 0 := by rw [← hE, fx_upJ (by omega), fx_upS]
          rw [q0, q1, q2, q3, q4, q5]
          simp [fs_fct, fx_up, e1]
        · obtain ⟨-, -, -, m3, m4, m5, m6, m7, m8, -⟩ := fs_mE (σ := σ) f 0
          rw [t1 47 0 (18 + 6 * f) (by omega), t1 47 0 (18 + 6 * f + 1) (by omega), t1 47 0 (18 + 6 * f + 2) (by omega), t1 47 0 (18 + 6 * f + 3) (by omega), t1 47 0 (18 + 6 * f + 4) (by omega), t1 47 0 (18 + 6 * f + 5) (by omega), ← m3, ← m4, ← m5, ← m6, ← m7, ← m8]
          simp [fs_fct, fx_up, e1, e]
    · rw [href, if_pos w, if_pos ab, if_pos (by omega)] at z; exact absurd rfl z
  · rw [fs_b1, Bool.and_eq_true, decide_eq_true_eq, decide_eq_true_eq] at w
    exact fs_ma_no (by rw [href, if_pos w, if_pos ab, if_neg (by omega)]) (by decide)
  · rw [fs_b1, Bool.and_eq_true, decide_eq_true_eq, decide_eq_true_eq] at w
    exact fs_ma_no (by rw [href, if_pos w, if_neg (by omega)]) (by decide)
  · rw [fs_b0, Bool.and_eq_false_iff, decide_eq_false_iff_not, decide_eq_false_iff_not] at w
    exact fs_ma_no (by rw [href, if_neg (by omega)]) (by decide)
/-- one number of the row written anew -/
theorem fs_up_mm (ho : fs_ok (fs_m σ 47 0)) {kk : Nat} {a v pos : Int} (h : (kk = 8 ∧ pos = 18 + 6 * a + 5 ∧ 0 ≤ a ∧ a < σ 47 0 1) ∨ (kk = 6 ∧ pos = 18 + 6 * a + 3 ∧ 0 ≤ a ∧ a < σ 47 0 1) ∨ (kk = 2 ∧ pos = 10 + a ∧ 0 ≤ a ∧ a < σ 47 0 0) ∨ (kk = 1 ∧ pos = 2 + a ∧ 0 ≤ a ∧ a < σ 47 0 0)) : fs_eq (fx_up (fs_m σ 47 0) kk a 0 v) (fs_m (fx_up σ 47 0 pos v) 47 0) := by
  have hn := fs_mn ho
  have e0 : fs_m σ 47 0 0 0 0 = σ 47 0 0 := rfl
  have e1 : fs_m σ 47 0 0 1 0 = σ 47 0 1 := rfl
  have hpos : 2 ≤ pos ∧ pos < 378 := by omega
  have hk : ∀ (k : Nat) (x : Int), ¬ (k = kk ∧ x = a) → fx_up (fs_m σ 47 0) kk a 0 v k x 0 = fs_m σ 47 0 k x 0 := fun k x hh => by rw [fx_upE, if_neg (fun e => hh ⟨e.1, e.2.1⟩)]
  refine fs_eq_mf (fun k x y k0 k1 => by rw [fx_upE, if_neg (by omega)]) (fun q q0 => fx_upJ (by omega)) ?_ ?_ (fun s s0 s1 => ?_) (fun f f0 f1 => ?_)
  · rw [hk 0 0 (by omega), fx_upJ (by omega)]; rfl
  · rw [hk 0 1 (by omega), fx_upJ (by omega)]; rfl
  · rw [hk 0 0 (by omega), e0] at s1
    obtain ⟨-, m1, m2, -⟩ := fs_mE (σ := σ) s 0
    rcases h with ⟨rfl, rfl, a0, a1⟩ | ⟨rfl, rfl, a0, a1⟩ | ⟨rfl, rfl, a0, a1⟩ | ⟨rfl, rfl, a0, a1⟩
    · rw [hk 1 s (by omega), hk 2 s (by omega), fx_upJ (by omega), fx_upJ (by omega)]; exact ⟨m1, m2⟩
    · rw [hk 1 s (by omega), hk 2 s (by omega), fx_upJ (by omega), fx_upJ (by omega)]; exact ⟨m1, m2⟩
    · rw [hk 1 s (by omega), fx_upJ (by omega)]
      refine ⟨m1, ?_⟩
      by_cases e : s = a
      · rw [e, fx_upS, fx_upS]
      · rw [hk 2 s (by omega), fx_upJ (by omega)]; exact m2
    · rw [hk 2 s (by omega), fx_upJ (j' := 10 + s) (by omega)]
      refine ⟨?_, m2⟩
      by_cases e : s = a
      · rw [e, fx_upS, fx_upS]
      · rw [hk 1 s (by omega), fx_upJ (by omega)]; exact m1
  · rw [hk 0 1 (by omega), e1] at f1
    obtain ⟨-, -, -, m3, m4, m5, m6, m7, m8, -⟩ := fs_mE (σ := σ) f 0
    rw [hk 3 f (by omega), hk 4 f (by omega), hk 5 f (by omega), hk 7 f (by omega), fx_upJ (j' := 18 + 6 * f) (by omega), fx_upJ (j' := 18 + 6 * f + 1) (by omega), fx_upJ (j' := 18 + 6 * f + 2) (by omega), fx_upJ (j' := 18 + 6 * f + 4) (by omega)]
    rcases h with ⟨rfl, rfl, a0, a1⟩ | ⟨rfl, rfl, a0, a1⟩ | ⟨rfl, rfl, a0, a1⟩ | ⟨rfl, rfl, a0, a1⟩
    · rw [hk 6 f (by omega), fx_upJ (j' := 18 + 6 * f + 3) (by omega)]
      refine ⟨m3, m4, m5, m6, m7, ?_⟩
      by_cases e : f = a
      · rw [e, fx_upS, fx_upS]
      · rw [hk 8 f (by omega), fx_upJ (by omega)]; exact m8
    · rw [hk 8 f (by omega), fx_upJ (j' := 18 + 6 * f + 5) (by omega)]
      refine ⟨m3, m4, m5, ?_, m7, m8⟩
      by_cases e : f = a
      · rw [e, fx_upS, fx_upS]
      · rw [hk 6 f (by omega), fx_upJ (by omega)]; exact m6
    · rw [hk 6 f (by omega), hk 8 f (by omega), fx_upJ (j' := 18 + 6 * f + 3) (by omega), fx_upJ (j' := 18 + 6 * f + 5) (by omega)]
      exact ⟨m3, m4, m5, m6, m7, m8⟩
    · rw [hk 6 f (by omega), hk 8 f (by omega), fx_upJ (j' := 18 + 6 * f + 3) (by omega), fx_upJ (j' := 18 + 6 * f + 5) (by omega)]
      exact ⟨m3, m4, m5, m6, m7, m8⟩
theorem c170 (ho : fs_ok (fs_m σ 47 0)) {f : Int} : fx_Ca 170 [(46, o), (0, f)] σ (fs_ma o σ 19 f 0 0 0 0 σ) := by
  have hn := fs_mn ho
  have e1 : fs_m σ 47 0 0 1 0 = σ 47 0 1 := rfl
  have href : fs_ref (fs_m σ 47 0) 19 f 0 0 0 = if (0 ≤ f ∧ f < σ 47 0 1) ∧ fs_m σ 47 0 8 f 0 = 0 then 0 else 5 := by unfold fs_ref; rw [if_neg (by decide), if_neg (by decide), if_neg (by decide), if_pos rfl, e1]
  refine t170_0 ((c153 ho).I ⟨fun w => ?_, fun w => ?_⟩)
  · rw [fs_b0, Bool.and_eq_false_iff, decide_eq_false_iff_not, decide_eq_false_iff_not] at w
    exact fs_ma_no (by rw [href, if_neg (by omega)]) (by decide)
  · rw [fs_b1, Bool.and_eq_true, decide_eq_true_eq, decide_eq_true_eq] at w
    have h8 := (ho.2.2.2.1 f w.1 w.2).2.2.2.2
    refine (c151f w.1 (by omega)).I ⟨fun d => ⟨⟨by omega, by omega⟩, ⟨by omega, by omega⟩, ⟨by omega, by omega⟩, ⟨by omega, by omega⟩, ?_⟩, fun d => fs_ma_no (by rw [href, if_neg (by omega)]) (by decide)⟩
    have hr0 : fs_ref (fs_m σ 47 0) 19 f 0 0 0 = 0 := by rw [href, if_pos (by omega)]
    refine ⟨by rw [hr0], fun K p q hK => by rw [fx_upE, if_neg (by omega)], fun _ => ?_, fun z => absurd hr0 z⟩
    have hdo : fs_do (fs_m σ 47 0) 19 f 0 0 0 0 σ = fx_up (fs_m σ 47 0) 8 f 0 1 := by unfold fs_do; rw [if_neg (by decide), if_neg (by decide), if_neg (by decide), if_pos rfl]
    rw [hdo]
    exact fs_up_mm ho (Or.inl ⟨rfl, rfl, w.1, w.2⟩)
theorem c171 (ho : fs_ok (fs_m σ 47 0)) {s v k : Int} (hk : (k = 20 ∧ v = 1) ∨ (k = 21 ∧ v = 0)) : fx_Ca 171 [(46, o), (0, s), (0, v)] σ (fs_ma o σ k s 0 0 0 0 σ) := by
  have hn := fs_mn ho
  have e0 : fs_m σ 47 0 0 0 0 = σ 47 0 0 := rfl
  have href : fs_ref (fs_m σ 47 0) k s 0 0 0 = if 0 ≤ s ∧ s < σ 47 0 0 then (if fs_m σ 47 0 2 s 0 = v then 6 else 0) else 2 := by
    unfold fs_ref
    rcases hk with ⟨rfl, rfl⟩ | ⟨rfl, rfl⟩
    · rw [if_neg (by decide), if_neg (by decide), if_neg (by decide), if_neg (by decide), if_pos rfl, e0]
    · rw [if_neg (by decide), if_neg (by decide), if_neg (by decide), if_neg (by decide), if_neg (by decide), if_pos rfl, e0]
  refine t171_0 ((c152 ho).I ⟨fun w => ⟨?_, ?_, ?_⟩, fun w => ?_⟩)
  · rw [fs_b1, Bool.and_eq_true, decide_eq_true_eq, decide_eq_true_eq] at w
    exact ⟨by omega, by omega⟩
  · rw [fs_b1, Bool.and_eq_true, decide_eq_true_eq, decide_eq_true_eq] at w
    exact ⟨by omega, by omega⟩
  · rw [fs_b1, Bool.and_eq_true, decide_eq_true_eq, decide_eq_true_eq] at w
    rw [← (fs_mE (σ := σ) s 0).2.2.1]
    refine ⟨fun d => ?_, fun d => fs_ma_no (by rw [href, if_pos w, if_pos d]) (by decide)⟩
    have hr0 : fs_ref (fs_m σ 47 0) k s 0 0 0 = 0 := by rw [href, if_pos w, if_neg d]
    refine ⟨by rw [hr0], fun K p q hK => by rw [fx_upE, if_neg (by omega)], fun _ => ?_, fun z => absurd hr0 z⟩
    have hdo : fs_do (fs_m σ 47 0) k s 0 0 0 0 σ = fx_up (fs_m σ 47 0) 2 s 0 v := by
      unfold fs_do
      rcases hk with ⟨rfl, rfl⟩ | ⟨rfl, rfl⟩
      · rw [if_neg (by decide), if_neg (by decide), if_neg (by decide), if_neg (by decide), if_pos rfl]
      · rw [if_neg (by decide), if_neg (by decide), if_neg (by decide), if_neg (by decide), if_neg (by decide), if_pos rfl]
    rw [hdo]
    exact fs_up_mm ho (Or.inr (Or.inr (Or.inl ⟨rfl, rfl, w.1, w.2⟩)))
  · rw [fs_b0, Bool.and_eq_false_iff, decide_eq_false_iff_not, decide_eq_false_iff_not] at w
    exact fs_ma_no (by rw [href, if_neg (by omega)]) (by decide)
theorem c172 (ho : fs_ok (fs_m σ 47 0)) {s r : Int} : fx_Ca 172 [(46, o), (0, s), (0, r)] σ (fs_ma o σ 22 s r 0 0 0 σ) := by
  have hn := fs_mn ho
  have e0 : fs_m σ 47 0 0 0 0 = σ 47 0 0 := rfl
  have href : fs_ref (fs_m σ 47 0) 22 s r 0 0 = if 0 ≤ s ∧ s < σ 47 0 0 then 0 else 2 := by
    unfold fs_ref
    rw [if_neg (by decide), if_neg (by decide), if_neg (by decide), if_neg (by decide), if_neg (by decide), if_neg (by decide), if_pos rfl, e0]
  refine t172_0 ((c152 ho).I ⟨fun w => ?_, fun w => ?_⟩)
  · rw [fs_b1, Bool.and_eq_true, decide_eq_true_eq, decide_eq_true_eq] at w
    have hr0 : fs_ref (fs_m σ 47 0) 22 s r 0 0 = 0 := by rw [href, if_pos w]
    refine ⟨⟨by omega, by omega⟩, ⟨by omega, by omega⟩, by rw [hr0], fun K p q hK => by rw [fx_upE, if_neg (by omega)], fun _ => ?_, fun z => absurd hr0 z⟩
    have hdo : fs_do (fs_m σ 47 0) 22 s r 0 0 0 σ = fx_up (fs_m σ 47 0) 1 s 0 r := by
      unfold fs_do
      rw [if_neg (by decide), if_neg (by decide), if_neg (by decide), if_neg (by decide), if_neg (by decide), if_neg (by decide), if_pos rfl]
    rw [hdo]
    exact fs_up_mm ho (Or.inr (Or.inr (Or.inr ⟨rfl, rfl, w.1, w.2⟩)))
  · rw [fs_b0, Bool.and_eq_false_iff, decide_eq_false_iff_not, decide_eq_false_iff_not] at w
    exact fs_ma_no (by rw [href, if_neg (by omega)]) (by decide)
theorem c173 {f th time : Int} (f0 : 0 ≤ f) (f1 : f < 60) : fx_Rt 173 [(46, o), (0, f), (0, th), (0, time)] σ (0, fs_b (fs_cut (fs_m σ 47 0) f th time)) σ := by
  refine t173_0 ((c151a f0 f1).I ⟨fun a => ?_, fun a => (c151f f0 f1).I ⟨fun b => ?_, fun b => (c151c f0 f1).I ⟨fun c => ?_, fun c => (c151d f0 f1).I ⟨fun d => ?_, fun d => ?_⟩⟩⟩⟩)
  all_goals first
    | exact ⟨fs_r1 (by simp only [fs_cut, Bool.and_eq_true, decide_eq_true_eq]; omega), rfl⟩
    | exact ⟨fs_r0 (by simp only [fs_cut, Bool.and_eq_true, decide_eq_true_eq]; omega), rfl⟩
theorem c175 (ho : fs_ok (fs_m σ 47 0)) {t : Int} (t0 : 0 ≤ t) (t1 : t < 8) : fx_Ca 175 [(46, o), (0, t)] σ (fs_ma o σ 16 t 0 0 0 0 σ) := by
  have href : fs_ref (fs_m σ 47 0) 16 t 0 0 0 = if 0 < fs_m σ 47 0 9 t 0 then 0 else 6 := by unfold fs_ref; rw [if_pos rfl]
  refine t175_0 ((c162 t0 t1).I ⟨fun w => ?_, fun w => ?_⟩)
  · rw [fs_b1, decide_eq_true_eq] at w
    have hr0 : fs_ref (fs_m σ 47 0) 16 t 0 0 0 = 0 := by rw [href, if_pos w]
    refine ⟨⟨by omega, by omega⟩, ⟨by omega, by omega⟩, ⟨by omega, by omega⟩, ⟨by omega, by omega⟩, ⟨by omega, by omega⟩, ?_⟩
    generalize hE : fx_up (fx_up σ 47 0 (378 + 94 * t) 0) 47 0 (378 + 94 * t + 1) 0 = τ
    have t1' : ∀ K p q, ¬ (K = 47 ∧ p = 0 ∧ (q = 378 + 94 * t ∨ q = 378 + 94 * t + 1)) → τ K p q = σ K p q := fun K p q hK => by rw [← hE, fx_upE, if_neg (by omega), fx_upE, if_neg (by omega)]
    refine ⟨by rw [hr0], fun K p q hK => t1' K p q (by omega), fun _ => ?_, fun z => absurd hr0 z⟩
    have hdo : fs_do (fs_m σ 47 0) 16 t 0 0 0 0 σ = fs_off (fs_m σ 47 0) t := by unfold fs_do; rw [if_pos rfl]
    rw [hdo]
    have q9 : τ 47 0 (378 + 94 * t) = 0 := by rw [← hE, fx_upJ (by omega), fx_upS]
    have q10 : τ 47 0 (378 + 94 * t + 1) = 0 := by rw [← hE, fx_upS]
    have hk : ∀ (k : Nat) (x y : Int), ¬ (9 ≤ k ∧ k ≤ 10 ∧ x = t) → fs_off (fs_m σ 47 0) t k x y = fs_m σ 47 0 k x y := fun k x y hh => by unfold fs_off; rw [fx_upE, if_neg (by omega), fx_upE, if_neg (by omega)]
    refine ⟨?_, ?_, fun s s0 s1 => ?_, fun f f0 f1 => ?_, fun u u0 u1 => ?_⟩
    · rw [hk 0 0 0 (by omega)]; exact (t1' 47 0 _ (by omega)).symm
    · rw [hk 0 1 0 (by omega)]; exact (t1' 47 0 _ (by omega)).symm
    · rw [hk 0 0 0 (by omega)] at s1
      have := ho.1
      rw [hk 1 s 0 (by omega), hk 2 s 0 (by omega)]
      exact ⟨(t1' 47 0 _ (by omega)).symm, (t1' 47 0 _ (by omega)).symm⟩
    · rw [hk 0 1 0 (by omega)] at f1
      have := ho.2.1
      rw [hk 3 f 0 (by omega), hk 4 f 0 (by omega), hk 5 f 0 (by omega), hk 6 f 0 (by omega), hk 7 f 0 (by omega), hk 8 f 0 (by omega)]
      exact ⟨(t1' 47 0 _ (by omega)).symm, (t1' 47 0 _ (by omega)).symm, (t1' 47 0 _ (by omega)).symm, (t1' 47 0 _ (by omega)).symm, (t1' 47 0 _ (by omega)).symm, (t1' 47 0 _ (by omega)).symm⟩
    · obtain ⟨-, -, -, -, -, -, -, -, -, m9, m10⟩ := fs_mE (σ := τ) u 0
      by_cases e : u = t
      · subst e
        rw [m9, m10, q9, q10]
        refine ⟨by simp [fs_off, fx_up], by simp [fs_off, fx_up], fun k k0 k1 => ?_⟩
        simp [fs_off, fx_up] at k1
        omega
      · have hn := (ho.2.2.2.2 u u0 u1).1
        rw [hk 9 u 0 (by omega), hk 10 u 0 (by omega)]
        refine ⟨(t1' 47 0 _ (by omega)).symm, (t1' 47 0 _ (by omega)).symm, fun k k0 k1 => ?_⟩
        rw [hk 11 u k (by omega), hk 12 u k (by omega), hk 13 u k (by omega)]
        unfold fs_m
        simp only
        rw [t1' 47 0 _ (by omega), t1' 47 0 _ (by omega), t1' 47 0 _ (by omega), t1' 47 0 _ (by omega)]
        exact ⟨rfl, rfl, fun _ => rfl⟩
  · rw [fs_b0, decide_eq_false_iff_not] at w
    exact fs_ma_no (by rw [href, if_neg w]) (by decide)
end FXM
