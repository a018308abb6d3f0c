/-- numbers, one after another, each within its bounds -/
noncomputable def fr_args (T : Int → Int) (N : Int) : List (Int × Int) → Nat → Bool × Nat
  | [], i => (true, i)
  | q :: l, i => if fr_K T N i = 1 ∧ q.1 ≤ fr_V T N i ∧ fr_V T N i < q.2 then fr_args T N l (i + 1) else (false, i)
/-- an act's tokens: whether they are one, the next or the wrong token, its rule -/
noncomputable def fr_ac (T : Int → Int) (N : Int) (m i : Nat) : Bool × Nat × fx_S :=
  if fr_K T N i = 17 then ((fr_args T N [(0, 100)] (i + 1)).1, (fr_args T N [(0, 100)] (i + 1)).2, fr_R0)
  else if fr_K T N i = 18 then ((fr_args T N [(0, 8), (0, 8), (0, 1000), (1, 1001), (0, 100)] (i + 1)).1, (fr_args T N [(0, 8), (0, 8), (0, 1000), (1, 1001), (0, 100)] (i + 1)).2, fr_R0)
  else if fr_K T N i = 19 then ((fr_args T N [(0, 60)] (i + 1)).1, (fr_args T N [(0, 60)] (i + 1)).2, fr_R0)
  else if fr_K T N i = 20 ∨ fr_K T N i = 21 then ((fr_args T N [(0, 8)] (i + 1)).1, (fr_args T N [(0, 8)] (i + 1)).2, fr_R0)
  else if fr_K T N i = 22 then ((fr_args T N [(0, 8), (0, 100)] (i + 1)).1, (fr_args T N [(0, 8), (0, 100)] (i + 1)).2, fr_R0)
  else if fr_K T N i = 23 then (if (fr_args T N [(0, 8)] (i + 1)).1 = true then (if fr_K T N (i + 2) = 15 then ((fr_args T N [(1, 1000)] (i + 3)).1, (fr_args T N [(1, 1000)] (i + 3)).2, fr_R0) else (false, i + 2, fr_R0)) else (false, i + 1, fr_R0))
  else if fr_K T N i = 24 then (if (fr_args T N [(0, 8)] (i + 1)).1 = true then (if fr_K T N (i + 2) = 16 then (true, i + 3, fr_R0) else if fr_K T N (i + 2) = 14 then fs_pr T N (fr_V T N (i + 1)) (m + 1) true (i + 3) 0 [] [] fr_R0 else (false, i + 2, fr_R0)) else (false, i + 1, fr_R0))
  else (false, i, fr_R0)
noncomputable def fr_kk (T : Int → Int) (N : Int) (i : Nat) : Int := if fr_K T N i = 24 ∧ fr_K T N (i + 2) = 16 then 16 else fr_K T N i
noncomputable def fr_vv (T : Int → Int) (N : Int) (i p : Nat) : Int := if fr_K T N i = 23 ∧ p = 1 then fr_V T N (i + 3) else fr_V T N (i + 1 + p)
def fr_nn (k : Int) : Nat := if k = 18 then 5 else if k = 22 ∨ k = 23 then 2 else 1
def fr_E (σ τ : fx_S) : Prop := ∀ K o p, ¬ ((22 ≤ K ∧ K ≤ 25 ∧ o = 89) ∨ (K = 33 ∧ o = 0 ∧ (p = 4 ∨ p = 5 ∨ p = 6)) ∨ K = 34 ∨ K = 35 ∨ ((K = 26 ∨ K = 27) ∧ o = 1)) → τ K o p = σ K o p
theorem fr_E.trans {σ τ ρ : fx_S} (h : fr_E σ τ) (g : fr_E τ ρ) : fr_E σ ρ := fun K o p hK => (g K o p hK).trans (h K o p hK)
/-- within an act: n of its numbers W read, the cursor at i -/
def fr_S (T : Int → Int) (N : Int) (m : Nat) (W : Nat → Int) (k : Int) (σ0 σ : fx_S) (i n : Nat) : Prop := fr_tk σ T N m ∧ fr_E σ0 σ ∧ σ 33 0 6 = (i : Int) ∧ σ 26 1 3 = (n : Int) ∧ σ 26 1 2 = k ∧ ∀ p : Nat, p < n → σ 27 1 p = W p
section FXAC
variable {T : Int → Int} {N : Int} {m i n : Nat} {W : Nat → Int} {k : Int} {σ0 σ : fx_S} {Q : fx_V → fx_S → Prop} {C : Int → fx_S → Prop}
theorem c54k {lo hi : Int} (h : fr_S T N m W k σ0 σ i n) (hn : n < 5) (hW : W n = fr_V T N i) (yes : (fr_K T N i = 1 ∧ lo ≤ fr_V T N i ∧ fr_V T N i < hi) → ∀ τ, fr_S T N m W k σ0 τ (i + 1) (n + 1) → C 1 τ) (no : ¬ (fr_K T N i = 1 ∧ lo ≤ fr_V T N i ∧ fr_V T N i < hi) → C 0 σ) : fx_CI 54 [(33, 0), (0, lo), (0, hi)] σ Q C := by
  obtain ⟨h1, h2, h3, h4, h5, h6⟩ := h
  refine fx_CI_of (P := fun v τ => ((fr_K T N i = 1 ∧ lo ≤ fr_V T N i ∧ fr_V T N i < hi) ∧ v = (0, 1) ∧ τ = fx_up (fx_up (fx_up σ 27 1 n (fr_V T N i)) 26 1 3 ((n : Int) + 1)) 33 0 6 ((i : Int) + 1)) ∨ (¬ (fr_K T N i = 1 ∧ lo ≤ fr_V T N i ∧ fr_V T N i < hi) ∧ v = (0, 0) ∧ τ = σ)) (t54_0 ((c50 h1 h3).I ⟨fun a => Or.inr ⟨fun z => a z.1, rfl, rfl⟩, fun a => ?_⟩)) ?_
  · have him := fr_K_m h1 (j := i) (by omega)
    have hN := h1.1
    have hmN := h1.2.1
    obtain ⟨e1, e2, e3, -⟩ := h1.2.2.2.2.2 i (by omega)
    have e3 := e3 (e2.trans a)
    rw [h3, e3]
    refine ⟨⟨by omega, by omega⟩, fun b => Or.inr ⟨fun z => by omega, rfl, rfl⟩, fun b => ⟨fun c => fx_CV_of (P := fun v τ => v = (4, 0) ∧ τ = fx_up (fx_up σ 27 1 n (fr_V T N i)) 26 1 3 ((n : Int) + 1)) (t22_0 ?_) ?_, fun c => Or.inr ⟨fun z => by omega, rfl, rfl⟩⟩⟩
    · rw [h4]
      exact ⟨fun z => by omega, fun _ => ⟨⟨by omega, by omega⟩, ⟨by omega, by omega⟩, rfl, rfl⟩⟩
    · rintro v τ ⟨rfl, rfl⟩
      rw [fx_upK rfl, fx_upK rfl, h3]
      exact Or.inl ⟨rfl, ⟨by omega, by omega⟩, Or.inl ⟨⟨a, b, c⟩, rfl, rfl⟩⟩
  · rintro v τ (⟨g1, rfl, rfl⟩ | ⟨g1, rfl, rfl⟩)
    · refine Or.inl ⟨rfl, yes g1 _ ⟨h1.k (fun K o p hK => ?_), fun K o p hK => ?_, ?_, ?_, ?_, fun p hp => ?_⟩⟩
      · rw [fx_upE, if_neg (by omega), fx_upE, if_neg (by omega), fx_upE, if_neg (by omega)]
      · rw [fx_upE, if_neg (by omega), fx_upE, if_neg (by omega), fx_upE, if_neg (by omega)]; exact h2 K o p hK
      · rw [fx_upS]; omega
      · rw [fx_upK rfl, fx_upS]; omega
      · rw [fx_upK rfl, fx_upJ (by omega), fx_upK rfl]; exact h5
      · rw [fx_upK rfl, fx_upK rfl]
        by_cases z : p = n
        · rw [z, fx_upS]; exact hW.symm
        · rw [fx_upJ (by omega)]; exact h6 p (by omega)
    · exact Or.inl ⟨rfl, no g1⟩
theorem c53k {x : Int} (h : fr_S T N m W k σ0 σ i n) (hx : x ≠ 0) (yes : fr_K T N i = x → ∀ τ, fr_S T N m W k σ0 τ (i + 1) n → C 1 τ) (no : fr_K T N i ≠ x → C 0 σ) : fx_CI 53 [(33, 0), (0, x)] σ Q C := by
  obtain ⟨h1, h2, h3, h4, h5, h6⟩ := h
  refine fx_CI_of (P := fun v τ => (fr_K T N i = x ∧ v = (0, 1) ∧ τ = fx_up σ 33 0 6 ((i : Int) + 1)) ∨ (fr_K T N i ≠ x ∧ v = (0, 0) ∧ τ = σ)) (t53_0 ((c50 h1 h3).I ⟨fun a => ?_, fun a => Or.inr ⟨a, rfl, rfl⟩⟩)) ?_
  · have him := fr_K_m h1 (j := i) (by omega)
    have hN := h1.1
    have hmN := h1.2.1
    rw [h3]
    exact ⟨⟨by omega, by omega⟩, Or.inl ⟨a, rfl, rfl⟩⟩
  · rintro v τ (⟨g1, rfl, rfl⟩ | ⟨g1, rfl, rfl⟩)
    · refine Or.inl ⟨rfl, yes g1 _ ⟨h1.k (fun K o p hK => ?_), fun K o p hK => ?_, ?_, ?_, ?_, fun p hp => ?_⟩⟩
      · rw [fx_upE, if_neg (by omega)]
      · rw [fx_upE, if_neg (by omega)]; exact h2 K o p hK
      · rw [fx_upS]; omega
      · rw [fx_upK rfl]; exact h4
      · rw [fx_upK rfl]; exact h5
      · rw [fx_upK rfl]; exact h6 p hp
    · exact Or.inl ⟨rfl, no g1⟩
end FXAC
/-- what an act's reading comes to, class -/
def fr_p52 (T : Int → Int) (N : Int) (m i : Nat) (σ0 : fx_S) : fx_V → fx_S → Prop := fun v τ => v = (0, fs_b (fr_ac T N m i).1) ∧ fr_E σ0 τ ∧ τ 33 0 6 = ((fr_ac T N m i).2.1 : Int) ∧ ((fr_ac T N m i).1 = true → τ 26 1 2 = fr_kk T N i ∧ (∀ p : Nat, p < fr_nn (fr_kk T N i) → τ 27 1 p = fr_vv T N i p) ∧ (fr_kk T N i = 24 → fs_rr τ (fr_ac T N m i).2.2))
section FXAD
variable {T : Int → Int} {N : Int} {m i n : Nat} {k : Int} {σ0 σ : fx_S}
theorem fr_p52n {j : Nat} (h : fr_S T N m (fr_vv T N i) k σ0 σ j n) (hb : (fr_ac T N m i).1 = false) (hj : (fr_ac T N m i).2.1 = j) : fr_p52 T N m i σ0 (0, 0) σ := ⟨by rw [hb]; rfl, h.2.1, by rw [hj]; exact h.2.2.1, fun z => by rw [hb] at z; exact absurd z Bool.false_ne_true⟩
theorem fr_p52y {j : Nat} (h : fr_S T N m (fr_vv T N i) k σ0 σ j n) (hb : (fr_ac T N m i).1 = true) (hj : (fr_ac T N m i).2.1 = j) (hk : fr_kk T N i = k) (hk24 : k ≠ 24) (hn : fr_nn k ≤ n) : fr_p52 T N m i σ0 (0, 1) σ := ⟨by rw [hb]; rfl, h.2.1, by rw [hj]; exact h.2.2.1, fun _ => ⟨by rw [hk]; exact h.2.2.2.2.1, fun p hp => h.2.2.2.2.2 p (by rw [hk] at hp; omega), fun z => absurd (hk.symm.trans z) hk24⟩⟩
theorem fr_vv_o {p : Nat} (h : fr_K T N i ≠ 23 ∨ p ≠ 1) : fr_vv T N i p = fr_V T N (i + 1 + p) := if_neg (fun z => h.elim (fun y => y z.1) (fun y => y z.2))
theorem c52 (h : fr_tk σ T N m) (hi : σ 33 0 6 = (i : Int)) (him : i ≤ m) : fx_Ca 52 [(33, 0)] σ (fr_p52 T N m i σ) := by
  have hN := h.1
  have hmN := h.2.1
  refine t52_0 ((c50 h hi).I (fx_CV_of (P := fun v τ => v = (4, 0) ∧ τ = fx_up (fx_up σ 26 1 2 (fr_K T N i)) 26 1 3 0) (t21_0 ⟨rfl, rfl⟩) ?_))
  rintro v τ ⟨rfl, rfl⟩
  have e6 : fx_up (fx_up σ 26 1 2 (fr_K T N i)) 26 1 3 0 33 0 6 = (i : Int) := by rw [fx_upK rfl, fx_upK rfl]; exact hi
  have e2 : fx_up (fx_up σ 26 1 2 (fr_K T N i)) 26 1 3 0 26 1 2 = fr_K T N i := by rw [fx_upJ (by omega), fx_upS]
  rw [e6, e2]
  refine Or.inl ⟨rfl, ⟨by omega, by omega⟩, ?_⟩
  generalize hE : fx_up (fx_up (fx_up σ 26 1 2 (fr_K T N i)) 26 1 3 0) 33 0 6 ((i : Int) + 1) = τ
  have hS : fr_S T N m (fr_vv T N i) (fr_K T N i) σ τ (i + 1) 0 := by
    refine ⟨h.k (fun K o p hK => ?_), fun K o p hK => ?_, ?_, ?_, ?_, fun p hp => by omega⟩
    · rw [← hE, fx_upE, if_neg (by omega), fx_upE, if_neg (by omega), fx_upE, if_neg (by omega)]
    · rw [← hE, fx_upE, if_neg (by omega), fx_upE, if_neg (by omega), fx_upE, if_neg (by omega)]
    · rw [← hE, fx_upS]; omega
    · rw [← hE, fx_upK rfl, fx_upS]; rfl
    · rw [← hE, fx_upK rfl, fx_upJ (by omega), fx_upS]
  have kk : ∀ x, fr_K T N i = x → x ≠ 24 → fr_kk T N i = x := fun x hx h24 => by unfold fr_kk; rw [if_neg (fun z => h24 (hx.symm.trans z.1))]; exact hx
  refine ⟨fun k17 => ?_, fun n17 => ⟨fun k18 => ?_, fun n18 => ⟨fun k19 => ?_, fun n19 => ⟨fun k20 => ?_, fun n20 => ⟨fun k21 => ?_, fun n21 => ⟨fun k22 => ?_, fun n22 => ⟨fun k23 => ?_, fun n23 => ⟨fun k24 => ?_, fun n24 => ?_⟩⟩⟩⟩⟩⟩⟩⟩
  · rw [k17] at hS
    refine c54k hS (by omega) (fr_vv_o (Or.inr (by omega))) (fun q τ1 s1 => ⟨by omega, ?_⟩) (fun q => ⟨by omega, ?_⟩)
    · exact fr_p52y s1 (by simp [fr_ac, fr_args, k17, q]) (by simp [fr_ac, fr_args, k17, q]) (kk _ k17 (by omega)) (by omega) (by decide)
    · exact fr_p52n hS (by simp [fr_ac, fr_args, k17, q]) (by simp [fr_ac, fr_args, k17, q])
  · rw [k18] at hS
    refine c54k hS (by omega) (fr_vv_o (Or.inr (by omega))) (fun q1 τ1 s1 => ⟨fun z => absurd z (by decide), fun _ => ?_⟩) (fun q => ⟨fun _ => fr_p52n hS (by simp [fr_ac, fr_args, k18, q]) (by simp [fr_ac, fr_args, k18, q]), fun z => absurd rfl z⟩)
    refine c54k s1 (by omega) (fr_vv_o (Or.inl (by omega))) (fun q2 τ2 s2 => ⟨fun z => absurd z (by decide), fun _ => ?_⟩) (fun q => ⟨fun _ => fr_p52n s1 (by simp [fr_ac, fr_args, k18, q1, q]) (by simp [fr_ac, fr_args, k18, q1, q]), fun z => absurd rfl z⟩)
    refine c54k s2 (by omega) (fr_vv_o (Or.inr (by omega))) (fun q3 τ3 s3 => ⟨fun z => absurd z (by decide), fun _ => ?_⟩) (fun q => ⟨fun _ => fr_p52n s2 (by simp [fr_ac, fr_args, k18, q1, q2, q]) (by simp [fr_ac, fr_args, k18, q1, q2, q]), fun z => absurd rfl z⟩)
    refine c54k s3 (by omega) (fr_vv_o (Or.inr (by omega))) (fun q4 τ4 s4 => ⟨fun z => absurd z (by decide), fun _ => ?_⟩) (fun q => ⟨fun _ => fr_p52n s3 (by simp [fr_ac, fr_args, k18, q1, q2, q3, q]) (by simp [fr_ac, fr_args, k18, q1, q2, q3, q]), fun z => absurd rfl z⟩)
    refine c54k s4 (by omega) (fr_vv_o (Or.inr (by omega))) (fun q5 τ5 s5 => ⟨fun z => absurd z (by decide), fun _ => ?_⟩) (fun q => ⟨fun _ => fr_p52n s4 (by simp [fr_ac, fr_args, k18, q1, q2, q3, q4, q]) (by simp [fr_ac, fr_args, k18, q1, q2, q3, q4, q]), fun z => absurd rfl z⟩)
    exact fr_p52y s5 (by simp [fr_ac, fr_args, k18, q1, q2, q3, q4, q5]) (by simp [fr_ac, fr_args, k18, q1, q2, q3, q4, q5]) (kk _ k18 (by omega)) (by omega) (by decide)
  · rw [k19] at hS
    refine c54k hS (by omega) (fr_vv_o (Or.inr (by omega))) (fun q τ1 s1 => ⟨by omega, ?_⟩) (fun q => ⟨by omega, ?_⟩)
    · exact fr_p52y s1 (by simp [fr_ac, fr_args, k19, q]) (by simp [fr_ac, fr_args, k19, q]) (kk _ k19 (by omega)) (by omega) (by decide)
    · exact fr_p52n hS (by simp [fr_ac, fr_args, k19, q]) (by simp [fr_ac, fr_args, k19, q])
  · rw [k20] at hS
    refine c54k hS (by omega) (fr_vv_o (Or.inr (by omega))) (fun q τ1 s1 => ⟨by omega, ?_⟩) (fun q => ⟨by omega, ?_⟩)
    · exact fr_p52y s1 (by simp [fr_ac, fr_args, k20, q]) (by simp [fr_ac, fr_args, k20, q]) (kk _ k20 (by omega)) (by omega) (by decide)
    · exact fr_p52n hS (by simp [fr_ac, fr_args, k20, q]) (by simp [fr_ac, fr_args, k20, q])
  · rw [k21] at hS
    refine c54k hS (by omega) (fr_vv_o (Or.inr (by omega))) (fun q τ1 s1 => ⟨by omega, ?_⟩) (fun q => ⟨by omega, ?_⟩)
    · exact fr_p52y s1 (by simp [fr_ac, fr_args, k21, q]) (by simp [fr_ac, fr_args, k21, q]) (kk _ k21 (by omega)) (by omega) (by decide)
    · exact fr_p52n hS (by simp [fr_ac, fr_args, k21, q]) (by simp [fr_ac, fr_args, k21, q])
  · rw [k22] at hS
    refine c54k hS (by omega) (fr_vv_o (Or.inr (by omega))) (fun q1 τ1 s1 => ⟨fun z => absurd z (by decide), fun _ => ?_⟩) (fun q => ⟨fun _ => fr_p52n hS (by simp [fr_ac, fr_args, k22, q]) (by simp [fr_ac, fr_args, k22, q]), fun z => absurd rfl z⟩)
    refine c54k s1 (by omega) (fr_vv_o (Or.inl (by omega))) (fun q2 τ2 s2 => ⟨fun z => absurd z (by decide), fun _ => ?_⟩) (fun q => ⟨fun _ => fr_p52n s1 (by simp [fr_ac, fr_args, k22, q1, q]) (by simp [fr_ac, fr_args, k22, q1, q]), fun z => absurd rfl z⟩)
    exact fr_p52y s2 (by simp [fr_ac, fr_args, k22, q1, q2]) (by simp [fr_ac, fr_args, k22, q1, q2]) (kk _ k22 (by omega)) (by omega) (by decide)
  · rw [k23] at hS
    refine c54k hS (by omega) (fr_vv_o (Or.inr (by omega))) (fun q1 τ1 s1 => ⟨fun z => absurd z (by decide), fun _ => ?_⟩) (fun q => ⟨fun _ => fr_p52n hS (by simp [fr_ac, fr_args, k23, q]) (by simp [fr_ac, fr_args, k23, q]), fun z => absurd rfl z⟩)
    refine c53k s1 (by omega) (fun q2 τ2 s2 => ⟨fun z => absurd z (by decide), fun _ => ?_⟩) (fun q => ⟨fun _ => fr_p52n s1 (by simp [fr_ac, fr_args, k23, q1, q]) (by simp [fr_ac, fr_args, k23, q1, q]), fun z => absurd rfl z⟩)
    refine c54k s2 (by omega) (if_pos ⟨k23, rfl⟩) (fun q3 τ3 s3 => ⟨fun z => absurd z (by decide), fun _ => ?_⟩) (fun q => ⟨fun _ => fr_p52n s2 (by simp [fr_ac, fr_args, k23, q1, q2, q]) (by simp [fr_ac, fr_args, k23, q1, q2, q]), fun z => absurd rfl z⟩)
    exact fr_p52y s3 (by simp [fr_ac, fr_args, k23, q1, q2, q3]) (by simp [fr_ac, fr_args, k23, q1, q2, q3]) (kk _ k23 (by omega)) (by omega) (by decide)
  · rw [k24] at hS
    refine c54k hS (by omega) (fr_vv_o (Or.inr (by omega))) (fun q1 τ1 s1 => ⟨fun z => absurd z (by decide), fun _ => ?_⟩) (fun q => ⟨fun _ => fr_p52n hS (by simp [fr_ac, fr_args, k24, q]) (by simp [fr_ac, fr_args, k24, q]), fun z => absurd rfl z⟩)
    have hj := fr_K_m h (j := i + 1) (by omega)
    by_cases q2 : fr_K T N (i + 2) = 16
    · refine fx_CI_of (P := fun v τ => v = (0, 1) ∧ ∃ τ0, fr_S T N m (fr_vv T N i) 24 σ τ0 (i + 3) 1 ∧ τ = fx_up τ0 26 1 2 16) (t55_0 (c53k s1 (by omega) (fun _ τ2 s2 => ⟨fun _ => ⟨rfl, τ2, s2, rfl⟩, fun z => absurd z (by decide)⟩) (fun z => absurd q2 z))) ?_
      rintro v τ2 ⟨rfl, τ0, s2, rfl⟩
      refine Or.inl ⟨rfl, fun _ => ⟨?_, fun K o p hK => ?_, ?_, fun _ => ⟨?_, fun p hp => ?_, fun z => ?_⟩⟩, fun z => absurd z (by decide)⟩
      · simp [fr_ac, fr_args, k24, q1, q2]; rfl
      · rw [fx_upE, if_neg (by omega)]; exact s2.2.1 K o p hK
      · rw [fx_upK rfl, s2.2.2.1]; simp [fr_ac, fr_args, k24, q1, q2]
      · rw [fx_upS]; unfold fr_kk; rw [if_pos ⟨k24, q2⟩]
      · have e : fr_kk T N i = 16 := by unfold fr_kk; rw [if_pos ⟨k24, q2⟩]
        rw [e] at hp
        have hp : p < 1 := hp
        rw [fx_upK rfl]; exact s2.2.2.2.2.2 p hp
      · have e : fr_kk T N i = 16 := by unfold fr_kk; rw [if_pos ⟨k24, q2⟩]
        rw [e] at z; omega
    · refine fx_CI_of (P := fun v τ => v = (0, 0) ∧ τ = τ1) (t55_0 (c53k s1 (by omega) (fun z => absurd z q2) (fun _ => ⟨fun z => absurd rfl z, fun _ => ⟨rfl, rfl⟩⟩))) ?_
      rintro v τ2 ⟨rfl, rfl⟩
      refine Or.inl ⟨rfl, fun z => absurd rfl z, fun _ => c53k s1 (by omega) (fun q3 τ3 s3 => ⟨fun z => absurd z (by decide), fun _ => ?_⟩) (fun q => ⟨fun _ => fr_p52n s1 (by simp [fr_ac, fr_args, k24, q1, q2, q]) (by simp [fr_ac, fr_args, k24, q1, q2, q]), fun z => absurd rfl z⟩)⟩
      have hj2 := fr_K_m h (j := i + 1 + 1) (by omega)
      have e0 : τ3 27 1 0 = fr_V T N (i + 1) := (s3.2.2.2.2.2 0 (by omega)).trans (fr_vv_o (Or.inr (by omega)))
      rw [e0]
      refine fx_CI_of (c56 s3.1 s3.2.2.1 (by omega)) ?_
      rintro v τ4 ⟨rfl, g1, g2, g3⟩
      have e : fr_ac T N m i = fs_pr T N (fr_V T N (i + 1)) (m + 1) true (i + 3) 0 [] [] fr_R0 := by simp [fr_ac, fr_args, k24, q1, q3]
      have ek : fr_kk T N i = 24 := by unfold fr_kk; rw [if_neg (fun z => q2 z.2)]; exact k24
      have post : fr_p52 T N m i σ (0, fs_b (fr_ac T N m i).1) τ4 := by
        refine ⟨rfl, s3.2.1.trans (fun K o p hK => g1 K o p (by omega)), by rw [e]; exact g2, fun z => ⟨?_, fun p hp => ?_, fun _ => ?_⟩⟩
        · rw [g1 26 1 2 (by omega), ek]; exact s3.2.2.2.2.1
        · rw [ek] at hp
          have hp : p < 1 := hp
          rw [g1 27 1 p (by omega)]; exact s3.2.2.2.2.2 p hp
        · rw [e] at z ⊢; exact g3 z
      rw [e] at post
      refine Or.inl ⟨rfl, fun z => ?_, fun z => ?_⟩
      · have z : fs_b (fs_pr T N (fr_V T N (i + 1)) (m + 1) true (i + 3) 0 [] [] fr_R0).1 = 0 := z
        rw [z] at post; exact post
      · have z := fs_b1.mp z
        rw [z] at post; exact post
  · have e : fr_ac T N m i = (false, i, fr_R0) := by simp [fr_ac, n17, n18, n19, n20, n21, n22, n23, n24]
    refine ⟨⟨by omega, by omega⟩, by rw [e]; rfl, fun K o p hK => ?_, by rw [e, fx_upS]; show _ = (i : Int); omega, fun z => by rw [e] at z; exact absurd z Bool.false_ne_true⟩
    rw [fx_upE, if_neg (by omega)]; exact hS.2.1 K o p hK
end FXAD
