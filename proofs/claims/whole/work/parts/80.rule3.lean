section FXRN
variable {T : Int → Int} {N t : Int} {m : Nat}
theorem c61 {σ : fx_S} {i : Nat} {ops ands : List Int} {R : fx_S} (h : fr_tk σ T N m) (hi : σ 33 0 6 = (i : Int)) (hc : fr_cs σ ops ands R) (hv : fr_iv ands R) : fx_Ca 61 [(33, 0), (22, 89), (0, t)] σ (fun v τ =>
    (R 10 0 0 = 12 ∧ v = (0, 0) ∧ τ = σ) ∨
    (R 10 0 0 ≠ 12 ∧ fr_K T N i = 13 ∧ (fr_K T N (i + 1) = 1 ∧ fr_V T N (i + 1) < t) ∧ v = (0, 1) ∧ fr_f σ τ ∧ τ 33 0 6 = ((i + 2 : Nat) : Int) ∧ fr_cs τ ops (R 9 0 0 :: ands) (fs_leaf R 13 (fr_V T N (i + 1))) ∧ fr_iv (R 9 0 0 :: ands) (fs_leaf R 13 (fr_V T N (i + 1)))) ∨
    (R 10 0 0 ≠ 12 ∧ fr_K T N i = 13 ∧ ¬ (fr_K T N (i + 1) = 1 ∧ fr_V T N (i + 1) < t) ∧ v = (0, 0) ∧ fr_f σ τ ∧ τ 33 0 6 = ((i + 1 : Nat) : Int)) ∨
    (R 10 0 0 ≠ 12 ∧ fr_K T N i ≠ 13 ∧ (fr_K T N i = 1 ∧ fr_V T N i < 100) ∧ v = (0, 1) ∧ fr_f σ τ ∧ τ 33 0 6 = ((i + 1 : Nat) : Int) ∧ fr_cs τ ops (R 9 0 0 :: ands) (fs_leaf R 1 (fr_V T N i)) ∧ fr_iv (R 9 0 0 :: ands) (fs_leaf R 1 (fr_V T N i))) ∨
    (R 10 0 0 ≠ 12 ∧ fr_K T N i ≠ 13 ∧ ¬ (fr_K T N i = 1 ∧ fr_V T N i < 100) ∧ v = (0, 0) ∧ τ = σ)) := by
  have h4 : σ 22 89 4 = R 10 0 0 := hc.2.2.2.2.2.1
  obtain ⟨v1, v2, v3, v4⟩ := hv
  refine t61_0 ?_
  rw [h4, hi]
  refine ⟨fun a => (c50 h hi).I ⟨fun b => ?_, fun b => ?_⟩, fun a => Or.inl ⟨a, rfl, rfl⟩⟩
  · refine fx_Wp.mono (c61b (x3 := fr_K T N i) (x4 := 100) h hi hc ⟨v1, v2, v3, v4⟩ (by omega)) ?_
    rintro v τ (⟨g1, rfl, rfl⟩ | ⟨g1, rfl, g2, g3, g4, g5⟩)
    · exact Or.inr (Or.inr (Or.inr (Or.inr ⟨a, b, g1, rfl, rfl⟩)))
    · rw [g1.1] at g4 g5
      exact Or.inr (Or.inr (Or.inr (Or.inl ⟨a, b, g1, rfl, g2, by rw [g3]; omega, g4, g5⟩)))
  · have him := fr_K_m h (j := i) (by omega)
    have hN := h.1
    have hmN := h.2.1
    rw [hi, b]
    refine ⟨⟨by omega, by omega⟩, ?_⟩
    generalize hE : fx_up σ 33 0 6 ((i : Int) + 1) = σ1
    have g : ∀ K o p, ¬ (K = 33 ∧ o = 0 ∧ p = 6) → σ1 K o p = σ K o p := fun K o p hK => by rw [← hE, fx_upE, if_neg hK]
    have hi1 : σ1 33 0 6 = ((i + 1 : Nat) : Int) := by rw [← hE, fx_upS]; omega
    have hf1 : fr_f σ σ1 := fun K o p hK => g K o p (by omega)
    have hc1 : fr_cs σ1 ops ands R := by
      obtain ⟨a1, a2, a3, a4, a5, a6, a7, a8⟩ := hc
      refine ⟨by rw [g 33 0 5 (by omega)]; exact a1, by rw [g 33 0 4 (by omega)]; exact a2, fs_stk_k a3 (fun j _ _ => g 35 0 j (by omega)), fs_stk_k a4 (fun j _ _ => g 34 0 j (by omega)), by rw [g 22 89 3 (by omega)]; exact a5, by rw [g 22 89 4 (by omega)]; exact a6, fun j j0 j1 => ?_, by rw [g 22 89 5 (by omega)]; exact a8⟩
      rw [g 23 89 j (by omega), g 24 89 j (by omega), g 25 89 j (by omega)]; exact a7 j j0 j1
    refine fx_Wp.mono (c61b (x3 := 13) (x4 := t) (h.k (fun K o p hK => g K o p (by omega))) hi1 hc1 ⟨v1, v2, v3, v4⟩ (by omega)) ?_
    rintro v τ (⟨g1, rfl, rfl⟩ | ⟨g1, rfl, g2, g3, g4, g5⟩)
    · exact Or.inr (Or.inr (Or.inl ⟨a, rfl, g1, rfl, hf1, hi1⟩))
    · exact Or.inr (Or.inl ⟨a, rfl, g1, rfl, hf1.trans g2, by rw [g3]; omega, g4, g5⟩)
/-- what a rule's reading comes to -/
def fr_post (T : Int → Int) (N t : Int) (σ : fx_S) (r : Bool × Nat × fx_S) : fx_V → fx_S → Prop := fun v τ => v = (0, fs_b r.1) ∧ fr_f σ τ ∧ τ 33 0 6 = (r.2.1 : Int) ∧ (r.1 = true → fs_rr τ r.2.2)
theorem fr_post.trans {σ τ : fx_S} {r : Bool × Nat × fx_S} {n mi pc : Nat} {L : List fx_V} (hf : fr_f σ τ) (h : fx_Wp mi pc L [] τ (fr_post T N t τ r)) : fx_Wp mi pc L [] τ (fr_post T N t σ r) :=
  fx_Wp.mono h (fun v ρ ⟨a, b, c, d⟩ => ⟨a, hf.trans b, c, d⟩)
theorem fr_ands {ands : List Int} {R : fx_S} (h : fr_iv ands R) : ands.length ≤ 12 := by
  obtain ⟨a, b, c, d⟩ := h
  omega
theorem c56l : ∀ (n : Nat) (x : Bool) (i : Nat) (d : Int) (ops ands : List Int) (R σ : fx_S) (w7 : fx_V), fr_tk σ T N m → σ 33 0 6 = (i : Int) → i ≤ m → m + 1 ≤ n + i → n ≤ m + 1 → fr_cs σ ops ands R → fr_iv ands R → fr_oo ops → d = fr_c4 ops → d ≤ 4 → (ops.length : Int) - d + (if x then 0 else 1) = ands.length →
    fx_Wp 56 31 [(33, 0), (22, 89), (0, t), (0, d), (0, fs_b x), (0, 1), (0, (n : Int)), w7] [] σ (fr_post T N t σ (fs_pr T N t n x i d ops ands R))
  | 0, x, i, d, ops, ands, R, σ, w7, h, hi, him, hn, _, _, _, _, _, _, _ => by omega
  | n + 1, true, i, d, ops, ands, R, σ, w7, h, hi, him, hn, hnm, hc, hv, ho, hd, hd4, hl => by
    have e1 : fs_b true = 1 := rfl
    rw [e1]
    have hN := h.1
    have hmN := h.2.1
    have hol := fr_oo_l ops ho
    have hph := fr_phi_r ops
    have hc4 := fr_c4_r ops
    have hnx : ((n + 1 : Nat) : Int) + (-1) = (n : Int) := by omega
    simp only [if_true] at hl
    have k74 : ¬ (fr_K T N i = 4 ∧ d < 4) → fx_Wp 56 74 [(33, 0), (22, 89), (0, t), (0, d), (0, 1), (0, 1), (0, ((n + 1 : Nat) : Int)), (0, fr_K T N i)] [] σ (fr_post T N t σ (fs_pr T N t (n + 1) true i d ops ands R)) := by
      intro hk
      rw [fs_pr, if_neg hk]
      refine t56_74 ⟨fun a => absurd a (by decide), fun _ => fx_CI_of (c61 h hi hc hv) ?_⟩
      rw [hnx]
      rintro v τ (⟨g1, rfl, rfl⟩ | ⟨g1, g2, g3, rfl, g4, g5, g6, g7⟩ | ⟨g1, g2, g3, rfl, g4, g5⟩ | ⟨g1, g2, g3, rfl, g4, g5, g6, g7⟩ | ⟨g1, g2, g3, rfl, rfl⟩)
      · rw [if_pos g1]
        exact Or.inl ⟨rfl, fun z => absurd rfl z, fun _ => ⟨rfl, fun _ _ _ _ => rfl, hi, fun z => absurd z Bool.false_ne_true⟩⟩
      · rw [if_neg g1, if_pos g2, if_pos g3]
        have hj := fr_K_m h (j := i + 1) (by omega)
        refine Or.inl ⟨rfl, fun _ => ⟨⟨by omega, by omega⟩, fr_post.trans (n := 0) g4 (c56l n false (i + 2) d ops _ _ τ _ (h.k (fun K o p hK => g4 K o p (by omega))) g5 (by omega) (by omega) (by omega) g6 g7 ho hd hd4 ?_)⟩, fun z => absurd z (by decide)⟩
        simp; omega
      · rw [if_neg g1, if_pos g2, if_neg g3]
        exact Or.inl ⟨rfl, fun z => absurd rfl z, fun _ => ⟨rfl, g4, g5, fun z => absurd z Bool.false_ne_true⟩⟩
      · rw [if_neg g1, if_neg g2, if_pos g3]
        have hj := fr_K_m h (j := i) (by omega)
        refine Or.inl ⟨rfl, fun _ => ⟨⟨by omega, by omega⟩, fr_post.trans (n := 0) g4 (c56l n false (i + 1) d ops _ _ τ _ (h.k (fun K o p hK => g4 K o p (by omega))) g5 (by omega) (by omega) (by omega) g6 g7 ho hd hd4 ?_)⟩, fun z => absurd z (by decide)⟩
        simp; omega
      · rw [if_neg g1, if_neg g2, if_neg g3]
        exact Or.inl ⟨rfl, fun z => absurd rfl z, fun _ => ⟨rfl, fun _ _ _ _ => rfl, hi, fun z => absurd z Bool.false_ne_true⟩⟩
    refine t56_31 ⟨fun a => by omega, fun _ => ⟨fun a => absurd a (by decide), fun _ => (c50 h hi).I ⟨fun a => absurd a (by decide), fun _ => ⟨fun b => k74 (fun z => b z.1), fun b => ⟨fun c => k74 (fun z => by omega), fun c => ⟨⟨by omega, by omega⟩, ?_⟩⟩⟩⟩⟩⟩
    have hj := fr_K_m h (j := i) (by omega)
    refine (c57 (p := (i : Int)) hc.1 (by omega) (by omega) hi ⟨by omega, by omega⟩).V ?_
    rw [hnx]
    refine ⟨⟨by omega, by omega⟩, ?_⟩
    generalize hE : fx_up (fx_up (fx_up σ 35 0 (ops.length : Int) 4) 33 0 5 ((ops.length : Int) + 1)) 33 0 6 ((i : Int) + 1) = τ
    have g : ∀ (K : Nat) (o p : Int), ¬ ((K = 35 ∧ o = 0 ∧ p = ops.length) ∨ (K = 33 ∧ o = 0 ∧ (p = 5 ∨ p = 6))) → τ K o p = σ K o p := fun K o p hK => by rw [← hE, fx_upE, if_neg (by omega), fx_upE, if_neg (by omega), fx_upE, if_neg (by omega)]
    have hf : fr_f σ τ := fun K o p hK => g K o p (by omega)
    have hi' : τ 33 0 6 = ((i + 1 : Nat) : Int) := by rw [← hE, fx_upS]; omega
    have hcs : fr_cs τ (4 :: ops) ands R := by
      obtain ⟨a1, a2, a3, a4, a5, a6, a7, a8⟩ := hc
      refine ⟨?_, by rw [g 33 0 4 (by omega)]; exact a2, ⟨?_, fs_stk_k a3 (fun j _ _ => g 35 0 j (by omega))⟩, fs_stk_k a4 (fun j _ _ => g 34 0 j (by omega)), by rw [g 22 89 3 (by omega)]; exact a5, by rw [g 22 89 4 (by omega)]; exact a6, fun j j0 j1 => ?_, by rw [g 22 89 5 (by omega)]; exact a8⟩
      · rw [← hE, fx_upJ (by omega), fx_upS]; simp
      · rw [← hE, fx_upK rfl, fx_upK rfl, fx_upS]
      · rw [g 23 89 j (by omega), g 24 89 j (by omega), g 25 89 j (by omega)]; exact a7 j j0 j1
    have e : fs_pr T N t (n + 1) true i d ops ands R = fs_pr T N t n true (i + 1) (d + 1) (4 :: ops) ands R := by rw [fs_pr, if_pos ⟨b, c⟩]
    rw [e]
    refine fr_post.trans (n := 0) hf (c56l n true (i + 1) (d + 1) (4 :: ops) ands R τ _ (h.k (fun K o p hK => g K o p (by omega))) hi' (by omega) (by omega) (by omega) hcs hv ⟨ho, Or.inl rfl⟩ ?_ (by omega) ?_)
    · rw [fr_c4, if_pos rfl]; omega
    · simp; omega
  | n + 1, false, i, d, ops, ands, R, σ, w7, h, hi, him, hn, hnm, hc, hv, ho, hd, hd4, hl => by
    have e1 : fs_b false = 0 := rfl
    rw [e1]
    have hN := h.1
    have hmN := h.2.1
    have hol := fr_oo_l ops ho
    have hph := fr_phi_r ops
    have hc4 := fr_c4_r ops
    have hnx : ((n + 1 : Nat) : Int) + (-1) = (n : Int) := by omega
    have hl : (ops.length : Int) - fr_c4 ops + 1 = ands.length := by rw [← hd]; simpa using hl
    have hro := fun y => fs_red_p (y := y) ops ands R ho hl
    have h60 : ∀ y, fx_Ca 60 [(33, 0), (22, 89), (0, y)] σ (fun v τ => v = (4, 0) ∧ fr_cf σ τ ∧ fr_cs τ (fs_red y ops ands R).1 (fs_red y ops ands R).2.1 (fs_red y ops ands R).2.2 ∧ fr_iv (fs_red y ops ands R).2.1 (fs_red y ops ands R).2.2) := fun y => c60 ops ands R σ (3, 0) hc hv (by omega) (fr_ands hv)
    have k177 : ∀ w6 : fx_V, ¬ (fs_iso (fr_K T N i) = true) → ¬ (fr_K T N i = 5 ∧ 0 < d) → fx_Wp 56 31 [(33, 0), (22, 89), (0, t), (0, d), (0, 0), (0, 0), (0, (n : Int)), w6] [] σ (fr_post T N t σ (fs_pr T N t (n + 1) false i d ops ands R)) := by
      intro w6 z1 z2
      have k : fx_Wp 56 177 [(33, 0), (22, 89), (0, t), (0, d), (0, 0), (0, 0), (0, (n : Int)), w6] [] σ (fr_post T N t σ (fs_pr T N t (n + 1) false i d ops ands R)) := by
        refine t56_177 (fx_CV_of (h60 0) ?_)
        rintro v τ ⟨rfl, g1, g2, g3⟩
        rw [fs_pr, if_neg z1, if_neg z2]
        have hf : fr_f σ τ := fun K o p hK => g1 K o p (by omega)
        have hi' : τ 33 0 6 = (i : Int) := (g1 33 0 6 (by omega)).trans hi
        refine Or.inl ⟨rfl, fun a => absurd rfl a, fun _ => ⟨fun a => ⟨by rw [decide_eq_false a]; rfl, hf, hi', fun _ => g2.2.2.2.2⟩, fun a => ⟨by rw [decide_eq_true a]; rfl, hf, hi', fun _ => g2.2.2.2.2⟩⟩⟩
      exact t56_31 ⟨fun _ => k, fun _ => ⟨fun _ => k, fun a => absurd rfl a⟩⟩
    refine t56_31 ⟨fun a => by omega, fun _ => ⟨fun a => absurd a (by decide), fun _ => (c50 h hi).I ⟨fun _ => ?_, fun a => absurd rfl a⟩⟩⟩
    refine t56_74 ⟨fun _ => c58.I ⟨fun z1 => ⟨fun a => ?_, fun a => ⟨fun b => ?_, fun b => ?_⟩⟩, fun z1 => c59.I ?_⟩, fun a => absurd rfl a⟩
    · rw [hnx]
      exact ⟨⟨by omega, by omega⟩, k177 _ (by rw [fs_b0.mp z1]; decide) (fun q => a q.1)⟩
    · rw [hnx]
      exact ⟨⟨by omega, by omega⟩, k177 _ (by rw [fs_b0.mp z1]; decide) (fun q => by omega)⟩
    · have hj := fr_K_m h (j := i) (by omega)
      refine fx_CV_of (h60 0) ?_
      rintro v τ0 ⟨rfl, g1, g2, g3⟩
      obtain ⟨r1, r2, r3, r4, r5, r6⟩ := hro 0
      have e : fs_pr T N t (n + 1) false i d ops ands R = fs_pr T N t n false (i + 1) (d - 1) (fs_red 0 ops ands R).1.tail (fs_red 0 ops ands R).2.1 (fs_red 0 ops ands R).2.2 := by rw [fs_pr, if_neg (by rw [fs_b0.mp z1]; decide), if_pos ⟨a, b⟩]
      rw [e]
      generalize fs_red 0 ops ands R = q at *
      obtain ⟨o, q2, q3⟩ := q
      simp only at g2 g3 r1 r2 r3 r4 r5 r6 ⊢
      have hph2 := fr_phi_r o
      cases o with
      | nil => rw [fr_c4] at r2; omega
      | cons x o =>
        have x4 : x = 4 := by
          apply Classical.byContradiction
          intro z
          have := @fs_prec_r x
          rw [fr_phi, if_neg z] at r4
          omega
        subst x4
        have lo : (((4 : Int) :: o).length : Int) = o.length + 1 := by simp
        rw [fr_c4, if_pos rfl] at r2
        rw [lo] at r3
        have t6 : τ0 33 0 6 = (i : Int) := (g1 33 0 6 (by omega)).trans hi
        have t5 : τ0 33 0 5 = (o.length : Int) + 1 := by rw [g2.1, lo]
        rw [t6, t5, hnx, show (o.length : Int) + 1 - 1 = o.length by omega, show d + (-1) = d - 1 by omega]
        refine Or.inl ⟨trivial, ⟨by omega, by omega⟩, ⟨by omega, by omega⟩, ⟨by omega, by omega⟩, ⟨by omega, by omega⟩, ?_⟩
        generalize hE : fx_up (fx_up τ0 33 0 5 (o.length : Int)) 33 0 6 ((i : Int) + 1) = τ
        have g : ∀ (K : Nat) (o p : Int), ¬ (K = 33 ∧ o = 0 ∧ (p = 5 ∨ p = 6)) → τ K o p = τ0 K o p := fun K o p hK => by rw [← hE, fx_upE, if_neg (by omega), fx_upE, if_neg (by omega)]
        have hf : fr_f σ τ := fun K o p hK => (g K o p (by omega)).trans (g1 K o p (by omega))
        have hi' : τ 33 0 6 = ((i + 1 : Nat) : Int) := by rw [← hE, fx_upS]; omega
        have hcs : fr_cs τ o q2 q3 := by
          obtain ⟨a1, a2, a3, a4, a5, a6, a7, a8⟩ := g2
          refine ⟨by rw [← hE, fx_upJ (by omega), fx_upS], by rw [g 33 0 4 (by omega)]; exact a2, fs_stk_k a3.2 (fun j _ _ => g 35 0 j (by omega)), fs_stk_k a4 (fun j _ _ => g 34 0 j (by omega)), by rw [g 22 89 3 (by omega)]; exact a5, by rw [g 22 89 4 (by omega)]; exact a6, fun j j0 j1 => ?_, by rw [g 22 89 5 (by omega)]; exact a8⟩
          rw [g 23 89 j (by omega), g 24 89 j (by omega), g 25 89 j (by omega)]; exact a7 j j0 j1
        refine fr_post.trans (n := 0) hf (c56l n false (i + 1) (d - 1) o q2 q3 τ _ (h.k (fun K o p hK => hf K o p (by omega))) hi' (by omega) (by omega) (by omega) hcs g3 r1.1 (by omega) (by omega) ?_)
        simp; omega
    · have z1 := fs_b1.mp z1
      have hir := fs_iso_r z1
      have hj := fr_K_m h (j := i) (by omega)
      refine fx_CV_of (h60 _) ?_
      rintro v τ0 ⟨rfl, g1, g2, g3⟩
      obtain ⟨r1, r2, r3, r4, r5, r6⟩ := hro (fs_prec (fr_K T N i))
      have hpr := @fs_prec_r (fr_K T N i)
      have e : fs_pr T N t (n + 1) false i d ops ands R = fs_pr T N t n true (i + 1) d (fr_K T N i :: (fs_red (fs_prec (fr_K T N i)) ops ands R).1) (fs_red (fs_prec (fr_K T N i)) ops ands R).2.1 (fs_red (fs_prec (fr_K T N i)) ops ands R).2.2 := by rw [fs_pr, if_pos z1]
      rw [e]
      generalize fs_red (fs_prec (fr_K T N i)) ops ands R = q at *
      obtain ⟨o, q2, q3⟩ := q
      simp only at g2 g3 r1 r2 r3 r4 r5 r6 ⊢
      have hph2 := fr_phi_r o
      have hol2 := fr_oo_l o r1
      have t6 : τ0 33 0 6 = (i : Int) := (g1 33 0 6 (by omega)).trans hi
      refine Or.inl ⟨trivial, (c57 (p := (i : Int)) g2.1 (by omega) (by omega) t6 ⟨by omega, by omega⟩).V ?_⟩
      rw [hnx]
      refine ⟨⟨by omega, by omega⟩, ?_⟩
      generalize hE : fx_up (fx_up (fx_up τ0 35 0 (o.length : Int) (fr_K T N i)) 33 0 5 ((o.length : Int) + 1)) 33 0 6 ((i : Int) + 1) = τ
      have g : ∀ (K : Nat) (o' p : Int), ¬ ((K = 35 ∧ o' = 0 ∧ p = o.length) ∨ (K = 33 ∧ o' = 0 ∧ (p = 5 ∨ p = 6))) → τ K o' p = τ0 K o' p := fun K o' p hK => by rw [← hE, fx_upE, if_neg (by omega), fx_upE, if_neg (by omega), fx_upE, if_neg (by omega)]
      have hf : fr_f σ τ := fun K o' p hK => (g K o' p (by omega)).trans (g1 K o' p (by omega))
      have hi' : τ 33 0 6 = ((i + 1 : Nat) : Int) := by rw [← hE, fx_upS]; omega
      have hcs : fr_cs τ (fr_K T N i :: o) q2 q3 := by
        obtain ⟨a1, a2, a3, a4, a5, a6, a7, a8⟩ := g2
        refine ⟨?_, by rw [g 33 0 4 (by omega)]; exact a2, ⟨?_, fs_stk_k a3 (fun j _ _ => g 35 0 j (by omega))⟩, fs_stk_k a4 (fun j _ _ => g 34 0 j (by omega)), by rw [g 22 89 3 (by omega)]; exact a5, by rw [g 22 89 4 (by omega)]; exact a6, fun j j0 j1 => ?_, by rw [g 22 89 5 (by omega)]; exact a8⟩
        · rw [← hE, fx_upJ (by omega), fx_upS]; simp
        · rw [← hE, fx_upK rfl, fx_upK rfl, fx_upS]
        · rw [g 23 89 j (by omega), g 24 89 j (by omega), g 25 89 j (by omega)]; exact a7 j j0 j1
      refine fr_post.trans (n := 0) hf (c56l n true (i + 1) d (fr_K T N i :: o) q2 q3 τ _ (h.k (fun K o p hK => hf K o p (by omega))) hi' (by omega) (by omega) (by omega) hcs g3 ⟨r1, Or.inr ⟨z1, by omega⟩⟩ ?_ hd4 ?_)
      · rw [fr_c4, if_neg (by omega)]; omega
      · simp; omega
def fr_R0 : fx_S := fun _ _ _ => 0
theorem c56 {σ : fx_S} {i : Nat} (h : fr_tk σ T N m) (hi : σ 33 0 6 = (i : Int)) (him : i ≤ m) : fx_Ca 56 [(33, 0), (22, 89), (0, t)] σ (fr_post T N t σ (fs_pr T N t (m + 1) true i 0 [] [] fr_R0)) := by
  refine t56_0 (c4.V ?_)
  rw [fx_upK rfl, fx_upK rfl, fx_upK rfl, h.2.2.2.1]
  generalize hE : fx_up (fx_up (fx_up (fx_up (fx_up σ 22 89 3 0) 22 89 4 0) 22 89 5 0) 33 0 4 0) 33 0 5 0 = τ
  have g : ∀ (K : Nat) (o p : Int), ¬ ((K = 22 ∧ o = 89 ∧ (p = 3 ∨ p = 4 ∨ p = 5)) ∨ (K = 33 ∧ o = 0 ∧ (p = 4 ∨ p = 5))) → τ K o p = σ K o p := fun K o p hK => by rw [← hE, fx_upE, if_neg (by omega), fx_upE, if_neg (by omega), fx_upE, if_neg (by omega), fx_upE, if_neg (by omega), fx_upE, if_neg (by omega)]
  have hf : fr_f σ τ := fun K o p hK => g K o p (by omega)
  rw [show (m : Int) + 1 = ((m + 1 : Nat) : Int) by omega]
  refine fr_post.trans (n := 0) hf (c56l (m + 1) true i 0 [] [] fr_R0 τ _ (h.k (fun K o p hK => g K o p (by omega))) ?_ him (by omega) (by omega) ⟨?_, ?_, trivial, trivial, ?_, ?_, fun j j0 j1 => ?_, ?_⟩ ⟨by decide, by decide, by decide, by decide⟩ trivial rfl (by omega) (by decide))
  · rw [g 33 0 6 (by omega)]; exact hi
  · rw [← hE]; simp [fx_up]
  · rw [← hE]; simp [fx_up]
  · rw [← hE]; simp [fx_up, fr_R0]
  · rw [← hE]; simp [fx_up, fr_R0]
  · have : j < 0 := j1
    omega
  · rw [← hE]; simp [fx_up, fr_R0, fs_bit]
end FXRN
