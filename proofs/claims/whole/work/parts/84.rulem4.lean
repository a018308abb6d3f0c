/-- what a rule's reading comes to, reference -/
def fr_pm (T : Int → Int) (N t : Int) (σ : fx_S) (r : Bool × Nat × fx_S) : fx_V → fx_S → Prop := fun v τ => v = (4, 0) ∧ (∀ K o p, ¬ (K = 52 ∨ K = 53 ∨ K = 54 ∨ (K = 46 ∧ o = 0 ∧ (p = 11 ∨ p = 12 ∨ p = 15 ∨ p = 17 ∨ p = 18)) ∨ (K = 47 ∧ o = 0 ∧ 378 + 94 * t ≤ p ∧ p < 378 + 94 * t + 94)) → τ K o p = σ K o p) ∧ ((r.1 = false ∧ τ 46 0 12 = fs_a T N r.2.1 ∧ (∀ q, τ 47 0 q = σ 47 0 q) ∧ 0 ≤ τ 46 0 11) ∨ (r.1 = true ∧ τ 46 0 12 = -1 ∧ fr_at τ T N r.2.1 ∧ fr_mn τ r.2.2 ∧ ∀ p, 0 ≤ p → p < 94 → τ 47 0 (378 + 94 * t + p) = τ 52 0 p))
section FXRD
variable {T : Int → Int} {N t : Int} {m : Nat}
theorem r132 {Q : fx_V → fx_S → Prop} {w2 : fx_V} : ∀ (ops ands : List Int) (R σ : fx_S) (w3 : fx_V), fr_ms σ ops ands R → fr_iv ands R → fr_oo ops → fr_c4 ops = 0 → (ops.length : Int) + 1 = ands.length → (∀ τ, fr_h σ τ → fr_mn τ (fs_red 0 ops ands R).2.2 → fx_Wp 196 148 [(46, 0), (0, t), w2, (0, 0)] [] τ Q) → fx_Wp 196 132 [(46, 0), (0, t), w2, w3] [] σ Q
  | [], ands, R, σ, w3, h, hv, ho, hd, hl, k => by
    refine t196_132 ⟨fun _ => k σ (fun _ _ _ _ => rfl) h.2.2.2.2, fun a => ?_⟩
    rw [h.1] at a; simp at a
  | op :: ops, ands, R, σ, w3, h, hv, ho, hd, hl, k => by
    have l1 : ((op :: ops).length : Int) = ops.length + 1 := by simp
    have hc4 := fr_c4_r ops
    have hol := fr_oo_l (op :: ops) ho
    have hph := fr_phi_r (op :: ops)
    rw [l1] at hol hl
    rw [hd] at hol
    rw [fr_c4] at hd
    have n4 : ¬ op = 4 := fun z => by rw [if_pos z] at hd; omega
    rw [if_neg n4] at hd
    have hop : fs_iso op = true := (ho.2.resolve_left n4).1
    refine t196_132 ⟨fun a => by rw [h.1, l1] at a; omega, fun _ => ?_⟩
    cases ands with
    | nil => simp at hl; omega
    | cons r ands =>
      cases ands with
      | nil => simp at hl; omega
      | cons l ands =>
        have hpr := @fs_prec_r op
        have e : fs_red 0 (op :: ops) (r :: l :: ands) R = fs_red 0 ops (R 9 0 0 :: ands) (fs_add R op l r) := by rw [fs_red, hop, decide_eq_true (by omega : (0 : Int) ≤ fs_prec op)]; rfl
        rw [e] at k
        refine fx_CV_of (c189 h hv hop (by omega)) ?_
        rintro v τ ⟨rfl, k1, k2, k3⟩
        exact Or.inl ⟨rfl, r132 ops (R 9 0 0 :: ands) (fs_add R op l r) τ w3 k2 k3 ho.1 (by omega) (by simp at hl ⊢; omega) (fun ρ q1 q2 => k ρ (k1.trans q1) q2)⟩
theorem r148 (ht : 0 ≤ t ∧ t < 8) {w2 : fx_V} {Q : fx_V → fx_S → Prop} {σ : fx_S} (k : ∀ τ, (∀ K o p, ¬ (K = 47 ∧ o = 0 ∧ 378 + 94 * t ≤ p ∧ p < 378 + 94 * t + 94) → τ K o p = σ K o p) → (∀ p, 0 ≤ p → p < 94 → τ 47 0 (378 + 94 * t + p) = τ 52 0 p) → Q (4, 0) τ) : fx_Wp 196 148 [(46, 0), (0, t), w2, (0, 0)] [] σ Q := by
  refine fx_whl (X := Int × fx_S) (fun y => [(46, 0), (0, t), w2, (0, y.1)]) (fun y => y.2) (fun y => (0 ≤ y.1 ∧ y.1 ≤ 94) ∧ (∀ K o p, ¬ (K = 47 ∧ o = 0 ∧ 378 + 94 * t ≤ p ∧ p < 378 + 94 * t + 94) → y.2 K o p = σ K o p) ∧ ∀ p, 0 ≤ p → p < y.1 → y.2 47 0 (378 + 94 * t + p) = σ 52 0 p) (fun y => (94 - y.1).toNat) ?_ (0, σ) ⟨⟨by simp, by simp⟩, fun _ _ _ _ => rfl, fun p p0 p1 => by simp only at p1; omega⟩
  rintro ⟨x, τ⟩ ⟨⟨x0, x1⟩, hf, hp⟩ ih
  simp only at x0 x1 hf hp
  show fx_Wp 196 148 [(46, 0), (0, t), w2, (0, x)] [] τ Q
  refine t196_148 ⟨fun a => k τ hf (fun p p0 p1 => by rw [hp p p0 (by omega), hf 52 0 p (by omega)]), fun a => ⟨⟨by omega, by omega⟩, ⟨by omega, by omega⟩, ⟨by omega, by omega⟩, ⟨x0, a⟩, ⟨by omega, by omega⟩, ⟨by omega, by omega⟩, ?_⟩⟩
  rw [hf 52 0 x (by omega)]
  generalize hE : fx_up τ 47 0 (378 + 94 * t + x) (σ 52 0 x) = ρ
  refine ih (x + 1, ρ) ⟨⟨by simp only; omega, by simp only; omega⟩, fun K o p hK => ?_, fun p p0 p1 => ?_⟩ (by simp only; omega)
  · simp only
    rw [← hE, fx_upE, if_neg (by omega)]; exact hf K o p hK
  · simp only at p1 ⊢
    rw [← hE]
    by_cases e : p = x
    · rw [e, fx_upS]
    · rw [fx_upJ (by omega)]; exact hp p p0 (by omega)
theorem r196f {w2 w3 : fx_V} {σ : fx_S} {Q : fx_V → fx_S → Prop} (hf : σ 46 0 12 ≠ -1) (k : Q (4, 0) σ) : fx_Wp 196 60 [(46, 0), (0, t), w2, w3] [] σ Q :=
  t196_60 ⟨fun _ => t196_31 ⟨fun _ => t196_100 ⟨fun _ => ⟨fun z => absurd z hf, fun _ => k⟩, fun z => absurd z hf⟩, fun z => absurd rfl z⟩, fun z => absurd z hf⟩
theorem r196l (ht : 0 ≤ t ∧ t < 8) : ∀ (k n i : Nat) (d : Int) (ops ands : List Int) (R σ : fx_S) (w3 : fx_V), m ≤ i + k → fs_tp σ T N → fs_a T N m = N → i ≤ m → m + 1 ≤ n + i → fr_J σ T N true i d ops ands R → fx_Wp 196 31 [(46, 0), (0, t), (0, 1), w3] [] σ (fr_pm T N t σ (fs_pr T N t n true i d ops ands R)) := by
  intro k
  induction k with
  | zero =>
    intro n i d ops ands R σ w3 hk h hm hi hn hJ
    have hN := h.1.1
    refine t196_31 ⟨fun a => absurd a (by decide), fun _ => ⟨fun z => absurd hJ.2.2.2.2.2.2.2.1 z, fun _ => fx_CV_of (r193 ht h hm hi hn hJ) ?_⟩⟩
    rintro v τ ⟨rfl, g, ⟨n', i', d', o', a', R', z1, z2, z3⟩ | ⟨f1, f2, f3⟩⟩
    · omega
    · have ha := fs_a_r (T := T) hN (fs_pr T N t n true i d ops ands R).2.1
      have hf : τ 46 0 12 ≠ -1 := by omega
      exact Or.inl ⟨rfl, fun _ => r196f hf ⟨rfl, fun K o p hK => g K o p (by omega), Or.inl ⟨f1, f2, fun q => g 47 0 q (by omega), f3⟩⟩, fun z => absurd z hf⟩
  | succ k ih =>
    intro n i d ops ands R σ w3 hk h hm hi hn hJ
    have hN := h.1.1
    refine t196_31 ⟨fun a => absurd a (by decide), fun _ => ⟨fun z => absurd hJ.2.2.2.2.2.2.2.1 z, fun _ => fx_CV_of (r193 ht h hm hi hn hJ) ?_⟩⟩
    rintro v τ ⟨rfl, g, ⟨n', i', d', o', a', R', z1, z2, z3, zJ⟩ | ⟨f1, f2, f3⟩⟩
    · rw [z1]
      have hfτ : τ 46 0 12 = -1 := zJ.2.2.2.2.2.2.2.1
      refine Or.inl ⟨rfl, fun z => absurd hfτ z, fun _ => fx_CV_of (r195 (t := t) n' i' d' o' a' R' τ (g.tp h) hm z2.2 z3 zJ) ?_⟩
      rintro v τ2 ⟨rfl, g2, n2, i2, d2, o2, a2, R2, y1, y2, y3, yJ, y5⟩
      rw [y1]
      have hg := g.trans g2
      obtain ⟨j1, j2, j3, j4, j5, j6, j7, j8, j9⟩ := yJ
      have j6' : (o2.length : Int) - fr_c4 o2 + 1 = a2.length := by rw [← j4]; simpa using j6
      have hol := fr_oo_l o2 j3
      have hph := fr_phi_r o2
      obtain ⟨n3, rfl⟩ : ∃ n3, n2 = n3 + 1 := ⟨n2 - 1, by omega⟩
      refine Or.inl ⟨rfl, t196_60 ⟨fun z => absurd j8 z, fun _ => fx_CI_of (r194 (hg.tp h) j8 j9) ?_⟩⟩
      rintro v τ3 (⟨iso, rfl, r⟩ | ⟨iso, rfl, r⟩)
      · have hir := fs_iso_r iso
        have hj := fr_K_M hm (j := i2) (by omega)
        have hcd := fr_cd_k iso
        refine Or.inl ⟨rfl, fun z => by have : fr_cd (fr_K T N i2) = -1 := z; omega, fun _ => fx_CV_of (c191 iso o2 a2 R2 τ3 (j1.k (fun K o p hK => r.1 K o p (by omega))) j2 j3 j6' (by omega)) ?_⟩
        rintro v τ4 ⟨rfl, q1, q2, q3⟩
        have e : fs_pr T N t (n3 + 1) false i2 d2 o2 a2 R2 = fs_pr T N t n3 true (i2 + 1) d2 (fr_K T N i2 :: (fs_red (fs_prec (fr_K T N i2)) o2 a2 R2).1) (fs_red (fs_prec (fr_K T N i2)) o2 a2 R2).2.1 (fs_red (fs_prec (fr_K T N i2)) o2 a2 R2).2.2 := by rw [fs_pr, if_pos iso]
        rw [e]
        obtain ⟨r1, r2, r3, r4, r5, r6⟩ := fs_red_p (y := fs_prec (fr_K T N i2)) o2 a2 R2 j3 j6'
        have hpr := @fs_prec_r (fr_K T N i2)
        generalize fs_red (fs_prec (fr_K T N i2)) o2 a2 R2 = q at *
        obtain ⟨o, b2, R3⟩ := q
        simp only at q2 q3 r1 r2 r3 r4 r5 r6 ⊢
        have hg4 := hg.trans (r.g.trans q1.g)
        refine Or.inl ⟨trivial, fx_Wp.mono (ih n3 (i2 + 1) d2 _ b2 R3 τ4 _ (by omega) (hg4.tp h) hm (by omega) (by omega) ⟨q2, q3, ⟨r1, Or.inr ⟨iso, by omega⟩⟩, ?_, j5, ?_, ?_, ?_, (fr_at_y hN r).k (q1 46 0 11 (by omega))⟩) ?_⟩
        · rw [fr_c4, if_neg (by omega)]; omega
        · simp; omega
        · rw [q1 46 0 18 (by omega), r.1 46 0 18 (by omega)]; exact j7
        · rw [q1 46 0 12 (by omega)]; exact r.2.2
        · rintro v ρ ⟨p1, p2, p3⟩
          refine ⟨p1, fun K o p hK => (p2 K o p hK).trans (hg4 K o p (by omega)), p3.elim (fun z => Or.inl ⟨z.1, z.2.1, fun q => (z.2.2.1 q).trans (hg4 47 0 q (by omega)), z.2.2.2⟩) Or.inr⟩
      · have e : fs_pr T N t (n3 + 1) false i2 d2 o2 a2 R2 = (decide (d2 = 0), i2, (fs_red 0 o2 a2 R2).2.2) := by rw [fs_pr, if_neg iso, if_neg y5]
        rw [e]
        have hg3 := hg.trans r.g
        have d18 : τ3 46 0 18 = d2 := (r.1 46 0 18 (by omega)).trans j7
        refine Or.inl ⟨rfl, fun _ => t196_31 ⟨fun _ => t196_100 ⟨fun z => absurd r.2.2 z, fun _ => ⟨fun a => ⟨fun _ => ?_, fun z => absurd r.2.2 z⟩, fun a => fx_CI_of (r181 (hg3.tp h) (fr_at_n hN r)) ?_⟩⟩, fun z => absurd rfl z⟩, fun z => absurd rfl z⟩
        · rw [d18] at a
          have hc4 := fr_c4_r o2
          refine r132 o2 a2 R2 τ3 _ (j1.k (fun K o p hK => r.1 K o p (by omega))) j2 j3 (by omega) (by omega) (fun τ4 q1 q2 => r148 ht (fun τ5 p1 p2 => ?_))
          have hg4 := hg3.trans q1.g
          refine ⟨rfl, fun K o p hK => (p1 K o p (by omega)).trans (hg4 K o p (by omega)), Or.inr ⟨decide_eq_true (by omega), ?_, ?_, q2.k (fun p => p1 52 0 p (by omega)), p2⟩⟩
          · rw [p1 46 0 12 (by omega), q1 46 0 12 (by omega)]; exact r.2.2
          · exact (fr_at_n hN r).k (by rw [p1 46 0 11 (by omega), q1 46 0 11 (by omega)])
        · rintro v τ4 ⟨rfl, r4⟩
          rw [r.2.2] at r4
          rw [d18] at a
          refine Or.inl ⟨rfl, fx_CV_of (c182 r4.2.1) ?_⟩
          rintro v τ5 ⟨rfl, r5⟩
          rw [r4.2.2, if_pos rfl] at r5
          have har := fs_a_r (T := T) hN i2
          have hg5 := hg3.trans (r4.trans r5).g
          exact Or.inl ⟨rfl, fun z => by rw [r5.2.2] at z; omega, fun _ => ⟨rfl, fun K o p hK => hg5 K o p (by omega), Or.inl ⟨decide_eq_false (by omega), r5.2.2, fun q => hg5 47 0 q (by omega), by rw [r5.2.1]; exact har.1⟩⟩⟩
    · have ha := fs_a_r (T := T) hN (fs_pr T N t n true i d ops ands R).2.1
      have hf : τ 46 0 12 ≠ -1 := by omega
      exact Or.inl ⟨rfl, fun _ => r196f hf ⟨rfl, fun K o p hK => g K o p (by omega), Or.inl ⟨f1, f2, fun q => g 47 0 q (by omega), f3⟩⟩, fun z => absurd z hf⟩
theorem r196 (ht : 0 ≤ t ∧ t < 8) {i : Nat} {σ : fx_S} (h : fs_tp σ T N) (hm : fs_a T N m = N) (hi : i ≤ m) (hf : σ 46 0 12 = -1) (ha : fr_at σ T N i) : fx_Ca 196 [(46, 0), (0, t)] σ (fr_pm T N t σ (fs_pr T N t (m + 1) true i 0 [] [] fr_R0)) := by
  refine t196_0 ?_
  generalize hE : fx_up (fx_up (fx_up (fx_up (fx_up σ 52 0 0 0) 52 0 1 0) 46 0 15 0) 46 0 17 0) 46 0 18 0 = τ
  have g : ∀ (K : Nat) (o p : Int), ¬ ((K = 52 ∧ o = 0 ∧ (p = 0 ∨ p = 1)) ∨ (K = 46 ∧ o = 0 ∧ (p = 15 ∨ p = 17 ∨ p = 18))) → τ K o p = σ K o p := fun K o p hK => by rw [← hE, fx_upE, if_neg (by omega), fx_upE, if_neg (by omega), fx_upE, if_neg (by omega), fx_upE, if_neg (by omega), fx_upE, if_neg (by omega)]
  have hg : fr_g σ τ := fun K o p hK => g K o p (by omega)
  refine fx_Wp.mono (r196l ht m (m + 1) i 0 [] [] fr_R0 τ _ (by omega) (hg.tp h) hm hi (by omega) ⟨⟨?_, ?_, trivial, trivial, ?_, ?_, fun j j0 j1 => ?_⟩, ⟨by decide, by decide, by decide, by decide⟩, trivial, rfl, by decide, by decide, ?_, (g 46 0 12 (by omega)).trans hf, ha.k (g 46 0 11 (by omega))⟩) ?_
  · rw [← hE]; simp [fx_up]
  · rw [← hE]; simp [fx_up]
  · rw [← hE]; simp [fx_up, fr_R0]
  · rw [← hE]; simp [fx_up, fr_R0]
  · have : j < 0 := j1
    omega
  · rw [← hE]; simp [fx_up]
  · rintro v ρ ⟨p1, p2, p3⟩
    refine ⟨p1, fun K o p hK => (p2 K o p hK).trans (hg K o p (by omega)), p3.elim (fun z => Or.inl ⟨z.1, z.2.1, fun q => (z.2.2.1 q).trans (hg 47 0 q (by omega)), z.2.2.2⟩) Or.inr⟩
end FXRD
