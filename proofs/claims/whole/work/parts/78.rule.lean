def fs_prec (k : Int) : Int := if k < 10 then 1 else 2
def fs_iso (k : Int) : Bool := decide (6 ≤ k) && decide (k ≤ 12)
/-- a node more -/
def fs_add (R : fx_S) (k a b : Int) : fx_S := fx_up (fx_up (fx_up (fx_up R 11 0 (R 9 0 0) k) 12 0 (R 9 0 0) a) 13 0 (R 9 0 0) b) 9 0 0 (R 9 0 0 + 1)
def fs_leaf (R : fx_S) (k a : Int) : fx_S := fx_up (fs_add R k a 0) 10 0 0 (R 10 0 0 + 1)
/-- signs of at least that strength are done -/
def fs_red (y : Int) : List Int → List Int → fx_S → List Int × List Int × fx_S
  | op :: ops, r :: l :: ands, R => if fs_iso op && decide (y ≤ fs_prec op) then fs_red y ops (R 9 0 0 :: ands) (fs_add R op l r) else (op :: ops, r :: l :: ands, R)
  | ops, ands, R => (ops, ands, R)
def fs_stk (σ : fx_S) (K : Nat) : List Int → Prop
  | [] => True
  | x :: l => σ K 0 (l.length : Int) = x ∧ fs_stk σ K l
theorem fs_stk_k {σ τ : fx_S} {K : Nat} : ∀ {l : List Int}, fs_stk σ K l → (∀ j : Int, 0 ≤ j → j < l.length → τ K 0 j = σ K 0 j) → fs_stk τ K l
  | [], _, _ => trivial
  | x :: l, h, g => ⟨(g _ (by omega) (by simp; omega)).trans h.1, fs_stk_k h.2 (fun j a b => g j a (by simp; omega))⟩
def fs_rr (σ R : fx_S) : Prop := σ 22 89 3 = R 9 0 0 ∧ σ 22 89 4 = R 10 0 0 ∧ (∀ j, 0 ≤ j → j < R 9 0 0 → σ 23 89 j = R 11 0 j ∧ σ 24 89 j = R 12 0 j ∧ σ 25 89 j = R 13 0 j) ∧ σ 22 89 5 = fs_bit R 0 (R 9 0 0).toNat
def fr_cs (σ : fx_S) (ops ands : List Int) (R : fx_S) : Prop := σ 33 0 5 = (ops.length : Int) ∧ σ 33 0 4 = (ands.length : Int) ∧ fs_stk σ 35 ops ∧ fs_stk σ 34 ands ∧ fs_rr σ R
def fr_iv (ands : List Int) (R : fx_S) : Prop := 0 ≤ R 9 0 0 ∧ R 9 0 0 + (ands.length : Int) = 2 * R 10 0 0 ∧ R 10 0 0 ≤ 12 ∧ R 10 0 0 ≤ R 9 0 0
def fr_cf (σ τ : fx_S) : Prop := ∀ K o p, ¬ ((22 ≤ K ∧ K ≤ 25 ∧ o = 89) ∨ (K = 33 ∧ o = 0 ∧ (p = 4 ∨ p = 5)) ∨ K = 34 ∨ K = 35) → τ K o p = σ K o p
theorem fr_cf.trans {σ τ ρ : fx_S} (h : fr_cf σ τ) (g : fr_cf τ ρ) : fr_cf σ ρ := fun K o p hK => (g K o p hK).trans (h K o p hK)
theorem fs_add_r {R : fx_S} {k a b j : Int} : (fs_add R k a b 9 0 0 = R 9 0 0 + 1 ∧ fs_add R k a b 10 0 0 = R 10 0 0) ∧ (fs_add R k a b 11 0 (R 9 0 0) = k ∧ fs_add R k a b 12 0 (R 9 0 0) = a ∧ fs_add R k a b 13 0 (R 9 0 0) = b) ∧ (j ≠ R 9 0 0 → fs_add R k a b 11 0 j = R 11 0 j ∧ fs_add R k a b 12 0 j = R 12 0 j ∧ fs_add R k a b 13 0 j = R 13 0 j) := by
  refine ⟨⟨by simp [fs_add, fx_up], by simp [fs_add, fx_up]⟩, ⟨by simp [fs_add, fx_up], by simp [fs_add, fx_up], by simp [fs_add, fx_up]⟩, fun h => ⟨by simp [fs_add, fx_up, h], by simp [fs_add, fx_up, h], by simp [fs_add, fx_up, h]⟩⟩
theorem fs_rr_add {σ τ R : fx_S} {k a b : Int} (h : fs_rr σ R) (h0 : 0 ≤ R 9 0 0) (t3 : τ 22 89 3 = R 9 0 0 + 1) (t4 : τ 22 89 4 = R 10 0 0) (t5 : τ 22 89 5 = if k = 13 then fx_or (σ 22 89 5) (fx_shl 1 a) else σ 22 89 5) (tn : τ 23 89 (R 9 0 0) = k ∧ τ 24 89 (R 9 0 0) = a ∧ τ 25 89 (R 9 0 0) = b) (to : ∀ K j, 23 ≤ K → K ≤ 25 → j ≠ R 9 0 0 → τ K 89 j = σ K 89 j) : fs_rr τ (fs_add R k a b) := by
  obtain ⟨g1, g2, g3, g4⟩ := h
  have ar := fun j => fs_add_r (R := R) (k := k) (a := a) (b := b) (j := j)
  refine ⟨by rw [(ar 0).1.1]; exact t3, by rw [(ar 0).1.2]; exact t4, fun j j0 j1 => ?_, ?_⟩
  · rw [(ar 0).1.1] at j1
    by_cases e : j = R 9 0 0
    · rw [e, (ar 0).2.1.1, (ar 0).2.1.2.1, (ar 0).2.1.2.2]; exact tn
    · rw [((ar j).2.2 e).1, ((ar j).2.2 e).2.1, ((ar j).2.2 e).2.2, to 23 j (by omega) (by omega) e, to 24 j (by omega) (by omega) e, to 25 j (by omega) (by omega) e]
      exact g3 j j0 (by omega)
  · rw [t5, (ar 0).1.1, show (R 9 0 0 + 1).toNat = (R 9 0 0).toNat + 1 by omega, fs_bit, show (((R 9 0 0).toNat : Nat) : Int) = R 9 0 0 by omega, (ar 0).2.1.1, (ar 0).2.1.2.1, g4]
    have e : fs_bit (fs_add R k a b) 0 (R 9 0 0).toNat = fs_bit R 0 (R 9 0 0).toNat := fs_bit_k _ (fun j j0 j1 => ⟨((ar j).2.2 (by omega)).1, ((ar j).2.2 (by omega)).2.1⟩)
    rw [e]
section FXRL
variable {σ : fx_S}
theorem c58 {x : Int} : fx_Rt 58 [(0, x)] σ (0, fs_b (fs_iso x)) σ := by
  unfold fs_iso
  refine t58_0 ⟨fun a => ⟨?_, rfl⟩, fun a => ⟨fun b => ⟨?_, rfl⟩, fun b => ⟨?_, rfl⟩⟩⟩
  · rw [decide_eq_false (by omega)]; rfl
  · rw [decide_eq_true a, decide_eq_false (by omega)]; rfl
  · rw [decide_eq_true a, decide_eq_true b]; rfl
theorem c59 {x : Int} : fx_Rt 59 [(0, x)] σ (0, fs_prec x) σ := by
  unfold fs_prec
  exact t59_0 ⟨fun a => ⟨by rw [if_pos a], rfl⟩, fun a => ⟨by rw [if_neg (by omega)], rfl⟩⟩
theorem c7 {x1 x2 x3 n : Int} (hn : σ 22 89 3 = n) (h0 : 0 ≤ n) (h1 : n < 23) : fx_Rt 7 [(22, 89), (0, x1), (0, x2), (0, x3)] σ (0, n) (fx_up (fx_up (fx_up (fx_up σ 23 89 n x1) 24 89 n x2) 25 89 n x3) 22 89 3 (n + 1)) := by
  refine t7_0 ?_
  rw [hn]
  exact ⟨fun a => by omega, fun _ => ⟨⟨h0, h1⟩, ⟨by omega, by omega⟩, rfl, rfl⟩⟩
theorem c60 {y : Int} : ∀ (ops ands : List Int) (R σ : fx_S) (w3 : fx_V), fr_cs σ ops ands R → fr_iv ands R → ops.length ≤ 15 → ands.length ≤ 12 → fx_Wp 60 0 [(33, 0), (22, 89), (0, y), w3] [] σ (fun v τ => v = (4, 0) ∧ fr_cf σ τ ∧ fr_cs τ (fs_red y ops ands R).1 (fs_red y ops ands R).2.1 (fs_red y ops ands R).2.2 ∧ fr_iv (fs_red y ops ands R).2.1 (fs_red y ops ands R).2.2)
  | [], ands, R, σ, w3, h, hv, _, _ => by
    refine t60_0 ⟨fun _ => ?_, fun a => ?_⟩
    · rw [show fs_red y [] ands R = ([], ands, R) from rfl]
      exact ⟨rfl, fun _ _ _ _ => rfl, h, hv⟩
    · rw [h.1] at a; simp at a
  | op :: ops, [], R, σ, w3, h, hv, _, _ => by
    refine t60_0 ⟨fun a => ?_, fun _ => ⟨fun _ => ?_, fun a => ?_⟩⟩
    · rw [h.1] at a; simp at a; omega
    · exact ⟨rfl, fun _ _ _ _ => rfl, h, hv⟩
    · rw [h.2.1] at a; simp at a
  | op :: ops, [r], R, σ, w3, h, hv, _, _ => by
    refine t60_0 ⟨fun a => ?_, fun _ => ⟨fun _ => ?_, fun a => ?_⟩⟩
    · rw [h.1] at a; simp at a; omega
    · exact ⟨rfl, fun _ _ _ _ => rfl, h, hv⟩
    · rw [h.2.1] at a; simp at a
  | op :: ops, r :: l :: ands, R, σ, w3, h, hv, ho, ha => by
    obtain ⟨h1, h2, h3, h4, h5⟩ := h
    have l1 : ((op :: ops).length : Int) = ops.length + 1 := by simp
    have l2 : ((r :: l :: ands).length : Int) = ands.length + 2 := by simp; omega
    rw [l1] at h1
    rw [l2] at h2
    have ho : (ops.length : Int) + 1 ≤ 15 := by simpa using (Int.ofNat_le.mpr ho)
    have ha' : (ands.length : Int) + 2 ≤ 12 := by have := Int.ofNat_le.mpr ha; rw [l2] at this; exact this
    obtain ⟨v1, v2, v3⟩ := hv
    rw [l2] at v2
    have s1 : σ 35 0 (ops.length : Int) = op := h3.1
    have s2 : σ 34 0 ((ands.length : Int) + 1) = r := by have := h4.1; simpa using this
    have s3 : σ 34 0 (ands.length : Int) = l := h4.2.1
    have same : (fs_iso op && decide (y ≤ fs_prec op)) = false → ((4, 0) : fx_V) = (4, 0) ∧ fr_cf σ σ ∧ fr_cs σ (fs_red y (op :: ops) (r :: l :: ands) R).1 (fs_red y (op :: ops) (r :: l :: ands) R).2.1 (fs_red y (op :: ops) (r :: l :: ands) R).2.2 ∧ fr_iv (fs_red y (op :: ops) (r :: l :: ands) R).2.1 (fs_red y (op :: ops) (r :: l :: ands) R).2.2 := by
      intro z
      have e : fs_red y (op :: ops) (r :: l :: ands) R = (op :: ops, r :: l :: ands, R) := by rw [fs_red, z]; rfl
      rw [e]
      exact ⟨rfl, fun _ _ _ _ => rfl, ⟨by rw [l1]; exact h1, by rw [l2]; exact h2, h3, h4, h5⟩, v1, by rw [l2]; exact v2, v3⟩
    refine t60_0 ?_
    rw [h1, h2, show (ops.length : Int) + 1 - 1 = ops.length by omega, s1]
    refine ⟨fun a => by omega, fun _ => ⟨fun a => by omega, fun _ => ⟨⟨by omega, by omega⟩, ⟨by omega, by omega⟩, c58.I ⟨fun b => same (by rw [fs_b0.mp b]; rfl), fun b => ?_⟩⟩⟩⟩
    rw [h1, show (ops.length : Int) + 1 - 1 = ops.length by omega, s1]
    refine ⟨⟨by omega, by omega⟩, ⟨by omega, by omega⟩, c59.I ⟨fun d => same (by rw [decide_eq_false (by omega), Bool.and_false]), fun d => ?_⟩⟩
    rw [h1, h2, show (ops.length : Int) + 1 - 1 = ops.length by omega, show (ands.length : Int) + 2 - 1 = ands.length + 1 by omega, show (ands.length : Int) + 1 - 1 = ands.length by omega, s1, s2, s3]
    have e : fs_red y (op :: ops) (r :: l :: ands) R = fs_red y ops (R 9 0 0 :: ands) (fs_add R op l r) := by rw [fs_red, fs_b1.mp b, decide_eq_true d]; rfl
    rw [e]
    have n3 : fx_up (fx_up σ 33 0 4 ((ands.length : Int) + 1)) 33 0 5 (ops.length : Int) 22 89 3 = R 9 0 0 := by rw [fx_upK rfl, fx_upK rfl]; exact h5.1
    refine ⟨⟨by omega, by omega⟩, ⟨by omega, by omega⟩, ⟨by omega, by omega⟩, ⟨by omega, by omega⟩, ⟨by omega, by omega⟩, ⟨by omega, by omega⟩, (c7 n3 v1 (by omega)).I ?_⟩
    rw [fx_upK rfl, fx_upK rfl, fx_upK rfl, fx_upK rfl, fx_upJ (by omega), fx_upS, show (ands.length : Int) + 1 - 1 = ands.length by omega]
    refine ⟨⟨by omega, by omega⟩, ⟨by omega, by omega⟩, ?_⟩
    generalize hE : fx_up (fx_up (fx_up (fx_up (fx_up (fx_up (fx_up σ 33 0 4 ((ands.length : Int) + 1)) 33 0 5 (ops.length : Int)) 23 89 (R 9 0 0) op) 24 89 (R 9 0 0) l) 25 89 (R 9 0 0) r) 22 89 3 (R 9 0 0 + 1)) 34 0 (ands.length : Int) (R 9 0 0) = ρ
    have g : ∀ K o p, ¬ ((K = 33 ∧ o = 0 ∧ (p = 4 ∨ p = 5)) ∨ (23 ≤ K ∧ K ≤ 25 ∧ o = 89 ∧ p = R 9 0 0) ∨ (K = 22 ∧ o = 89 ∧ p = 3) ∨ (K = 34 ∧ o = 0 ∧ p = ands.length)) → ρ K o p = σ K o p := by
      intro K o p hK
      rw [← hE, fx_upE, if_neg (by omega), fx_upE, if_neg (by omega), fx_upE, if_neg (by omega), fx_upE, if_neg (by omega), fx_upE, if_neg (by omega), fx_upE, if_neg (by omega), fx_upE, if_neg (by omega)]
    have isnt : op ≠ 13 := by
      have := fs_b1.mp b
      unfold fs_iso at this
      simp only [Bool.and_eq_true, decide_eq_true_eq] at this
      omega
    have hcs : fr_cs ρ ops (R 9 0 0 :: ands) (fs_add R op l r) := by
      refine ⟨?_, ?_, ?_, ⟨?_, ?_⟩, ?_⟩
      · rw [← hE]; simp [fx_up]
      · rw [← hE]; simp [fx_up]
      · exact fs_stk_k h3.2 (fun j j0 j1 => g 35 0 j (by omega))
      · rw [← hE, fx_upS]
      · exact fs_stk_k h4.2.2 (fun j j0 j1 => g 34 0 j (by omega))
      · refine fs_rr_add h5 v1 ?_ ?_ ?_ ⟨?_, ?_, ?_⟩ (fun K j K0 K1 hj => g K 89 j (by omega))
        · rw [← hE]; simp [fx_up]
        · rw [g 22 89 4 (by omega)]; exact h5.2.1
        · rw [g 22 89 5 (by omega), if_neg isnt]
        · rw [← hE]; simp [fx_up]
        · rw [← hE]; simp [fx_up]
        · rw [← hE]; simp [fx_up]
    have ar := fs_add_r (R := R) (k := op) (a := l) (b := r) (j := 0)
    have hiv : fr_iv (R 9 0 0 :: ands) (fs_add R op l r) := by
      refine ⟨by rw [ar.1.1]; omega, ?_, by rw [ar.1.2]; exact v3.1, by rw [ar.1.1, ar.1.2]; omega⟩
      rw [ar.1.1, ar.1.2]
      have : ((R 9 0 0 :: ands).length : Int) = ands.length + 1 := by simp
      omega
    refine fx_Wp.mono (c60 ops (R 9 0 0 :: ands) (fs_add R op l r) ρ _ hcs hiv (by omega) (by simp; omega)) ?_
    rintro v τ ⟨k1, k2, k3⟩
    exact ⟨k1, fr_cf.trans (fun K o p hK => g K o p (by omega)) k2, k3⟩
end FXRL
