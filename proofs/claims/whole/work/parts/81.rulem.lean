/-- a sign's number in the reference -/
def fr_cd (x : Int) : Int := if x = 4 then 20 else x - 4
def fr_mn (τ R : fx_S) : Prop := τ 52 0 0 = R 9 0 0 ∧ τ 52 0 1 = R 10 0 0 ∧ ∀ j, 0 ≤ j → j < R 9 0 0 → fs_kd (τ 52 0 (2 + 4 * j)) = R 11 0 j ∧ (if τ 52 0 (2 + 4 * j) ≤ 1 then τ 52 0 (2 + 4 * j + 1) else τ 52 0 (2 + 4 * j + 2)) = R 12 0 j ∧ τ 52 0 (2 + 4 * j + 3) = R 13 0 j
def fr_ms (τ : fx_S) (ops ands : List Int) (R : fx_S) : Prop := τ 46 0 15 = (ops.length : Int) ∧ τ 46 0 17 = (ands.length : Int) ∧ fs_stk τ 53 (ops.map fr_cd) ∧ fs_stk τ 54 ands ∧ fr_mn τ R
def fr_h (σ τ : fx_S) : Prop := ∀ K o p, ¬ (K = 52 ∨ K = 53 ∨ K = 54 ∨ (K = 46 ∧ o = 0 ∧ (p = 15 ∨ p = 17))) → τ K o p = σ K o p
theorem fr_h.trans {σ τ ρ : fx_S} (h : fr_h σ τ) (g : fr_h τ ρ) : fr_h σ ρ := fun K o p hK => (g K o p hK).trans (h K o p hK)
theorem fr_mn.k {τ ρ R : fx_S} (h : fr_mn τ R) (g : ∀ p, ρ 52 0 p = τ 52 0 p) : fr_mn ρ R := by
  obtain ⟨a, b, c⟩ := h
  refine ⟨(g 0).trans a, (g 1).trans b, fun j j0 j1 => ?_⟩
  rw [g, g, g, g]
  exact c j j0 j1
section FXRO
variable {σ : fx_S}
theorem c188 {x1 x2 x3 x4 k a b : Int} {ands : List Int} {R : fx_S} (h2 : σ 46 0 17 = (ands.length : Int)) (h4 : fs_stk σ 54 ands) (h5 : fr_mn σ R) (h0 : 0 ≤ R 9 0 0) (h22 : R 9 0 0 ≤ 22) (ha : ands.length ≤ 12) (hk : fs_kd x1 = k) (hx : (if x1 ≤ 1 then x2 else x3) = a) (hb : x4 = b) : fx_Ca 188 [(46, 0), (0, x1), (0, x2), (0, x3), (0, x4)] σ (fun v τ => v = (4, 0) ∧ (∀ K o p, ¬ ((K = 52 ∧ o = 0) ∨ K = 54 ∨ (K = 46 ∧ o = 0 ∧ p = 17)) → τ K o p = σ K o p) ∧ τ 46 0 17 = ((R 9 0 0 :: ands).length : Int) ∧ fs_stk τ 54 (R 9 0 0 :: ands) ∧ fr_mn τ (fs_add R k a b)) := by
  subst hb
  obtain ⟨m0, m1, m2⟩ := h5
  have lc : ((R 9 0 0 :: ands).length : Int) = ands.length + 1 := by simp
  refine t188_0 ?_
  rw [m0, h2]
  generalize hn : R 9 0 0 = n at *
  have e0 : fx_up (fx_up (fx_up (fx_up σ 52 0 (2 + 4 * n) x1) 52 0 (2 + 4 * n + 1) x2) 52 0 (2 + 4 * n + 2) x3) 52 0 (2 + 4 * n + 3) x4 52 0 0 = n := by
    rw [fx_upJ (by omega), fx_upJ (by omega), fx_upJ (by omega), fx_upJ (by omega)]; exact m0
  rw [e0]
  refine ⟨⟨by omega, by omega⟩, ⟨by omega, by omega⟩, ⟨by omega, by omega⟩, ⟨by omega, by omega⟩, ⟨by omega, by omega⟩, ⟨by omega, by omega⟩, ⟨by omega, by omega⟩, ⟨by omega, by omega⟩, ⟨by omega, by omega⟩, ⟨by omega, by omega⟩, ⟨by omega, by omega⟩, ⟨by omega, by omega⟩, rfl, ?_⟩
  generalize hE : fx_up (fx_up (fx_up (fx_up (fx_up (fx_up (fx_up σ 52 0 (2 + 4 * n) x1) 52 0 (2 + 4 * n + 1) x2) 52 0 (2 + 4 * n + 2) x3) 52 0 (2 + 4 * n + 3) x4) 54 0 (ands.length : Int) n) 46 0 17 ((ands.length : Int) + 1)) 52 0 0 (n + 1) = τ
  have g : ∀ (K : Nat) (o p : Int), ¬ ((K = 52 ∧ o = 0 ∧ (p = 0 ∨ (2 + 4 * n ≤ p ∧ p ≤ 2 + 4 * n + 3))) ∨ (K = 54 ∧ o = 0 ∧ p = ands.length) ∨ (K = 46 ∧ o = 0 ∧ p = 17)) → τ K o p = σ K o p := fun K o p hK => by rw [← hE, fx_upE, if_neg (by omega), fx_upE, if_neg (by omega), fx_upE, if_neg (by omega), fx_upE, if_neg (by omega), fx_upE, if_neg (by omega), fx_upE, if_neg (by omega), fx_upE, if_neg (by omega)]
  have ar := fun j => fs_add_r (R := R) (k := k) (a := a) (b := x4) (j := j)
  rw [hn] at ar
  refine ⟨fun K o p hK => g K o p (by omega), ?_, ⟨?_, fs_stk_k h4 (fun j _ _ => g 54 0 j (by omega))⟩, ?_, ?_, fun j j0 j1 => ?_⟩
  · rw [← hE, fx_upK rfl, fx_upS]; exact lc.symm
  · rw [← hE, fx_upK rfl, fx_upK rfl, fx_upS]
  · rw [(ar 0).1.1, ← hE, fx_upS]
  · rw [(ar 0).1.2, g 52 0 1 (by omega)]; exact m1
  · rw [(ar 0).1.1] at j1
    by_cases e : j = n
    · rw [e, (ar 0).2.1.1, (ar 0).2.1.2.1, (ar 0).2.1.2.2]
      have q0 : τ 52 0 (2 + 4 * n) = x1 := by rw [← hE, fx_upJ (by omega), fx_upK rfl, fx_upK rfl, fx_upJ (by omega), fx_upJ (by omega), fx_upJ (by omega), fx_upS]
      have q1 : τ 52 0 (2 + 4 * n + 1) = x2 := by rw [← hE, fx_upJ (by omega), fx_upK rfl, fx_upK rfl, fx_upJ (by omega), fx_upJ (by omega), fx_upS]
      have q2 : τ 52 0 (2 + 4 * n + 2) = x3 := by rw [← hE, fx_upJ (by omega), fx_upK rfl, fx_upK rfl, fx_upJ (by omega), fx_upS]
      have q3 : τ 52 0 (2 + 4 * n + 3) = x4 := by rw [← hE, fx_upJ (by omega), fx_upK rfl, fx_upK rfl, fx_upS]
      rw [q0, q1, q2, q3]
      exact ⟨hk, hx, rfl⟩
    · rw [((ar j).2.2 e).1, ((ar j).2.2 e).2.1, ((ar j).2.2 e).2.2, g 52 0 _ (by omega), g 52 0 _ (by omega), g 52 0 _ (by omega), g 52 0 _ (by omega)]
      exact m2 j j0 (by omega)
theorem fr_cd_k {op : Int} (h : fs_iso op = true) : fr_cd op = op - 4 ∧ fs_kd (fr_cd op) = op ∧ ¬ fr_cd op ≤ 1 ∧ fr_cd op ≠ 20 := by
  have hi := fs_iso_r h
  have e : fr_cd op = op - 4 := if_neg (by omega)
  refine ⟨e, ?_, by omega, by omega⟩
  rw [e]
  unfold fs_kd
  rw [if_neg (by omega), if_neg (by omega), if_pos (by omega)]; omega
theorem c189 {op r l : Int} {ops ands : List Int} {R : fx_S} (h : fr_ms σ (op :: ops) (r :: l :: ands) R) (hv : fr_iv (r :: l :: ands) R) (hop : fs_iso op = true) (ho : (op :: ops).length ≤ 16) : fx_Ca 189 [(46, 0)] σ (fun v τ => v = (4, 0) ∧ fr_h σ τ ∧ fr_ms τ ops (R 9 0 0 :: ands) (fs_add R op l r) ∧ fr_iv (R 9 0 0 :: ands) (fs_add R op l r)) := by
  obtain ⟨h1, h2, h3, h4, h5⟩ := h
  have hal := fr_ands hv
  obtain ⟨v1, v2, v3, v4⟩ := hv
  have l1 : ((op :: ops).length : Int) = ops.length + 1 := by simp
  have l2 : ((r :: l :: ands).length : Int) = ands.length + 2 := by simp; omega
  rw [l1] at h1
  rw [l2] at h2 v2
  have ho : (ops.length : Int) + 1 ≤ 16 := by have := Int.ofNat_le.mpr ho; rw [l1] at this; exact this
  have ha' : (ands.length : Int) + 2 ≤ 12 := by have := Int.ofNat_le.mpr hal; rw [l2] at this; exact this
  obtain ⟨c1, c2, c3, c4⟩ := fr_cd_k hop
  have s1 : σ 53 0 (ops.length : Int) = fr_cd op := by have := h3.1; simpa using this
  have s2 : σ 54 0 ((ands.length : Int) + 1) = r := by have := h4.1; simpa using this
  have s3 : σ 54 0 (ands.length : Int) = l := h4.2.1
  refine t189_0 ?_
  rw [h1, h2, show (ops.length : Int) + 1 - 1 = ops.length by omega, show (ands.length : Int) + 2 - 2 = ands.length by omega, s1, s2, s3]
  refine ⟨⟨by omega, by omega⟩, ⟨by omega, by omega⟩, ⟨by omega, by omega⟩, ⟨by omega, by omega⟩, ⟨by omega, by omega⟩, ⟨by omega, by omega⟩, ?_⟩
  generalize hE : fx_up (fx_up σ 46 0 15 (ops.length : Int)) 46 0 17 (ands.length : Int) = ρ
  have g : ∀ (K : Nat) (o p : Int), ¬ (K = 46 ∧ o = 0 ∧ (p = 15 ∨ p = 17)) → ρ K o p = σ K o p := fun K o p hK => by rw [← hE, fx_upE, if_neg (by omega), fx_upE, if_neg (by omega)]
  refine fx_CV_of (c188 (σ := ρ) (ands := ands) (R := R) (k := op) (a := l) (b := r) (by rw [← hE, fx_upS]) (fs_stk_k h4.2.2 (fun j _ _ => g 54 0 j (by omega))) (h5.k (fun p => g 52 0 p (by omega))) v1 (by omega) (by omega) c2 (if_neg c3) rfl) ?_
  rintro v τ ⟨rfl, k1, k2, k3, k4⟩
  have ar := fs_add_r (R := R) (k := op) (a := l) (b := r) (j := 0)
  refine Or.inl ⟨rfl, rfl, fun K o p hK => ?_, ⟨?_, k2, ?_, k3, k4⟩, by rw [ar.1.1]; omega, ?_, by rw [ar.1.2]; omega, by rw [ar.1.1, ar.1.2]; omega⟩
  · rw [k1 K o p (by omega)]; exact g K o p (by omega)
  · rw [k1 46 0 15 (by omega), ← hE, fx_upJ (by omega), fx_upS]
  · exact fs_stk_k h3.2 (fun j _ _ => by rw [k1 53 0 j (by omega)]; exact g 53 0 j (by omega))
  · rw [ar.1.1, ar.1.2]
    have : ((R 9 0 0 :: ands).length : Int) = ands.length + 1 := by simp
    omega
theorem c190 {x : Int} (h : x = 4 ∨ fs_iso x = true) : fx_Rt 190 [(0, fr_cd x)] σ (0, if x = 4 then 0 else fs_prec x) σ := by
  rcases h with rfl | h
  · rw [show fr_cd 4 = 20 from rfl, if_pos rfl]
    exact t190_0 ⟨fun a => absurd rfl a, fun _ => ⟨rfl, rfl⟩⟩
  · have hi := fs_iso_r h
    obtain ⟨c1, c2, c3, c4⟩ := fr_cd_k h
    rw [if_neg (by omega), c1]
    unfold fs_prec
    exact t190_0 ⟨fun _ => ⟨fun a => ⟨by rw [if_neg (by omega)], rfl⟩, fun a => ⟨by rw [if_pos (by omega)], rfl⟩⟩, fun a => by omega⟩
/-- a sign put on, after those at least as strong are done -/
theorem c191 {k : Int} (hk : fs_iso k = true) : ∀ (ops ands : List Int) (R σ : fx_S), fr_ms σ ops ands R → fr_iv ands R → fr_oo ops → (ops.length : Int) - fr_c4 ops + 1 = ands.length → ops.length ≤ 15 → fx_Wp 191 0 [(46, 0), (0, fr_cd k)] [] σ (fun v τ => v = (4, 0) ∧ fr_h σ τ ∧ fr_ms τ (k :: (fs_red (fs_prec k) ops ands R).1) (fs_red (fs_prec k) ops ands R).2.1 (fs_red (fs_prec k) ops ands R).2.2 ∧ fr_iv (fs_red (fs_prec k) ops ands R).2.1 (fs_red (fs_prec k) ops ands R).2.2) := by
  have push : ∀ (ops ands : List Int) (R σ : fx_S), fr_ms σ ops ands R → ops.length ≤ 15 → (0 ≤ (σ 46 0 15) ∧ (σ 46 0 15) < 40) ∧ (fx_rg ((σ 46 0 15) + 1)) ∧ (fr_h σ (fx_up (fx_up σ 53 0 (σ 46 0 15) (fr_cd k)) 46 0 15 ((σ 46 0 15) + 1)) ∧ fr_ms (fx_up (fx_up σ 53 0 (σ 46 0 15) (fr_cd k)) 46 0 15 ((σ 46 0 15) + 1)) (k :: ops) ands R) := by
    intro ops ands R σ h hl
    obtain ⟨h1, h2, h3, h4, h5⟩ := h
    rw [h1]
    refine ⟨⟨by omega, by omega⟩, ⟨by omega, by omega⟩, ?_⟩
    generalize hE : fx_up (fx_up σ 53 0 (ops.length : Int) (fr_cd k)) 46 0 15 ((ops.length : Int) + 1) = τ
    have g : ∀ (K : Nat) (o p : Int), ¬ ((K = 46 ∧ o = 0 ∧ p = 15) ∨ (K = 53 ∧ o = 0 ∧ p = ops.length)) → τ K o p = σ K o p := fun K o p hK => by rw [← hE, fx_upE, if_neg (by omega), fx_upE, if_neg (by omega)]
    refine ⟨fun K o p hK => g K o p (by omega), ?_, ?_, ⟨?_, fs_stk_k h3 (fun j j0 j1 => g 53 0 j (by simp at j1; omega))⟩, fs_stk_k h4 (fun j _ _ => g 54 0 j (by omega)), h5.k (fun p => g 52 0 p (by omega))⟩
    · rw [← hE, fx_upS]; simp
    · rw [g 46 0 17 (by omega)]; exact h2
    · rw [← hE, fx_upK rfl]; simp [fx_upS]
  intro ops
  induction ops with
  | nil =>
    intro ands R σ h hv ho hl hlen
    have e : fs_red (fs_prec k) [] ands R = ([], ands, R) := rfl
    rw [e]
    have p := push [] ands R σ h (by simp)
    refine t191_0 ⟨fun a => ⟨p.1, p.2.1, rfl, p.2.2.1, p.2.2.2, hv⟩, fun a => ?_⟩
    rw [h.1] at a
    simp at a
  | cons op ops ih =>
    intro ands R σ h hv ho hl hlen
    have p := push (op :: ops) ands R σ h hlen
    have l1 : ((op :: ops).length : Int) = ops.length + 1 := by simp
    have s1 : σ 53 0 (ops.length : Int) = fr_cd op := by have := h.2.2.1.1; simpa using this
    have hpk := @fs_prec_r k
    have hk4 : ¬ k = 4 := by have := fs_iso_r hk; omega
    refine t191_0 ?_
    rw [h.1, l1, show (ops.length : Int) + 1 - 1 = ops.length by omega, s1]
    rw [h.1, l1] at p
    refine ⟨fun a => by omega, fun _ => ⟨⟨by omega, by omega⟩, ⟨by omega, by omega⟩, (c190 (ho.2.elim Or.inl (fun z => Or.inr z.1))).I ((c190 (Or.inr hk)).I ?_)⟩⟩
    rw [if_neg hk4, h.1, l1]
    refine ⟨fun a => ?_, fun a => ?_⟩
    · have e : fs_red (fs_prec k) (op :: ops) ands R = (op :: ops, ands, R) := by
        cases ands with
        | nil => rfl
        | cons r ands =>
          cases ands with
          | nil => rfl
          | cons l ands =>
            rw [fs_red, if_neg ?_]
            intro z
            have hz : fs_iso op = true := by revert z; cases fs_iso op <;> simp
            have := fs_iso_r hz
            rw [if_neg (by omega)] at a
            rw [hz] at z
            simp at z
            omega
      rw [e]
      exact ⟨p.1, p.2.1, rfl, p.2.2.1, p.2.2.2, hv⟩
    · have h4 : ¬ op = 4 := fun z => by rw [if_pos z] at a; omega
      rw [if_neg h4] at a
      have hop : fs_iso op = true := (ho.2.resolve_left h4).1
      rw [l1, fr_c4, if_neg h4] at hl
      have hc4 := fr_c4_r ops
      cases ands with
      | nil => simp at hl; omega
      | cons r ands =>
        cases ands with
        | nil => simp at hl; omega
        | cons l ands =>
          have e : fs_red (fs_prec k) (op :: ops) (r :: l :: ands) R = fs_red (fs_prec k) ops (R 9 0 0 :: ands) (fs_add R op l r) := by rw [fs_red, hop, decide_eq_true a]; rfl
          rw [e]
          refine fx_CV_of (c189 h hv hop (by omega)) ?_
          rintro v τ ⟨rfl, k1, k2, k3⟩
          refine Or.inl ⟨rfl, fx_Wp.mono (ih (R 9 0 0 :: ands) (fs_add R op l r) τ k2 k3 ho.1 (by simp at hl ⊢; omega) (by simp at hlen; omega)) ?_⟩
          rintro v ρ ⟨q1, q2, q3⟩
          exact ⟨q1, k1.trans q2, q3⟩
end FXRO
