def fr_at (τ : fx_S) (T : Int → Int) (N : Int) (i : Nat) : Prop := ∃ c, τ 46 0 11 = c ∧ 0 ≤ c ∧ c ≤ N ∧ fs_rn fs_spc T N c = fs_a T N i
/-- frame of the reference's rule -/
def fr_g (σ τ : fx_S) : Prop := ∀ K o p, ¬ (K = 52 ∨ K = 53 ∨ K = 54 ∨ (K = 46 ∧ o = 0 ∧ (p = 11 ∨ p = 12 ∨ p = 15 ∨ p = 17 ∨ p = 18))) → τ K o p = σ K o p
theorem fr_g.rfl {σ : fx_S} : fr_g σ σ := fun _ _ _ _ => Eq.refl _
theorem fr_g.trans {σ τ ρ : fx_S} (h : fr_g σ τ) (g : fr_g τ ρ) : fr_g σ ρ := fun K o p hK => (g K o p hK).trans (h K o p hK)
theorem fs_rp.g {σ τ : fx_S} {c f : Int} (h : fs_rp σ τ c f) : fr_g σ τ := fun K o p hK => h.1 K o p (by omega)
theorem fr_h.g {σ τ : fx_S} (h : fr_h σ τ) : fr_g σ τ := fun K o p hK => h K o p (by omega)
theorem fr_g.tp {σ τ : fx_S} {T : Int → Int} {N : Int} (h : fr_g σ τ) (g : fs_tp σ T N) : fs_tp τ T N := ⟨g.1, (h 46 0 10 (by omega)).trans g.2.1, fun j a b => (h 51 0 j (by omega)).trans (g.2.2 j a b)⟩
section FXRA
variable {T : Int → Int} {N t : Int} {m : Nat}
theorem fs_te_r {p : Int} (h : p ≤ N) : p ≤ fs_te T N p ∧ fs_te T N p ≤ N := by
  have a := fs_rn_r (P := fs_let) (T := T) h
  have b := fs_rn_r (P := fs_dig) (T := T) h
  unfold fs_te
  by_cases z : N ≤ p
  · rw [if_pos z]; omega
  · rw [if_neg z]
    split
    · omega
    · split <;> omega
theorem fs_a_r (hN : 0 ≤ N) : ∀ i : Nat, 0 ≤ fs_a T N i ∧ fs_a T N i ≤ N
  | 0 => by have := fs_rn_r (P := fs_spc) (T := T) hN; rw [fs_a]; omega
  | i + 1 => by
    have ih := fs_a_r hN i
    have a := fs_te_r (T := T) ih.2
    have b := fs_rn_r (P := fs_spc) (T := T) a.2
    rw [fs_a]; omega
theorem fs_a_s (hN : 0 ≤ N) (i : Nat) : fs_rn fs_spc T N (fs_a T N i) = fs_a T N i := by
  have ih := fs_a_r (T := T) hN i
  cases i with
  | zero => exact fs_rn_i hN
  | succ i => exact fs_rn_i (fs_te_r (T := T) (fs_a_r (T := T) hN i).2).2
theorem fr_at_y {σ τ : fx_S} {f : Int} {i : Nat} (hN : 0 ≤ N) (h : fs_rp σ τ (fs_te T N (fs_a T N i)) f) : fr_at τ T N (i + 1) := by
  have a := fs_a_r (T := T) hN i
  have b := fs_te_r (T := T) a.2
  exact ⟨_, h.2.1, by omega, b.2, rfl⟩
theorem fr_at_n {σ τ : fx_S} {f : Int} {i : Nat} (hN : 0 ≤ N) (h : fs_rp σ τ (fs_a T N i) f) : fr_at τ T N i := by
  have a := fs_a_r (T := T) hN i
  exact ⟨_, h.2.1, a.1, a.2, fs_a_s hN i⟩
theorem fr_at.k {σ τ : fx_S} {i : Nat} (h : fr_at σ T N i) (g : τ 46 0 11 = σ 46 0 11) : fr_at τ T N i := by
  obtain ⟨c, a, b⟩ := h
  exact ⟨c, g.trans a, b⟩
theorem fr_K_M (h : fs_a T N m = N) {j : Nat} (hj : fr_K T N j ≠ 0) : j < m := by
  apply Classical.byContradiction
  intro z
  exact hj (fr_K_0 h (by omega))
theorem fs_nm_0 : ∀ (n : Nat) (p x : Int), 0 ≤ x → (∀ k, p ≤ k → k < p + n → 48 ≤ T k) → 0 ≤ fs_nm T p n x
  | 0, p, x, h, _ => h
  | n + 1, p, x, h, hk => by
    have := hk p (by omega) (by omega)
    rw [fs_nm]
    exact fs_nm_0 n (p + 1) _ (by omega) (fun k a b => hk k (by omega) (by omega))
theorem fr_V_0 (hN : 0 ≤ N) (i : Nat) : 0 ≤ fr_V T N i := by
  have a := fs_a_r (T := T) hN i
  have b := fs_rn_r (P := fs_dig) (T := T) a.2
  refine fs_nm_0 _ _ _ (by omega) (fun k k0 k1 => ?_)
  have := b.2.2.2 k k0 (by omega)
  unfold fs_dig at this
  simp only [Bool.and_eq_true, decide_eq_true_eq] at this
  omega
/-- the calls, at token i -/
theorem r181 {σ : fx_S} {i : Nat} (h : fs_tp σ T N) (ha : fr_at σ T N i) : fx_Ca 181 [(46, 0)] σ (fun v τ => v = (0, fs_a T N i) ∧ fs_rp σ τ (fs_a T N i) (σ 46 0 12)) := by
  obtain ⟨c, a1, a2, a3, a4⟩ := ha
  have := c181 h a1 a2 a3
  rw [a4] at this
  exact this
theorem r183 {σ : fx_S} {i o : Nat} (ho : o < 17) (h : fs_tp σ T N) (hf : σ 46 0 12 = -1) (ha : fr_at σ T N i) : fx_Ca 183 [(46, 0), (62, (o : Int))] σ (fun v τ => (fr_K T N i = fs_wk o ∧ v = (0, 1) ∧ fs_rp σ τ (fs_te T N (fs_a T N i)) (-1)) ∨ (fr_K T N i ≠ fs_wk o ∧ v = (0, 0) ∧ fs_rp σ τ (fs_a T N i) (-1))) := by
  obtain ⟨c, a1, a2, a3, a4⟩ := ha
  have := c183 ho h a1 a2 a3
  rw [a4] at this
  refine fx_Wp.mono this ?_
  rintro v τ (⟨-, g2, g3, g4⟩ | ⟨g2, g3, g4⟩)
  · exact Or.inl ⟨g2, g3, g4⟩
  · rw [hf] at g4
    exact Or.inr ⟨fun z => g2 ⟨hf, z⟩, g3, g4⟩
theorem r185 {σ : fx_S} {i : Nat} {x : Int} (hx : x = 40 ∨ x = 41 ∨ x = 43 ∨ x = 45 ∨ x = 59) (h : fs_tp σ T N) (hf : σ 46 0 12 = -1) (ha : fr_at σ T N i) : fx_Ca 185 [(46, 0), (0, x)] σ (fun v τ => (fr_K T N i = fs_sy x ∧ v = (0, 1) ∧ fs_rp σ τ (fs_te T N (fs_a T N i)) (-1)) ∨ (fr_K T N i ≠ fs_sy x ∧ v = (0, 0) ∧ fs_rp σ τ (fs_a T N i) (-1))) := by
  obtain ⟨c, a1, a2, a3, a4⟩ := ha
  have := c185 hx h a1 a2 a3
  rw [a4] at this
  refine fx_Wp.mono this ?_
  rintro v τ (⟨g1, -⟩ | ⟨-, g2, g3, g4⟩ | ⟨-, g2, g3, g4⟩)
  · exact absurd hf g1
  · exact Or.inl ⟨g2, g3, g4⟩
  · exact Or.inr ⟨g2, g3, g4⟩
theorem r187 {σ : fx_S} {i : Nat} {lo hi : Int} (h : fs_tp σ T N) (hf : σ 46 0 12 = -1) (ha : fr_at σ T N i) : fx_Ca 187 [(46, 0), (0, lo), (0, hi)] σ (fun v τ => ((fr_K T N i = 1 ∧ lo ≤ fr_V T N i ∧ fr_V T N i ≤ hi) ∧ v = (0, fr_V T N i) ∧ fs_rp σ τ (fs_te T N (fs_a T N i)) (-1)) ∨ (¬ (fr_K T N i = 1 ∧ lo ≤ fr_V T N i ∧ fr_V T N i ≤ hi) ∧ ∃ y c', v = (0, y) ∧ (0 ≤ c' ∧ c' ≤ N) ∧ fs_rp σ τ c' (fs_a T N i))) := by
  obtain ⟨c, a1, a2, a3, a4⟩ := ha
  have := c187 (lo := lo) (hi := hi) h a1 a2 a3
  rw [a4] at this
  refine fx_Wp.mono this ?_
  rintro v τ (⟨g1, -⟩ | ⟨-, g2, g3, g4⟩ | ⟨-, g2, g3⟩)
  · exact absurd hf g1
  · exact Or.inl ⟨g2, g3, g4⟩
  · exact Or.inr ⟨g2, g3⟩
theorem r187f {σ : fx_S} {lo hi : Int} (hf : σ 46 0 12 ≠ -1) : fx_Rt 187 [(46, 0), (0, lo), (0, hi)] σ (0, 0) σ := t187_0 ⟨fun a => absurd a hf, fun _ => ⟨rfl, rfl⟩⟩
theorem r186 {σ : fx_S} {i : Nat} (h : fs_tp σ T N) (hf : σ 46 0 12 = -1) (ha : fr_at σ T N i) : fx_Ca 186 [(46, 0)] σ (fun v τ => ∃ b : Bool, v = (0, fs_b b) ∧ (b = false → fr_K T N i ≠ 1) ∧ fs_rp σ τ (fs_a T N i) (-1)) := by
  have hN := h.1.1
  have har := fs_a_r (T := T) hN i
  refine t186_0 (fx_CI_of (r181 h ha) ?_)
  rintro v τ ⟨rfl, hr⟩
  rw [hf] at hr
  have htp := hr.tp h
  have k1 := fs_tk_1 (T := T) har.2
  rw [htp.2.1, hr.2.1]
  refine Or.inl ⟨rfl, fun a => ⟨false, rfl, fun _ z => ?_, hr⟩, fun a => ?_⟩
  · have := k1.mp z
    rw [fs_rn_e a] at this; omega
  · rw [htp.2.2 _ har.1 a]
    refine ⟨⟨by omega, by have := h.1; omega⟩, c149.I ?_⟩
    have e : (decide (48 ≤ T (fs_a T N i)) && decide (T (fs_a T N i) ≤ 57)) = fs_dig (T (fs_a T N i)) := rfl
    rw [e]
    refine ⟨fun b => ⟨false, rfl, fun _ z => ?_, hr⟩, fun b => ⟨true, rfl, fun z => absurd z (by decide), hr⟩⟩
    have := k1.mp z
    rw [fs_rn_n (fs_b0.mp b)] at this; omega
theorem fr_wk : fs_wk 8 = 13 ∧ fs_wk 9 = 8 ∧ fs_wk 10 = 9 ∧ fs_wk 11 = 10 ∧ fs_wk 12 = 11 ∧ fs_wk 13 = 12 := ⟨rfl, rfl, rfl, rfl, rfl, rfl⟩
theorem r194 {σ : fx_S} {i : Nat} (h : fs_tp σ T N) (hf : σ 46 0 12 = -1) (ha : fr_at σ T N i) : fx_Ca 194 [(46, 0)] σ (fun v τ => (fs_iso (fr_K T N i) = true ∧ v = (0, fr_cd (fr_K T N i)) ∧ fs_rp σ τ (fs_te T N (fs_a T N i)) (-1)) ∨ (¬ fs_iso (fr_K T N i) = true ∧ v = (0, -1) ∧ fs_rp σ τ (fs_a T N i) (-1))) := by
  have hN := h.1.1
  have yes : ∀ (k y : Int) (ρ : fx_S), fr_K T N i = k → fs_iso k = true → fr_cd k = y → fs_rp σ ρ (fs_te T N (fs_a T N i)) (-1) → (fs_iso (fr_K T N i) = true ∧ ((0, y) : fx_V) = (0, fr_cd (fr_K T N i)) ∧ fs_rp σ ρ (fs_te T N (fs_a T N i)) (-1)) ∨ (¬ fs_iso (fr_K T N i) = true ∧ ((0, y) : fx_V) = (0, -1) ∧ fs_rp σ ρ (fs_a T N i) (-1)) := by
    intro k y ρ h1 h2 h3 h4
    rw [h1]
    exact Or.inl ⟨h2, by rw [h3], h4⟩
  refine t194_0 (fx_CI_of (r185 (by omega) h hf ha) ?_)
  rintro v τ (⟨k, rfl, r⟩ | ⟨n6, rfl, r⟩)
  · exact Or.inl ⟨rfl, fun z => absurd z (by decide), fun _ => yes 6 2 τ k rfl rfl r⟩
  refine Or.inl ⟨rfl, fun _ => fx_CI_of (r185 (by omega) (r.tp h) r.2.2 (fr_at_n hN r)) ?_, fun z => absurd rfl z⟩
  rintro v τ2 (⟨k, rfl, r2⟩ | ⟨n7, rfl, r2⟩)
  · exact Or.inl ⟨rfl, fun z => absurd z (by decide), fun _ => yes 7 3 τ2 k rfl rfl (r.trans r2)⟩
  have r2 := r.trans r2
  refine Or.inl ⟨rfl, fun _ => fx_CI_of (r183 (o := 9) (by omega) (r2.tp h) r2.2.2 (fr_at_n hN r2)) ?_, fun z => absurd rfl z⟩
  rintro v τ3 (⟨k, rfl, r3⟩ | ⟨n8, rfl, r3⟩)
  · exact Or.inl ⟨rfl, fun z => absurd z (by decide), fun _ => yes 8 4 τ3 k rfl rfl (r2.trans r3)⟩
  have r3 := r2.trans r3
  refine Or.inl ⟨rfl, fun _ => fx_CI_of (r183 (o := 10) (by omega) (r3.tp h) r3.2.2 (fr_at_n hN r3)) ?_, fun z => absurd rfl z⟩
  rintro v τ4 (⟨k, rfl, r4⟩ | ⟨n9, rfl, r4⟩)
  · exact Or.inl ⟨rfl, fun z => absurd z (by decide), fun _ => yes 9 5 τ4 k rfl rfl (r3.trans r4)⟩
  have r4 := r3.trans r4
  refine Or.inl ⟨rfl, fun _ => fx_CI_of (r183 (o := 11) (by omega) (r4.tp h) r4.2.2 (fr_at_n hN r4)) ?_, fun z => absurd rfl z⟩
  rintro v τ5 (⟨k, rfl, r5⟩ | ⟨n10, rfl, r5⟩)
  · exact Or.inl ⟨rfl, fun z => absurd z (by decide), fun _ => yes 10 6 τ5 k rfl rfl (r4.trans r5)⟩
  have r5 := r4.trans r5
  refine Or.inl ⟨rfl, fun _ => fx_CI_of (r183 (o := 12) (by omega) (r5.tp h) r5.2.2 (fr_at_n hN r5)) ?_, fun z => absurd rfl z⟩
  rintro v τ6 (⟨k, rfl, r6⟩ | ⟨n11, rfl, r6⟩)
  · exact Or.inl ⟨rfl, fun z => absurd z (by decide), fun _ => yes 11 7 τ6 k rfl rfl (r5.trans r6)⟩
  have r6 := r5.trans r6
  refine Or.inl ⟨rfl, fun _ => fx_CI_of (r183 (o := 13) (by omega) (r6.tp h) r6.2.2 (fr_at_n hN r6)) ?_, fun z => absurd rfl z⟩
  rintro v τ7 (⟨k, rfl, r7⟩ | ⟨n12, rfl, r7⟩)
  · exact Or.inl ⟨rfl, fun z => absurd z (by decide), fun _ => yes 12 8 τ7 k rfl rfl (r6.trans r7)⟩
  have r7 := r6.trans r7
  refine Or.inl ⟨rfl, fun _ => Or.inr ⟨fun z => ?_, rfl, r7⟩, fun z => absurd rfl z⟩
  have hi := fs_iso_r z
  have w := fr_wk
  have s1 : fs_sy 43 = 6 := rfl
  have s2 : fs_sy 45 = 7 := rfl
  omega
/-- what holds within a rule, reference -/
def fr_J (τ : fx_S) (T : Int → Int) (N : Int) (x : Bool) (i : Nat) (d : Int) (ops ands : List Int) (R : fx_S) : Prop := fr_ms τ ops ands R ∧ fr_iv ands R ∧ fr_oo ops ∧ d = fr_c4 ops ∧ d ≤ 4 ∧ (ops.length : Int) - d + (if x then 0 else 1) = ands.length ∧ τ 46 0 18 = d ∧ τ 46 0 12 = -1 ∧ fr_at τ T N i
theorem fr_ms.k {τ ρ R : fx_S} {ops ands : List Int} (h : fr_ms τ ops ands R) (g : ∀ K o p, (52 ≤ K ∧ K ≤ 54) ∨ (K = 46 ∧ o = 0 ∧ (p = 15 ∨ p = 17)) → ρ K o p = τ K o p) : fr_ms ρ ops ands R := by
  obtain ⟨a, b, c, d, e⟩ := h
  exact ⟨(g 46 0 15 (by omega)).trans a, (g 46 0 17 (by omega)).trans b, fs_stk_k c (fun j _ _ => g 53 0 j (by omega)), fs_stk_k d (fun j _ _ => g 54 0 j (by omega)), e.k (fun p => g 52 0 p (by omega))⟩
/-- a closing sign: all up to its opening one is done -/
theorem r195a {Q : fx_V → fx_S → Prop} : ∀ (ops ands : List Int) (R σ : fx_S), fr_ms σ ops ands R → fr_iv ands R → fr_oo ops → (ops.length : Int) - fr_c4 ops + 1 = ands.length → 0 < fr_c4 ops → fr_c4 ops ≤ 4 → σ 46 0 18 = fr_c4 ops → (∀ τ, (∀ K o p, ¬ (K = 52 ∨ K = 53 ∨ K = 54 ∨ (K = 46 ∧ o = 0 ∧ (p = 15 ∨ p = 17 ∨ p = 18))) → τ K o p = σ K o p) → fr_ms τ (fs_red 0 ops ands R).1.tail (fs_red 0 ops ands R).2.1 (fs_red 0 ops ands R).2.2 → fr_iv (fs_red 0 ops ands R).2.1 (fs_red 0 ops ands R).2.2 → τ 46 0 18 = fr_c4 ops - 1 → fx_Wp 195 0 [(46, 0)] [] τ Q) → fx_Wp 195 16 [(46, 0)] [] σ Q
  | [], ands, R, σ, h, hv, ho, hl, hd, hd4, h18, k => by rw [fr_c4] at hd; omega
  | op :: ops, ands, R, σ, h, hv, ho, hl, hd, hd4, h18, k => by
    have hol := fr_oo_l (op :: ops) ho
    have hph := fr_phi_r (op :: ops)
    have l1 : ((op :: ops).length : Int) = ops.length + 1 := by simp
    have s1 : σ 53 0 (ops.length : Int) = fr_cd op := by have := h.2.2.1.1; simpa using this
    have hc4 := fr_c4_r ops
    refine t195_16 ?_
    rw [h.1, l1, show (ops.length : Int) + 1 - 1 = ops.length by omega, s1, h18]
    refine ⟨⟨by omega, by omega⟩, ⟨by omega, by omega⟩, fun a => ⟨⟨by omega, by omega⟩, ?_⟩, fun a => ?_⟩
    · have x4 : op = 4 := by
        rcases ho.2 with z | ⟨z, -⟩
        · exact z
        · exact absurd a (fr_cd_k z).2.2.2
      subst x4
      have e : fs_red 0 (4 :: ops) ands R = (4 :: ops, ands, R) := by
        cases ands with
        | nil => rfl
        | cons r ands =>
          cases ands with
          | nil => rfl
          | cons l ands => rw [fs_red, if_neg (by decide)]
      rw [e] at k
      generalize hE : fx_up (fx_up σ 46 0 15 (ops.length : Int)) 46 0 18 (fr_c4 (4 :: ops) - 1) = τ
      have g : ∀ (K : Nat) (o p : Int), ¬ (K = 46 ∧ o = 0 ∧ (p = 15 ∨ p = 18)) → τ K o p = σ K o p := fun K o p hK => by rw [← hE, fx_upE, if_neg (by omega), fx_upE, if_neg (by omega)]
      obtain ⟨b1, b2, b3, b4, b5⟩ := h
      refine k τ (fun K o p hK => g K o p (by omega)) ⟨?_, (g 46 0 17 (by omega)).trans b2, fs_stk_k b3.2 (fun j _ _ => g 53 0 j (by omega)), fs_stk_k b4 (fun j _ _ => g 54 0 j (by omega)), b5.k (fun p => g 52 0 p (by omega))⟩ hv ?_
      · rw [← hE, fx_upJ (by omega), fx_upS]; rfl
      · rw [← hE, fx_upS]
    · have n4 : ¬ op = 4 := fun z => a (by rw [z]; rfl)
      have hop : fs_iso op = true := (ho.2.resolve_left n4).1
      rw [l1, fr_c4, if_neg n4] at hl
      cases ands with
      | nil => simp at hl; omega
      | cons r ands =>
        cases ands with
        | nil => simp at hl; omega
        | cons l ands =>
          have hpr := @fs_prec_r op
          have e : fs_red 0 (op :: ops) (r :: l :: ands) R = fs_red 0 ops (R 9 0 0 :: ands) (fs_add R op l r) := by rw [fs_red, hop, decide_eq_true (by omega : (0 : Int) ≤ fs_prec op)]; rfl
          rw [e] at k
          have e4 : fr_c4 (op :: ops) = fr_c4 ops := by rw [fr_c4, if_neg n4]; omega
          rw [e4] at k h18 hd hd4 hol
          refine fx_CV_of (c189 h hv hop (by have := l1; omega)) ?_
          rintro v τ ⟨rfl, k1, k2, k3⟩
          refine Or.inl ⟨rfl, r195a ops (R 9 0 0 :: ands) (fs_add R op l r) τ k2 k3 ho.1 (by simp at hl ⊢; omega) hd hd4 ((k1 46 0 18 (by omega)).trans h18) (fun ρ q1 q2 q3 q4 => k ρ (fun K o p hK => by rw [q1 K o p hK]; exact k1 K o p (by omega)) q2 q3 q4)⟩
theorem r195 : ∀ (n i : Nat) (d : Int) (ops ands : List Int) (R σ : fx_S), fs_tp σ T N → fs_a T N m = N → i ≤ m → m + 1 ≤ n + i → fr_J σ T N false i d ops ands R → fx_Wp 195 0 [(46, 0)] [] σ (fun v τ => v = (4, 0) ∧ fr_g σ τ ∧ ∃ (n' i' : Nat) (d' : Int) (ops' ands' : List Int) (R' : fx_S), fs_pr T N t n false i d ops ands R = fs_pr T N t n' false i' d' ops' ands' R' ∧ (i ≤ i' ∧ i' ≤ m) ∧ m + 1 ≤ n' + i' ∧ fr_J τ T N false i' d' ops' ands' R' ∧ ¬ (fr_K T N i' = 5 ∧ 0 < d'))
  | 0, i, d, ops, ands, R, σ, h, hm, hi, hn, hJ => by omega
  | n + 1, i, d, ops, ands, R, σ, h, hm, hi, hn, hJ => by
    have hN := h.1.1
    have hJ0 := hJ
    obtain ⟨j1, j2, j3, j4, j5, j6, j7, j8, j9⟩ := hJ
    refine t195_0 ?_
    rw [j7]
    refine ⟨fun a => ⟨rfl, fr_g.rfl, n + 1, i, d, ops, ands, R, rfl, ⟨Nat.le_refl _, hi⟩, hn, hJ0, fun z => by omega⟩, fun a => fx_CI_of (r185 (by omega) h j8 j9) ?_⟩
    rintro v τ (⟨k, rfl, r⟩ | ⟨k, rfl, r⟩)
    · have k5 : fr_K T N i = 5 := k
      have him := fr_K_M hm (j := i) (by omega)
      have j6' : (ops.length : Int) - fr_c4 ops + 1 = ands.length := by rw [← j4]; simpa using j6
      obtain ⟨q1, q2, q3, q4, q5, q6⟩ := fs_red_p (y := 0) ops ands R j3 j6'
      refine Or.inl ⟨rfl, fun z => absurd z (by decide), fun _ => r195a ops ands R τ (j1.k (fun K o p hK => r.1 K o p (by omega))) j2 j3 j6' (by omega) (by omega) (by rw [r.1 46 0 18 (by omega), j7, j4]) (fun ρ g1 g2 g3 g4 => ?_)⟩
      have e : fs_pr T N t (n + 1) false i d ops ands R = fs_pr T N t n false (i + 1) (d - 1) (fs_red 0 ops ands R).1.tail (fs_red 0 ops ands R).2.1 (fs_red 0 ops ands R).2.2 := by rw [fs_pr, if_neg (by rw [k5]; decide), if_pos ⟨k5, a⟩]
      rw [e]
      generalize fs_red 0 ops ands R = q at *
      obtain ⟨o, a2, R2⟩ := q
      simp only at g2 g3 q1 q2 q3 q4 q5 q6 ⊢
      cases o with
      | nil => rw [fr_c4] at q2; omega
      | cons x o =>
        have x4 : x = 4 := by
          apply Classical.byContradiction
          intro z
          have := @fs_prec_r x
          rw [fr_phi, if_neg z] at q4
          omega
        subst x4
        have lo : (((4 : Int) :: o).length : Int) = o.length + 1 := by simp
        rw [fr_c4, if_pos rfl] at q2
        rw [lo] at q3
        have hg : fr_g σ ρ := r.g.trans (fun K o p hK => g1 K o p (by omega))
        refine fx_Wp.mono (r195 n (i + 1) (d - 1) o a2 R2 ρ (hg.tp h) hm (by omega) (by omega) ⟨g2, g3, q1.1, by omega, by omega, ?_, by rw [g4]; omega, by rw [g1 46 0 12 (by omega)]; exact r.2.2, (fr_at_y hN r).k (g1 46 0 11 (by omega))⟩) ?_
        · simp; omega
        · rintro v ρ2 ⟨p1, p2, p3⟩
          obtain ⟨n', i', d', o', a', R', z1, z2, z3⟩ := p3
          exact ⟨p1, hg.trans p2, n', i', d', o', a', R', z1, ⟨by omega, z2.2⟩, z3⟩
    · refine Or.inl ⟨rfl, fun _ => ⟨rfl, r.g, n + 1, i, d, ops, ands, R, rfl, ⟨Nat.le_refl _, hi⟩, hn, ⟨j1.k (fun K o p hK => r.1 K o p (by omega)), j2, j3, j4, j5, j6, (r.1 46 0 18 (by omega)).trans j7, r.2.2, fr_at_n hN r⟩, fun z => k z.1⟩, fun z => absurd rfl z⟩
end FXRA
