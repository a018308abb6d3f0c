theorem fs_eq.rfl {S : fx_S} : fs_eq S S := ⟨Eq.refl _, Eq.refl _, fun _ _ _ => ⟨Eq.refl _, Eq.refl _⟩, fun _ _ _ => ⟨Eq.refl _, Eq.refl _, Eq.refl _, Eq.refl _, Eq.refl _, Eq.refl _⟩, fun _ _ _ => ⟨Eq.refl _, Eq.refl _, fun _ _ _ => ⟨Eq.refl _, Eq.refl _, fun _ => Eq.refl _⟩⟩⟩
theorem fs_eq.symm {S T : fx_S} (h : fs_eq S T) : fs_eq T S := by
  obtain ⟨h0, h1, hs, hf, hr⟩ := h
  refine ⟨h0.symm, h1.symm, fun s a b => ?_, fun f a b => ?_, fun t a b => ?_⟩
  · have := hs s a (h0 ▸ b); exact ⟨this.1.symm, this.2.symm⟩
  · obtain ⟨a1, a2, a3, a4, a5, a6⟩ := hf f a (h1 ▸ b)
    exact ⟨a1.symm, a2.symm, a3.symm, a4.symm, a5.symm, a6.symm⟩
  · obtain ⟨a1, a2, a3⟩ := hr t a b
    refine ⟨a1.symm, a2.symm, fun k c d => ?_⟩
    obtain ⟨b1, b2, b3⟩ := a3 k c (a1 ▸ d)
    exact ⟨b1.symm, b2.symm, fun e => (b3 (b1 ▸ e)).symm⟩
theorem fs_eq.trans {S T U : fx_S} (h : fs_eq S T) (g : fs_eq T U) : fs_eq S U := by
  obtain ⟨h0, h1, hs, hf, hr⟩ := h
  obtain ⟨g0, g1, gs, gf, gr⟩ := g
  refine ⟨h0.trans g0, h1.trans g1, fun s a b => ?_, fun f a b => ?_, fun t a b => ?_⟩
  · have := hs s a b; have h2 := gs s a (h0 ▸ b); exact ⟨this.1.trans h2.1, this.2.trans h2.2⟩
  · obtain ⟨a1, a2, a3, a4, a5, a6⟩ := hf f a b
    obtain ⟨b1, b2, b3, b4, b5, b6⟩ := gf f a (h1 ▸ b)
    exact ⟨a1.trans b1, a2.trans b2, a3.trans b3, a4.trans b4, a5.trans b5, a6.trans b6⟩
  · obtain ⟨a1, a2, a3⟩ := hr t a b
    obtain ⟨c1, c2, c3⟩ := gr t a b
    refine ⟨a1.trans c1, a2.trans c2, fun k c d => ?_⟩
    obtain ⟨b1, b2, b3⟩ := a3 k c d
    obtain ⟨d1, d2, d3⟩ := c3 k c (a1 ▸ d)
    exact ⟨b1.trans d1, b2.trans d2, fun e => (b3 e).trans (d3 (b1 ▸ e))⟩
theorem fs_eq.ok {S T : fx_S} (h : fs_eq S T) (ho : fs_ok S) : fs_ok T := by
  obtain ⟨h0, h1, hs, hf, hr⟩ := h
  obtain ⟨o0, o1, os, of, orr⟩ := ho
  refine ⟨h0 ▸ o0, h1 ▸ o1, fun s a b => ?_, fun f a b => ?_, fun t a b => ?_⟩
  · have h2 := hs s a (h0 ▸ b); have h3 := os s a (h0 ▸ b); rw [← h2.1, ← h2.2]; exact h3
  · obtain ⟨a1, a2, a3, a4, a5, a6⟩ := hf f a (h1 ▸ b)
    have h3 := of f a (h1 ▸ b)
    rw [← a1, ← a2, ← a3, ← a4, ← a5, ← a6, ← h0]; exact h3
  · obtain ⟨a1, a2, a3⟩ := hr t a b
    obtain ⟨b1, b2, b3, b4⟩ := orr t a b
    rw [← a1, ← a2]
    refine ⟨b1, b2, fun k c d => ?_, b4⟩
    obtain ⟨d1, d2, d3⟩ := a3 k c d
    have := b3 k c d
    unfold fs_okn at this ⊢
    rw [← d1, ← d2]
    rcases this with h | h | h
    · exact Or.inl h
    · exact Or.inr (Or.inl h)
    · rw [← d3 h.1]; exact Or.inr (Or.inr h)
/-- what belongs to state i of class State, and that all else is as it was -/
def fs_at (i : Int) (K : Nat) (o : Int) : Prop := (o = i ∧ (K = 11 ∨ (13 ≤ K ∧ K ≤ 20))) ∨ (22 ≤ K ∧ K ≤ 25 ∧ 8 * i ≤ o ∧ o < 8 * i + 8)
def fx_bw (σ : fx_S) : Prop := ∀ o p, (σ 14 o p = 0 ∨ σ 14 o p = 1) ∧ (σ 20 o p = 0 ∨ σ 20 o p = 1)
theorem fx_bw.up {σ : fx_S} {K : Nat} {o p v : Int} (h : fx_bw σ) (hv : (K ≠ 14 ∧ K ≠ 20) ∨ v = 0 ∨ v = 1) : fx_bw (fx_up σ K o p v) := by
  intro o' p'
  have := h o' p'
  unfold fx_up
  grind
def fs_fr (i : Int) (σ σ' : fx_S) : Prop := (∀ K o p, ¬ fs_at i K o → σ' K o p = σ K o p) ∧ (fx_bw σ → fx_bw σ')
theorem fs_fr.trans {i : Int} {σ σ1 σ2 : fx_S} (h : fs_fr i σ σ1) (g : fs_fr i σ1 σ2) : fs_fr i σ σ2 := ⟨fun K o p hn => (g.1 K o p hn).trans (h.1 K o p hn), fun b => g.2 (h.2 b)⟩
theorem fs_fr.rfl {i : Int} {σ : fx_S} : fs_fr i σ σ := ⟨fun _ _ _ _ => Eq.refl _, id⟩
theorem fs_fr.up {i : Int} {σ σ' : fx_S} {K : Nat} {o p v : Int} (h : fs_fr i σ σ') (ha : fs_at i K o) (hv : (K ≠ 14 ∧ K ≠ 20) ∨ v = 0 ∨ v = 1) : fs_fr i σ (fx_up σ' K o p v) := by
  refine ⟨?_, fun b => (h.2 b).up hv⟩
  intro K' o' p' hn
  rw [← h.1 K' o' p' hn]
  unfold fx_up
  rw [if_neg]
  rintro ⟨rfl, rfl, -⟩
  exact hn ha
/-- the acts -/
def fs_src (S : fx_S) (r : Int) : fx_S := fx_up (fx_up (fx_up S 1 (S 0 0 0) 0 r) 2 (S 0 0 0) 0 0) 0 0 0 (S 0 0 0 + 1)
def fs_fct (S : fx_S) (th s a b v : Int) : fx_S := fx_up (fx_up (fx_up (fx_up (fx_up (fx_up (fx_up S 3 (S 0 1 0) 0 th) 4 (S 0 1 0) 0 s) 5 (S 0 1 0) 0 a) 6 (S 0 1 0) 0 b) 7 (S 0 1 0) 0 v) 8 (S 0 1 0) 0 0) 0 1 0 (S 0 1 0 + 1)
section FXA
variable {σ : fx_S} {i : Int}
theorem c32 (ho : fs_ok (fs_c σ i)) {r : Int} (h8 : σ 11 i 9 < 8) : fx_Ca 32 [(11, i), (0, r)] σ (fun v σ' => v = (4, 0) ∧ fs_fr i σ σ' ∧ fs_eq (fs_src (fs_c σ i) r) (fs_c σ' i) ∧ ∀ t, σ' 22 (8 * i + t) 5 = σ 22 (8 * i + t) 5) := by
  have hn := fs_cn ho
  refine t32_0 ⟨fun a => by omega, fun a => ⟨by omega, ⟨by omega, by omega⟩, rfl, ?_, ?_, fun t => by simp [fx_up]⟩⟩
  · repeat' first | exact fs_fr.rfl | refine fs_fr.up ?_ (by unfold fs_at; omega) (by omega)
  · refine ⟨?_, ?_, fun s a b => ?_, fun f a b => ?_, fun t a b => ?_⟩
    · simp [fs_src, fs_c, fx_up]
    · simp [fs_src, fs_c, fx_up]
    · simp [fs_src, fs_c, fx_up] at b ⊢
    · simp [fs_src, fs_c, fx_up] at b ⊢
    · simp [fs_src, fs_c, fx_up] at b ⊢
theorem c33 (ho : fs_ok (fs_c σ i)) {th s a b v : Int} (h8 : σ 11 i 10 < 60) : fx_Ca 33 [(11, i), (0, th), (0, s), (0, a), (0, b), (0, v)] σ (fun w σ' => w = (4, 0) ∧ fs_fr i σ σ' ∧ fs_eq (fs_fct (fs_c σ i) th s a b v) (fs_c σ' i) ∧ ∀ t, σ' 22 (8 * i + t) 5 = σ 22 (8 * i + t) 5) := by
  have hn := fs_cn ho
  refine t33_0 ⟨fun a => by omega, fun a => ⟨by omega, ⟨by omega, by omega⟩, rfl, ?_, ?_, ?_⟩⟩
  · repeat' first | exact fs_fr.rfl | refine fs_fr.up ?_ (by unfold fs_at; omega) (by omega)
  · refine ⟨?_, ?_, fun s a b => ?_, fun f a b => ?_, fun t a b => ?_⟩
    all_goals simp [fs_fct, fs_c, fx_up] at *
  · intro t; simp [fx_up]
/-- the acts that cut: the facts below n, one after the other -/
def fs_cutS (S : fx_S) (th time : Int) : Nat → fx_S
  | 0 => S
  | n + 1 => if fs_cut (fs_cutS S th time n) n th time then fx_up (fs_fct (fs_cutS S th time n) th (fs_cutS S th time n 4 n 0) time (fs_cutS S th time n 6 n 0) (fs_cutS S th time n 7 n 0)) 6 n 0 time else fs_cutS S th time n
end FXA
