theorem fs_bi {b c : Bool} (h : b = true ↔ c = true) : fs_b b = fs_b c := by
  have : b = c := by cases b <;> cases c <;> simp at h ⊢
  rw [this]
def fs_any (P : Int → Bool) : Nat → Bool
  | 0 => false
  | n + 1 => fs_any P n || P n
theorem fs_any_i (P : Int → Bool) : ∀ n : Nat, fs_any P n = true ↔ ∃ k : Int, 0 ≤ k ∧ k < n ∧ P k = true
  | 0 => by
    constructor
    · intro h; cases h
    · rintro ⟨k, h0, h1, -⟩; omega
  | n + 1 => by
    rw [fs_any, Bool.or_eq_true, fs_any_i P n]
    constructor
    · rintro (⟨k, h0, h1, h2⟩ | h)
      · exact ⟨k, h0, by omega, h2⟩
      · exact ⟨n, by omega, by omega, h⟩
    · rintro ⟨k, h0, h1, h2⟩
      by_cases e : k = n
      · rw [e] at h2; exact Or.inr h2
      · exact Or.inl ⟨k, h0, by omega, h2⟩
/-- two places that H names and at which q is unlike -/
def fs_two (H : Int → Bool) (q : Int → Int) (n : Nat) : Bool := fs_any (fun f => fs_any (fun g => H f && H g && decide (q f ≠ q g)) n) n
theorem fs_two_i {H : Int → Bool} {q : Int → Int} {n : Nat} : fs_two H q n = true ↔ ∃ f g : Int, (0 ≤ f ∧ f < n) ∧ (0 ≤ g ∧ g < n) ∧ H f = true ∧ H g = true ∧ q f ≠ q g := by
  unfold fs_two
  rw [fs_any_i]
  constructor
  · rintro ⟨f, f0, f1, h⟩
    rw [fs_any_i] at h
    obtain ⟨g, g0, g1, h⟩ := h
    simp only [Bool.and_eq_true, decide_eq_true_eq] at h
    exact ⟨f, g, ⟨f0, f1⟩, ⟨g0, g1⟩, h.1.1, h.1.2, h.2⟩
  · rintro ⟨f, g, ⟨f0, f1⟩, ⟨g0, g1⟩, h1, h2, h3⟩
    refine ⟨f, f0, f1, ?_⟩
    rw [fs_any_i]
    refine ⟨g, g0, g1, ?_⟩
    simp only [Bool.and_eq_true, decide_eq_true_eq]
    exact ⟨⟨h1, h2⟩, h3⟩
theorem fs_two_no {H : Int → Bool} {q : Int → Int} {k : Int} (hk : 0 ≤ k) (h : H k = false) : fs_two H q (k + 1).toNat = fs_two H q k.toNat := by
  have e : fs_two H q (k + 1).toNat = true ↔ fs_two H q k.toNat = true := by
    rw [fs_two_i, fs_two_i]
    constructor
    · rintro ⟨f, g, ⟨f0, f1⟩, ⟨g0, g1⟩, h1, h2, h3⟩
      have : f ≠ k := fun e => by rw [e, h] at h1; cases h1
      have : g ≠ k := fun e => by rw [e, h] at h2; cases h2
      exact ⟨f, g, ⟨f0, by omega⟩, ⟨g0, by omega⟩, h1, h2, h3⟩
    · rintro ⟨f, g, ⟨f0, f1⟩, ⟨g0, g1⟩, h1, h2, h3⟩
      exact ⟨f, g, ⟨f0, by omega⟩, ⟨g0, by omega⟩, h1, h2, h3⟩
  cases h1 : fs_two H q (k + 1).toNat <;> cases h2 : fs_two H q k.toNat <;> simp [h1, h2] at e ⊢
theorem fs_two_ye {H : Int → Bool} {q : Int → Int} {k sn : Int} (hk : 0 ≤ k) (h : H k = true) (s0 : 0 ≤ sn) (s1 : sn ≤ k) (hs : H sn = true) (hf : sn = k → ∀ f, 0 ≤ f → f < k → H f = false) : fs_two H q (k + 1).toNat = true ↔ fs_two H q k.toNat = true ∨ q k ≠ q sn := by
  rw [fs_two_i, fs_two_i]
  constructor
  · rintro ⟨f, g, ⟨f0, f1⟩, ⟨g0, g1⟩, h1, h2, h3⟩
    by_cases es : sn = k
    · have hf := hf es
      have a1 : f = k := by
        apply Classical.byContradiction
        intro e
        rw [hf f f0 (by omega)] at h1; cases h1
      have a2 : g = k := by
        apply Classical.byContradiction
        intro e
        rw [hf g g0 (by omega)] at h2; cases h2
      rw [a1, a2] at h3
      exact absurd rfl h3
    · by_cases hq : q k = q sn
      · left
        by_cases a1 : f = k
        · by_cases a2 : g = k
          · rw [a1, a2] at h3; exact absurd rfl h3
          · rw [a1, hq] at h3
            exact ⟨sn, g, ⟨s0, by omega⟩, ⟨g0, by omega⟩, hs, h2, h3⟩
        · by_cases a2 : g = k
          · rw [a2, hq] at h3
            exact ⟨f, sn, ⟨f0, by omega⟩, ⟨s0, by omega⟩, h1, hs, h3⟩
          · exact ⟨f, g, ⟨f0, by omega⟩, ⟨g0, by omega⟩, h1, h2, h3⟩
      · exact Or.inr hq
  · rintro (⟨f, g, ⟨f0, f1⟩, ⟨g0, g1⟩, h1, h2, h3⟩ | h3)
    · exact ⟨f, g, ⟨f0, by omega⟩, ⟨g0, by omega⟩, h1, h2, h3⟩
    · exact ⟨k, sn, ⟨hk, by omega⟩, ⟨s0, by omega⟩, h, hs, h3⟩
/-- where not all are of one source and not all of one value, some two are unlike in both -/
theorem fs_two_both {H : Int → Bool} {p q : Int → Int} {n : Nat} : (fs_two H p n && fs_two H q n) = true ↔ ∃ f g : Int, (0 ≤ f ∧ f < n) ∧ (0 ≤ g ∧ g < n) ∧ H f = true ∧ H g = true ∧ p f ≠ p g ∧ q f ≠ q g := by
  rw [Bool.and_eq_true, fs_two_i, fs_two_i]
  constructor
  · rintro ⟨⟨f, g, hf, hg, h1, h2, h3⟩, ⟨a, b, ha, hb, g1, g2, g3⟩⟩
    by_cases e : q f = q g
    · by_cases ea : q a = q f
      · have eb : q b ≠ q f := fun e2 => g3 (ea.trans e2.symm)
        by_cases ep : p b = p f
        · exact ⟨b, g, hb, hg, g2, h2, fun e3 => h3 (ep.symm.trans e3), fun e3 => eb (e3.trans e.symm)⟩
        · exact ⟨b, f, hb, hf, g2, h1, ep, eb⟩
      · by_cases ep : p a = p f
        · exact ⟨a, g, ha, hg, g1, h2, fun e3 => h3 (ep.symm.trans e3), fun e3 => ea (e3.trans e.symm)⟩
        · exact ⟨a, f, ha, hf, g1, h1, ep, ea⟩
    · exact ⟨f, g, hf, hg, h1, h2, h3, e⟩
  · rintro ⟨f, g, hf, hg, h1, h2, h3, h4⟩
    exact ⟨⟨f, g, hf, hg, h1, h2, h3⟩, ⟨f, g, hf, hg, h1, h2, h4⟩⟩
/-- by which number an act is refused; kind, numbers -/
def fs_ref (S : fx_S) (k a b c d : Int) : Int :=
  if k = 16 then (if 0 < S 9 a 0 then 0 else 6)
  else if k = 17 then (if S 0 0 0 < 8 then 0 else 1)
  else if k = 18 then (if 0 ≤ b ∧ b < S 0 0 0 then (if c < d then (if S 0 1 0 < 60 then 0 else 4) else 3) else 2)
  else if k = 19 then (if (0 ≤ a ∧ a < S 0 1 0) ∧ S 8 a 0 = 0 then 0 else 5)
  else if k = 20 then (if 0 ≤ a ∧ a < S 0 0 0 then (if S 2 a 0 = 1 then 6 else 0) else 2)
  else if k = 21 then (if 0 ≤ a ∧ a < S 0 0 0 then (if S 2 a 0 = 0 then 6 else 0) else 2)
  else if k = 22 then (if 0 ≤ a ∧ a < S 0 0 0 then 0 else 2)
  else if k = 23 then (if fs_cnt (fun f => fs_cut S f a b) (S 0 1 0).toNat = 0 then 6 else if S 0 1 0 + fs_cnt (fun f => fs_cut S f a b) (S 0 1 0).toNat ≤ 60 then 0 else 4)
  else 0
section FXE
variable {σ : fx_S} {i : Int}
theorem c26 (ho : fs_ok (fs_c σ i)) {o : Int} (hk : σ 26 o 2 = 16 → 0 ≤ σ 27 o 0 ∧ σ 27 o 0 < 8) : fx_Rt 26 [(11, i), (26, o)] σ (0, fs_ref (fs_c σ i) (σ 26 o 2) (σ 27 o 0) (σ 27 o 1) (σ 27 o 2) (σ 27 o 3)) σ := by
  have hn := fs_cn ho
  unfold fs_ref
  refine t26_0 ⟨fun a => ⟨hk a, c3.I ?_⟩, fun a16 => ⟨fun a => ?_, fun a17 => ⟨fun a => c27.I ?_, fun a18 => ⟨fun a => c25.I ?_, fun a19 => ⟨fun a => ⟨fun b => absurd a b, fun _ => (c28 ho).I ?_⟩, fun a20 => ⟨fun a => ⟨fun _ => (c28 ho).I ?_, fun b => absurd b a20⟩, fun a21 => ⟨fun a => c24.I ?_, fun a22 => ⟨fun a => (c29 ho).I ?_, fun a23 => ?_⟩⟩⟩⟩⟩⟩⟩⟩
  · rw [if_pos a, show 8 * i + 0 + σ 27 o 0 = 8 * i + σ 27 o 0 by omega]
    refine ⟨fun b => ⟨?_, rfl⟩, fun b => ⟨?_, rfl⟩⟩
    · rw [fs_b0, decide_eq_false_iff_not] at b
      rw [if_neg (show ¬ 0 < fs_c σ i 9 (σ 27 o 0) 0 from b)]
    · rw [fs_b1, decide_eq_true_eq] at b
      rw [if_pos (show 0 < fs_c σ i 9 (σ 27 o 0) 0 from b)]
  · rw [if_neg a16, if_pos a]
    refine ⟨fun b => ⟨?_, rfl⟩, fun b => ⟨?_, rfl⟩⟩
    · rw [if_neg (show ¬ fs_c σ i 0 0 0 < 8 by show ¬ σ 11 i 9 < 8; omega)]
    · rw [if_pos (show fs_c σ i 0 0 0 < 8 from b)]
  · rw [if_neg a16, if_neg a17, if_pos a]
    exact ⟨rfl, rfl⟩
  · rw [if_neg a16, if_neg a17, if_neg a18, if_pos a]
    simp only [fs_b1, fs_b0, Bool.and_eq_true, Bool.and_eq_false_iff, decide_eq_true_eq, decide_eq_false_iff_not]
    refine ⟨fun b => ⟨?_, trivial⟩, fun b => ⟨by omega, fun d => ⟨?_, trivial⟩, fun d => ⟨?_, trivial⟩⟩⟩
    · rw [if_neg (show ¬ ((0 ≤ σ 27 o 0 ∧ σ 27 o 0 < fs_c σ i 0 1 0) ∧ _) from fun e => by have : σ 27 o 0 < σ 11 i 10 := e.1.2; omega)]
    · rw [if_neg (show ¬ (_ ∧ fs_c σ i 8 (σ 27 o 0) 0 = 0) from fun e => d e.2)]
    · rw [if_pos (show (0 ≤ σ 27 o 0 ∧ σ 27 o 0 < fs_c σ i 0 1 0) ∧ fs_c σ i 8 (σ 27 o 0) 0 = 0 from ⟨b, d⟩)]
  · rw [if_neg a16, if_neg a17, if_neg a18, if_neg a19, if_pos a]
    exact ⟨rfl, rfl⟩
  · rw [if_neg a16, if_neg a17, if_neg a18, if_neg a19, if_neg a20, if_pos a]
    exact ⟨rfl, rfl⟩
  · rw [if_neg a16, if_neg a17, if_neg a18, if_neg a19, if_neg a20, if_neg a21, if_pos a]
    simp only [fs_b1, fs_b0, Bool.and_eq_true, Bool.and_eq_false_iff, decide_eq_true_eq, decide_eq_false_iff_not]
    refine ⟨fun b => ⟨?_, trivial⟩, fun b => ⟨?_, trivial⟩⟩
    · rw [if_neg (show ¬ (0 ≤ σ 27 o 0 ∧ σ 27 o 0 < fs_c σ i 0 0 0) from fun e => by have : σ 27 o 0 < σ 11 i 9 := e.2; omega)]
    · rw [if_pos (show 0 ≤ σ 27 o 0 ∧ σ 27 o 0 < fs_c σ i 0 0 0 from b)]
  · rw [if_neg a16, if_neg a17, if_neg a18, if_neg a19, if_neg a20, if_neg a21, if_neg a22, if_pos a]
    exact ⟨rfl, rfl⟩
  · rw [if_neg a16, if_neg a17, if_neg a18, if_neg a19, if_neg a20, if_neg a21, if_neg a22, if_neg a23]
    exact ⟨rfl, rfl⟩
theorem c42 (ho : fs_ok (fs_c σ i)) {th time : Int} : fx_Rt 42 [(11, i), (0, th), (0, time)] σ (0, fs_b (fs_two (fun f => fs_hold (fs_c σ i) f th time) (fun f => σ 16 i f) (σ 11 i 10).toNat && fs_two (fun f => fs_hold (fs_c σ i) f th time) (fun f => σ 19 i f) (σ 11 i 10).toNat)) σ := by
  have hn := fs_cn ho
  generalize hH : (fun f => fs_hold (fs_c σ i) f th time) = H
  have hHf : ∀ f, fs_hold (fs_c σ i) f th time = H f := fun f => by rw [← hH]
  refine t42_0 ?_
  refine fx_whl (X := Int × Int) (fun x => [(11, i), (0, th), (0, time), (0, x.2), (0, fs_b (fs_two H (fun f => σ 16 i f) x.1.toNat)), (0, fs_b (fs_two H (fun f => σ 19 i f) x.1.toNat)), (0, x.1)]) (fun _ => σ) (fun x => (0 ≤ x.1 ∧ x.1 ≤ σ 11 i 10) ∧ ((x.2 = -1 ∧ ∀ f, 0 ≤ f → f < x.1 → H f = false) ∨ (0 ≤ x.2 ∧ x.2 < x.1 ∧ H x.2 = true))) (fun x => (σ 11 i 10 - x.1).toNat) ?_ (0, -1) ⟨⟨Int.le_refl _, hn.2.1⟩, Or.inl ⟨rfl, fun f f0 f1 => absurd f1 (by simp only; omega)⟩⟩
  rintro ⟨k, sn⟩ ⟨⟨k0, k1⟩, hs⟩ ih
  simp only at k0 k1 hs
  show fx_Wp 42 11 [(11, i), (0, th), (0, time), (0, sn), (0, fs_b (fs_two H (fun f => σ 16 i f) k.toNat)), (0, fs_b (fs_two H (fun f => σ 19 i f) k.toNat)), (0, k)] [] σ _
  have go : ∀ s' : Int, k < σ 11 i 10 → H k = true → (0 ≤ s' ∧ s' ≤ k ∧ H s' = true ∧ (s' = k → ∀ f, 0 ≤ f → f < k → H f = false)) → fx_Wp 42 39 [(11, i), (0, th), (0, time), (0, s'), (0, fs_b (fs_two H (fun f => σ 16 i f) k.toNat)), (0, fs_b (fs_two H (fun f => σ 19 i f) k.toNat)), (0, k)] [] σ (fun v t => v = (0, fs_b (fs_two H (fun f => σ 16 i f) (σ 11 i 10).toNat && fs_two H (fun f => σ 19 i f) (σ 11 i 10).toNat)) ∧ t = σ) := by
    rintro s' hk hHk ⟨s0, s1, s2, s3⟩
    have ih := ih (k + 1, s') ⟨⟨by simp only; omega, by simp only; omega⟩, Or.inr ⟨s0, by simp only; omega, s2⟩⟩ (by simp only; omega)
    simp only at ih
    have y1 := fs_two_ye (q := fun f => σ 16 i f) k0 hHk s0 s1 s2 s3
    have y2 := fs_two_ye (q := fun f => σ 19 i f) k0 hHk s0 s1 s2 s3
    have w60 : ∀ w4 : fx_V, fs_two H (fun f => σ 16 i f) (k + 1).toNat = true → fx_Wp 42 60 [(11, i), (0, th), (0, time), (0, s'), w4, (0, fs_b (fs_two H (fun f => σ 19 i f) k.toNat)), (0, k)] [] σ (fun v t => v = (0, fs_b (fs_two H (fun f => σ 16 i f) (σ 11 i 10).toNat && fs_two H (fun f => σ 19 i f) (σ 11 i 10).toNat)) ∧ t = σ) := by
      intro w4 e1
      rw [e1] at ih
      refine t42_60 ⟨fun b => ⟨⟨by omega, by omega⟩, ?_⟩, fun b => ⟨by omega, by omega, fun c => ⟨⟨by omega, by omega⟩, ?_⟩, fun c => ⟨⟨by omega, by omega⟩, ?_⟩⟩⟩
      · rw [y2.mpr (Or.inl (fs_b1.mp b))] at ih; exact ih
      · have e2 : fs_two H (fun f => σ 19 i f) (k + 1).toNat = false := by
          cases h : fs_two H (fun f => σ 19 i f) (k + 1).toNat with
          | false => rfl
          | true => rcases y2.mp h with h | h
                    · rw [fs_b0.mp b] at h; cases h
                    · exact absurd c h
        rw [e2] at ih; exact ih
      · rw [y2.mpr (Or.inr c)] at ih; exact ih
    refine t42_39 ⟨fun b => w60 _ (y1.mpr (Or.inl (fs_b1.mp b))), fun b => ⟨by omega, by omega, fun c => ?_, fun c => w60 _ (y1.mpr (Or.inr c))⟩⟩
    have e1 : fs_two H (fun f => σ 16 i f) (k + 1).toNat = false := by
      cases h : fs_two H (fun f => σ 16 i f) (k + 1).toNat with
      | false => rfl
      | true => rcases y1.mp h with h | h
                · rw [fs_b0.mp b] at h; cases h
                · exact absurd c h
    rw [e1] at ih
    refine ⟨fun b => ⟨⟨by omega, by omega⟩, ?_⟩, fun b => ⟨fun c => ⟨⟨by omega, by omega⟩, ?_⟩, fun c => ⟨⟨by omega, by omega⟩, ?_⟩⟩⟩
    · rw [y2.mpr (Or.inl (fs_b1.mp b))] at ih; exact ih
    · have e2 : fs_two H (fun f => σ 19 i f) (k + 1).toNat = false := by
        cases h : fs_two H (fun f => σ 19 i f) (k + 1).toNat with
        | false => rfl
        | true => rcases y2.mp h with h | h
                  · rw [fs_b0.mp b] at h; cases h
                  · exact absurd c h
      rw [e2] at ih; exact ih
    · rw [y2.mpr (Or.inr c)] at ih; exact ih
  refine t42_11 ⟨fun a => ?_, fun a => (c36 ho k0 a).I ?_⟩
  · have e : k = σ 11 i 10 := by omega
    rw [e]
    refine ⟨fun b => ⟨?_, rfl⟩, fun b => ⟨fun c => ⟨?_, rfl⟩, fun c => ⟨?_, rfl⟩⟩⟩
    · rw [fs_b0.mp b]; rfl
    · rw [fs_b0.mp c, Bool.and_false]; rfl
    · rw [fs_b1.mp b, fs_b1.mp c]; rfl
  · rw [hHf]
    refine ⟨fun b => ⟨⟨by omega, by omega⟩, ?_⟩, fun b => ⟨fun c => ?_, fun c => ?_⟩⟩
    · have hno := fs_b0.mp b
      have ih := ih (k + 1, sn) ⟨⟨by simp only; omega, by simp only; omega⟩, ?_⟩ (by simp only; omega)
      · simp only at ih
        rw [fs_two_no k0 hno, fs_two_no k0 hno] at ih
        exact ih
      · rcases hs with ⟨h1, h2⟩ | ⟨h1, h2, h3⟩
        · refine Or.inl ⟨h1, fun f f0 f1 => ?_⟩
          simp only at f1
          by_cases e : f = k
          · rw [e]; exact hno
          · exact h2 f f0 (by omega)
        · exact Or.inr ⟨h1, by simp only; omega, h3⟩
    · rcases hs with ⟨h1, h2⟩ | ⟨h1, h2, h3⟩
      · exact absurd h1 c
      · exact go sn a (fs_b1.mp b) ⟨h1, by omega, h3, fun e => by omega⟩
    · rcases hs with ⟨h1, h2⟩ | ⟨h1, h2, h3⟩
      · exact go k a (fs_b1.mp b) ⟨k0, Int.le_refl _, fs_b1.mp b, fun _ => h2⟩
      · omega
end FXE
