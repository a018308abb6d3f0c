def fs_off (S : fx_S) (a : Int) : fx_S := fx_up (fx_up S 9 a 0 0) 10 a 0 0
/-- a rule in place of a thing's -/
def fs_rul (S : fx_S) (a : Int) (R : fx_S) : fx_S := fun k x y => if 9 ≤ k ∧ k ≤ 13 ∧ x = a then R k 0 y else S k x y
/-- an act, done -/
def fs_do (S : fx_S) (k a b c d e : Int) (R : fx_S) : fx_S :=
  if k = 16 then fs_off S a else if k = 17 then fs_src S a else if k = 18 then fs_fct S a b c d e else if k = 19 then fx_up S 8 a 0 1 else if k = 20 then fx_up S 2 a 0 1 else if k = 21 then fx_up S 2 a 0 0 else if k = 22 then fx_up S 1 a 0 b else if k = 23 then fs_cutS S a b (S 0 1 0).toNat else fs_rul S a R
/-- a rule that a thing may have -/
def fs_okr (R : fx_S) (t : Int) : Prop := (0 ≤ R 9 0 0 ∧ R 9 0 0 ≤ 23) ∧ (0 ≤ R 10 0 0 ∧ R 10 0 0 ≤ 12) ∧ (∀ k, 0 ≤ k → k < R 9 0 0 → (R 11 0 k = 1 ∧ 0 ≤ R 12 0 k ∧ R 12 0 k < 100) ∨ (R 11 0 k = 13 ∧ 0 ≤ R 12 0 k ∧ R 12 0 k < t) ∨ (6 ≤ R 11 0 k ∧ R 11 0 k ≤ 12 ∧ 0 ≤ R 12 0 k ∧ R 12 0 k < k ∧ 0 ≤ R 13 0 k ∧ R 13 0 k < k)) ∧ (R 9 0 0 = 0 → R 10 0 0 = 0)
/-- numbers that an act may have -/
def fs_par (k a b c d e : Int) (R : fx_S) : Prop := (16 ≤ k ∧ k ≤ 24) ∧ (k = 16 → 0 ≤ a ∧ a < 8) ∧ (k = 17 → 0 ≤ a ∧ a < 100) ∧ (k = 18 → (0 ≤ a ∧ a < 8) ∧ 0 ≤ c ∧ d ≤ 1000 ∧ 0 ≤ e ∧ e < 100) ∧ (k = 22 → 0 ≤ b ∧ b < 100) ∧ (k = 23 → (0 ≤ a ∧ a < 8) ∧ 0 ≤ b ∧ b ≤ 1000) ∧ (k = 24 → (0 ≤ a ∧ a < 8) ∧ fs_okr R a)
theorem fs_src_ok {S : fx_S} (ho : fs_ok S) (h : S 0 0 0 < 8) {r : Int} (h1 : 0 ≤ r ∧ r < 100) : fs_ok (fs_src S r) := by
  obtain ⟨o0, o1, os, of, orr⟩ := ho
  refine ⟨?_, ?_, fun q a b => ?_, fun f a b => ?_, fun t a b => ?_⟩
  · simp [fs_src, fx_up]; omega
  · simpa [fs_src, fx_up] using o1
  · have hb : q < S 0 0 0 + 1 := by simpa [fs_src, fx_up] using b
    by_cases e : q = S 0 0 0
    · subst e
      simp [fs_src, fx_up]
      omega
    · have := os q a (by omega)
      simp [fs_src, fx_up, e]
      omega
  · have := of f a (by simpa [fs_src, fx_up] using b)
    simp [fs_src, fx_up]
    omega
  · have := orr t a b
    simpa [fs_src, fx_up, fs_okn] using this
theorem fs_src_c {S T : fx_S} (h : fs_eq S T) {r : Int} : fs_eq (fs_src S r) (fs_src T r) := by
  obtain ⟨h0, h1, hs, hf, hr⟩ := h
  refine ⟨?_, ?_, fun q a b => ?_, fun f a b => ?_, fun t a b => ?_⟩
  · simpa [fs_src, fx_up] using h0
  · simpa [fs_src, fx_up] using h1
  · have hb : q < S 0 0 0 + 1 := by simpa [fs_src, fx_up] using b
    by_cases e : q = S 0 0 0
    · have e2 : q = T 0 0 0 := by omega
      simp [fs_src, fx_up, ← e, ← e2]
    · have e2 : q ≠ T 0 0 0 := by omega
      have := hs q a (by omega)
      simpa [fs_src, fx_up, e, e2] using this
  · have := hf f a (by simpa [fs_src, fx_up] using b)
    simpa [fs_src, fx_up] using this
  · have := hr t a b
    simpa [fs_src, fx_up] using this
/-- one number written anew -/
theorem fs_up_ok {S : fx_S} (ho : fs_ok S) {k : Nat} {a v : Int} (hk : (k = 8 ∧ v = 1) ∨ (k = 2 ∧ (v = 0 ∨ v = 1)) ∨ (k = 1 ∧ 0 ≤ v ∧ v < 100)) : fs_ok (fx_up S k a 0 v) := by
  obtain ⟨o0, o1, os, of, orr⟩ := ho
  have hk3 : k = 8 ∨ k = 2 ∨ k = 1 := by omega
  have e0 : ∀ x, fx_up S k a 0 v 0 x 0 = S 0 x 0 := fun x => by rw [fx_upE, if_neg (by omega)]
  refine ⟨by rw [e0]; exact o0, by rw [e0]; exact o1, fun q q0 q1 => ?_, fun f f0 f1 => ?_, fun t t0 t1 => ?_⟩
  · rw [e0] at q1
    have := os q q0 q1
    simp only [fx_upE]
    rcases hk with ⟨rfl, rfl⟩ | ⟨rfl, h⟩ | ⟨rfl, h⟩
    · simp; exact this
    · by_cases e : q = a
      · simp [e]; rw [e] at this; omega
      · simp [e]; omega
    · by_cases e : q = a
      · simp [e]; rw [e] at this; omega
      · simp [e]; omega
  · rw [e0] at f1
    have := of f f0 f1
    simp only [fx_upE]
    rcases hk with ⟨rfl, rfl⟩ | ⟨rfl, h⟩ | ⟨rfl, h⟩
    · by_cases e : f = a
      · simp [e]; rw [e] at this; omega
      · simp [e]; omega
    · simp; omega
    · simp; omega
  · have h9 : ∀ x y, fx_up S k a 0 v 9 x y = S 9 x y ∧ fx_up S k a 0 v 10 x y = S 10 x y ∧ fx_up S k a 0 v 11 x y = S 11 x y ∧ fx_up S k a 0 v 12 x y = S 12 x y ∧ fx_up S k a 0 v 13 x y = S 13 x y := fun x y => by
      refine ⟨?_, ?_, ?_, ?_, ?_⟩ <;> rw [fx_upE, if_neg (by omega)]
    have := orr t t0 t1
    obtain ⟨a1, a2, a3, a4, a5⟩ := h9 t 0
    rw [a1, a2]
    refine ⟨this.1, this.2.1, fun j j0 j1 => ?_, this.2.2.2⟩
    have hj := this.2.2.1 j j0 j1
    unfold fs_okn at hj ⊢
    obtain ⟨-, -, b3, b4, b5⟩ := h9 t j
    rw [b3, b4, b5]
    exact hj
theorem fs_up_c {S T : fx_S} (h : fs_eq S T) {k : Nat} {a v : Int} (hk3 : k = 8 ∨ k = 2 ∨ k = 1) : fs_eq (fx_up S k a 0 v) (fx_up T k a 0 v) := by
  obtain ⟨h0, h1, hs, hf, hr⟩ := h
  have e0 : ∀ (S : fx_S) x, fx_up S k a 0 v 0 x 0 = S 0 x 0 := fun S x => by rw [fx_upE, if_neg (by omega)]
  refine ⟨by rw [e0, e0]; exact h0, by rw [e0, e0]; exact h1, fun q q0 q1 => ?_, fun f f0 f1 => ?_, fun t t0 t1 => ?_⟩
  · rw [e0] at q1
    have := hs q q0 q1
    simp only [fx_upE]
    rcases hk3 with rfl | rfl | rfl
    · simpa using this
    · by_cases e : q = a
      · simp [e]; rw [e] at this; exact this.1
      · simp [e]; exact this
    · by_cases e : q = a
      · simp [e]; rw [e] at this; exact this.2
      · simp [e]; exact this
  · rw [e0] at f1
    have := hf f f0 f1
    simp only [fx_upE]
    rcases hk3 with rfl | rfl | rfl
    · by_cases e : f = a
      · simp [e]; rw [e] at this; simp [this]
      · simp [e]; exact this
    · simpa using this
    · simpa using this
  · have h9 : ∀ (S : fx_S) x y, fx_up S k a 0 v 9 x y = S 9 x y ∧ fx_up S k a 0 v 10 x y = S 10 x y ∧ fx_up S k a 0 v 11 x y = S 11 x y ∧ fx_up S k a 0 v 12 x y = S 12 x y ∧ fx_up S k a 0 v 13 x y = S 13 x y := fun S x y => by
      refine ⟨?_, ?_, ?_, ?_, ?_⟩ <;> rw [fx_upE, if_neg (by omega)]
    have := hr t t0 t1
    obtain ⟨a1, a2, -⟩ := h9 S t 0
    obtain ⟨c1, c2, -⟩ := h9 T t 0
    rw [a1, a2, c1, c2]
    refine ⟨this.1, this.2.1, fun j j0 j1 => ?_⟩
    have hj := this.2.2 j j0 j1
    obtain ⟨-, -, b3, b4, b5⟩ := h9 S t j
    obtain ⟨-, -, d3, d4, d5⟩ := h9 T t j
    rw [b3, b4, b5, d3, d4, d5]
    exact hj
theorem fs_off_ok {S : fx_S} (ho : fs_ok S) {a : Int} : fs_ok (fs_off S a) := by
  obtain ⟨o0, o1, os, of, orr⟩ := ho
  refine ⟨by simpa [fs_off, fx_up] using o0, by simpa [fs_off, fx_up] using o1, fun q q0 q1 => ?_, fun f f0 f1 => ?_, fun t t0 t1 => ?_⟩
  · have := os q q0 (by simpa [fs_off, fx_up] using q1)
    simpa [fs_off, fx_up] using this
  · have := of f f0 (by simpa [fs_off, fx_up] using f1)
    simpa [fs_off, fx_up] using this
  · have := orr t t0 t1
    by_cases e : t = a
    · subst e
      refine ⟨by simp [fs_off, fx_up], by simp [fs_off, fx_up], fun k k0 k1 => ?_, by simp [fs_off, fx_up]⟩
      simp [fs_off, fx_up] at k1
      omega
    · simpa [fs_off, fx_up, fs_okn, e] using this
theorem fs_off_c {S T : fx_S} (h : fs_eq S T) {a : Int} : fs_eq (fs_off S a) (fs_off T a) := by
  obtain ⟨h0, h1, hs, hf, hr⟩ := h
  refine ⟨by simpa [fs_off, fx_up] using h0, by simpa [fs_off, fx_up] using h1, fun q q0 q1 => ?_, fun f f0 f1 => ?_, fun t t0 t1 => ?_⟩
  · have := hs q q0 (by simpa [fs_off, fx_up] using q1)
    simpa [fs_off, fx_up] using this
  · have := hf f f0 (by simpa [fs_off, fx_up] using f1)
    simpa [fs_off, fx_up] using this
  · have := hr t t0 t1
    by_cases e : t = a
    · subst e
      refine ⟨by simp [fs_off, fx_up], by simp [fs_off, fx_up], fun k k0 k1 => ?_⟩
      simp [fs_off, fx_up] at k1
      omega
    · simpa [fs_off, fx_up, e] using this
theorem fs_rul_ok {S : fx_S} (ho : fs_ok S) {a : Int} {R : fx_S} (hR : fs_okr R a) : fs_ok (fs_rul S a R) := by
  obtain ⟨o0, o1, os, of, orr⟩ := ho
  refine ⟨by simpa [fs_rul] using o0, by simpa [fs_rul] using o1, fun q q0 q1 => ?_, fun f f0 f1 => ?_, fun t t0 t1 => ?_⟩
  · have := os q q0 (by simpa [fs_rul] using q1)
    simpa [fs_rul] using this
  · have := of f f0 (by simpa [fs_rul] using f1)
    simpa [fs_rul] using this
  · by_cases e : t = a
    · subst e
      simpa [fs_rul, fs_okn, fs_okr] using hR
    · have := orr t t0 t1
      simpa [fs_rul, fs_okn, e] using this
theorem fs_rul_c {S T : fx_S} (h : fs_eq S T) {a : Int} {R Q : fx_S} (hR : R 9 0 0 = Q 9 0 0 ∧ R 10 0 0 = Q 10 0 0 ∧ ∀ k, 0 ≤ k → k < R 9 0 0 → R 11 0 k = Q 11 0 k ∧ R 12 0 k = Q 12 0 k ∧ (6 ≤ R 11 0 k → R 13 0 k = Q 13 0 k)) : fs_eq (fs_rul S a R) (fs_rul T a Q) := by
  obtain ⟨h0, h1, hs, hf, hr⟩ := h
  refine ⟨by simpa [fs_rul] using h0, by simpa [fs_rul] using h1, fun q q0 q1 => ?_, fun f f0 f1 => ?_, fun t t0 t1 => ?_⟩
  · have := hs q q0 (by simpa [fs_rul] using q1)
    simpa [fs_rul] using this
  · have := hf f f0 (by simpa [fs_rul] using f1)
    simpa [fs_rul] using this
  · by_cases e : t = a
    · subst e
      simpa [fs_rul] using hR
    · have := hr t t0 t1
      simpa [fs_rul, e] using this
theorem fs_cnt_cut {S T : fx_S} (h : fs_eq S T) (ho : fs_ok S) {a b : Int} : fs_cnt (fun f => fs_cut S f a b) (S 0 1 0).toNat = fs_cnt (fun f => fs_cut T f a b) (T 0 1 0).toNat := by
  have hn := ho.2.1
  rw [← h.2.1]
  refine fs_cnt_c _ (fun f f0 f1 => ?_)
  obtain ⟨a3, a4, a5, a6, a7, a8⟩ := h.2.2.2.1 f f0 (by omega)
  exact fs_cut_c a3 a8 a5 a6
theorem fs_cutS_c {S T : fx_S} (h : fs_eq S T) (ho : fs_ok S) {th time : Int} (h1 : 0 ≤ th ∧ th < 8) (h2 : 0 ≤ time ∧ time ≤ 1000) : ∀ n : Nat, (n : Int) ≤ S 0 1 0 → S 0 1 0 + fs_cnt (fun f => fs_cut S f th time) n ≤ 60 → fs_eq (fs_cutS S th time n) (fs_cutS T th time n)
  | 0, _, _ => h
  | n + 1, hn, hr => by
    have hr' : S 0 1 0 + fs_cnt (fun f => fs_cut S f th time) n ≤ 60 := by
      have := fs_b01 (fs_cut S n th time)
      rw [fs_cnt] at hr
      omega
    have ih := fs_cutS_c h ho h1 h2 n (by omega) hr'
    obtain ⟨-, -, p3, -⟩ := fs_cutS_p ho h1 h2 n (by omega) hr'
    have hle := (fs_cnt_le (fun f => fs_cut S f th time) n).1
    obtain ⟨a3, a4, a5, a6, a7, a8⟩ := ih.2.2.2.1 n (by omega) (by omega)
    have ec : fs_cut (fs_cutS S th time n) n th time = fs_cut (fs_cutS T th time n) n th time := fs_cut_c a3 a8 a5 a6
    rw [fs_cutS, fs_cutS, ← ec]
    cases fs_cut (fs_cutS S th time n) n th time with
    | false => simpa using ih
    | true =>
      simp only [if_true]
      rw [← a4, ← a6, ← a7]
      exact fs_up6_c (fs_fct_c ih)
theorem fs_ref_c {S T : fx_S} (h : fs_eq S T) (ho : fs_ok S) {k a b c d : Int} (hk : k = 16 → 0 ≤ a ∧ a < 8) : fs_ref S k a b c d = fs_ref T k a b c d := by
  unfold fs_ref
  by_cases k16 : k = 16
  · rw [if_pos k16, if_pos k16, (h.2.2.2.2 a (hk k16).1 (hk k16).2).1]
  · rw [if_neg k16, if_neg k16, ← h.1, ← h.2.1]
    have e8 : ((0 ≤ a ∧ a < S 0 1 0) ∧ S 8 a 0 = 0) ↔ ((0 ≤ a ∧ a < S 0 1 0) ∧ T 8 a 0 = 0) := by
      constructor
      · rintro ⟨q, r⟩; exact ⟨q, by rw [← (h.2.2.2.1 a q.1 q.2).2.2.2.2.2]; exact r⟩
      · rintro ⟨q, r⟩; exact ⟨q, by rw [(h.2.2.2.1 a q.1 q.2).2.2.2.2.2]; exact r⟩
    have e2 : 0 ≤ a ∧ a < S 0 0 0 → S 2 a 0 = T 2 a 0 := fun q => (h.2.2.1 a q.1 q.2).2
    have ec := fs_cnt_cut h ho (a := a) (b := b)
    rw [← h.2.1] at ec
    rw [← ec]
    by_cases q : 0 ≤ a ∧ a < S 0 0 0
    · rw [e2 q]
      simp only [e8]
    · simp only [e8, if_neg q]
theorem fs_do_ok {S : fx_S} (ho : fs_ok S) {k a b c d e : Int} {R : fx_S} (hp : fs_par k a b c d e R) (hr : fs_ref S k a b c d = 0) : fs_ok (fs_do S k a b c d e R) := by
  obtain ⟨hk, p16, p17, p18, p22, p23, p24⟩ := hp
  unfold fs_ref at hr
  unfold fs_do
  by_cases k16 : k = 16
  · rw [if_pos k16]; exact fs_off_ok ho
  rw [if_neg k16] at hr ⊢
  by_cases k17 : k = 17
  · rw [if_pos k17] at hr ⊢
    exact fs_src_ok ho (by apply Classical.byContradiction; intro q; rw [if_neg q] at hr; omega) (p17 k17)
  rw [if_neg k17] at hr ⊢
  by_cases k18 : k = 18
  · rw [if_pos k18] at hr ⊢
    obtain ⟨q1, q2, q3, q4⟩ := p18 k18
    by_cases w1 : 0 ≤ b ∧ b < S 0 0 0
    · rw [if_pos w1] at hr
      by_cases w2 : c < d
      · rw [if_pos w2] at hr
        by_cases w3 : S 0 1 0 < 60
        · exact fs_fct_ok ho w3 q1 w1 ⟨q2, w2, q3⟩ q4
        · rw [if_neg w3] at hr; omega
      · rw [if_neg w2] at hr; omega
    · rw [if_neg w1] at hr; omega
  rw [if_neg k18] at hr ⊢
  by_cases k19 : k = 19
  · rw [if_pos k19]; exact fs_up_ok ho (Or.inl ⟨rfl, rfl⟩)
  rw [if_neg k19] at hr ⊢
  by_cases k20 : k = 20
  · rw [if_pos k20]; exact fs_up_ok ho (Or.inr (Or.inl ⟨rfl, Or.inr rfl⟩))
  rw [if_neg k20] at hr ⊢
  by_cases k21 : k = 21
  · rw [if_pos k21]; exact fs_up_ok ho (Or.inr (Or.inl ⟨rfl, Or.inl rfl⟩))
  rw [if_neg k21] at hr ⊢
  by_cases k22 : k = 22
  · rw [if_pos k22]; exact fs_up_ok ho (Or.inr (Or.inr ⟨rfl, p22 k22⟩))
  rw [if_neg k22] at hr ⊢
  have hn := ho.2.1
  by_cases k23 : k = 23
  · rw [if_pos k23] at hr ⊢
    obtain ⟨q1, q2⟩ := p23 k23
    refine (fs_cutS_p ho q1 q2 _ (by omega) ?_).1
    by_cases w : fs_cnt (fun f => fs_cut S f a b) (S 0 1 0).toNat = 0
    · omega
    · rw [if_neg w] at hr
      by_cases w2 : S 0 1 0 + fs_cnt (fun f => fs_cut S f a b) (S 0 1 0).toNat ≤ 60
      · exact w2
      · rw [if_neg w2] at hr; omega
  rw [if_neg k23]
  exact fs_rul_ok ho (p24 (by omega)).2
theorem fs_do_c {S T : fx_S} (h : fs_eq S T) (ho : fs_ok S) {k a b c d e : Int} {R Q : fx_S} (hp : fs_par k a b c d e R) (hr : fs_ref S k a b c d = 0) (hR : k = 24 → R 9 0 0 = Q 9 0 0 ∧ R 10 0 0 = Q 10 0 0 ∧ ∀ k, 0 ≤ k → k < R 9 0 0 → R 11 0 k = Q 11 0 k ∧ R 12 0 k = Q 12 0 k ∧ (6 ≤ R 11 0 k → R 13 0 k = Q 13 0 k)) : fs_eq (fs_do S k a b c d e R) (fs_do T k a b c d e Q) := by
  obtain ⟨hk, p16, p17, p18, p22, p23, p24⟩ := hp
  unfold fs_do
  by_cases k16 : k = 16
  · rw [if_pos k16, if_pos k16]; exact fs_off_c h
  rw [if_neg k16, if_neg k16]
  by_cases k17 : k = 17
  · rw [if_pos k17, if_pos k17]; exact fs_src_c h
  rw [if_neg k17, if_neg k17]
  by_cases k18 : k = 18
  · rw [if_pos k18, if_pos k18]; exact fs_fct_c h
  rw [if_neg k18, if_neg k18]
  by_cases k19 : k = 19
  · rw [if_pos k19, if_pos k19]; exact fs_up_c h (Or.inl rfl)
  rw [if_neg k19, if_neg k19]
  by_cases k20 : k = 20
  · rw [if_pos k20, if_pos k20]; exact fs_up_c h (Or.inr (Or.inl rfl))
  rw [if_neg k20, if_neg k20]
  by_cases k21 : k = 21
  · rw [if_pos k21, if_pos k21]; exact fs_up_c h (Or.inr (Or.inl rfl))
  rw [if_neg k21, if_neg k21]
  by_cases k22 : k = 22
  · rw [if_pos k22, if_pos k22]; exact fs_up_c h (Or.inr (Or.inr rfl))
  rw [if_neg k22, if_neg k22]
  have hn := ho.2.1
  by_cases k23 : k = 23
  · rw [if_pos k23, if_pos k23, ← h.2.1]
    obtain ⟨q1, q2⟩ := p23 k23
    refine fs_cutS_c h ho q1 q2 _ (by omega) ?_
    unfold fs_ref at hr
    rw [if_neg k16, if_neg k17, if_neg k18, if_neg k19, if_neg k20, if_neg k21, if_neg k22, if_pos k23] at hr
    by_cases w : fs_cnt (fun f => fs_cut S f a b) (S 0 1 0).toNat = 0
    · omega
    · rw [if_neg w] at hr
      by_cases w2 : S 0 1 0 + fs_cnt (fun f => fs_cut S f a b) (S 0 1 0).toNat ≤ 60
      · exact w2
      · rw [if_neg w2] at hr; omega
  rw [if_neg k23, if_neg k23]
  exact fs_rul_c h (hR (by omega))
/-- the bits of a state's rules -/
def fs_bt (σ : fx_S) (i : Int) : Prop := ∀ t, 0 ≤ t → t < 8 → σ 22 (8 * i + t) 5 = fs_bit (fs_c σ i) t (fs_c σ i 9 t 0).toNat
theorem fs_bit_k {S T : fx_S} {t : Int} : ∀ n : Nat, (∀ k : Int, 0 ≤ k → k < n → S 11 t k = T 11 t k ∧ S 12 t k = T 12 t k) → fs_bit S t n = fs_bit T t n
  | 0, _ => rfl
  | n + 1, h => by rw [fs_bit, fs_bit, fs_bit_k n (fun k a b => h k a (by omega)), (h n (by omega) (by omega)).1, (h n (by omega) (by omega)).2]
theorem fs_bit_c {S T : fx_S} (h : fs_eq S T) (ho : fs_ok S) {t : Int} (t0 : 0 ≤ t) (t1 : t < 8) : fs_bit S t (S 9 t 0).toNat = fs_bit T t (T 9 t 0).toNat := by
  obtain ⟨e1, e2, e3⟩ := h.2.2.2.2 t t0 t1
  have hn := (ho.2.2.2.2 t t0 t1).1
  rw [← e1]
  exact fs_bit_k _ (fun k k0 k1 => ⟨(e3 k k0 (by omega)).1, (e3 k k0 (by omega)).2.1⟩)
/-- the rule that an act tells -/
def fs_ra (σ : fx_S) (q : Int) : fx_S := fun k _ b => match k with
  | 9 => σ 22 (q + 88) 3
  | 10 => σ 22 (q + 88) 4
  | 11 => σ 23 (q + 88) b
  | 12 => σ 24 (q + 88) b
  | 13 => σ 25 (q + 88) b
  | _ => 0
section FXA
variable {σ : fx_S} {i : Int}
theorem fs_ref_0 {S : fx_S} {k a b c d : Int} (h : fs_ref S k a b c d = 0) : (k = 17 → S 0 0 0 < 8) ∧ (k = 18 → (0 ≤ b ∧ b < S 0 0 0) ∧ c < d ∧ S 0 1 0 < 60) ∧ (k = 19 → (0 ≤ a ∧ a < S 0 1 0) ∧ S 8 a 0 = 0) ∧ (k = 20 ∨ k = 21 ∨ k = 22 → 0 ≤ a ∧ a < S 0 0 0) ∧ (k = 23 → S 0 1 0 + fs_cnt (fun f => fs_cut S f a b) (S 0 1 0).toNat ≤ 60) := by
  unfold fs_ref at h
  refine ⟨fun e => ?_, fun e => ?_, fun e => ?_, fun e => ?_, fun e => ?_⟩
  · subst e
    rw [if_neg (by decide), if_pos rfl] at h
    apply Classical.byContradiction; intro q; rw [if_neg q] at h; omega
  · subst e
    rw [if_neg (by decide), if_neg (by decide), if_pos rfl] at h
    by_cases w1 : 0 ≤ b ∧ b < S 0 0 0
    · rw [if_pos w1] at h
      by_cases w2 : c < d
      · rw [if_pos w2] at h
        by_cases w3 : S 0 1 0 < 60
        · exact ⟨w1, w2, w3⟩
        · rw [if_neg w3] at h; omega
      · rw [if_neg w2] at h; omega
    · rw [if_neg w1] at h; omega
  · subst e
    rw [if_neg (by decide), if_neg (by decide), if_neg (by decide), if_pos rfl] at h
    apply Classical.byContradiction; intro q; rw [if_neg q] at h; omega
  · apply Classical.byContradiction
    intro q
    rcases e with e | e | e
    · subst e
      rw [if_neg (by decide), if_neg (by decide), if_neg (by decide), if_neg (by decide), if_pos rfl, if_neg q] at h; omega
    · subst e
      rw [if_neg (by decide), if_neg (by decide), if_neg (by decide), if_neg (by decide), if_neg (by decide), if_pos rfl, if_neg q] at h; omega
    · subst e
      rw [if_neg (by decide), if_neg (by decide), if_neg (by decide), if_neg (by decide), if_neg (by decide), if_neg (by decide), if_pos rfl, if_neg q] at h; omega
  · subst e
    rw [if_neg (by decide), if_neg (by decide), if_neg (by decide), if_neg (by decide), if_neg (by decide), if_neg (by decide), if_neg (by decide), if_pos rfl] at h
    by_cases w : fs_cnt (fun f => fs_cut S f a b) (S 0 1 0).toNat = 0
    · rw [if_pos w] at h; omega
    · rw [if_neg w] at h
      by_cases w2 : S 0 1 0 + fs_cnt (fun f => fs_cut S f a b) (S 0 1 0).toNat ≤ 60
      · exact w2
      · rw [if_neg w2] at h; omega
/-- bits stay, where rules stay -/
theorem fs_bt_same {τ : fx_S} {A : fx_S} (hb : fs_bt σ i) (he : fs_eq A (fs_c τ i)) (hA : fs_ok A) (h1 : ∀ k x y, 9 ≤ k → k ≤ 12 → A k x y = fs_c σ i k x y) (h2 : ∀ t, τ 22 (8 * i + t) 5 = σ 22 (8 * i + t) 5) : fs_bt τ i := by
  intro t t0 t1
  rw [h2 t, hb t t0 t1, ← fs_bit_c he hA t0 t1, h1 9 t 0 (by omega) (by omega)]
  exact fs_bit_k _ (fun k k0 k1 => ⟨(h1 11 t k (by omega) (by omega)).symm, (h1 12 t k (by omega) (by omega)).symm⟩)
theorem fs_cutS_rul {S : fx_S} {th time : Int} {k : Nat} {x y : Int} (h1 : 9 ≤ k) : ∀ n : Nat, fs_cutS S th time n k x y = S k x y
  | 0 => rfl
  | n + 1 => by
    rw [fs_cutS]
    split
    · rw [fx_upE, if_neg (by omega)]
      unfold fs_fct
      simp only [fx_upE]
      rw [if_neg (by omega), if_neg (by omega), if_neg (by omega), if_neg (by omega), if_neg (by omega), if_neg (by omega), if_neg (by omega)]
      exact fs_cutS_rul h1 n
    · exact fs_cutS_rul h1 n
end FXA
