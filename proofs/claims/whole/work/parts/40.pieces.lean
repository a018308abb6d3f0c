theorem fs_cnt_or (A : Int → Bool) (c : Int) : ∀ n : Nat, fs_cnt (fun t => A t || decide (c = t)) n ≤ fs_cnt A n + (if 0 ≤ c ∧ c < n then 1 else 0)
  | 0 => by rw [fs_cnt, fs_cnt, if_neg (by omega)]; omega
  | n + 1 => by
    have ih := fs_cnt_or A c n
    rw [fs_cnt, fs_cnt]
    have h1 := fs_b01 (A n)
    by_cases e : c = n
    · rw [if_neg (by omega)] at ih
      rw [if_pos (by omega)]
      have h2 := fs_b01 (A n || decide (c = n))
      omega
    · rw [decide_eq_false e, Bool.or_false]
      by_cases h : 0 ≤ c ∧ c < n
      · rw [if_pos h] at ih
        rw [if_pos (by omega)]
        omega
      · rw [if_neg h] at ih
        rw [if_neg (by omega)]
        omega
/-- a time at which a piece begins, by the facts below k -/
def fs_mark (S : fx_S) (k : Nat) (t : Int) : Bool := decide (0 = t) || fs_any (fun f => decide (S 5 f 0 = t) || decide (S 6 f 0 = t)) k
theorem fs_mark_s {S : fx_S} {k : Nat} {t : Int} : fs_mark S (k + 1) t = ((fs_mark S k t || decide (S 5 k 0 = t)) || decide (S 6 k 0 = t)) := by
  unfold fs_mark
  rw [fs_any]
  simp only [Bool.or_assoc]
theorem fs_mark_le (S : fx_S) (n : Nat) : ∀ k : Nat, fs_cnt (fs_mark S k) n ≤ 1 + 2 * k
  | 0 => by
    have h := fs_cnt_or (fun _ => false) 0 n
    have e : fs_cnt (fun _ => false) n = 0 := by
      clear h
      induction n with
      | zero => rfl
      | succ n ih => rw [fs_cnt, ih]; rfl
    have e2 : fs_cnt (fs_mark S 0) n = fs_cnt (fun t => false || decide (0 = t)) n := fs_cnt_c n (fun k _ _ => by unfold fs_mark; simp [fs_any])
    rw [e] at h
    rw [e2]
    split at h <;> omega
  | k + 1 => by
    have ih := fs_mark_le S n k
    have h1 := fs_cnt_or (fs_mark S k) (S 5 k 0) n
    have h2 := fs_cnt_or (fun t => fs_mark S k t || decide (S 5 k 0 = t)) (S 6 k 0) n
    have e : fs_cnt (fs_mark S (k + 1)) n = fs_cnt (fun t => (fs_mark S k t || decide (S 5 k 0 = t)) || decide (S 6 k 0 = t)) n := fs_cnt_c n (fun t _ _ => fs_mark_s)
    rw [e]
    split at h1 <;> split at h2 <;> omega
theorem fs_cnt_ivt (A : Int → Bool) : ∀ (n : Nat) (p : Int), 0 ≤ p → p < fs_cnt A n → ∃ s : Int, 0 ≤ s ∧ s < n ∧ A s = true ∧ fs_cnt A s.toNat = p
  | 0, p, h0, h1 => by rw [fs_cnt] at h1; omega
  | n + 1, p, h0, h1 => by
    rw [fs_cnt] at h1
    by_cases h : p < fs_cnt A n
    · obtain ⟨s, a, b, c, d⟩ := fs_cnt_ivt A n p h0 h
      exact ⟨s, a, by omega, c, d⟩
    · cases hA : A n with
      | false => rw [hA] at h1; simp [fs_b] at h1; omega
      | true =>
        rw [hA] at h1
        simp only [fs_b, cond_true] at h1
        refine ⟨n, by omega, by omega, hA, ?_⟩
        rw [show ((n : Nat) : Int).toNat = n by omega]
        omega
/-- the times, cut into n pieces: where each begins, and the piece of each time -/
def fs_cutp (S : fx_S) (n : Int) (st pa : Int → Int) : Prop := (1 ≤ n ∧ n ≤ 121) ∧ (∀ t, 0 ≤ t → t < 1000 → 0 ≤ pa t ∧ pa t < n ∧ st (pa t) ≤ t ∧ t < st (pa t + 1)) ∧ st n = 1000 ∧ pa 1000 = n ∧ st 0 = 0 ∧ (∀ p, 0 ≤ p → p < n → 0 ≤ st p ∧ st p < st (p + 1) ∧ st (p + 1) ≤ 1000 ∧ pa (st p) = p) ∧ ∀ f, 0 ≤ f → f < S 0 1 0 → st (pa (S 5 f 0)) = S 5 f 0 ∧ st (pa (S 6 f 0)) = S 6 f 0
/-- and no other piece than those that facts make -/
def fs_cutq (S : fx_S) (n : Int) (st : Int → Int) : Prop := n = fs_cnt (fs_mark S (S 0 1 0).toNat) 1000 ∧ ∀ t, 0 ≤ t → t < 1000 → fs_mark S (S 0 1 0).toNat t = true → st (fs_cnt (fs_mark S (S 0 1 0).toNat) t.toNat) = t
theorem fs_cutp_of {S : fx_S} (ho : fs_ok S) {st pa : Int → Int} (A : Int → Bool) (hA : A = fs_mark S (S 0 1 0).toNat) {n : Int} (hn : n = fs_cnt A 1000) (hst : ∀ t, 0 ≤ t → t < 1000 → A t = true → st (fs_cnt A t.toNat) = t) (hpa : ∀ t, 0 ≤ t → t < 1000 → pa t = fs_cnt A (t + 1).toNat - 1) (h1 : st n = 1000) (h2 : pa 1000 = n) : fs_cutp S n st pa := by
  have hle : n ≤ 121 := by
    have := fs_mark_le S 1000 (S 0 1 0).toNat
    have := ho.2.1
    rw [hn, hA]
    omega
  have hA0 : A 0 = true := by rw [hA]; unfold fs_mark; simp
  have hc1 : fs_cnt A 1 = 1 := by rw [fs_cnt, fs_cnt, show ((0 : Nat) : Int) = 0 from rfl, hA0]; rfl
  have hmono : ∀ a b : Int, 0 ≤ a → a ≤ b → fs_cnt A a.toNat ≤ fs_cnt A b.toNat := fun a b _ h => fs_cnt_mono A (by omega)
  have hone : 1 ≤ n := by
    have := fs_cnt_mono A (show 1 ≤ 1000 by omega)
    omega
  -- where a piece begins
  have hpc : ∀ p, 0 ≤ p → p < n → ∃ s, 0 ≤ s ∧ s < 1000 ∧ A s = true ∧ fs_cnt A s.toNat = p ∧ st p = s := by
    intro p p0 p1
    obtain ⟨s, a, b, c, d⟩ := fs_cnt_ivt A 1000 p p0 (by omega)
    exact ⟨s, a, by omega, c, d, by rw [← d]; exact hst s a (by omega) c⟩
  have hs1 : ∀ s, 0 ≤ s → A s = true → fs_cnt A (s + 1).toNat = fs_cnt A s.toNat + 1 := by
    intro s s0 h
    rw [fs_cnt_s A s0, h]; rfl
  have hlt : ∀ p, 0 ≤ p → p < n → st p < st (p + 1) ∧ st (p + 1) ≤ 1000 := by
    intro p p0 p1
    obtain ⟨s, a, b, c, d, e⟩ := hpc p p0 p1
    by_cases h : p + 1 = n
    · rw [h, h1, e]; omega
    · obtain ⟨s2, a2, b2, c2, d2, e2⟩ := hpc (p + 1) (by omega) (by omega)
      rw [e, e2]
      refine ⟨?_, by omega⟩
      apply Classical.byContradiction
      intro hh
      have := hmono s2 s a2 (by omega)
      omega
  have hat : ∀ t, 0 ≤ t → t < 1000 → 0 ≤ pa t ∧ pa t < n ∧ st (pa t) ≤ t ∧ t < st (pa t + 1) := by
    intro t t0 t1
    have m1 := hmono (0 + 1) (t + 1) (by omega) (by omega)
    have m2 := hmono (t + 1) 1000 (by omega) (by omega)
    have e1 : fs_cnt A ((0 : Int) + 1).toNat = 1 := hc1
    have e2 : fs_cnt A ((1000 : Int)).toNat = n := hn.symm
    have hp := hpa t t0 t1
    refine ⟨by omega, by omega, ?_, ?_⟩
    · obtain ⟨s, a, b, c, d, e⟩ := hpc (pa t) (by omega) (by omega)
      rw [e]
      apply Classical.byContradiction
      intro hh
      have := hmono (t + 1) s (by omega) (by omega)
      omega
    · by_cases h : pa t + 1 = n
      · rw [h, h1]; exact t1
      · obtain ⟨s, a, b, c, d, e⟩ := hpc (pa t + 1) (by omega) (by omega)
        rw [e]
        apply Classical.byContradiction
        intro hh
        have := hmono (s + 1) (t + 1) (by omega) (by omega)
        have := hs1 s a c
        omega
  have hm : ∀ x, 0 ≤ x → x < 1000 → A x = true → st (pa x) = x := by
    intro x x0 x1 h
    rw [hpa x x0 x1, hs1 x x0 h, show fs_cnt A x.toNat + 1 - 1 = fs_cnt A x.toNat by omega]
    exact hst x x0 x1 h
  refine ⟨⟨hone, hle⟩, hat, h1, h2, ?_, fun p p0 p1 => ?_, fun f f0 f1 => ?_⟩
  · have := hst 0 (by omega) (by omega) hA0
    exact this
  · obtain ⟨s, a, b, c, d, e⟩ := hpc p p0 p1
    refine ⟨by omega, (hlt p p0 p1).1, (hlt p p0 p1).2, ?_⟩
    rw [e, hpa s a b, hs1 s a c]
    omega
  · have hf := (ho.2.2.2.1 f f0 f1).2.2.1
    have hk : ∀ x, (S 5 f 0 = x ∨ S 6 f 0 = x) → A x = true := by
      intro x hx
      rw [hA]
      unfold fs_mark
      rw [Bool.or_eq_true, fs_any_i]
      refine Or.inr ⟨f, f0, by omega, ?_⟩
      simp only [Bool.or_eq_true, decide_eq_true_eq]
      exact hx
    refine ⟨hm _ (by omega) (by omega) (hk _ (Or.inl rfl)), ?_⟩
    by_cases h : S 6 f 0 = 1000
    · rw [h, h2, h1]
    · exact hm _ (by omega) (by omega) (hk _ (Or.inr rfl))
