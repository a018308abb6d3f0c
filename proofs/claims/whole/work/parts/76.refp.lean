/-- the kinds that words give -/
def fs_wk (o : Nat) : Int := fx_nth [17, 18, 19, 20, 21, 22, 23, 24, 13, 8, 9, 10, 11, 12, 14, 15, 16] o 2
theorem fs_kw_o {o : Nat} (h : o < 17) : fs_kw (fs_w o) = fs_wk o := by
  have : o = 0 ∨ o = 1 ∨ o = 2 ∨ o = 3 ∨ o = 4 ∨ o = 5 ∨ o = 6 ∨ o = 7 ∨ o = 8 ∨ o = 9 ∨ o = 10 ∨ o = 11 ∨ o = 12 ∨ o = 13 ∨ o = 14 ∨ o = 15 ∨ o = 16 := by omega
  rcases this with rfl | rfl | rfl | rfl | rfl | rfl | rfl | rfl | rfl | rfl | rfl | rfl | rfl | rfl | rfl | rfl | rfl <;> rfl
theorem fx_ite_e {c : Prop} {i : Decidable c} {a b x : Int} (h : (if c then a else b) = x) : (c ∧ a = x) ∨ (¬ c ∧ b = x) := by
  by_cases g : c
  · rw [if_pos g] at h; exact Or.inl ⟨g, h⟩
  · rw [if_neg g] at h; exact Or.inr ⟨g, h⟩
theorem fs_k1_e {L : List Int} {x : Int} (h : fs_k1 L = x) (hx : x ≠ 2) : ∃ o : Nat, o < 8 ∧ L = fs_w o ∧ x = 17 + o := by
  unfold fs_k1 at h
  rcases fx_ite_e h with ⟨a, b⟩ | ⟨-, h⟩
  · exact ⟨0, by omega, a, by omega⟩
  rcases fx_ite_e h with ⟨a, b⟩ | ⟨-, h⟩
  · exact ⟨1, by omega, a, by omega⟩
  rcases fx_ite_e h with ⟨a, b⟩ | ⟨-, h⟩
  · exact ⟨2, by omega, a, by omega⟩
  rcases fx_ite_e h with ⟨a, b⟩ | ⟨-, h⟩
  · exact ⟨3, by omega, a, by omega⟩
  rcases fx_ite_e h with ⟨a, b⟩ | ⟨-, h⟩
  · exact ⟨4, by omega, a, by omega⟩
  rcases fx_ite_e h with ⟨a, b⟩ | ⟨-, h⟩
  · exact ⟨5, by omega, a, by omega⟩
  rcases fx_ite_e h with ⟨a, b⟩ | ⟨-, h⟩
  · exact ⟨6, by omega, a, by omega⟩
  rcases fx_ite_e h with ⟨a, b⟩ | ⟨-, h⟩
  · exact ⟨7, by omega, a, by omega⟩
  exact absurd h.symm hx
theorem fs_k2_e {L : List Int} {x : Int} (h : fs_k2 L = x) (hx : x ≠ 2) : ∃ o : Nat, 8 ≤ o ∧ o < 17 ∧ L = fs_w o ∧ x = (if o = 8 then 13 else if o ≤ 13 then (o : Int) - 1 else o) := by
  unfold fs_k2 at h
  rcases fx_ite_e h with ⟨a, b⟩ | ⟨-, h⟩
  · exact ⟨8, by omega, by omega, a, by simpa using b.symm⟩
  rcases fx_ite_e h with ⟨a, b⟩ | ⟨-, h⟩
  · exact ⟨9, by omega, by omega, a, by simpa using b.symm⟩
  rcases fx_ite_e h with ⟨a, b⟩ | ⟨-, h⟩
  · exact ⟨10, by omega, by omega, a, by simpa using b.symm⟩
  rcases fx_ite_e h with ⟨a, b⟩ | ⟨-, h⟩
  · exact ⟨11, by omega, by omega, a, by simpa using b.symm⟩
  rcases fx_ite_e h with ⟨a, b⟩ | ⟨-, h⟩
  · exact ⟨12, by omega, by omega, a, by simpa using b.symm⟩
  rcases fx_ite_e h with ⟨a, b⟩ | ⟨-, h⟩
  · exact ⟨13, by omega, by omega, a, by simpa using b.symm⟩
  rcases fx_ite_e h with ⟨a, b⟩ | ⟨-, h⟩
  · exact ⟨14, by omega, by omega, a, by simpa using b.symm⟩
  rcases fx_ite_e h with ⟨a, b⟩ | ⟨-, h⟩
  · exact ⟨15, by omega, by omega, a, by simpa using b.symm⟩
  rcases fx_ite_e h with ⟨a, b⟩ | ⟨-, h⟩
  · exact ⟨16, by omega, by omega, a, by simpa using b.symm⟩
  exact absurd h.symm hx
theorem fs_wk_n {o : Nat} (h : o < 17) : fs_wk o = (if o < 8 then 17 + (o : Int) else if o = 8 then 13 else if o ≤ 13 then (o : Int) - 1 else o) := by
  have : o = 0 ∨ o = 1 ∨ o = 2 ∨ o = 3 ∨ o = 4 ∨ o = 5 ∨ o = 6 ∨ o = 7 ∨ o = 8 ∨ o = 9 ∨ o = 10 ∨ o = 11 ∨ o = 12 ∨ o = 13 ∨ o = 14 ∨ o = 15 ∨ o = 16 := by omega
  rcases this with rfl | rfl | rfl | rfl | rfl | rfl | rfl | rfl | rfl | rfl | rfl | rfl | rfl | rfl | rfl | rfl | rfl <;> rfl
theorem fs_wk_i {o o' : Nat} (h : o < 17) (h' : o' < 17) (e : fs_wk o = fs_wk o') : o = o' := by
  rw [fs_wk_n h, fs_wk_n h'] at e
  revert e
  repeat' split
  all_goals omega
theorem fs_wk_r {o : Nat} (h : o < 17) : 8 ≤ fs_wk o ∧ fs_wk o ≤ 24 := by
  rw [fs_wk_n h]
  repeat' split
  all_goals omega
theorem fs_kw_i {L : List Int} {o : Nat} (h : o < 17) : fs_kw L = fs_wk o ↔ L = fs_w o := by
  constructor
  · intro e
    have hr := fs_wk_r h
    have ex : ∃ o' : Nat, o' < 17 ∧ L = fs_w o' := by
      unfold fs_kw at e
      rcases fx_ite_e e with ⟨a, b⟩ | ⟨a, b⟩
      · obtain ⟨o', -, h2, h3, -⟩ := fs_k2_e b (by omega)
        exact ⟨o', h2, h3⟩
      · obtain ⟨o', h1, h2, -⟩ := fs_k1_e b (by omega)
        exact ⟨o', by omega, h2⟩
    obtain ⟨o', h1, h2⟩ := ex
    rw [h2, fs_kw_o h1] at e
    rw [h2, fs_wk_i h1 h e]
  · rintro rfl
    exact fs_kw_o h
theorem fs_kw_r {L : List Int} : fs_kw L = 2 ∨ (8 ≤ fs_kw L ∧ fs_kw L ≤ 24) := by
  by_cases z : fs_kw L = 2
  · exact Or.inl z
  · right
    unfold fs_kw at z ⊢
    by_cases y : fs_k1 L = 2
    · rw [if_pos y] at z ⊢
      obtain ⟨o, h1, h2, -, h4⟩ := fs_k2_e rfl z
      rw [h4]
      repeat' split
      all_goals omega
    · rw [if_neg y] at z ⊢
      obtain ⟨o, h1, -, h4⟩ := fs_k1_e rfl z
      omega
theorem fs_w_l {o : Nat} (h : o < 17) : 2 ≤ (fs_w o).length := by
  have : o = 0 ∨ o = 1 ∨ o = 2 ∨ o = 3 ∨ o = 4 ∨ o = 5 ∨ o = 6 ∨ o = 7 ∨ o = 8 ∨ o = 9 ∨ o = 10 ∨ o = 11 ∨ o = 12 ∨ o = 13 ∨ o = 14 ∨ o = 15 ∨ o = 16 := by omega
  rcases this with rfl | rfl | rfl | rfl | rfl | rfl | rfl | rfl | rfl | rfl | rfl | rfl | rfl | rfl | rfl | rfl | rfl <;> exact Nat.le_of_ble_eq_true rfl
section FXRP
variable {T : Int → Int} {N p : Int}
theorem fs_sy_r {c : Int} : 2 ≤ fs_sy c ∧ fs_sy c ≤ 7 := by
  unfold fs_sy
  repeat' split
  all_goals omega
theorem fs_tk_w {o : Nat} (h : o < 17) (hp : p ≤ N) : fs_sl T p (fs_rn fs_let T N p - p).toNat = fs_w o ↔ fs_tk T N p = fs_wk o := by
  have hr := fs_wk_r h
  have hl := fs_w_l h
  have hs := @fs_sy_r (T p)
  have nil : fs_rn fs_let T N p = p → ¬ fs_sl T p (fs_rn fs_let T N p - p).toNat = fs_w o := fun e z => by
    have := ((fs_sl_eq _ _ _).mp z).1
    rw [e] at this
    omega
  unfold fs_tk
  by_cases q : N ≤ p
  · rw [if_pos q]
    exact ⟨fun z => absurd z (nil (fs_rn_e q)), fun z => by omega⟩
  · rw [if_neg q]
    by_cases l : fs_let (T p) = true
    · rw [if_pos l]
      exact (fs_kw_i h).symm
    · rw [if_neg l]
      refine ⟨fun z => absurd z (nil (fs_rn_n (by simpa using l))), fun z => ?_⟩
      by_cases d : fs_dig (T p) = true
      · rw [if_pos d] at z
        revert z
        repeat' split
        all_goals omega
      · rw [if_neg d] at z
        omega
theorem fs_te_w {o : Nat} (h : o < 17) (hk : fs_tk T N p = fs_wk o) : fs_te T N p = fs_rn fs_let T N p := by
  have hr := fs_wk_r h
  have hs := @fs_sy_r (T p)
  unfold fs_tk at hk
  unfold fs_te
  by_cases q : N ≤ p
  · rw [if_pos q] at hk; omega
  · rw [if_neg q] at hk ⊢
    by_cases l : fs_let (T p) = true
    · rw [if_pos l]
    · rw [if_neg l] at hk
      by_cases d : fs_dig (T p) = true
      · rw [if_pos d] at hk
        exfalso
        revert hk
        repeat' split
        all_goals omega
      · rw [if_neg d] at hk
        omega
/-- a sign stands at p -/
theorem fs_tk_s {c : Int} (hc : c = 40 ∨ c = 41 ∨ c = 43 ∨ c = 45 ∨ c = 59) : (p < N ∧ T p = c) ↔ fs_tk T N p = fs_sy c := by
  have hsc : fs_sy c = 4 ∧ c = 40 ∨ fs_sy c = 5 ∧ c = 41 ∨ fs_sy c = 6 ∧ c = 43 ∨ fs_sy c = 7 ∧ c = 45 ∨ fs_sy c = 3 ∧ c = 59 := by
    rcases hc with rfl | rfl | rfl | rfl | rfl <;> simp [fs_sy]
  have hw := @fs_kw_r (fs_sl T p (fs_rn fs_let T N p - p).toNat)
  unfold fs_tk
  by_cases q : N ≤ p
  · rw [if_pos q]
    exact ⟨fun z => by omega, fun z => by omega⟩
  · rw [if_neg q]
    by_cases l : fs_let (T p) = true
    · rw [if_pos l]
      refine ⟨fun z => ?_, fun z => by omega⟩
      rw [z.2] at l
      unfold fs_let at l
      simp only [Bool.and_eq_true, decide_eq_true_eq] at l
      omega
    · rw [if_neg l]
      by_cases d : fs_dig (T p) = true
      · rw [if_pos d]
        refine ⟨fun z => ?_, fun z => ?_⟩
        · rw [z.2] at d
          unfold fs_dig at d
          simp only [Bool.and_eq_true, decide_eq_true_eq] at d
          omega
        · exfalso
          revert z
          repeat' split
          all_goals omega
      · rw [if_neg d]
        refine ⟨fun z => by rw [z.2], fun z => ⟨by omega, ?_⟩⟩
        unfold fs_sy at z
        revert z
        repeat' split
        all_goals omega
theorem fs_te_s {c : Int} (hc : c = 40 ∨ c = 41 ∨ c = 43 ∨ c = 45 ∨ c = 59) (h : p < N) (hT : T p = c) : fs_te T N p = p + 1 := by
  have l : fs_let (T p) = false := by
    rw [hT]
    rcases hc with rfl | rfl | rfl | rfl | rfl <;> decide
  have d : fs_dig (T p) = false := by
    rw [hT]
    rcases hc with rfl | rfl | rfl | rfl | rfl <;> decide
  unfold fs_te
  rw [if_neg (by omega), l, d]; rfl
end FXRP
