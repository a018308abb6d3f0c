noncomputable def fx_Rt (mj : Nat) (as : List fx_V) (σ : fx_S) (v : fx_V) (σ' : fx_S) : Prop := fx_Ca mj as σ (fun w s => w = v ∧ s = σ')
section FXR2
variable {mj : Nat} {as : List fx_V} {σ σ' : fx_S} {x : Int} {Q : fx_V → fx_S → Prop}
theorem fx_Rt.I {C : Int → fx_S → Prop} (h : fx_Rt mj as σ (0, x) σ') (k : C x σ') : fx_CI mj as σ Q C := fx_Wp.mono h (fun v s hv => by obtain ⟨rfl, rfl⟩ := hv; exact Or.inl ⟨rfl, k⟩)
theorem fx_Rt.IX {C : Int → fx_S → Prop} (h : fx_Rt mj as σ (5, x) σ') (k : Q (5, x) σ') : fx_CI mj as σ Q C := fx_Wp.mono h (fun v s hv => by obtain ⟨rfl, rfl⟩ := hv; exact Or.inr ⟨rfl, k⟩)
theorem fx_Rt.V {C : fx_S → Prop} (h : fx_Rt mj as σ (4, x) σ') (k : C σ') : fx_CV mj as σ Q C := fx_Wp.mono h (fun v s hv => by obtain ⟨rfl, rfl⟩ := hv; exact Or.inl ⟨rfl, k⟩)
theorem fx_Rt.VX {C : fx_S → Prop} (h : fx_Rt mj as σ (5, x) σ') (k : Q (5, x) σ') : fx_CV mj as σ Q C := fx_Wp.mono h (fun v s hv => by obtain ⟨rfl, rfl⟩ := hv; exact Or.inr ⟨rfl, k⟩)
theorem fx_Rt.O {K : Nat} {C : Int → fx_S → Prop} (h : fx_Rt mj as σ (K, x) σ') (h4 : K ≠ 4) (h5 : K ≠ 5) (k : C x σ') : fx_CR K mj as σ Q C := fx_Wp.mono h (fun v s hv => by obtain ⟨rfl, rfl⟩ := hv; exact Or.inl ⟨rfl, h4, h5, k⟩)
/-- a call whose outcome is told by what it comes to -/
theorem fx_CI_of {C : Int → fx_S → Prop} {P : fx_V → fx_S → Prop} (h : fx_Ca mj as σ P) (k : ∀ v s, P v s → (v.1 = 0 ∧ C v.2 s) ∨ (v.1 = 5 ∧ Q v s)) : fx_CI mj as σ Q C := fx_Wp.mono h k
theorem fx_CV_of {C : fx_S → Prop} {P : fx_V → fx_S → Prop} (h : fx_Ca mj as σ P) (k : ∀ v s, P v s → (v.1 = 4 ∧ C s) ∨ (v.1 = 5 ∧ Q v s)) : fx_CV mj as σ Q C := fx_Wp.mono h k
end FXR2
/-- a loop that counts up: what holds ahead of round k, and how the locals and the store are then -/
theorem fx_for {mi pc : Nat} {Q : fx_V → fx_S → Prop} (Lf : Int → List fx_V) (σf : Int → fx_S) (lo hi : Int) (I : Int → Prop) (hle : lo ≤ hi) (h0 : I lo)
    (step : ∀ k, lo ≤ k → k < hi → I k → (I (k + 1) → fx_Wp mi pc (Lf (k + 1)) [] (σf (k + 1)) Q) → fx_Wp mi pc (Lf k) [] (σf k) Q) (fin : I hi → fx_Wp mi pc (Lf hi) [] (σf hi) Q) : fx_Wp mi pc (Lf lo) [] (σf lo) Q := by
  have key : ∀ (n : Nat) (k : Int), lo ≤ k → k ≤ hi → (hi - k).toNat = n → I k → fx_Wp mi pc (Lf k) [] (σf k) Q := by
    intro n
    induction n with
    | zero =>
      intro k h1 h2 h3 hI
      have e : k = hi := by omega
      subst e
      exact fin hI
    | succ n ih =>
      intro k h1 h2 h3 hI
      exact step k h1 (by omega) hI (fun hI' => ih (k + 1) (by omega) (by omega) (by omega) hI')
  exact key _ lo (Int.le_refl _) hle rfl h0
/-- a loop by a measure -/
theorem fx_whl {mi pc : Nat} {Q : fx_V → fx_S → Prop} {X : Type} (Lf : X → List fx_V) (σf : X → fx_S) (I : X → Prop) (μ : X → Nat) (step : ∀ x, I x → (∀ y, I y → μ y < μ x → fx_Wp mi pc (Lf y) [] (σf y) Q) → fx_Wp mi pc (Lf x) [] (σf x) Q) (x : X) (h : I x) : fx_Wp mi pc (Lf x) [] (σf x) Q := by
  have key : ∀ (n : Nat) (x : X), I x → μ x < n → fx_Wp mi pc (Lf x) [] (σf x) Q := by
    intro n
    induction n with
    | zero => intro x _ h; omega
    | succ n ih =>
      intro x hx hn
      exact step x hx (fun y hy hyx => ih y hy (by omega))
  exact key (μ x + 1) x h (by omega)
theorem fx_rgi {x : Int} (h : -2147483648 ≤ x) (h2 : x < 2147483648) : fx_rg x := ⟨h, h2⟩
/-! ===== what the document says, over what a state holds: by field (0 how many; of a source 1 rank, 2 silent; of a fact 3 thing, 4 source, 5 from, 6 to, 7 value, 8 withdrawn; of a rule 9 nodes, 10 atoms, 11 kinds, 12 left, 13 right, 14 bits), place, place ===== -/
def fs_b (b : Bool) : Int := cond b 1 0
theorem fs_b01 (b : Bool) : fs_b b = 0 ∨ fs_b b = 1 := by cases b; exact Or.inl rfl; exact Or.inr rfl
theorem fs_bT {b : Bool} (h : b = true) : fs_b b = 1 := by rw [h]; rfl
theorem fs_bF {b : Bool} (h : b = false) : fs_b b = 0 := by rw [h]; rfl
theorem fs_b0 {b : Bool} : fs_b b = 0 ↔ b = false := by cases b <;> simp [fs_b]
theorem fs_b1 {b : Bool} : fs_b b ≠ 0 ↔ b = true := by cases b <;> simp [fs_b]
/-- the state of class State with number i -/
def fs_c (σ : fx_S) (i : Int) : fx_S := fun k a b => match k with
  | 0 => σ 11 i (9 + a)
  | 1 => σ 13 i a
  | 2 => σ 14 i a
  | 3 => σ 15 i a
  | 4 => σ 16 i a
  | 5 => σ 17 i a
  | 6 => σ 18 i a
  | 7 => σ 19 i a
  | 8 => σ 20 i a
  | 9 => σ 22 (8 * i + a) 3
  | 10 => σ 22 (8 * i + a) 4
  | 11 => σ 23 (8 * i + a) b
  | 12 => σ 24 (8 * i + a) b
  | 13 => σ 25 (8 * i + a) b
  | _ => σ 22 (8 * i + a) 5
/-- the kinds of a rule's nodes, in the other form's numbers -/
def fs_kd (m : Int) : Int := if m = 0 then 13 else if m = 1 then 1 else if 2 ≤ m ∧ m ≤ 8 then m + 4 else 0
/-- the state in the other form: an array of kind K, from place b0 on -/
def fs_m (σ : fx_S) (K : Nat) (b0 : Int) : fx_S := fun k a b => match k with
  | 0 => σ K 0 (b0 + a)
  | 1 => σ K 0 (b0 + 2 + a)
  | 2 => σ K 0 (b0 + 10 + a)
  | 3 => σ K 0 (b0 + 18 + 6 * a)
  | 4 => σ K 0 (b0 + 18 + 6 * a + 1)
  | 5 => σ K 0 (b0 + 18 + 6 * a + 2)
  | 6 => σ K 0 (b0 + 18 + 6 * a + 3)
  | 7 => σ K 0 (b0 + 18 + 6 * a + 4)
  | 8 => σ K 0 (b0 + 18 + 6 * a + 5)
  | 9 => σ K 0 (b0 + 378 + 94 * a)
  | 10 => σ K 0 (b0 + 378 + 94 * a + 1)
  | 11 => fs_kd (σ K 0 (b0 + 378 + 94 * a + 2 + 4 * b))
  | 12 => if σ K 0 (b0 + 378 + 94 * a + 2 + 4 * b) ≤ 1 then σ K 0 (b0 + 378 + 94 * a + 2 + 4 * b + 1) else σ K 0 (b0 + 378 + 94 * a + 2 + 4 * b + 2)
  | 13 => σ K 0 (b0 + 378 + 94 * a + 2 + 4 * b + 3)
  | _ => 0
/-- what a rule's node may be: a number, a thing of a lesser number, a sign over nodes ahead -/
def fs_okn (S : fx_S) (t k : Int) : Prop := (S 11 t k = 1 ∧ 0 ≤ S 12 t k ∧ S 12 t k < 100) ∨ (S 11 t k = 13 ∧ 0 ≤ S 12 t k ∧ S 12 t k < t) ∨ (6 ≤ S 11 t k ∧ S 11 t k ≤ 12 ∧ 0 ≤ S 12 t k ∧ S 12 t k < k ∧ 0 ≤ S 13 t k ∧ S 13 t k < k)
/-- a state as it can be -/
def fs_ok (S : fx_S) : Prop := (0 ≤ S 0 0 0 ∧ S 0 0 0 ≤ 8) ∧ (0 ≤ S 0 1 0 ∧ S 0 1 0 ≤ 60) ∧ (∀ s, 0 ≤ s → s < S 0 0 0 → 0 ≤ S 1 s 0 ∧ S 1 s 0 < 100 ∧ (S 2 s 0 = 0 ∨ S 2 s 0 = 1)) ∧
  (∀ f, 0 ≤ f → f < S 0 1 0 → (0 ≤ S 3 f 0 ∧ S 3 f 0 < 8) ∧ (0 ≤ S 4 f 0 ∧ S 4 f 0 < S 0 0 0) ∧ (0 ≤ S 5 f 0 ∧ S 5 f 0 < S 6 f 0 ∧ S 6 f 0 ≤ 1000) ∧ (0 ≤ S 7 f 0 ∧ S 7 f 0 < 100) ∧ (S 8 f 0 = 0 ∨ S 8 f 0 = 1)) ∧
  ∀ t, 0 ≤ t → t < 8 → (0 ≤ S 9 t 0 ∧ S 9 t 0 ≤ 23) ∧ (0 ≤ S 10 t 0 ∧ S 10 t 0 ≤ 12) ∧ (∀ k, 0 ≤ k → k < S 9 t 0 → fs_okn S t k) ∧ (S 9 t 0 = 0 → S 10 t 0 = 0)
/-- two that say the same -/
def fs_eq (S T : fx_S) : Prop := S 0 0 0 = T 0 0 0 ∧ S 0 1 0 = T 0 1 0 ∧ (∀ s, 0 ≤ s → s < S 0 0 0 → S 1 s 0 = T 1 s 0 ∧ S 2 s 0 = T 2 s 0) ∧
  (∀ f, 0 ≤ f → f < S 0 1 0 → S 3 f 0 = T 3 f 0 ∧ S 4 f 0 = T 4 f 0 ∧ S 5 f 0 = T 5 f 0 ∧ S 6 f 0 = T 6 f 0 ∧ S 7 f 0 = T 7 f 0 ∧ S 8 f 0 = T 8 f 0) ∧
  ∀ t, 0 ≤ t → t < 8 → S 9 t 0 = T 9 t 0 ∧ S 10 t 0 = T 10 t 0 ∧ ∀ k, 0 ≤ k → k < S 9 t 0 → S 11 t k = T 11 t k ∧ S 12 t k = T 12 t k ∧ (6 ≤ S 11 t k → S 13 t k = T 13 t k)
/-- how many places below n -/
def fs_cnt (P : Int → Bool) : Nat → Int
  | 0 => 0
  | n + 1 => fs_cnt P n + fs_b (P n)
theorem fs_cnt_s (P : Int → Bool) {k : Int} (h : 0 ≤ k) : fs_cnt P (k + 1).toNat = fs_cnt P k.toNat + fs_b (P k) := by
  have e : (k + 1).toNat = k.toNat + 1 := by omega
  rw [e, fs_cnt, show ((k.toNat : Nat) : Int) = k by omega]
theorem fs_cnt_le (P : Int → Bool) : ∀ n : Nat, 0 ≤ fs_cnt P n ∧ fs_cnt P n ≤ n
  | 0 => ⟨Int.le_refl _, Int.le_refl _⟩
  | n + 1 => by
    have := fs_cnt_le P n
    rcases fs_b01 (P n) with h | h <;> (rw [fs_cnt, h]; constructor <;> omega)
theorem fs_cnt_b (P : Int → Bool) (k : Int) (h : 0 ≤ k) : 0 ≤ fs_cnt P k.toNat ∧ fs_cnt P k.toNat ≤ k := by
  have := fs_cnt_le P k.toNat
  omega
theorem fs_cnt_c {P P' : Int → Bool} : ∀ n : Nat, (∀ k : Int, 0 ≤ k → k < n → P k = P' k) → fs_cnt P n = fs_cnt P' n
  | 0, _ => rfl
  | n + 1, h => by rw [fs_cnt, fs_cnt, fs_cnt_c n (fun k h1 h2 => h k h1 (by omega)), h n (by omega) (by omega)]
def fs_holds (S : fx_S) (f time : Int) : Bool := decide (S 8 f 0 = 0) && decide (S 2 (S 4 f 0) 0 = 0) && decide (S 5 f 0 ≤ time) && decide (time < S 6 f 0)
/-- a fact of a thing that holds at a time -/
def fs_hold (S : fx_S) (f th time : Int) : Bool := decide (S 3 f 0 = th) && fs_holds S f time
def fs_better (S : fx_S) (a b : Int) : Bool := decide ((S 4 a 0 ≠ S 4 b 0 ∧ (S 1 (S 4 b 0) 0 < S 1 (S 4 a 0) 0 ∨ (S 1 (S 4 a 0) 0 = S 1 (S 4 b 0) 0 ∧ S 4 a 0 < S 4 b 0))) ∨
  (S 4 a 0 = S 4 b 0 ∧ (S 6 a 0 - S 5 a 0 < S 6 b 0 - S 5 b 0 ∨ (S 6 a 0 - S 5 a 0 = S 6 b 0 - S 5 b 0 ∧ (S 5 b 0 < S 5 a 0 ∨ (S 5 a 0 = S 5 b 0 ∧ (S 7 b 0 < S 7 a 0 ∨ (S 7 a 0 = S 7 b 0 ∧ a < b))))))))
/-- the best of the places below n that P names -/
def fs_best (P : Int → Bool) (B : Int → Int → Bool) : Nat → Int
  | 0 => -1
  | n + 1 => if P n && (decide (fs_best P B n = -1) || B n (fs_best P B n)) then n else fs_best P B n
theorem fs_best_s (P : Int → Bool) (B : Int → Int → Bool) {k : Int} (h : 0 ≤ k) : fs_best P B (k + 1).toNat = if P k && (decide (fs_best P B k.toNat = -1) || B k (fs_best P B k.toNat)) then k else fs_best P B k.toNat := by
  have e : (k + 1).toNat = k.toNat + 1 := by omega
  rw [e, fs_best, show ((k.toNat : Nat) : Int) = k by omega]
theorem fs_best_in (P : Int → Bool) (B : Int → Int → Bool) : ∀ n : Nat, fs_best P B n = -1 ∨ (0 ≤ fs_best P B n ∧ fs_best P B n < n ∧ P (fs_best P B n) = true)
  | 0 => Or.inl rfl
  | n + 1 => by
    rw [fs_best]
    by_cases h : (P n && (decide (fs_best P B n = -1) || B n (fs_best P B n))) = true
    · rw [if_pos h]
      simp only [Bool.and_eq_true] at h
      exact Or.inr ⟨by omega, by omega, h.1⟩
    · rw [if_neg h]
      rcases fs_best_in P B n with h1 | h1
      · exact Or.inl h1
      · exact Or.inr ⟨h1.1, by omega, h1.2.2⟩
theorem fs_best_c {P P' : Int → Bool} {B B' : Int → Int → Bool} : ∀ n : Nat, (∀ k : Int, 0 ≤ k → k < n → P k = P' k) → (∀ a b : Int, 0 ≤ a → a < n → 0 ≤ b → b < n → P a = true → P b = true → B a b = B' a b) → fs_best P B n = fs_best P' B' n
  | 0, _, _ => rfl
  | n + 1, hP, hB => by
    have ih := fs_best_c n (fun k h1 h2 => hP k h1 (by omega)) (fun a b h1 h2 h3 h4 => hB a b h1 (by omega) h3 (by omega))
    rw [fs_best, fs_best, ← ih, ← hP n (by omega) (by omega)]
    cases hp : P n with
    | false => rfl
    | true =>
      rcases fs_best_in P B n with h1 | ⟨h1, h2, h3⟩
      · rw [h1]; rfl
      · rw [hB n _ (by omega) (by omega) h1 (by omega) hp h3]
theorem fs_hold_c {S T : fx_S} (h : fs_eq S T) (ho : fs_ok S) {f th time : Int} (h0 : 0 ≤ f) (h1 : f < S 0 1 0) : fs_hold S f th time = fs_hold T f th time := by
  obtain ⟨e0, e1, es, ef, -⟩ := h
  obtain ⟨a3, a4, a5, a6, a7, a8⟩ := ef f h0 h1
  have b4 := (ho.2.2.2.1 f h0 h1).2.1
  have c2 := (es _ b4.1 b4.2).2
  unfold fs_hold fs_holds
  rw [c2, a3, a4, a5, a6, a8]
theorem fs_better_c {S T : fx_S} (h : fs_eq S T) (ho : fs_ok S) {f g : Int} (h0 : 0 ≤ f) (h1 : f < S 0 1 0) (h2 : 0 ≤ g) (h3 : g < S 0 1 0) : fs_better S f g = fs_better T f g := by
  obtain ⟨e0, e1, es, ef, -⟩ := h
  obtain ⟨a3, a4, a5, a6, a7, a8⟩ := ef f h0 h1
  obtain ⟨b3, b4, b5, b6, b7, b8⟩ := ef g h2 h3
  have c1 := (es _ (ho.2.2.2.1 f h0 h1).2.1.1 (ho.2.2.2.1 f h0 h1).2.1.2).1
  have c2 := (es _ (ho.2.2.2.1 g h2 h3).2.1.1 (ho.2.2.2.1 g h2 h3).2.1.2).1
  unfold fs_better
  rw [c1, c2, a4, a5, a6, a7, b4, b5, b6, b7]
