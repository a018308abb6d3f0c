def fs_let (c : Int) : Bool := decide (97 ≤ c) && decide (c ≤ 122)
def fs_dig (c : Int) : Bool := decide (48 ≤ c) && decide (c ≤ 57)
def fs_spc (c : Int) : Bool := decide (c = 32)
/-- the end of a run of octets of one sort -/
def fs_rnn (P : Int → Bool) (T : Int → Int) : Nat → Int → Int
  | 0, p => p
  | n + 1, p => if P (T p) then fs_rnn P T n (p + 1) else p
def fs_rn (P : Int → Bool) (T : Int → Int) (N p : Int) : Int := fs_rnn P T (N - p).toNat p
section FXLX
variable {P : Int → Bool} {T : Int → Int} {N p : Int}
theorem fs_rn_e (h : N ≤ p) : fs_rn P T N p = p := by
  unfold fs_rn
  rw [show (N - p).toNat = 0 by omega]; rfl
theorem fs_rn_y (h : p < N) (hp : P (T p) = true) : fs_rn P T N p = fs_rn P T N (p + 1) := by
  unfold fs_rn
  rw [show (N - p).toNat = (N - (p + 1)).toNat + 1 by omega, fs_rnn, if_pos hp]
theorem fs_rn_n (hp : P (T p) = false) : fs_rn P T N p = p := by
  unfold fs_rn
  cases (N - p).toNat with
  | zero => rfl
  | succ n => rw [fs_rnn, hp]; rfl
theorem fs_rnn_r : ∀ (n : Nat) (p : Int), p ≤ fs_rnn P T n p ∧ fs_rnn P T n p ≤ p + n ∧ (fs_rnn P T n p < p + n → P (T (fs_rnn P T n p)) = false) ∧ ∀ k, p ≤ k → k < fs_rnn P T n p → P (T k) = true
  | 0, p => ⟨by simp [fs_rnn], by simp [fs_rnn], fun h => by simp [fs_rnn] at h, fun k a b => by simp only [fs_rnn] at b; omega⟩
  | n + 1, p => by
    rw [fs_rnn]
    cases hp : P (T p) with
    | false => exact ⟨by simp, by simp; omega, fun _ => by simpa using hp, fun k a b => by simp at b; omega⟩
    | true =>
      obtain ⟨a, b, c, d⟩ := fs_rnn_r n (p + 1)
      simp only [if_true]
      refine ⟨by omega, by omega, fun h => c (by omega), fun k k0 k1 => ?_⟩
      by_cases e : k = p
      · rw [e]; exact hp
      · exact d k (by omega) k1
theorem fs_rn_r (h : p ≤ N) : p ≤ fs_rn P T N p ∧ fs_rn P T N p ≤ N ∧ (fs_rn P T N p < N → P (T (fs_rn P T N p)) = false) ∧ ∀ k, p ≤ k → k < fs_rn P T N p → P (T k) = true := by
  obtain ⟨a, b, c, d⟩ := fs_rnn_r (P := P) (T := T) (N - p).toNat p
  exact ⟨a, by unfold fs_rn; omega, fun h => c (by unfold fs_rn at h; omega), d⟩
theorem fs_rn_i (h : p ≤ N) : fs_rn P T N (fs_rn P T N p) = fs_rn P T N p := by
  obtain ⟨a, b, c, d⟩ := fs_rn_r (P := P) (T := T) h
  by_cases e : fs_rn P T N p < N
  · exact fs_rn_n (c e)
  · exact fs_rn_e (by omega)
/-- what stands at p, from p up to e, for some p ahead of it -/
theorem fs_rn_k {q : Int} (h : p ≤ q) (hq : q ≤ N) (hk : ∀ k, p ≤ k → k < q → P (T k) = true) (he : q < N → P (T q) = false) : fs_rn P T N p = q := by
  have : ∀ (n : Nat) (p : Int), (q - p).toNat = n → p ≤ q → (∀ k, p ≤ k → k < q → P (T k) = true) → fs_rn P T N p = q := by
    intro n
    induction n with
    | zero =>
      intro p e h1 _
      have : p = q := by omega
      subst this
      by_cases z : p < N
      · exact fs_rn_n (he z)
      · exact fs_rn_e (by omega)
    | succ n ih =>
      intro p e h1 h2
      rw [fs_rn_y (by omega) (h2 p (by omega) (by omega))]
      exact ih (p + 1) (by omega) (by omega) (fun k a b => h2 k (by omega) b)
  exact this _ p rfl h hk
end FXLX
noncomputable def fs_w (o : Nat) : List Int := fx_nth fx_tx o []
def fs_sl (T : Int → Int) : Int → Nat → List Int
  | _, 0 => []
  | p, n + 1 => T p :: fs_sl T (p + 1) n
theorem fs_sl_eq {T : Int → Int} : ∀ (w : List Int) (p : Int) (n : Nat), fs_sl T p n = w ↔ (n = w.length ∧ ∀ k : Nat, k < w.length → T (p + k) = fx_nth w k 0)
  | [], p, 0 => by simp [fs_sl]
  | [], p, n + 1 => by simp [fs_sl]
  | a :: w, p, 0 => by simp [fs_sl]
  | a :: w, p, n + 1 => by
    rw [fs_sl, List.cons.injEq, fs_sl_eq w (p + 1) n]
    constructor
    · rintro ⟨h1, h2, h3⟩
      refine ⟨by rw [h2]; rfl, fun k hk => ?_⟩
      cases k with
      | zero => rw [show p + ((0 : Nat) : Int) = p by omega]; exact h1
      | succ k =>
        have := h3 k (by simpa using hk)
        rw [show p + ((k + 1 : Nat) : Int) = p + 1 + (k : Int) by omega]; exact this
    · rintro ⟨h1, h2⟩
      refine ⟨?_, by simpa using h1, fun k hk => ?_⟩
      · have := h2 0 (by simp)
        rw [show p + ((0 : Nat) : Int) = p by omega] at this; exact this
      · have := h2 (k + 1) (by simpa using hk)
        rw [show p + ((k + 1 : Nat) : Int) = p + 1 + (k : Int) by omega] at this; exact this
noncomputable def fs_k1 (L : List Int) : Int := if L = fs_w 0 then 17 else if L = fs_w 1 then 18 else if L = fs_w 2 then 19 else if L = fs_w 3 then 20 else if L = fs_w 4 then 21 else if L = fs_w 5 then 22 else if L = fs_w 6 then 23 else if L = fs_w 7 then 24 else 2
noncomputable def fs_k2 (L : List Int) : Int := if L = fs_w 8 then 13 else if L = fs_w 9 then 8 else if L = fs_w 10 then 9 else if L = fs_w 11 then 10 else if L = fs_w 12 then 11 else if L = fs_w 13 then 12 else if L = fs_w 14 then 14 else if L = fs_w 15 then 15 else if L = fs_w 16 then 16 else 2
noncomputable def fs_kw (L : List Int) : Int := if fs_k1 L = 2 then fs_k2 L else fs_k1 L
def fs_sy (c : Int) : Int := if c = 40 then 4 else if c = 41 then 5 else if c = 43 then 6 else if c = 45 then 7 else if c = 59 then 3 else 2
def fs_nm (T : Int → Int) : Int → Nat → Int → Int
  | _, 0, x => x
  | p, n + 1, x => fs_nm T (p + 1) n (x * 10 + T p - 48)
/-- a token's kind, end and number -/
noncomputable def fs_tk (T : Int → Int) (N p : Int) : Int := if N ≤ p then 0 else if fs_let (T p) then fs_kw (fs_sl T p (fs_rn fs_let T N p - p).toNat) else if fs_dig (T p) then (if 4 < fs_rn fs_dig T N p - p then 2 else 1) else fs_sy (T p)
def fs_te (T : Int → Int) (N p : Int) : Int := if N ≤ p then p else if fs_let (T p) then fs_rn fs_let T N p else if fs_dig (T p) then fs_rn fs_dig T N p else p + 1
def fs_tv (T : Int → Int) (N p : Int) : Int := fs_nm T p (fs_rn fs_dig T N p - p).toNat 0
/-- where the tokens stand -/
def fs_a (T : Int → Int) (N : Int) : Nat → Int
  | 0 => fs_rn fs_spc T N 0
  | i + 1 => fs_rn fs_spc T N (fs_te T N (fs_a T N i))
section FXLY
variable {σ : fx_S} {p : Int}
theorem c11 (h0 : 0 ≤ p) (h1 : p < 400) : fx_Rt 11 [(28, 0), (0, p)] σ (0, fs_b (fs_let (σ 29 0 p))) σ := by
  unfold fs_let
  refine t11_0 ⟨⟨h0, h1⟩, fun a => ⟨?_, rfl⟩, fun a => ⟨fun b => ⟨?_, rfl⟩, fun b => ⟨?_, rfl⟩⟩⟩
  · rw [decide_eq_false (by omega)]; rfl
  · rw [decide_eq_true a, decide_eq_false (by omega)]; rfl
  · rw [decide_eq_true a, decide_eq_true b]; rfl
theorem c12 (h0 : 0 ≤ p) (h1 : p < 400) : fx_Rt 12 [(28, 0), (0, p)] σ (0, fs_b (fs_dig (σ 29 0 p))) σ := by
  unfold fs_dig
  refine t12_0 ⟨⟨h0, h1⟩, fun a => ⟨?_, rfl⟩, fun a => ⟨fun b => ⟨?_, rfl⟩, fun b => ⟨?_, rfl⟩⟩⟩
  · rw [decide_eq_false (by omega)]; rfl
  · rw [decide_eq_true a, decide_eq_false (by omega)]; rfl
  · rw [decide_eq_true a, decide_eq_true b]; rfl
theorem c15 {c : Int} : fx_Rt 15 [(0, c)] σ (0, fs_sy c) σ := by
  unfold fs_sy
  refine t15_0 ⟨fun a => ⟨by rw [if_pos a], rfl⟩, fun a => ⟨fun b => ⟨by rw [if_neg a, if_pos b], rfl⟩, fun b => ⟨fun c => ⟨by rw [if_neg a, if_neg b, if_pos c], rfl⟩, fun c => ⟨fun d => ⟨by rw [if_neg a, if_neg b, if_neg c, if_pos d], rfl⟩, fun d => ⟨fun e => ⟨by rw [if_neg a, if_neg b, if_neg c, if_neg d, if_pos e], rfl⟩, fun e => ⟨by rw [if_neg a, if_neg b, if_neg c, if_neg d, if_neg e], rfl⟩⟩⟩⟩⟩⟩
theorem c14 {x1 x2 x3 n : Int} (hn : σ 28 0 5 = n) (h0 : 0 ≤ n) (h1 : n < 401) : fx_Rt 14 [(28, 0), (0, x1), (0, x2), (0, x3)] σ (4, 0) (fx_up (fx_up (fx_up (fx_up σ 30 0 n x1) 31 0 n x2) 32 0 n x3) 28 0 5 (n + 1)) := by
  refine t14_0 ?_
  rw [hn]
  exact ⟨fun a => by omega, fun _ => ⟨⟨h0, h1⟩, ⟨by omega, by omega⟩, rfl, rfl⟩⟩
theorem c19 {e : Int} {o : Nat} (h0 : 0 ≤ p) (h1 : p ≤ e) (h2 : e ≤ 400) : fx_Rt 19 [(28, 0), (0, p), (0, e), (62, (o : Int))] σ (0, fs_b (decide (fs_sl (σ 29 0) p (e - p).toNat = fs_w o))) σ := by
  have hp : fx_prim 500 [(62, (o : Int))] = some (0, ((fs_w o).length : Int)) := rfl
  refine t19_0 ⟨⟨by omega, by omega⟩, _, hp, fun hl => ?_, fun hl => ⟨?_, rfl⟩⟩
  · have key : ∀ (n : Nat) (k : Nat), (fs_w o).length - k = n → k ≤ (fs_w o).length → (∀ j : Nat, j < k → σ 29 0 (p + j) = fx_nth (fs_w o) j 0) → fx_Wp 19 15 [(28, 0), (0, p), (0, e), (62, (o : Int)), (0, (k : Int))] [] σ (fun w s => w = (0, fs_b (decide (fs_sl (σ 29 0) p (e - p).toNat = fs_w o))) ∧ s = σ) := by
      intro n
      induction n with
      | zero =>
        intro k hk hle hj
        refine t19_15 ⟨_, hp, fun a => ⟨?_, rfl⟩, fun a => by omega⟩
        rw [decide_eq_true ((fs_sl_eq _ _ _).mpr ⟨by omega, fun j hj2 => hj j (by omega)⟩)]; rfl
      | succ n ih =>
        intro k hk hle hj
        have hp2 : fx_prim 501 [(62, (o : Int)), (0, (k : Int))] = some (0, fx_nth (fs_w o) k 0) := by
          show (if (0 : Int) ≤ (k : Int) ∧ (k : Int) < (((fs_w o).length : Nat) : Int) then some ((0 : Nat), fx_nth (fs_w o) ((k : Int).toNat) 0) else none) = _
          rw [if_pos ⟨by omega, by omega⟩]; rfl
        refine t19_15 ⟨_, hp, fun a => by omega, fun a => ⟨⟨by omega, by omega⟩, ⟨by omega, by omega⟩, _, hp2, fun b => ⟨⟨by omega, by omega⟩, ?_⟩, fun b => ⟨?_, rfl⟩⟩⟩
        · have := ih (k + 1) (by omega) (by omega) (fun j hj2 => by
            by_cases z : j = k
            · rw [z]; exact b
            · exact hj j (by omega))
          rw [show ((k + 1 : Nat) : Int) = (k : Int) + 1 by omega] at this
          exact this
        · rw [decide_eq_false (fun z => b (((fs_sl_eq _ _ _).mp z).2 k (by omega)))]; rfl
    exact key _ 0 rfl (by omega) (fun j hj => by omega)
  · rw [decide_eq_false (fun z => hl (by have := ((fs_sl_eq _ _ _).mp z).1; omega))]; rfl
theorem fs_bn {b : Bool} (h : fs_b b = 0) : b = false := fs_b0.mp h
theorem c16 {e : Int} (h0 : 0 ≤ p) (h1 : p ≤ e) (h2 : e ≤ 400) : fx_Rt 16 [(28, 0), (0, p), (0, e)] σ (0, fs_kw (fs_sl (σ 29 0) p (e - p).toNat)) σ := by
  have k := fun o => c19 (σ := σ) (o := o) h0 h1 h2
  generalize fs_sl (σ 29 0) p (e - p).toNat = L at k ⊢
  have n : ∀ o, fs_b (decide (L = fs_w o)) = 0 → ¬ L = fs_w o := fun o h => of_decide_eq_false (fs_b0.mp h)
  have y : ∀ o, fs_b (decide (L = fs_w o)) ≠ 0 → L = fs_w o := fun o h => of_decide_eq_true (fs_b1.mp h)
  have h17 : fx_Rt 17 [(28, 0), (0, p), (0, e)] σ (0, if L = fs_w 0 then 17 else if L = fs_w 1 then 18 else if L = fs_w 2 then 19 else if L = fs_w 3 then 20 else if L = fs_w 4 then 21 else if L = fs_w 5 then 22 else if L = fs_w 6 then 23 else if L = fs_w 7 then 24 else 2) σ := by
    refine t17_0 ((k 0).I ⟨fun a0 => ?_, fun a0 => ⟨by rw [if_pos (y 0 a0)], rfl⟩⟩)
    rw [if_neg (n 0 a0)]
    refine (k 1).I ⟨fun a0 => ?_, fun a0 => ⟨by rw [if_pos (y 1 a0)], rfl⟩⟩
    rw [if_neg (n 1 a0)]
    refine (k 2).I ⟨fun a0 => ?_, fun a0 => ⟨by rw [if_pos (y 2 a0)], rfl⟩⟩
    rw [if_neg (n 2 a0)]
    refine (k 3).I ⟨fun a0 => ?_, fun a0 => ⟨by rw [if_pos (y 3 a0)], rfl⟩⟩
    rw [if_neg (n 3 a0)]
    refine (k 4).I ⟨fun a0 => ?_, fun a0 => ⟨by rw [if_pos (y 4 a0)], rfl⟩⟩
    rw [if_neg (n 4 a0)]
    refine (k 5).I ⟨fun a0 => ?_, fun a0 => ⟨by rw [if_pos (y 5 a0)], rfl⟩⟩
    rw [if_neg (n 5 a0)]
    refine (k 6).I ⟨fun a0 => ?_, fun a0 => ⟨by rw [if_pos (y 6 a0)], rfl⟩⟩
    rw [if_neg (n 6 a0)]
    exact (k 7).I ⟨fun a0 => ⟨by rw [if_neg (n 7 a0)], rfl⟩, fun a0 => ⟨by rw [if_pos (y 7 a0)], rfl⟩⟩
  have h18 : fx_Rt 18 [(28, 0), (0, p), (0, e)] σ (0, if L = fs_w 8 then 13 else if L = fs_w 9 then 8 else if L = fs_w 10 then 9 else if L = fs_w 11 then 10 else if L = fs_w 12 then 11 else if L = fs_w 13 then 12 else if L = fs_w 14 then 14 else if L = fs_w 15 then 15 else if L = fs_w 16 then 16 else 2) σ := by
    refine t18_0 ((k 8).I ⟨fun a0 => ?_, fun a0 => ⟨by rw [if_pos (y 8 a0)], rfl⟩⟩)
    rw [if_neg (n 8 a0)]
    refine (k 9).I ⟨fun a0 => ?_, fun a0 => ⟨by rw [if_pos (y 9 a0)], rfl⟩⟩
    rw [if_neg (n 9 a0)]
    refine (k 10).I ⟨fun a0 => ?_, fun a0 => ⟨by rw [if_pos (y 10 a0)], rfl⟩⟩
    rw [if_neg (n 10 a0)]
    refine (k 11).I ⟨fun a0 => ?_, fun a0 => ⟨by rw [if_pos (y 11 a0)], rfl⟩⟩
    rw [if_neg (n 11 a0)]
    refine (k 12).I ⟨fun a0 => ?_, fun a0 => ⟨by rw [if_pos (y 12 a0)], rfl⟩⟩
    rw [if_neg (n 12 a0)]
    refine (k 13).I ⟨fun a0 => ?_, fun a0 => ⟨by rw [if_pos (y 13 a0)], rfl⟩⟩
    rw [if_neg (n 13 a0)]
    refine (k 14).I ⟨fun a0 => ?_, fun a0 => ⟨by rw [if_pos (y 14 a0)], rfl⟩⟩
    rw [if_neg (n 14 a0)]
    refine (k 15).I ⟨fun a0 => ?_, fun a0 => ⟨by rw [if_pos (y 15 a0)], rfl⟩⟩
    rw [if_neg (n 15 a0)]
    exact (k 16).I ⟨fun a0 => ⟨by rw [if_neg (n 16 a0)], rfl⟩, fun a0 => ⟨by rw [if_pos (y 16 a0)], rfl⟩⟩
  exact t16_0 (h17.I ⟨fun a => h18.I ⟨(congrArg (fun z => ((0 : Nat), z)) (if_pos a)).symm, rfl⟩, fun a => ⟨(congrArg (fun z => ((0 : Nat), z)) (if_neg a)).symm, rfl⟩⟩)
end FXLY
