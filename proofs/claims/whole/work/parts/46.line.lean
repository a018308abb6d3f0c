/-- a sum over the places below n -/
def fs_sum (f : Int → Int) : Nat → Int
  | 0 => 0
  | n + 1 => fs_sum f n + f n
theorem fs_sum_s (f : Int → Int) {k : Int} (h : 0 ≤ k) : fs_sum f (k + 1).toNat = fs_sum f k.toNat + f k := by
  have e : (k + 1).toNat = k.toNat + 1 := by omega
  rw [e, fs_sum, show ((k.toNat : Nat) : Int) = k by omega]
theorem fs_sum_c {f g : Int → Int} : ∀ n : Nat, (∀ k : Int, 0 ≤ k → k < n → f k = g k) → fs_sum f n = fs_sum g n
  | 0, _ => rfl
  | n + 1, h => by rw [fs_sum, fs_sum, fs_sum_c n (fun k h1 h2 => h k h1 (by omega)), h n (by omega) (by omega)]
theorem fs_sum_r {f : Int → Int} {M : Int} (h : ∀ x, 0 ≤ f x ∧ f x ≤ M) : ∀ n : Nat, 0 ≤ fs_sum f n ∧ fs_sum f n ≤ M * n
  | 0 => by simp [fs_sum]
  | n + 1 => by
    have ih := fs_sum_r h n
    have := h n
    have e : M * ((n + 1 : Nat) : Int) = M * n + M := by
      rw [show ((n + 1 : Nat) : Int) = (n : Int) + 1 by omega, Int.mul_add, Int.mul_one]
    rw [fs_sum, e]
    omega
theorem fs_sum_b {P : Int → Bool} (k : Int) (h : 0 ≤ k) : 0 ≤ fs_sum (fun x => fs_b (P x)) k.toNat ∧ fs_sum (fun x => fs_b (P x)) k.toNat ≤ k := by
  have := fs_sum_r (f := fun x => fs_b (P x)) (M := 1) (fun x => by rcases fs_b01 (P x) with e | e <;> (simp only [e]; omega)) k.toNat
  omega
theorem fs_sum_cnt {P : Int → Bool} : ∀ n : Nat, fs_sum (fun x => fs_b (P x)) n = fs_cnt P n
  | 0 => rfl
  | n + 1 => by rw [fs_sum, fs_cnt, fs_sum_cnt n]
/-- a sum where nothing changes -/
theorem fs_sum_p {f : Int → Int} {a : Int} (h0 : 0 ≤ a) : ∀ k : Nat, (∀ x, a ≤ x → x < a + k → f x = f a) → fs_sum f (a + k).toNat = fs_sum f a.toNat + f a * k
  | 0, _ => by simp
  | k + 1, h => by
    have ih := fs_sum_p h0 k (fun x x0 x1 => h x x0 (by omega))
    rw [show a + ((k + 1 : Nat) : Int) = (a + k) + 1 by omega, fs_sum_s f (by omega), ih, h (a + k) (by omega) (by omega), show ((k + 1 : Nat) : Int) = (k : Int) + 1 by omega, Int.mul_add, Int.mul_one]
    omega
theorem fs_sum_pc {f : Int → Int} {a b : Int} (h0 : 0 ≤ a) (hab : a ≤ b) (h : ∀ x, a ≤ x → x < b → f x = f a) : fs_sum f b.toNat = fs_sum f a.toNat + f a * (b - a) := by
  have := fs_sum_p (f := f) h0 (b - a).toNat (fun x x0 x1 => h x x0 (by omega))
  rwa [show a + (((b - a).toNat : Nat) : Int) = b by omega, show (((b - a).toNat : Nat) : Int) = b - a by omega] at this
theorem fs_sum_z {f : Int → Int} {a b : Int} (h0 : 0 ≤ a) (hab : a < b) (h : ∀ x, a < x → x < b → f x = 0) : fs_sum f b.toNat = fs_sum f a.toNat + f a := by
  have e := fs_sum_s f h0
  by_cases g : b = a + 1
  · rw [g, e]
  · have h1 := fs_sum_pc (f := f) (a := a + 1) (b := b) (by omega) (by omega) (fun x x0 x1 => by rw [h x (by omega) x1, h (a + 1) (by omega) (by omega)])
    rw [h1, e, h (a + 1) (by omega) (by omega), Int.zero_mul, Int.add_zero]
theorem fs_cnt_z {P : Int → Bool} {a b : Int} (h0 : 0 ≤ a) (hab : a < b) (h : ∀ x, a < x → x < b → P x = false) : fs_cnt P b.toNat = fs_cnt P a.toNat + fs_b (P a) := by
  rw [← fs_sum_cnt, ← fs_sum_cnt]
  exact fs_sum_z h0 hab (fun x x0 x1 => by rw [h x x0 x1]; rfl)
/-- where a row of times at which a line is the same ends, begins -/
def fs_ise (v : Int → Int) (x e : Int) : Prop := x < e ∧ e ≤ 1000 ∧ (∀ y, x ≤ y → y < e → v y = v x) ∧ (e = 1000 ∨ v e ≠ v x)
noncomputable def fs_end (v : Int → Int) (x : Int) : Int := Classical.epsilon (fun e => fs_ise v x e)
theorem fs_end_u {v : Int → Int} {x e : Int} (h : fs_ise v x e) : fs_end v x = e := by
  have g : fs_ise v x (fs_end v x) := Classical.epsilon_spec (p := fun e => fs_ise v x e) ⟨e, h⟩
  generalize fs_end v x = f at g
  obtain ⟨a1, a2, a3, a4⟩ := h
  obtain ⟨b1, b2, b3, b4⟩ := g
  apply Classical.byContradiction
  intro hne
  by_cases c : f < e
  · rcases b4 with b4 | b4
    · omega
    · exact b4 (a3 f (by omega) c)
  · rcases a4 with a4 | a4
    · omega
    · exact a4 (b3 e (by omega) (by omega))
def fs_isb (v : Int → Int) (x b : Int) : Prop := 0 ≤ b ∧ b ≤ x ∧ (∀ y, b ≤ y → y ≤ x → v y = v x) ∧ (b = 0 ∨ v (b - 1) ≠ v x)
noncomputable def fs_bgn (v : Int → Int) (x : Int) : Int := Classical.epsilon (fun b => fs_isb v x b)
theorem fs_bgn_u {v : Int → Int} {x b : Int} (h : fs_isb v x b) : fs_bgn v x = b := by
  have g : fs_isb v x (fs_bgn v x) := Classical.epsilon_spec (p := fun b => fs_isb v x b) ⟨b, h⟩
  generalize fs_bgn v x = f at g
  obtain ⟨a1, a2, a3, a4⟩ := h
  obtain ⟨b1, b2, b3, b4⟩ := g
  apply Classical.byContradiction
  intro hne
  by_cases c : f < b
  · rcases a4 with a4 | a4
    · omega
    · exact a4 (b3 (b - 1) (by omega) (by omega))
  · rcases b4 with b4 | b4
    · omega
    · exact b4 (a3 (f - 1) (by omega) (by omega))
/-- a span (g 0) or a gap (g 1) begins at x -/
def fs_beg (v : Int → Int) (g x : Int) : Bool := decide (((v x = -1 ∧ g = 1) ∨ (v x ≠ -1 ∧ g = 0)) ∧ (x = 0 ∨ v (x - 1) ≠ v x))
theorem fs_beg_no {v : Int → Int} {g x : Int} (h0 : x ≠ 0) (h : v (x - 1) = v x) : fs_beg v g x = false := by
  unfold fs_beg
  exact decide_eq_false (fun e => e.2.elim h0 (fun g => g h))
/-- the k-th time that P names -/
def fs_isr (N : Int) (P : Int → Bool) (k r : Int) : Prop := (r = -1 ∧ ∀ x, 0 ≤ x → x < N → P x = true → fs_cnt P x.toNat ≠ k) ∨ (0 ≤ r ∧ r < N ∧ P r = true ∧ fs_cnt P r.toNat = k)
noncomputable def fs_row (N : Int) (P : Int → Bool) (k : Int) : Int := Classical.epsilon (fun r => fs_isr N P k r)
theorem fs_cnt_lt {P : Int → Bool} {x y : Int} (x0 : 0 ≤ x) (h : x < y) (hx : P x = true) : fs_cnt P x.toNat < fs_cnt P y.toNat := by
  have h1 := fs_cnt_s P x0
  have h2 := fs_cnt_mono P (show (x + 1).toNat ≤ y.toNat by omega)
  rw [hx] at h1
  have : fs_b true = 1 := rfl
  omega
theorem fs_row_u {N : Int} {P : Int → Bool} {k r : Int} (h : fs_isr N P k r) : fs_row N P k = r := by
  have g : fs_isr N P k (fs_row N P k) := Classical.epsilon_spec (p := fun r => fs_isr N P k r) ⟨r, h⟩
  generalize fs_row N P k = f at g
  rcases h with ⟨a1, a2⟩ | ⟨a1, a2, a3, a4⟩ <;> rcases g with ⟨b1, b2⟩ | ⟨b1, b2, b3, b4⟩
  · omega
  · exact absurd b4 (a2 f b1 b2 b3)
  · exact absurd a4 (b2 r a1 a2 a3)
  · apply Classical.byContradiction
    intro hne
    by_cases c : f < r
    · have := fs_cnt_lt b1 c b3; omega
    · have := fs_cnt_lt a1 (show r < f by omega) a3; omega
/-- the first time from a on that P names -/
def fs_isf (P : Int → Bool) (a r : Int) : Prop := (r = -1 ∧ ∀ x, a ≤ x → x < 1000 → P x = false) ∨ (a ≤ r ∧ r < 1000 ∧ P r = true ∧ ∀ x, a ≤ x → x < r → P x = false)
noncomputable def fs_fst (P : Int → Bool) (a : Int) : Int := Classical.epsilon (fun r => fs_isf P a r)
theorem fs_fst_u {P : Int → Bool} {a r : Int} (h : fs_isf P a r) : fs_fst P a = r := by
  have g : fs_isf P a (fs_fst P a) := Classical.epsilon_spec (p := fun r => fs_isf P a r) ⟨r, h⟩
  generalize fs_fst P a = f at g
  rcases h with ⟨a1, a2⟩ | ⟨a1, a2, a3, a4⟩ <;> rcases g with ⟨b1, b2⟩ | ⟨b1, b2, b3, b4⟩
  · omega
  · rw [a2 f b1 b2] at b3; cases b3
  · rw [b2 r a1 a2] at a3; cases a3
  · apply Classical.byContradiction
    intro hne
    by_cases c : f < r
    · rw [a4 f b1 c] at b3; cases b3
    · rw [b4 r a1 (by omega)] at a3; cases a3
/-- the time nearest to x at which a line is something -/
def fs_isn (v : Int → Int) (x r : Int) : Prop := (r = -1 ∧ ∀ y, 0 ≤ y → y < 1000 → v y = -1) ∨ (0 ≤ r ∧ r < 1000 ∧ v r ≠ -1 ∧ ∀ y, 0 ≤ y → y < 1000 → v y ≠ -1 → (if r ≤ x then x - r else r - x) ≤ (if y ≤ x then x - y else y - x) ∧ ((if r ≤ x then x - r else r - x) = (if y ≤ x then x - y else y - x) → r ≤ y))
noncomputable def fs_near (v : Int → Int) (x : Int) : Int := Classical.epsilon (fun r => fs_isn v x r)
theorem fs_near_u {v : Int → Int} {x r : Int} (h : fs_isn v x r) : fs_near v x = r := by
  have g : fs_isn v x (fs_near v x) := Classical.epsilon_spec (p := fun r => fs_isn v x r) ⟨r, h⟩
  generalize fs_near v x = f at g
  rcases h with ⟨a1, a2⟩ | ⟨a1, a2, a3, a4⟩ <;> rcases g with ⟨b1, b2⟩ | ⟨b1, b2, b3, b4⟩
  · omega
  · exact absurd (a2 f b1 b2) b3
  · exact absurd (b2 r a1 a2) a3
  · have h1 := a4 f b1 b2 b3
    have h2 := b4 r a1 a2 a3
    omega
/-- the longest of spans or gaps that begin ahead of n: its number, its times -/
noncomputable def fs_lg (v : Int → Int) (g : Int) : Nat → Int × Int
  | 0 => (-1, 0)
  | n + 1 => if fs_beg v g n && decide ((fs_lg v g n).2 < fs_end v n - n) then (fs_cnt (fs_beg v g) n, fs_end v n - n) else fs_lg v g n
theorem fs_lg_s {v : Int → Int} {g : Int} {k : Int} (h : 0 ≤ k) : fs_lg v g (k + 1).toNat = if fs_beg v g k && decide ((fs_lg v g k.toNat).2 < fs_end v k - k) then (fs_cnt (fs_beg v g) k.toNat, fs_end v k - k) else fs_lg v g k.toNat := by
  have e : (k + 1).toNat = k.toNat + 1 := by omega
  rw [e, fs_lg, show ((k.toNat : Nat) : Int) = k by omega]
theorem fs_lg_k {v : Int → Int} {g : Int} {a : Int} (h0 : 0 ≤ a) : ∀ k : Nat, (∀ x, a ≤ x → x < a + k → fs_beg v g x = false) → fs_lg v g (a + k).toNat = fs_lg v g a.toNat
  | 0, _ => by simp
  | k + 1, h => by
    have ih := fs_lg_k h0 k (fun x x0 x1 => h x x0 (by omega))
    rw [show a + ((k + 1 : Nat) : Int) = (a + k) + 1 by omega, fs_lg_s (by omega), h (a + k) (by omega) (by omega), ih]
    simp
theorem fs_lg_z {v : Int → Int} {g : Int} {a b : Int} (h0 : 0 ≤ a) (hab : a < b) (h : ∀ x, a < x → x < b → fs_beg v g x = false) : fs_lg v g b.toNat = fs_lg v g (a + 1).toNat := by
  have := fs_lg_k (v := v) (g := g) (a := a + 1) (by omega) (b - a - 1).toNat (fun x x0 x1 => h x (by omega) (by omega))
  rwa [show a + 1 + (((b - a - 1).toNat : Nat) : Int) = b by omega] at this
/-- how one row of times lies to another one -/
def fs_rel (a b c d : Int) : Int := if b < c then 0 else if b = c then 1 else if a = d then 11 else if d < a then 12 else (if a < c then 2 else if a = c then 5 else 8) + (if b < d then 0 else if b = d then 1 else 2)
noncomputable def fs_lie (u : Int → Int) (a b how : Int) (y : Int) : Int := fs_b (fs_beg u 0 y && decide (fs_rel a b y (fs_end u y) = how))
noncomputable def fs_prs (v u : Int → Int) (how x : Int) : Int := if fs_beg v 0 x then fs_sum (fs_lie u x (fs_end v x) how) 1000 else 0
/-- the value that a line is at the most times, of those below n; and how many -/
def fs_md (v : Int → Int) : Nat → Int × Int
  | 0 => (-1, 0)
  | n + 1 => if (fs_md v n).2 < fs_sum (fun x => fs_b (decide (v x = n))) 1000 then (n, fs_sum (fun x => fs_b (decide (v x = n))) 1000) else fs_md v n
theorem fs_md_s {v : Int → Int} {k : Int} (h : 0 ≤ k) : fs_md v (k + 1).toNat = if (fs_md v k.toNat).2 < fs_sum (fun x => fs_b (decide (v x = k))) 1000 then (k, fs_sum (fun x => fs_b (decide (v x = k))) 1000) else fs_md v k.toNat := by
  have e : (k + 1).toNat = k.toNat + 1 := by omega
  rw [e, fs_md, show ((k.toNat : Nat) : Int) = k by omega]
theorem fs_md_r {v : Int → Int} : ∀ n : Nat, -1 ≤ (fs_md v n).1 ∧ (fs_md v n).1 < n ∧ 0 ≤ (fs_md v n).2 ∧ (fs_md v n).2 ≤ 1000
  | 0 => by simp [fs_md]
  | n + 1 => by
    have ih := fs_md_r (v := v) n
    have := fs_sum_b (P := fun x => decide (v x = n)) 1000 (by omega)
    have e : (1000 : Int).toNat = 1000 := rfl
    rw [e] at this
    rw [fs_md]
    split
    · simp only; omega
    · omega
theorem fs_cutp_pa {S : fx_S} {n : Int} {st pa : Int → Int} (hc : fs_cutp S n st pa) {p x : Int} (p0 : 0 ≤ p) (p1 : p < n) (x0 : st p ≤ x) (x1 : x < st (p + 1)) : pa x = p := by
  have mn := fs_cutp_mn hc
  obtain ⟨h1, h2, h3, h4, h5, h6, h7⟩ := hc
  have hp := h6 p p0 p1
  have ha := h2 x (by omega) (by omega)
  apply Classical.byContradiction
  intro hne
  by_cases c : pa x < p
  · have := mn (pa x + 1) p (by omega) (by omega) (by omega); omega
  · have := mn (p + 1) (pa x) (by omega) (by omega) (by omega); omega
section FXN
variable {S : fx_S} {n : Int} {st pa : Int → Int} {W : Int → Bool}
theorem fs_cst_is (ho : fs_ok S) (hc : fs_cutp S n st pa) {t p : Int} (t0 : 0 ≤ t) (t1 : t < 8) (p0 : 0 ≤ p) (p1 : p < n) : ∀ x, st p ≤ x → x < st (p + 1) → fs_is S W t x = fs_is S W t (st p) := by
  intro x x0 x1
  have h6 := hc.2.2.2.2.2.1 p p0 p1
  rw [fs_cutp_is ho hc (by omega) (by omega) 8 (by omega) t t0 (by omega), fs_cutp_pa hc p0 p1 x0 x1]
theorem fs_cst_bs (ho : fs_ok S) (hc : fs_cutp S n st pa) {t p : Int} (p0 : 0 ≤ p) (p1 : p < n) : ∀ x, st p ≤ x → x < st (p + 1) → fs_bs S W t x = fs_bs S W t (st p) := by
  intro x x0 x1
  have h6 := hc.2.2.2.2.2.1 p p0 p1
  rw [fs_cutp_bs ho hc (by omega) (by omega), fs_cutp_pa hc p0 p1 x0 x1]
theorem fs_cst_hold (ho : fs_ok S) (hc : fs_cutp S n st pa) {f t p : Int} (f0 : 0 ≤ f) (f1 : f < S 0 1 0) (p0 : 0 ≤ p) (p1 : p < n) : ∀ x, st p ≤ x → x < st (p + 1) → fs_hold S f t x = fs_hold S f t (st p) := by
  intro x x0 x1
  have h6 := hc.2.2.2.2.2.1 p p0 p1
  rw [fs_cutp_hold ho hc f0 f1 (by omega) (by omega), fs_cutp_pa hc p0 p1 x0 x1]
end FXN
