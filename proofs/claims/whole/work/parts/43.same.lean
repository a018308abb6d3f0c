theorem fs_bs_c {S T : fx_S} (h : fs_eq S T) (ho : fs_ok S) {W V : Int → Bool} (hW : ∀ f, 0 ≤ f → f < S 0 1 0 → W f = V f) {t time : Int} : fs_bs S W t time = fs_bs T V t time := by
  unfold fs_bs
  rw [← h.2.1]
  have hn := ho.2.1
  refine fs_best_c _ (fun k k0 k1 => ?_) (fun a b a0 a1 b0 b1 _ _ => fs_better_c h ho a0 (by omega) b0 (by omega))
  rw [hW k k0 (by omega), fs_hold_c h ho k0 (by omega)]
theorem fs_is_c {S T : fx_S} (h : fs_eq S T) (ho : fs_ok S) {W V : Int → Bool} (hW : ∀ f, 0 ≤ f → f < S 0 1 0 → W f = V f) {time : Int} : ∀ n : Nat, (n : Int) ≤ 8 → ∀ t : Int, 0 ≤ t → t < n → fs_is S W t time = fs_is T V t time
  | 0, _, t, h0, h1 => by omega
  | n + 1, hn, t, h0, h1 => by
    have ih := fs_is_c h ho hW (time := time) n (by omega)
    rw [fs_is_e ho h0 (by omega), fs_is_e (h.ok ho) h0 (by omega)]
    unfold fs_ia
    have eb := fs_bs_c h ho hW (t := t) (time := time)
    rw [← eb]
    rcases fs_bs_in (W := W) (t := t) (time := time) ho with hb | ⟨b0, b1⟩
    · rw [if_pos hb, if_pos hb]
      exact fs_mv_c h ho h0 (by omega) (fun a a0 a1 => ih a a0 (by omega))
    · rw [if_neg (by omega), if_neg (by omega)]
      exact (h.2.2.2.1 _ b0 b1).2.2.2.2.1
/-- within a piece nothing changes -/
theorem fs_cutp_hold {S : fx_S} (ho : fs_ok S) {n : Int} {st pa : Int → Int} (hc : fs_cutp S n st pa) {f th x : Int} (f0 : 0 ≤ f) (f1 : f < S 0 1 0) (x0 : 0 ≤ x) (x1 : x < 1000) : fs_hold S f th x = fs_hold S f th (st (pa x)) := by
  obtain ⟨h1, h2, h3, h4, h5, h6, h7⟩ := hc
  have hf := (ho.2.2.2.1 f f0 f1).2.2.1
  obtain ⟨a1, a2, a3, a4⟩ := h2 x x0 x1
  obtain ⟨b1, b2⟩ := h7 f f0 f1
  have mono : ∀ (k : Nat) (p : Int), 0 ≤ p → p + k ≤ n → st p ≤ st (p + k) := by
    intro k
    induction k with
    | zero => intro p p0 p1; simp
    | succ k ih =>
      intro p p0 p1
      have := ih p p0 (by omega)
      have := h6 (p + k) (by omega) (by omega)
      rw [show p + ((k + 1 : Nat) : Int) = p + k + 1 by omega]
      omega
  have mn : ∀ p q : Int, 0 ≤ p → p ≤ q → q ≤ n → st p ≤ st q := by
    intro p q p0 pq qn
    have := mono (q - p).toNat p p0 (by omega)
    rwa [show p + (((q - p).toNat : Nat) : Int) = q by omega] at this
  have key : ∀ y, 0 ≤ y → y ≤ 1000 → st (pa y) = y → (y ≤ x ↔ y ≤ st (pa x)) := by
    intro y y0 y1 hy
    constructor
    · intro hle
      have hy2 := h2 y y0 (by omega)
      by_cases e : pa y ≤ pa x
      · have := mn _ _ hy2.1 e (by omega)
        omega
      · have := mn (pa x + 1) (pa y) (by omega) (by omega) (by omega)
        omega
    · intro hle; omega
  have k1 := key _ (by omega) (by omega) b1
  have k2 := key _ (by omega) (by omega) b2
  unfold fs_hold fs_holds
  have e1 : decide (S 5 f 0 ≤ x) = decide (S 5 f 0 ≤ st (pa x)) := by rw [decide_eq_decide]; exact k1
  have e2 : decide (x < S 6 f 0) = decide (st (pa x) < S 6 f 0) := by rw [decide_eq_decide]; omega
  rw [e1, e2]
theorem fs_cutp_bs {S : fx_S} (ho : fs_ok S) {n : Int} {st pa : Int → Int} (hc : fs_cutp S n st pa) {W : Int → Bool} {t x : Int} (x0 : 0 ≤ x) (x1 : x < 1000) : fs_bs S W t x = fs_bs S W t (st (pa x)) := by
  unfold fs_bs
  have hn := ho.2.1
  refine fs_best_c _ (fun k k0 k1 => ?_) (fun a b a0 a1 b0 b1 _ _ => rfl)
  rw [fs_cutp_hold ho hc k0 (by omega) x0 x1]
theorem fs_cutp_is {S : fx_S} (ho : fs_ok S) {n : Int} {st pa : Int → Int} (hc : fs_cutp S n st pa) {W : Int → Bool} {x : Int} (x0 : 0 ≤ x) (x1 : x < 1000) : ∀ m : Nat, (m : Int) ≤ 8 → ∀ t : Int, 0 ≤ t → t < m → fs_is S W t x = fs_is S W t (st (pa x))
  | 0, _, t, h0, h1 => by omega
  | m + 1, hm, t, h0, h1 => by
    have ih := fs_cutp_is ho hc (W := W) x0 x1 m (by omega)
    rw [fs_is_e ho h0 (by omega), fs_is_e ho h0 (by omega)]
    unfold fs_ia
    rw [fs_cutp_bs ho hc x0 x1]
    by_cases hb : fs_bs S W t (st (pa x)) = -1
    · rw [if_pos hb, if_pos hb]
      exact fs_mv_c fs_eq.rfl ho h0 (by omega) (fun a a0 a1 => ih a a0 (by omega))
    · rw [if_neg hb, if_neg hb]
