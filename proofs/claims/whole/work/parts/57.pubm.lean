theorem fs_better_tr {S : fx_S} {a b c : Int} (h : fs_better S a b = true) (g : fs_better S b c = true) : fs_better S a c = true := by
  unfold fs_better at h g ⊢
  simp only [decide_eq_true_eq] at h g ⊢
  have e1 : S 4 a 0 = S 4 b 0 → S 1 (S 4 a 0) 0 = S 1 (S 4 b 0) 0 := fun e => by rw [e]
  have e2 : S 4 b 0 = S 4 c 0 → S 1 (S 4 b 0) 0 = S 1 (S 4 c 0) 0 := fun e => by rw [e]
  have e3 : S 4 a 0 = S 4 c 0 → S 1 (S 4 a 0) 0 = S 1 (S 4 c 0) 0 := fun e => by rw [e]
  generalize S 1 (S 4 a 0) 0 = ra at *
  generalize S 1 (S 4 b 0) 0 = rb at *
  generalize S 1 (S 4 c 0) 0 = rc at *
  omega
theorem fs_better_ir {S : fx_S} {a : Int} : fs_better S a a = false := by
  unfold fs_better
  exact decide_eq_false (by omega)
theorem fs_better_to {S : fx_S} {a b : Int} (h : a ≠ b) : fs_better S a b = true ∨ fs_better S b a = true := by
  unfold fs_better
  simp only [decide_eq_true_eq]
  have e1 : S 4 a 0 = S 4 b 0 → S 1 (S 4 a 0) 0 = S 1 (S 4 b 0) 0 := fun e => by rw [e]
  generalize S 1 (S 4 a 0) 0 = ra at *
  generalize S 1 (S 4 b 0) 0 = rb at *
  omega
theorem fs_cnt_sub {P Q : Int → Bool} : ∀ n : Nat, (∀ k : Int, 0 ≤ k → k < n → P k = true → Q k = true) → fs_cnt P n ≤ fs_cnt Q n
  | 0, _ => Int.le_refl _
  | n + 1, h => by
    have ih := fs_cnt_sub n (fun k a b => h k a (by omega))
    have := h n (by omega) (by omega)
    rw [fs_cnt, fs_cnt]
    cases hp : P n with
    | false => have := fs_b01 (Q n); have e : fs_b false = 0 := rfl; omega
    | true => rw [this hp]; omega
theorem fs_cnt_sublt {P Q : Int → Bool} {m : Int} (m0 : 0 ≤ m) (hq : Q m = true) (hp : P m = false) : ∀ n : Nat, m < n → (∀ k : Int, 0 ≤ k → k < n → P k = true → Q k = true) → fs_cnt P n < fs_cnt Q n
  | 0, h, _ => by omega
  | n + 1, h, hs => by
    rw [fs_cnt, fs_cnt]
    by_cases e : m = n
    · have := fs_cnt_sub n (fun k a b => hs k a (by omega))
      rw [← e, hq, hp]
      have e0 : fs_b false = 0 := rfl
      have e1 : fs_b true = 1 := rfl
      omega
    · have ih := fs_cnt_sublt m0 hq hp n (by omega) (fun k a b => hs k a (by omega))
      have := hs n (by omega) (by omega)
      cases hp : P n with
      | false => have := fs_b01 (Q n); have e : fs_b false = 0 := rfl; omega
      | true => rw [this hp]; omega
/-- no two facts have like many better ones -/
theorem fs_rank_u {S : fx_S} {H : Int → Bool} {n : Nat} {f g : Int} (f0 : 0 ≤ f) (f1 : f < n) (g0 : 0 ≤ g) (g1 : g < n) (hf : H f = true) (hg : H g = true) (hne : f ≠ g) : fs_cnt (fun h => H h && fs_better S h f) n ≠ fs_cnt (fun h => H h && fs_better S h g) n := by
  have key : ∀ f g : Int, 0 ≤ f → f < n → H f = true → fs_better S f g = true → fs_cnt (fun h => H h && fs_better S h f) n < fs_cnt (fun h => H h && fs_better S h g) n := by
    intro f g f0 f1 hf hb
    refine fs_cnt_sublt (m := f) f0 (by rw [hf, hb]; rfl) (by rw [fs_better_ir, Bool.and_false]) n f1 (fun k k0 k1 hk => ?_)
    simp only [Bool.and_eq_true] at hk ⊢
    exact ⟨hk.1, fs_better_tr hk.2 hb⟩
  rcases fs_better_to (S := S) hne with h | h
  · have := key f g f0 f1 hf h; omega
  · have := key g f g0 g1 hg h; omega
theorem fs_first_in {P : Int → Bool} : ∀ n : Nat, fs_first P n = -1 ∨ (0 ≤ fs_first P n ∧ fs_first P n < n ∧ P (fs_first P n) = true)
  | 0 => Or.inl rfl
  | n + 1 => by
    rw [fs_first]
    rcases fs_first_in (P := P) n with h | ⟨h1, h2, h3⟩
    · rw [if_pos h]
      cases hp : P n with
      | false => exact Or.inl rfl
      | true => exact Or.inr ⟨by simp only [if_true]; omega, by simp only [if_true]; omega, by simp only [if_true]; exact hp⟩
    · rw [if_neg (by omega)]
      exact Or.inr ⟨h1, by omega, h3⟩
theorem fs_isr_ex (N : Int) (P : Int → Bool) (k : Int) : ∃ r, fs_isr N P k r := by
  have key : ∀ n : Nat, (∃ r, fs_isr N P k r) ∨ ∀ x : Int, 0 ≤ x → x < n → x < N → P x = true → fs_cnt P x.toNat ≠ k := by
    intro n
    induction n with
    | zero => exact Or.inr (fun x x0 x1 => by omega)
    | succ n ih =>
      rcases ih with h | h
      · exact Or.inl h
      · by_cases g : (n : Int) < N ∧ P n = true ∧ fs_cnt P (n : Int).toNat = k
        · exact Or.inl ⟨n, Or.inr ⟨by omega, g.1, g.2.1, g.2.2⟩⟩
        · refine Or.inr (fun x x0 x1 x2 hx hc => ?_)
          by_cases e : x = n
          · rw [e] at hx hc x2; exact g ⟨x2, hx, hc⟩
          · exact h x x0 (by omega) x2 hx hc
  rcases key N.toNat with h | h
  · exact h
  · exact ⟨-1, Or.inl ⟨rfl, fun x x0 x1 => h x x0 (by omega) x1⟩⟩
theorem fs_row_r {N : Int} {P : Int → Bool} {k : Int} : fs_row N P k = -1 ∨ (0 ≤ fs_row N P k ∧ fs_row N P k < N) := by
  obtain ⟨r, hr⟩ := fs_isr_ex N P k
  rw [fs_row_u hr]
  rcases hr with h | h
  · exact Or.inl h.1
  · exact Or.inr ⟨h.1, h.2.1⟩
/-- the reference and its state -/
def fs_mp (o : Int) (σ S : fx_S) : Prop := fs_ok S ∧ fs_m σ 47 0 = S ∧ σ 46 o 21 = 60
theorem fs_mp.k {o : Int} {σ τ S : fx_S} (h : fs_mp o σ S) (h1 : ∀ p, τ 47 0 p = σ 47 0 p) (h2 : τ 46 o 21 = σ 46 o 21) : fs_mp o τ S := ⟨h.1, (fs_m_c h1).trans h.2.1, h2.trans h.2.2⟩
theorem fs_mp.sc {o : Int} {σ τ S : fx_S} (h : fs_mp o σ S) (g : fs_sc σ τ) : fs_mp o τ S := h.k (fun p => g 47 0 p (by omega)) (g 46 o 21 (by omega))
theorem fs_mp.u {o e : Int} {σ S : fx_S} (h : fs_mp o σ S) : fs_mp o (fx_up σ 46 o 0 e) S := h.k (fun p => fx_upK rfl) (fx_upJ (by omega))
def fs_qm (o : Int) (σ τ : fx_S) : Prop := ∀ K p q, ¬ ((55 ≤ K ∧ K ≤ 60) ∨ (K = 46 ∧ p = o ∧ (q = 0 ∨ q = 27 ∨ q = 28))) → τ K p q = σ K p q
def fs_mq (o : Int) (σ : fx_S) (c a : Int) : fx_V → fx_S → Prop := fun v τ => ∃ r, v = (0, r) ∧ τ 46 o 0 = c ∧ (c = 0 → r = a) ∧ fs_qm o σ τ
section FXM0
variable {σ τ S : fx_S} {o c a r e : Int}
theorem fs_qm_u : fs_qm o σ (fx_up σ 46 o 0 e) := fun K p q hK => by rw [fx_upE, if_neg (by omega)]
theorem fs_qm.sc (h : fs_sc σ τ) : fs_qm o σ τ := fun K p q hK => h K p q (by omega)
theorem fs_qm.trans {ρ : fx_S} (h : fs_qm o σ τ) (g : fs_qm o τ ρ) : fs_qm o σ ρ := fun K p q hK => (g K p q hK).trans (h K p q hK)
theorem fs_mqs (hc : c = 0) (ha : r = a) (hs : fs_sc (fx_up σ 46 o 0 0) τ) : fs_mq o σ c a (0, r) τ := ⟨r, rfl, by rw [hs 46 o 0 (by omega), fx_upS, hc], fun _ => ha, fs_qm_u.trans (fs_qm.sc hs)⟩
theorem fs_mq1 (hc : c = e) (he : e ≠ 0) : fs_mq o σ c a (0, r) (fx_up σ 46 o 0 e) := ⟨r, rfl, by rw [fx_upS, hc], fun h => absurd (hc.symm.trans h) he, fs_qm_u⟩
theorem m154y {t : Int} (h : fs_in 8 t) : fx_Rt 154 [(0, t)] σ (0, 1) σ := by
  have := c154 (σ := σ) (t := t)
  rwa [decide_eq_true h.1, decide_eq_true h.2] at this
theorem m154n {t : Int} (h : ¬ fs_in 8 t) : fx_Rt 154 [(0, t)] σ (0, 0) σ := by
  have e := c154 (σ := σ) (t := t)
  rwa [show (decide (0 ≤ t) && decide (t < 8)) = false by rw [Bool.and_eq_false_iff, decide_eq_false_iff_not, decide_eq_false_iff_not]; omega] at e
theorem m155y {t : Int} (h : fs_in 1000 t) : fx_Rt 155 [(0, t)] σ (0, 1) σ := by
  have := c155 (σ := σ) (t := t)
  rwa [decide_eq_true h.1, decide_eq_true h.2] at this
theorem m155n {t : Int} (h : ¬ fs_in 1000 t) : fx_Rt 155 [(0, t)] σ (0, 0) σ := by
  have e := c155 (σ := σ) (t := t)
  rwa [show (decide (0 ≤ t) && decide (t < 1000)) = false by rw [Bool.and_eq_false_iff, decide_eq_false_iff_not, decide_eq_false_iff_not]; omega] at e
theorem m149y {v x y : Int} (h : x ≤ v ∧ v ≤ y) : fx_Rt 149 [(0, v), (0, x), (0, y)] σ (0, 1) σ := by
  have := c149 (σ := σ) (v := v) (a := x) (b := y)
  rwa [decide_eq_true h.1, decide_eq_true h.2] at this
theorem m149n {v x y : Int} (h : ¬ (x ≤ v ∧ v ≤ y)) : fx_Rt 149 [(0, v), (0, x), (0, y)] σ (0, 0) σ := by
  have e := c149 (σ := σ) (v := v) (a := x) (b := y)
  rwa [show (decide (x ≤ v) && decide (v ≤ y)) = false by rw [Bool.and_eq_false_iff, decide_eq_false_iff_not, decide_eq_false_iff_not]; omega] at e
theorem fs_mp.n (h : fs_mp o σ S) : σ 47 0 0 = S 0 0 0 ∧ σ 47 0 1 = S 0 1 0 := by
  obtain ⟨-, rfl, -⟩ := h
  exact ⟨rfl, rfl⟩
theorem m152y (h : fs_mp o σ S) {s : Int} (g : fs_in (S 0 0 0) s) : fx_Rt 152 [(46, o), (0, s)] σ (0, 1) σ := by
  have e := c152 (σ := σ) (o := o) (s := s) (by rw [h.2.1]; exact h.1)
  rwa [h.n.1, decide_eq_true g.1, decide_eq_true g.2] at e
theorem m152n (h : fs_mp o σ S) {s : Int} (g : ¬ fs_in (S 0 0 0) s) : fx_Rt 152 [(46, o), (0, s)] σ (0, 0) σ := by
  have e := c152 (σ := σ) (o := o) (s := s) (by rw [h.2.1]; exact h.1)
  rwa [h.n.1, show (decide (0 ≤ s) && decide (s < S 0 0 0)) = false by rw [Bool.and_eq_false_iff, decide_eq_false_iff_not, decide_eq_false_iff_not]; omega] at e
theorem m153y (h : fs_mp o σ S) {s : Int} (g : fs_in (S 0 1 0) s) : fx_Rt 153 [(46, o), (0, s)] σ (0, 1) σ := by
  have e := c153 (σ := σ) (o := o) (f := s) (by rw [h.2.1]; exact h.1)
  rwa [h.n.2, decide_eq_true g.1, decide_eq_true g.2] at e
theorem m153n (h : fs_mp o σ S) {s : Int} (g : ¬ fs_in (S 0 1 0) s) : fx_Rt 153 [(46, o), (0, s)] σ (0, 0) σ := by
  have e := c153 (σ := σ) (o := o) (f := s) (by rw [h.2.1]; exact h.1)
  rwa [h.n.2, show (decide (0 ≤ s) && decide (s < S 0 1 0)) = false by rw [Bool.and_eq_false_iff, decide_eq_false_iff_not, decide_eq_false_iff_not]; omega] at e
theorem m151 (h : fs_mp o σ S) {f : Int} (g : fs_in (S 0 1 0) f) : fx_Rt 151 [(46, o), (0, f), (0, 0)] σ (0, S 3 f 0) σ ∧ fx_Rt 151 [(46, o), (0, f), (0, 1)] σ (0, S 4 f 0) σ ∧ fx_Rt 151 [(46, o), (0, f), (0, 2)] σ (0, S 5 f 0) σ ∧ fx_Rt 151 [(46, o), (0, f), (0, 3)] σ (0, S 6 f 0) σ ∧ fx_Rt 151 [(46, o), (0, f), (0, 4)] σ (0, S 7 f 0) σ ∧ fx_Rt 151 [(46, o), (0, f), (0, 5)] σ (0, S 8 f 0) σ := by
  have := h.1.2.1
  obtain ⟨-, rfl, -⟩ := h
  exact ⟨c151a g.1 (by omega), c151b g.1 (by omega), c151c g.1 (by omega), c151d g.1 (by omega), c151e g.1 (by omega), c151f g.1 (by omega)⟩
theorem m156 (h : fs_mp o σ S) {f t x : Int} (g : fs_in (S 0 1 0) f) (h3 : S 3 f 0 = t) : fx_Rt 156 [(46, o), (0, f), (0, x)] σ (0, fs_b (fs_hold S f t x)) σ := by
  have hfa := h.1.2.1
  have e := c156 (σ := σ) (o := o) (f := f) (time := x) (by rw [h.2.1]; exact h.1) g.1 (by rw [h.n.2]; exact g.2)
  rw [h.2.1, h.2.2, (decide_eq_true (by omega) : decide (f < 60) = true), Bool.true_and] at e
  unfold fs_hold
  rw [decide_eq_true h3, Bool.true_and]
  exact e
theorem m158 (h : fs_mp o σ S) {f g : Int} (hf : fs_in (S 0 1 0) f) (hg : fs_in (S 0 1 0) g) : fx_Rt 158 [(46, o), (0, f), (0, g)] σ (0, fs_b (fs_better S f g)) σ := by
  have e := c158 (σ := σ) (o := o) (f := f) (g := g) (by rw [h.2.1]; exact h.1) hf.1 (by rw [h.n.2]; exact hf.2) hg.1 (by rw [h.n.2]; exact hg.2)
  rwa [h.2.1] at e
theorem m165 (h : fs_mp o σ S) {x : Int} : fx_Ca 165 [(46, o), (0, x)] σ (fun v τ => v = (4, 0) ∧ fs_sc σ τ ∧ (∀ K p q, 58 ≤ K → τ K p q = σ K p q) ∧ ∀ a, 0 ≤ a → a < 8 → τ 55 0 a = fs_is S fs_W1 a x ∧ τ 56 0 a = fs_bs S fs_W1 a x) := by
  obtain ⟨ho, rfl, hl⟩ := h
  exact c165w ho hl
theorem m166 (h : fs_mp o σ S) {t r : Int} (g : fs_in 8 t) : fx_Ca 166 [(46, o), (0, t), (59, r)] σ (fun v τ => v = (4, 0) ∧ fs_sc σ τ ∧ (∀ K p q, 58 ≤ K → ¬ (K = 59 ∧ p = r) → τ K p q = σ K p q) ∧ fs_ln τ r (fs_is S fs_W1 t)) := by
  obtain ⟨ho, rfl, hl⟩ := h
  exact c166w ho hl g.1 g.2
theorem m215 (h : fs_mp o σ S) {t x : Int} : fx_Ca 215 [(46, o), (0, t), (0, x)] σ (fs_mq o σ (fs_c1 (fs_pl t x)) (fs_is S fs_W1 t x)) := by
  by_cases ht : fs_in 8 t
  · by_cases hx : fs_in 1000 x
    · refine t215_0 ((m154y ht).I ⟨fun a => absurd a (by decide), fun _ => (m155y hx).I ⟨fun a => absurd a (by decide), fun _ => fx_CV_of (m165 h.u) ?_⟩⟩)
      rintro v τ ⟨rfl, s1, -, s3⟩
      exact Or.inl ⟨rfl, ht, fs_mqs (fs_c1y ⟨ht, hx⟩) (s3 t ht.1 ht.2).1 s1⟩
    · exact t215_0 ((m154y ht).I ⟨fun a => absurd a (by decide), fun _ => (m155n hx).I ⟨fun _ => fs_mq1 (fs_c1n (fun e => hx e.2)) (by decide), fun a => absurd rfl a⟩⟩)
  · exact t215_0 ((m154n ht).I ⟨fun _ => fs_mq1 (fs_c1n (fun e => ht e.1)) (by decide), fun a => absurd rfl a⟩)
theorem m216 (h : fs_mp o σ S) {t x w : Int} : fx_Ca 216 [(46, o), (0, t), (0, x), (0, w)] σ (fs_mq o σ (fs_c2 (fs_pl t x) (fs_in 3 w)) (fs_aby S t x w)) := by
  by_cases ht : fs_in 8 t
  · by_cases hx : fs_in 1000 x
    · by_cases hw : fs_in 3 w
      · have hc := fs_c2y (p := fs_pl t x) (q := fs_in 3 w) ⟨ht, hx⟩ hw
        refine t216_0 ((m154y ht).I ⟨fun a => absurd a (by decide), fun _ => (m155y hx).I ⟨fun _ => (m149y ⟨hw.1, by omega⟩).I ⟨fun _ => fx_CV_of (m165 h.u) ?_, fun a => absurd a (by decide)⟩, fun a => absurd a (by decide)⟩⟩)
        rintro v τ ⟨rfl, s1, -, s3⟩
        refine Or.inl ⟨rfl, ?_⟩
        obtain ⟨v1, v2⟩ := s3 t ht.1 ht.2
        rw [v1, v2]
        have hm1 := h.u (e := 0) |>.sc s1
        have hin := fs_bs_in (W := fs_W1) (t := t) (time := x) h.1
        have ha : fs_aby S t x w = if w = 0 then fs_bs S fs_W1 t x else if w = 1 then (if fs_bs S fs_W1 t x = -1 then -1 else S 4 (fs_bs S fs_W1 t x) 0) else if fs_bs S fs_W1 t x = -1 then (if fs_is S fs_W1 t x = -1 then 2 else 1) else 0 := rfl
        generalize fs_bs S fs_W1 t x = B at hin ha
        refine ⟨fun w2 => ⟨fun w0 => ⟨ht, fs_mqs hc (by rw [ha, if_pos w0]) s1⟩, fun w0 => ⟨ht, fun b => (m151 hm1 (f := B) ⟨by omega, by omega⟩).2.1.I (fs_mqs hc (by rw [ha, if_neg w0, if_pos (by omega), if_neg b]) s1), fun b => fs_mqs hc (by rw [ha, if_neg w0, if_pos (by omega), if_pos b, b]) s1⟩⟩, fun w2 => ⟨ht, fun b => ⟨fun d => fs_mqs hc (by rw [ha, if_neg (by omega), if_neg (by omega), if_pos b, if_pos d]) s1, fun d => fs_mqs hc (by rw [ha, if_neg (by omega), if_neg (by omega), if_pos b, if_neg d]) s1⟩, fun b => fs_mqs hc (by rw [ha, if_neg (by omega), if_neg (by omega), if_neg b]) s1⟩⟩
      · exact t216_0 ((m154y ht).I ⟨fun a => absurd a (by decide), fun _ => (m155y hx).I ⟨fun _ => (m149n (fun e => hw ⟨e.1, by omega⟩)).I ⟨fun a => absurd rfl a, fun _ => fs_mq1 (fs_c2m ⟨ht, hx⟩ hw) (by decide)⟩, fun a => absurd a (by decide)⟩⟩)
    · exact t216_0 ((m154y ht).I ⟨fun a => absurd a (by decide), fun _ => (m155n hx).I ⟨fun a => absurd rfl a, fun _ => fs_mq1 (fs_c2n (fun e => hx e.2)) (by decide)⟩⟩)
  · exact t216_0 ((m154n ht).I ⟨fun _ => fs_mq1 (fs_c2n (fun e => ht e.1)) (by decide), fun a => absurd rfl a⟩)
theorem m217 (h : fs_mp o σ S) {t x k : Int} : fx_Ca 217 [(46, o), (0, t), (0, x), (0, k)] σ (fs_mq o σ (fs_c1 (fs_pl t x)) (if k = -1 then fs_many S t x else fs_kth S t x k)) := by
  by_cases ht : fs_in 8 t
  · by_cases hx : fs_in 1000 x
    · have hc := fs_c1y (p := fs_pl t x) ⟨ht, hx⟩
      refine t217_0 ((m154y ht).I ⟨fun a => absurd a (by decide), fun _ => (m155y hx).I ⟨fun a => absurd a (by decide), fun _ => ?_⟩⟩)
      have hu := h.u (e := 0)
      have hs : fs_sc (fx_up σ 46 o 0 0) (fx_up σ 46 o 0 0) := fs_sc.rfl
      generalize hE : fx_up σ 46 o 0 0 = ρ at hu
      have fin : ∀ r a : Int, r = a → fs_mq o σ (fs_c1 (fs_pl t x)) a (0, r) ρ := fun r a ha => by rw [← hE]; exact fs_mqs hc ha hs
      have hfa := h.1.2.1
      have hn := hu.n.2
      generalize hR : (fun f => fs_cnt (fun g => fs_hold S g t x && fs_better S g f) (S 0 1 0).toNat) = R
      have hRf : ∀ f, R f = fs_cnt (fun g => fs_hold S g t x && fs_better S g f) (S 0 1 0).toNat := fun f => by rw [← hR]
      generalize hP : (fun f => fs_hold S f t x && decide (R f = k)) = P
      have hPf : ∀ f, P f = (fs_hold S f t x && decide (R f = k)) := fun f => by rw [← hP]
      have hkth : fs_kth S t x k = fs_first P (S 0 1 0).toNat := by rw [← hP, ← hR]; rfl
      have hno : ∀ f, S 3 f 0 ≠ t → fs_hold S f t x = false := fun f h => by unfold fs_hold; rw [decide_eq_false h, Bool.false_and]
      refine fx_whl (X := Int × fx_V × fx_V) (fun y => [(46, o), (0, t), (0, x), (0, k), (0, fs_cnt (fun f => fs_hold S f t x) y.1.toNat), (0, fs_first P y.1.toNat), (0, y.1), y.2.1, y.2.2]) (fun _ => ρ) (fun y => 0 ≤ y.1 ∧ y.1 ≤ S 0 1 0) (fun y => (S 0 1 0 - y.1).toNat) ?_ (0, (3, 0), (3, 0)) ⟨by simp, hfa.1⟩
      rintro ⟨f, w7, w8⟩ ⟨f0, f1⟩ ih
      simp only at f0 f1
      show fx_Wp 217 41 [(46, o), (0, t), (0, x), (0, k), (0, fs_cnt (fun f => fs_hold S f t x) f.toNat), (0, fs_first P f.toNat), (0, f), w7, w8] [] ρ _
      have ih : ∀ (w w' : fx_V) (A B : Int), f < S 0 1 0 → fs_cnt (fun f => fs_hold S f t x) (f + 1).toNat = A → fs_first P (f + 1).toNat = B → fx_Wp 217 41 [(46, o), (0, t), (0, x), (0, k), (0, A), (0, B), (0, f + 1), w, w'] [] ρ (fs_mq o σ (fs_c1 (fs_pl t x)) (if k = -1 then fs_many S t x else fs_kth S t x k)) := by
        intro w w' A B hf h1 h2
        have := ih (f + 1, w, w') ⟨by simp only; omega, by simp only; omega⟩ (by simp only; omega)
        simp only at this
        rw [h1, h2] at this
        exact this
      have hcs := fs_cnt_s (fun f => fs_hold S f t x) f0
      have hfs := fs_first_s (P := P) f0
      have hb := fs_cnt_b (fun f => fs_hold S f t x) f f0
      refine t217_41 ?_
      rw [hn]
      refine ⟨fun a => ?_, fun a => (m151 hu ⟨f0, a⟩).1.I ⟨fun b => ⟨⟨by omega, by omega⟩, ih _ _ _ _ a ?_ ?_⟩, fun b => (m156 hu ⟨f0, a⟩ b).I ⟨fun c => ⟨⟨by omega, by omega⟩, ?_⟩, fun c => ⟨⟨by omega, by omega⟩, ih _ _ _ _ a ?_ ?_⟩⟩⟩⟩
      · have e : f = S 0 1 0 := by omega
        rw [e]
        exact ⟨fun d => fin _ _ (by rw [if_neg d, hkth]), fun d => fin _ _ (by rw [if_pos d]; rfl)⟩
      · rw [hcs, hno f b]; exact Int.add_zero _
      · rw [hfs, hPf, hno f b, Bool.false_and]
        simp
        intro q; exact q.symm
      · have hh := fs_b1.mp c
        rw [fs_bT hh] at hcs
        refine fx_whl (X := Int) (fun g => [(46, o), (0, t), (0, x), (0, k), (0, fs_cnt (fun f => fs_hold S f t x) f.toNat + 1), (0, fs_first P f.toNat), (0, f), (0, fs_cnt (fun g => fs_hold S g t x && fs_better S g f) g.toNat), (0, g)]) (fun _ => ρ) (fun g => 0 ≤ g ∧ g ≤ S 0 1 0) (fun g => (S 0 1 0 - g).toNat) ?_ 0 ⟨by simp, hfa.1⟩
        rintro g ⟨g0, g1⟩ ih2
        have ih2 : ∀ A : Int, g < S 0 1 0 → fs_cnt (fun g => fs_hold S g t x && fs_better S g f) (g + 1).toNat = A → fx_Wp 217 85 [(46, o), (0, t), (0, x), (0, k), (0, fs_cnt (fun f => fs_hold S f t x) f.toNat + 1), (0, fs_first P f.toNat), (0, f), (0, A), (0, g + 1)] [] ρ (fs_mq o σ (fs_c1 (fs_pl t x)) (if k = -1 then fs_many S t x else fs_kth S t x k)) := by
          intro A hg h1
          have := ih2 (g + 1) ⟨by omega, by omega⟩ (by omega)
          rw [h1] at this
          exact this
        have hgs := fs_cnt_s (fun g => fs_hold S g t x && fs_better S g f) g0
        have hgb := fs_cnt_b (fun g => fs_hold S g t x && fs_better S g f) g g0
        refine t217_85 ?_
        rw [hn]
        refine ⟨fun d => ?_, fun d => ⟨fun e => ⟨⟨by omega, by omega⟩, ⟨by omega, by omega⟩, ih2 _ d ?_⟩, fun e => (m151 hu ⟨g0, d⟩).1.I ⟨fun q => ⟨⟨by omega, by omega⟩, ⟨by omega, by omega⟩, ih2 _ d ?_⟩, fun q => (m156 hu ⟨g0, d⟩ q).I ⟨fun z => ⟨⟨by omega, by omega⟩, ⟨by omega, by omega⟩, ih2 _ d ?_⟩, fun z => (m158 hu ⟨g0, d⟩ ⟨f0, a⟩).I ⟨fun u => ⟨⟨by omega, by omega⟩, ⟨by omega, by omega⟩, ih2 _ d ?_⟩, fun u => ⟨⟨by omega, by omega⟩, ⟨by omega, by omega⟩, ih2 _ d ?_⟩⟩⟩⟩⟩⟩
        · have e : g = S 0 1 0 := by omega
          rw [e, ← hRf f]
          refine ⟨fun q => ⟨⟨by omega, by omega⟩, ih _ _ _ _ a hcs ?_⟩, fun q => ⟨⟨by omega, by omega⟩, ih _ _ _ _ a hcs ?_⟩⟩
          · rw [hfs, hPf, decide_eq_false q, Bool.and_false]
            simp
            intro z; exact z.symm
          · rw [hfs]
            have hpt : P f = true := by rw [hPf, hh, decide_eq_true q]; rfl
            rcases fs_first_in (P := P) f.toNat with z | ⟨z1, z2, z3⟩
            · rw [if_pos z, if_pos hpt]
            · exfalso
              rw [hPf, Bool.and_eq_true, decide_eq_true_eq] at z3
              have := fs_rank_u (S := S) (H := fun g => fs_hold S g t x) (n := (S 0 1 0).toNat) (f := f) (g := fs_first P f.toNat) f0 (by omega) z1 (by omega) hh z3.1 (by omega)
              rw [← hRf, ← hRf] at this
              omega
        · rw [hgs, e, fs_better_ir, Bool.and_false]; rfl
        · rw [hgs, hno g q, Bool.false_and]; rfl
        · rw [hgs, fs_b0.mp z, Bool.false_and]; rfl
        · rw [hgs, fs_b0.mp u, Bool.and_false]; rfl
        · rw [hgs, fs_b1.mp z, fs_b1.mp u]; rfl
      · rw [hcs, c]; exact Int.add_zero _
      · rw [hfs, hPf, fs_b0.mp c, Bool.false_and]
        simp
        intro q; exact q.symm
    · exact t217_0 ((m154y ht).I ⟨fun a => absurd a (by decide), fun _ => (m155n hx).I ⟨fun _ => fs_mq1 (fs_c1n (fun e => hx e.2)) (by decide), fun a => absurd rfl a⟩⟩)
  · exact t217_0 ((m154n ht).I ⟨fun _ => fs_mq1 (fs_c1n (fun e => ht e.1)) (by decide), fun a => absurd rfl a⟩)
end FXM0
