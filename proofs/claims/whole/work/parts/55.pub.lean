theorem fs_any_c {P P' : Int → Bool} : ∀ n : Nat, (∀ k : Int, 0 ≤ k → k < n → P k = P' k) → fs_any P n = fs_any P' n
  | 0, _ => rfl
  | n + 1, h => by rw [fs_any, fs_any, fs_any_c n (fun k a b => h k a (by omega)), h n (by omega) (by omega)]
theorem fs_first_c {P P' : Int → Bool} : ∀ n : Nat, (∀ k : Int, 0 ≤ k → k < n → P k = P' k) → fs_first P n = fs_first P' n
  | 0, _ => rfl
  | n + 1, h => by rw [fs_first, fs_first, fs_first_c n (fun k a b => h k a (by omega)), h n (by omega) (by omega)]
theorem fs_mark_c {A S : fx_S} (he : fs_eq A S) (n : Nat) (hn : (n : Int) ≤ A 0 1 0) (t : Int) : fs_mark A n t = fs_mark S n t := by
  unfold fs_mark
  rw [fs_any_c n (fun k k0 k1 => by rw [(he.2.2.2.1 k k0 (by omega)).2.2.1, (he.2.2.2.1 k k0 (by omega)).2.2.2.1])]
theorem fs_drawn_c {σ : fx_S} {l : Int} {A S : fx_S} {W V : Int → Bool} (he : fs_eq A S) (ho : fs_ok A) (hW : ∀ f, 0 ≤ f → f < A 0 1 0 → W f = V f) (hd : fs_drawn σ l A W) : fs_drawn σ l S V := by
  obtain ⟨h1, h2, h3⟩ := hd
  have hn := ho.2.1
  refine ⟨?_, ?_, fun t p t0 t1 p0 p1 => ?_⟩
  · obtain ⟨a1, a2, a3, a4, a5, a6, a7⟩ := h1
    refine ⟨a1, a2, a3, a4, a5, a6, fun f f0 f1 => ?_⟩
    have := a7 f f0 (by rw [he.2.1]; exact f1)
    obtain ⟨-, -, e5, e6, -⟩ := he.2.2.2.1 f f0 (by rw [he.2.1]; exact f1)
    rw [e5, e6] at this
    exact this
  · obtain ⟨b1, b2⟩ := h2
    have hm : ∀ t, fs_mark A (A 0 1 0).toNat t = fs_mark S (S 0 1 0).toNat t := fun t => by rw [fs_mark_c he _ (by omega), he.2.1]
    have hm2 : fs_mark A (A 0 1 0).toNat = fs_mark S (S 0 1 0).toNat := funext hm
    rw [hm2] at b1 b2
    exact ⟨b1, b2⟩
  · obtain ⟨c1, c2⟩ := h3 t p t0 t1 p0 p1
    exact ⟨by rw [c1]; exact fs_bs_c he ho hW, by rw [c2]; exact fs_is_c he ho hW 8 (by omega) t t0 (by omega)⟩
theorem fs_drawn_k {σ ρ : fx_S} {l : Int} {S : fx_S} {W : Int → Bool} (h36 : ρ 36 l 8 = σ 36 l 8) (h37 : ∀ p, ρ 37 l p = σ 37 l p) (h38 : ∀ p, ρ 38 l p = σ 38 l p) (h41 : ∀ o p, 8 * l ≤ o → o < 8 * l + 8 → ρ 41 o p = σ 41 o p) (h43 : ∀ o p, 8 * l ≤ o → o < 8 * l + 8 → ρ 43 o p = σ 43 o p) (hd : fs_drawn σ l S W) : fs_drawn ρ l S W := by
  obtain ⟨h1, h2, h3⟩ := hd
  refine ⟨?_, ?_, fun t p t0 t1 p0 p1 => ?_⟩
  · simp only [h36, h37, h38]; exact h1
  · simp only [h36, h37]; exact h2
  · rw [h36] at p1
    rw [h41 _ p (by omega) (by omega), h43 _ p (by omega) (by omega), h37]; exact h3 t p t0 t1 p0 p1
/-- the class and a state that it says: what questions rest on -/
def fs_pre (σ S : fx_S) : Prop := fs_ok S ∧ fs_eq (fs_c σ 0) S ∧ (σ 10 0 10 ≠ 0 → fs_drawn σ 0 S fs_W1) ∧ ∀ t, 0 ≤ t → t < 8 → σ 22 t 5 = fs_bit S t (S 9 t 0).toNat
def fs_qf (σ τ : fx_S) : Prop := ∀ K o p, ¬ ((36 ≤ K ∧ K ≤ 45) ∨ (K = 10 ∧ o = 0 ∧ p = 10)) → τ K o p = σ K o p
theorem fs_qf.rfl {σ : fx_S} : fs_qf σ σ := fun _ _ _ _ => Eq.refl _
theorem fs_qf.trans {σ τ ρ : fx_S} (h : fs_qf σ τ) (g : fs_qf τ ρ) : fs_qf σ ρ := fun K o p hK => (g K o p hK).trans (h K o p hK)
theorem fs_pre.k {σ τ S : fx_S} (h : fs_pre σ S) (hf : ∀ K o p, K = 10 ∨ (11 ≤ K ∧ K ≤ 25) ∨ (K = 36 ∧ o = 0 ∧ p = 8) ∨ ((K = 37 ∨ K = 38) ∧ o = 0) ∨ ((K = 41 ∨ K = 43) ∧ 0 ≤ o ∧ o < 8) → τ K o p = σ K o p) : fs_pre τ S := by
  obtain ⟨h1, h2, h3, h4⟩ := h
  have hc : fs_c τ 0 = fs_c σ 0 := fs_c_of (fun K o p a b => hf K o p (by omega)) 0
  refine ⟨h1, by rw [hc]; exact h2, fun hd => ?_, fun t t0 t1 => by rw [hf 22 t 5 (by omega)]; exact h4 t t0 t1⟩
  rw [hf 10 0 10 (by omega)] at hd
  exact fs_drawn_k (hf 36 0 8 (by omega)) (fun p => hf 37 0 p (by omega)) (fun p => hf 38 0 p (by omega)) (fun o p a b => hf 41 o p (by omega)) (fun o p a b => hf 43 o p (by omega)) (h3 hd)
def fs_out (e1 e2 e3 c a : Int) : fx_V := if c = 0 then (0, a) else if c = 1 then (5, e1) else if c = 2 then (5, e2) else (5, e3)
def fs_cq (S σ : fx_S) (e1 e2 e3 c a : Int) : fx_V → fx_S → Prop := fun v τ => v = fs_out e1 e2 e3 c a ∧ fs_qf σ τ ∧ fs_pre τ S
section FXQ0
variable {S σ τ : fx_S} {e1 e2 e3 c a : Int}
theorem fs_cq0 (hc : c = 0) (h1 : fs_qf σ τ) (h2 : fs_pre τ S) : fs_cq S σ e1 e2 e3 c a (0, a) τ := ⟨by rw [hc]; exact (if_pos rfl).symm, h1, h2⟩
theorem fs_cq1 (hc : c = 1) (h1 : fs_qf σ τ) (h2 : fs_pre τ S) : fs_cq S σ e1 e2 e3 c a (5, e1) τ := ⟨by rw [hc]; rfl, h1, h2⟩
theorem fs_cq2 (hc : c = 2) (h1 : fs_qf σ τ) (h2 : fs_pre τ S) : fs_cq S σ e1 e2 e3 c a (5, e2) τ := ⟨by rw [hc]; rfl, h1, h2⟩
theorem fs_cq0e {b : Int} (hc : c = 0) (hb : b = a) (h1 : fs_qf σ τ) (h2 : fs_pre τ S) : fs_cq S σ e1 e2 e3 c a (0, b) τ := by rw [hb]; exact fs_cq0 hc h1 h2
end FXQ0
def fs_c1 (p : Prop) [Decidable p] : Int := if p then 0 else 1
def fs_c2 (p q : Prop) [Decidable p] [Decidable q] : Int := if p then (if q then 0 else 2) else 1
theorem fs_c1y {p : Prop} [Decidable p] (h : p) : fs_c1 p = 0 := if_pos h
theorem fs_c1n {p : Prop} [Decidable p] (h : ¬ p) : fs_c1 p = 1 := if_neg h
theorem fs_c2y {p q : Prop} [Decidable p] [Decidable q] (h : p) (g : q) : fs_c2 p q = 0 := (if_pos h).trans (if_pos g)
theorem fs_c2n {p q : Prop} [Decidable p] [Decidable q] (h : ¬ p) : fs_c2 p q = 1 := if_neg h
theorem fs_c2m {p q : Prop} [Decidable p] [Decidable q] (h : p) (g : ¬ q) : fs_c2 p q = 2 := (if_pos h).trans (if_neg g)
abbrev fs_in (n a : Int) : Prop := 0 ≤ a ∧ a < n
abbrev fs_pl (t x : Int) : Prop := fs_in 8 t ∧ fs_in 1000 x
section FXP
variable {σ S : fx_S}
theorem c137y {t : Int} (h : fs_in 8 t) : fx_Rt 137 [(0, t)] σ (4, 0) σ := t137_0 ⟨fun a => by omega, fun _ => ⟨fun _ => ⟨rfl, rfl⟩, fun a => by omega⟩⟩
theorem c137n {t : Int} (h : ¬ fs_in 8 t) : fx_Rt 137 [(0, t)] σ (5, 2) σ := t137_0 ⟨fun a => ⟨rfl, rfl⟩, fun _ => ⟨fun a => by omega, fun a => ⟨rfl, rfl⟩⟩⟩
theorem c138y {t x : Int} (h : fs_pl t x) : fx_Rt 138 [(0, t), (0, x)] σ (4, 0) σ := t138_0 ((c137y h.1).V ⟨fun a => by omega, fun _ => ⟨fun _ => ⟨rfl, rfl⟩, fun a => by omega⟩⟩)
theorem c138n {t x : Int} (h : ¬ fs_pl t x) : fx_Rt 138 [(0, t), (0, x)] σ (5, 2) σ := by
  by_cases g : fs_in 8 t
  · exact t138_0 ((c137y g).V ⟨fun a => ⟨rfl, rfl⟩, fun b => ⟨fun c => absurd ⟨g, b, c⟩ h, fun a => ⟨rfl, rfl⟩⟩⟩)
  · exact t138_0 ((c137n g).VX ⟨rfl, rfl⟩)
theorem c139y {s : Int} (h : fs_in (σ 11 0 9) s) : fx_Rt 139 [(10, 0), (0, s)] σ (4, 0) σ := t139_0 (c24.I ⟨fun _ => ⟨rfl, rfl⟩, fun a => by rw [fs_b0, Bool.and_eq_false_iff, decide_eq_false_iff_not, decide_eq_false_iff_not] at a; omega⟩)
theorem c139n {s : Int} (h : ¬ fs_in (σ 11 0 9) s) : fx_Rt 139 [(10, 0), (0, s)] σ (5, 2) σ := t139_0 (c24.I ⟨fun a => by rw [fs_b1, Bool.and_eq_true, decide_eq_true_eq, decide_eq_true_eq] at a; omega, fun _ => ⟨rfl, rfl⟩⟩)
theorem c140y {s : Int} (h : fs_in (σ 11 0 10) s) : fx_Rt 140 [(10, 0), (0, s)] σ (4, 0) σ := t140_0 (c25.I ⟨fun _ => ⟨rfl, rfl⟩, fun a => by rw [fs_b0, Bool.and_eq_false_iff, decide_eq_false_iff_not, decide_eq_false_iff_not] at a; omega⟩)
theorem c140n {s : Int} (h : ¬ fs_in (σ 11 0 10) s) : fx_Rt 140 [(10, 0), (0, s)] σ (5, 2) σ := t140_0 (c25.I ⟨fun a => by rw [fs_b1, Bool.and_eq_true, decide_eq_true_eq, decide_eq_true_eq] at a; omega, fun _ => ⟨rfl, rfl⟩⟩)
theorem c141y {a b c : Int} (h : b ≤ a ∧ a < c) : fx_Rt 141 [(0, a), (0, b), (0, c)] σ (4, 0) σ := t141_0 ⟨fun a => by omega, fun _ => ⟨fun _ => ⟨rfl, rfl⟩, fun a => by omega⟩⟩
theorem c141n {a b c : Int} (h : ¬ (b ≤ a ∧ a < c)) : fx_Rt 141 [(0, a), (0, b), (0, c)] σ (5, 0) σ := t141_0 ⟨fun a => ⟨rfl, rfl⟩, fun _ => ⟨fun _ => by omega, fun a => ⟨rfl, rfl⟩⟩⟩
theorem c142y {a c : Int} (h : fs_in c a) : fx_Rt 142 [(0, a), (0, c)] σ (4, 0) σ := t142_0 ⟨fun a => by omega, fun _ => ⟨fun _ => ⟨rfl, rfl⟩, fun a => by omega⟩⟩
theorem c142n {a c : Int} (h : ¬ fs_in c a) : fx_Rt 142 [(0, a), (0, c)] σ (5, 3) σ := t142_0 ⟨fun a => ⟨rfl, rfl⟩, fun _ => ⟨fun _ => by omega, fun a => ⟨rfl, rfl⟩⟩⟩
/-- the lines as they are now -/
theorem c144l (hp : fs_pre σ S) : fx_Ca 144 [(10, 0)] σ (fun v τ => v = (36, 0) ∧ fs_qf σ τ ∧ fs_pre τ S ∧ fs_drawn τ 0 S fs_W1 ∧ ∀ K o p, (36 ≤ K ∧ K ≤ 39 ∧ o = 1) ∨ ((K = 41 ∨ K = 43) ∧ 8 ≤ o ∧ o < 16) → τ K o p = σ K o p) := by
  refine t144_0 ⟨fun a => ⟨rfl, fs_qf.rfl, hp, hp.2.2.1 a, fun _ _ _ _ => rfl⟩, fun a => ?_⟩
  have hoc := hp.2.1.symm.ok hp.1
  have hcn := fs_cn hoc
  refine fx_CV_of (c62 hoc (l := 0) (told := σ 11 0 10) (wo := -1) hcn.2.1) ?_
  rintro v τ ⟨rfl, h1, h2⟩
  have hd := fs_drawn_c (S := S) (V := fs_W1) hp.2.1 hoc (fun f f0 f1 => by rw [(decide_eq_true f1 : decide (f < σ 11 0 10) = true), (decide_eq_true (by omega) : decide (f ≠ -1) = true)]; rfl) h2
  refine Or.inl ⟨rfl, ?_⟩
  generalize hE : fx_up τ 10 0 10 1 = ρ
  have hρ : ∀ K o p, ¬ (K = 10 ∧ o = 0 ∧ p = 10) → ρ K o p = τ K o p := fun K o p hK => by rw [← hE, fx_upE, if_neg hK]
  have hd2 : fs_drawn ρ 0 S fs_W1 := fs_drawn_k (hρ 36 0 8 (by omega)) (fun p => hρ 37 0 p (by omega)) (fun p => hρ 38 0 p (by omega)) (fun o p a b => hρ 41 o p (by omega)) (fun o p a b => hρ 43 o p (by omega)) hd
  have hc : fs_c ρ 0 = fs_c σ 0 := (fs_c_of (fun K o p a b => hρ K o p (by omega)) 0).trans (h1.c 0)
  refine ⟨rfl, fun K o p hK => by rw [hρ K o p (by omega), h1 K o p (by omega)], ⟨hp.1, by rw [hc]; exact hp.2.1, fun _ => hd2, fun t t0 t1 => ?_⟩, hd2, fun K o p hK => by rw [hρ K o p (by omega), h1 K o p (by omega)]⟩
  rw [hρ 22 t 5 (by omega), h1 22 t 5 (by omega)]; exact hp.2.2.2 t t0 t1
theorem c144 (hp : fs_pre σ S) : fx_Ca 144 [(10, 0)] σ (fun v τ => v = (36, 0) ∧ fs_qf σ τ ∧ fs_pre τ S ∧ fs_drawn τ 0 S fs_W1) := fx_Wp.mono (c144l hp) (fun v τ h => ⟨h.1, h.2.1, h.2.2.1, h.2.2.2.1⟩)
theorem fx_CR_d {Q : fx_V → fx_S → Prop} {C : Int → fx_S → Prop} (hp : fs_pre σ S) (k : ∀ τ, fs_qf σ τ → fs_pre τ S → fs_drawn τ 0 S fs_W1 → C 0 τ) : fx_CR 36 144 [(10, 0)] σ Q C :=
  fx_Wp.mono (c144 hp) (fun v τ h => by obtain ⟨rfl, h1, h2, h3⟩ := h; exact Or.inl ⟨rfl, by decide, by decide, k τ h1 h2 h3⟩)
theorem q109 (hp : fs_pre σ S) {t x : Int} : fx_Ca 109 [(10, 0), (0, t), (0, x)] σ (fs_cq S σ 2 0 0 (fs_c1 (fs_pl t x)) (fs_is S fs_W1 t x)) := by
  by_cases h : fs_pl t x
  · refine t109_0 ((c138y h).V (fx_CR_d hp (fun τ g1 g2 g3 => (c68v hp.1 g3 h.1.1 h.1.2 h.2.1 h.2.2).I (fs_cq0 (fs_c1y h) g1 g2))))
  · exact t109_0 ((c138n h).VX (fs_cq1 (fs_c1n h) fs_qf.rfl hp))
def fs_aby (S : fx_S) (t x w : Int) : Int := if w = 0 then fs_bs S fs_W1 t x else if w = 1 then (if fs_bs S fs_W1 t x = -1 then -1 else S 4 (fs_bs S fs_W1 t x) 0) else if fs_bs S fs_W1 t x = -1 then (if fs_is S fs_W1 t x = -1 then 2 else 1) else 0
theorem q110 (hp : fs_pre σ S) {t x w : Int} : fx_Ca 110 [(10, 0), (0, t), (0, x), (0, w)] σ (fs_cq S σ 2 3 0 (fs_c2 (fs_pl t x) (fs_in 3 w)) (fs_aby S t x w)) := by
  by_cases h : fs_pl t x
  · by_cases g : fs_in 3 w
    · have hc := fs_c2y h g
      have hfa := hp.1.2.1
      refine t110_0 ((c138y h).V ((c142y g).V (fx_CR_d hp (fun τ g1 g2 g3 => (c69v hp.1 g3 h.1.1 h.1.2 h.2.1 h.2.2).I ?_))))
      have hin := fs_bs_in (W := fs_W1) (t := t) (time := x) hp.1
      have h16 : fs_bs S fs_W1 t x ≠ -1 → τ 16 0 (fs_bs S fs_W1 t x) = S 4 (fs_bs S fs_W1 t x) 0 := fun e => (g2.2.1.symm.2.2.2.1 _ (by omega) (by omega)).2.1.symm
      have ha : fs_aby S t x w = if w = 0 then fs_bs S fs_W1 t x else if w = 1 then (if fs_bs S fs_W1 t x = -1 then -1 else S 4 (fs_bs S fs_W1 t x) 0) else if fs_bs S fs_W1 t x = -1 then (if fs_is S fs_W1 t x = -1 then 2 else 1) else 0 := rfl
      generalize fs_bs S fs_W1 t x = B at hin h16 ha
      refine ⟨fun w0 => ⟨fun w1 => ⟨fun b => ?_, fun b => fs_cq0e hc (by rw [ha, if_neg w0, if_neg w1, if_neg b]) g1 g2⟩, fun w1 => ⟨fun b => ⟨⟨by omega, by omega⟩, fs_cq0e hc (by rw [ha, if_neg w0, if_pos w1, if_neg b, h16 b]) g1 g2⟩, fun b => fs_cq0e hc (by rw [ha, if_neg w0, if_pos w1, if_pos b]) g1 g2⟩⟩, fun w0 => fs_cq0e hc (by rw [ha, if_pos w0]) g1 g2⟩
      refine fx_CR_d g2 (fun τ2 k1 k2 k3 => (c68v hp.1 k3 h.1.1 h.1.2 h.2.1 h.2.2).I ⟨fun d => fs_cq0e hc (by rw [ha, if_neg w0, if_neg w1, if_pos b, if_pos d]) (g1.trans k1) k2, fun d => fs_cq0e hc (by rw [ha, if_neg w0, if_neg w1, if_pos b, if_neg d]) (g1.trans k1) k2⟩)
    · exact t110_0 ((c138y h).V ((c142n g).VX (fs_cq2 (fs_c2m h g) fs_qf.rfl hp)))
  · exact t110_0 ((c138n h).VX (fs_cq1 (fs_c2n h) fs_qf.rfl hp))
def fs_many (S : fx_S) (t x : Int) : Int := fs_cnt (fun f => fs_hold S f t x) (S 0 1 0).toNat
def fs_kth (S : fx_S) (t x k : Int) : Int := fs_first (fun f => fs_hold S f t x && decide (fs_cnt (fun g => fs_hold S g t x && fs_better S g f) (S 0 1 0).toNat = k)) (S 0 1 0).toNat
theorem fs_many_c {A S : fx_S} (he : fs_eq A S) (ho : fs_ok A) {t x : Int} : fs_many A t x = fs_many S t x := by
  have hn := ho.2.1
  unfold fs_many
  rw [← he.2.1]
  exact fs_cnt_c _ (fun f f0 f1 => fs_hold_c he ho f0 (by omega))
theorem fs_kth_c {A S : fx_S} (he : fs_eq A S) (ho : fs_ok A) {t x k : Int} : fs_kth A t x k = fs_kth S t x k := by
  have hn := ho.2.1
  unfold fs_kth
  rw [← he.2.1]
  refine fs_first_c _ (fun f f0 f1 => ?_)
  rw [fs_hold_c he ho f0 (by omega), fs_cnt_c (P' := fun g => fs_hold S g t x && fs_better S g f) _ (fun g g0 g1 => by rw [fs_hold_c he ho g0 (by omega), fs_better_c he ho g0 (by omega) f0 (by omega)])]
theorem q111 (hp : fs_pre σ S) {t x k : Int} : fx_Ca 111 [(10, 0), (0, t), (0, x), (0, k)] σ (fs_cq S σ 2 0 0 (fs_c1 (fs_pl t x)) (if k = -1 then fs_many S t x else fs_kth S t x k)) := by
  have hoc := hp.2.1.symm.ok hp.1
  by_cases h : fs_pl t x
  · have h39 : fx_Rt 39 [(11, 0), (0, t), (0, x), (0, k)] σ (0, fs_kth (fs_c σ 0) t x k) σ := c39 hoc
    have h38 : fx_Rt 38 [(11, 0), (0, t), (0, x)] σ (0, fs_many (fs_c σ 0) t x) σ := c38 hoc
    rw [fs_kth_c hp.2.1 hoc] at h39
    rw [fs_many_c hp.2.1 hoc] at h38
    exact t111_0 ((c138y h).V ⟨fun b => h39.I (fs_cq0e (fs_c1y h) (if_neg b).symm fs_qf.rfl hp), fun b => h38.I (fs_cq0e (fs_c1y h) (if_pos b).symm fs_qf.rfl hp)⟩)
  · exact t111_0 ((c138n h).VX (fs_cq1 (fs_c1n h) fs_qf.rfl hp))
theorem q112 (hp : fs_pre σ S) {t x n : Int} : fx_Ca 112 [(10, 0), (0, t), (0, x), (0, n)] σ (fs_cq S σ 2 0 0 (fs_c2 (fs_pl t x) (fs_in (S 0 1 0 + 1) n)) (fs_is S (fun f => decide (f < n)) t x)) := by
  have hoc := hp.2.1.symm.ok hp.1
  have h10 : σ 11 0 10 = S 0 1 0 := hp.2.1.2.1
  have hfa := hp.1.2.1
  by_cases h : fs_pl t x
  · by_cases g : fs_in (S 0 1 0 + 1) n
    · have hc := fs_c2y h g
      refine t112_0 ((c138y h).V ?_)
      rw [h10]
      refine ⟨⟨by omega, by omega⟩, (c141y ⟨g.1, g.2⟩).V (fx_CV_of (c62 hoc (l := 1) (told := n) (wo := -1) g.1) ?_)⟩
      rintro v τ ⟨rfl, h1, h2⟩
      have hd := fs_drawn_c (S := S) (V := fun f => decide (f < n)) hp.2.1 hoc (fun f f0 f1 => by rw [(decide_eq_true (by omega) : decide (f ≠ -1) = true), Bool.and_true]) h2
      exact Or.inl ⟨rfl, (c68v hp.1 hd h.1.1 h.1.2 h.2.1 h.2.2).I (fs_cq0 hc (fun K o p hK => h1 K o p (by omega)) (hp.k (fun K o p hK => h1 K o p (by omega))))⟩
    · refine t112_0 ((c138y h).V ?_)
      rw [h10]
      exact ⟨⟨by omega, by omega⟩, (c141n g).VX (fs_cq2 (fs_c2m h g) fs_qf.rfl hp)⟩
  · exact t112_0 ((c138n h).VX (fs_cq1 (fs_c2n h) fs_qf.rfl hp))
noncomputable def fs_alack (S : fx_S) (t x k : Int) : Int := if fs_is S fs_W1 t x = -1 then (if k = -1 then fs_lc S (fun a => fs_is S fs_W1 a x) t else if k = -2 then (fs_nx S (fun a => fs_is S fs_W1 a x) (fs_th S (fun a => fs_is S fs_W1 a x) t (fs_lc S (fun a => fs_is S fs_W1 a x) t - 1).toNat)).2 else if 0 ≤ k ∧ k < fs_lc S (fun a => fs_is S fs_W1 a x) t then fs_th S (fun a => fs_is S fs_W1 a x) t k.toNat else -1) else -1
theorem q113 (hp : fs_pre σ S) {t x k : Int} : fx_Ca 113 [(10, 0), (0, t), (0, x), (0, k)] σ (fs_cq S σ 2 0 0 (fs_c1 (fs_pl t x)) (fs_alack S t x k)) := by
  by_cases h : fs_pl t x
  · have hc := fs_c1y h
    refine t113_0 ((c138y h).V (fx_CR_d hp (fun τ g1 g2 g3 => (c68v hp.1 g3 h.1.1 h.1.2 h.2.1 h.2.2).I ⟨fun b => fx_CV_of (c66 hp.1 g2.2.1 g3 h.1.1 h.1.2 h.2.1 h.2.2 b) ?_, fun b => fs_cq0e hc (by unfold fs_alack; rw [if_neg b]) g1 g2⟩)))
    rintro v τ2 ⟨rfl, k1, c, l1, l2, l3, l4, l5⟩
    refine Or.inl ⟨rfl, ?_⟩
    have f2 : fs_qf σ τ2 := fun K o p hK => by rw [k1 K o p (by omega)]; exact g1 K o p hK
    have p2 : fs_pre τ2 S := g2.k (fun K o p hK => k1 K o p (by omega))
    have ha : fs_alack S t x k = if k = -1 then c else if k = -2 then (fs_nx S (fun a => fs_is S fs_W1 a x) (fs_th S (fun a => fs_is S fs_W1 a x) t (c - 1).toNat)).2 else if 0 ≤ k ∧ k < c then fs_th S (fun a => fs_is S fs_W1 a x) t k.toNat else -1 := by
      unfold fs_alack
      rw [if_pos b, fs_lc_u l1]
    rw [l3, l4]
    refine ⟨fun k1 => ⟨fun k2 => ⟨fun d => fs_cq0e hc (by rw [ha, if_neg k1, if_neg k2, if_neg (by omega)]) f2 p2, fun d => ⟨fun e => fs_cq0e hc (by rw [ha, if_neg k1, if_neg k2, if_neg (by omega)]) f2 p2, fun e => ⟨⟨by omega, by omega⟩, fs_cq0e hc (by rw [ha, if_neg k1, if_neg k2, if_pos ⟨d, e⟩, l5 k d e]) f2 p2⟩⟩⟩, fun k2 => fs_cq0e hc (by rw [ha, if_neg k1, if_pos k2]) f2 p2⟩, fun k1 => fs_cq0e hc (by rw [ha, if_pos k1]) f2 p2⟩
  · exact t113_0 ((c138n h).VX (fs_cq1 (fs_c1n h) fs_qf.rfl hp))
noncomputable def fs_arow (v : Int → Int) (k w g : Int) : Int := if k = -1 then fs_cnt (fs_beg v g) 1000 else if fs_row 1000 (fs_beg v g) k = -1 then -1 else if w = 0 then fs_row 1000 (fs_beg v g) k else if w = 1 then fs_end v (fs_row 1000 (fs_beg v g) k) else v (fs_row 1000 (fs_beg v g) k)
theorem q145 (hp : fs_pre σ S) {t k w g : Int} (t0 : 0 ≤ t) (t1 : t < 8) : fx_Ca 145 [(10, 0), (0, t), (0, k), (0, w), (0, g)] σ (fun v τ => v = (0, fs_arow (fs_is S fs_W1 t) k w g) ∧ fs_qf σ τ ∧ fs_pre τ S) := by
  refine t145_0 ⟨fun a => fx_CR_d hp (fun τ g1 g2 g3 => fx_CI_e (c77 hp.1 g3 t0 t1) (fun e he => ?_)), fun a => fx_CR_d hp (fun τ g1 g2 g3 => (c75 hp.1 g3 t0 t1).I ⟨by unfold fs_arow; rw [if_pos a], g1, g2⟩)⟩
  obtain ⟨hn, h0, hN, hpp, ha, hv, hcc, hl⟩ := fs_dr_p hp.1 g3
  have har : fs_arow (fs_is S fs_W1 t) k w g = if fs_row 1000 (fs_beg (fs_is S fs_W1 t) g) k = -1 then -1 else if w = 0 then fs_row 1000 (fs_beg (fs_is S fs_W1 t) g) k else if w = 1 then fs_end (fs_is S fs_W1 t) (fs_row 1000 (fs_beg (fs_is S fs_W1 t) g) k) else fs_is S fs_W1 t (fs_row 1000 (fs_beg (fs_is S fs_W1 t) g) k) := by unfold fs_arow; rw [if_neg a]
  rcases he with ⟨e1, e2⟩ | ⟨e1, e2, e3⟩
  · rw [e2, if_pos rfl] at har
    exact ⟨fun b => absurd e1 b, fun _ => ⟨by rw [har], g1, g2⟩⟩
  · have hpe := hpp e e1 e2
    have h43 := hv t e t0 t1 e1 e2
    rw [Int.mul_zero, Int.zero_add] at h43
    rw [e3, if_neg (by omega)] at har
    refine ⟨fun b => ⟨fun w0 => ⟨fun w1 => ⟨⟨t0, t1⟩, ⟨e1, by omega⟩, by rw [har, if_neg w0, if_neg w1, h43], g1, g2⟩, fun w1 => fx_CI_e (c71 hp.1 g3 t0 t1 e1 e2) ?_⟩, fun w0 => ⟨⟨e1, by omega⟩, by rw [har, if_pos w0], g1, g2⟩⟩, fun b => by omega⟩
    rintro f ⟨f1, f2, f3⟩
    exact ⟨⟨by omega, by omega⟩, by rw [har, if_neg w0, if_pos w1, fs_end_u f3], g1, g2⟩
theorem q114 (hp : fs_pre σ S) {t k w : Int} : fx_Ca 114 [(10, 0), (0, t), (0, k), (0, w)] σ (fs_cq S σ 2 3 0 (fs_c2 (fs_in 8 t) (fs_in 3 w)) (fs_arow (fs_is S fs_W1 t) k w 0)) := by
  by_cases h : fs_in 8 t
  · by_cases g : fs_in 3 w
    · exact t114_0 ((c137y h).V ((c142y g).V (fx_CI_of (q145 hp h.1 h.2) (fun v τ hv => by obtain ⟨rfl, g1, g2⟩ := hv; exact Or.inl ⟨rfl, fs_cq0 (fs_c2y h g) g1 g2⟩))))
    · exact t114_0 ((c137y h).V ((c142n g).VX (fs_cq2 (fs_c2m h g) fs_qf.rfl hp)))
  · exact t114_0 ((c137n h).VX (fs_cq1 (fs_c2n h) fs_qf.rfl hp))
theorem q115 (hp : fs_pre σ S) {t k w : Int} : fx_Ca 115 [(10, 0), (0, t), (0, k), (0, w)] σ (fs_cq S σ 2 3 0 (fs_c2 (fs_in 8 t) (fs_in 2 w)) (fs_arow (fs_is S fs_W1 t) k w 1)) := by
  by_cases h : fs_in 8 t
  · by_cases g : fs_in 2 w
    · exact t115_0 ((c137y h).V ((c142y g).V (fx_CI_of (q145 hp h.1 h.2) (fun v τ hv => by obtain ⟨rfl, g1, g2⟩ := hv; exact Or.inl ⟨rfl, fs_cq0 (fs_c2y h g) g1 g2⟩))))
    · exact t115_0 ((c137y h).V ((c142n g).VX (fs_cq2 (fs_c2m h g) fs_qf.rfl hp)))
  · exact t115_0 ((c137n h).VX (fs_cq1 (fs_c2n h) fs_qf.rfl hp))
theorem q116 (hp : fs_pre σ S) {t g : Int} : fx_Ca 116 [(10, 0), (0, t), (0, g)] σ (fs_cq S σ 2 0 0 (fs_c1 (fs_in 8 t)) (fs_lg (fs_is S fs_W1 t) g 1000).1) := by
  by_cases h : fs_in 8 t
  · exact t116_0 ((c137y h).V (fx_CR_d hp (fun τ g1 g2 g3 => (c78 hp.1 g3 h.1 h.2).I (fs_cq0 (fs_c1y h) g1 g2))))
  · exact t116_0 ((c137n h).VX (fs_cq1 (fs_c1n h) fs_qf.rfl hp))
noncomputable def fs_achg (v : Int → Int) (x b : Int) : Int := if b = 0 then (if fs_end v x = 1000 then -1 else fs_end v x) else fs_bgn v x
theorem q117 (hp : fs_pre σ S) {t x b : Int} : fx_Ca 117 [(10, 0), (0, t), (0, x), (0, b)] σ (fs_cq S σ 2 0 0 (fs_c1 (fs_pl t x)) (fs_achg (fs_is S fs_W1 t) x b)) := by
  by_cases h : fs_pl t x
  · have hc := fs_c1y h
    refine t117_0 ((c138y h).V ⟨fun b0 => fx_CR_d hp (fun τ g1 g2 g3 => fx_CI_e (c73 hp.1 g3 h.1.1 h.1.2 h.2.1 h.2.2) (fun e he => ?_)), fun b0 => fx_CR_d hp (fun τ g1 g2 g3 => fx_CI_e (c72 hp.1 g3 h.1.1 h.1.2 h.2.1 h.2.2) (fun e he => fs_cq0e hc (by unfold fs_achg; rw [if_neg b0, fs_bgn_u he]) g1 g2))⟩)
    have := he.2.1
    exact ⟨fun d => fs_cq0e hc (by unfold fs_achg; rw [if_pos b0, fs_end_u he, if_pos (by omega)]) g1 g2, fun d => fs_cq0e hc (by unfold fs_achg; rw [if_pos b0, fs_end_u he, if_neg (by omega)]) g1 g2⟩
  · exact t117_0 ((c138n h).VX (fs_cq1 (fs_c1n h) fs_qf.rfl hp))
theorem q118 (hp : fs_pre σ S) {t x : Int} : fx_Ca 118 [(10, 0), (0, t), (0, x)] σ (fs_cq S σ 2 0 0 (fs_c1 (fs_pl t x)) (fs_end (fs_is S fs_W1 t) x - fs_bgn (fs_is S fs_W1 t) x)) := by
  by_cases h : fs_pl t x
  · have hc := fs_c1y h
    refine t118_0 ((c138y h).V (fx_CR_d hp (fun τ g1 g2 g3 => fx_CI_e (c73 hp.1 g3 h.1.1 h.1.2 h.2.1 h.2.2) (fun e he => fx_CR_d g2 (fun τ2 k1 k2 k3 => fx_CI_e (c72 hp.1 k3 h.1.1 h.1.2 h.2.1 h.2.2) (fun b hb => ⟨?_, fs_cq0e hc (by rw [fs_end_u he, fs_bgn_u hb]) (g1.trans k1) k2⟩))))))
    have h1 := he.1; have h2 := he.2.1; have h3 := hb.1; have h4 := hb.2.1
    have := h.2
    exact ⟨by omega, by omega⟩
  · exact t118_0 ((c138n h).VX (fs_cq1 (fs_c1n h) fs_qf.rfl hp))
theorem q119 (hp : fs_pre σ S) {t x a : Int} : fx_Ca 119 [(10, 0), (0, t), (0, x), (0, a)] σ (fs_cq S σ 2 0 0 (fs_c2 (fs_pl t x) (fs_in 100 a)) (fs_fst (fun y => decide (fs_is S fs_W1 t y = a)) x)) := by
  by_cases h : fs_pl t x
  · by_cases g : fs_in 100 a
    · exact t119_0 ((c138y h).V ((c141y g).V (fx_CR_d hp (fun τ g1 g2 g3 => (c79 hp.1 g3 h.1.1 h.1.2 h.2.1 h.2.2).I (fs_cq0 (fs_c2y h g) g1 g2)))))
    · exact t119_0 ((c138y h).V ((c141n g).VX (fs_cq2 (fs_c2m h g) fs_qf.rfl hp)))
  · exact t119_0 ((c138n h).VX (fs_cq1 (fs_c2n h) fs_qf.rfl hp))
theorem q120 (hp : fs_pre σ S) {t x : Int} : fx_Ca 120 [(10, 0), (0, t), (0, x)] σ (fs_cq S σ 2 0 0 (fs_c1 (fs_pl t x)) (fs_near (fs_is S fs_W1 t) x)) := by
  by_cases h : fs_pl t x
  · exact t120_0 ((c138y h).V (fx_CR_d hp (fun τ g1 g2 g3 => (c80 hp.1 g3 h.1.1 h.1.2 h.2.1 h.2.2).I (fs_cq0 (fs_c1y h) g1 g2))))
  · exact t120_0 ((c138n h).VX (fs_cq1 (fs_c1n h) fs_qf.rfl hp))
noncomputable def fs_nxt (v : Int → Int) (x : Int) : Int := fs_fst (fun y => decide (v y ≠ -1) && decide (v y ≠ v (y - 1))) (x + 1)
noncomputable def fs_arest (v : Int → Int) (x : Int) : Int := if fs_nxt v x = -1 then -1 else fs_nxt v x - x
theorem fs_fst_r {P : Int → Bool} {a : Int} (h : ∃ r, fs_isf P a r) : fs_fst P a = -1 ∨ (a ≤ fs_fst P a ∧ fs_fst P a < 1000) := by
  obtain ⟨r, hr⟩ := h
  rw [fs_fst_u hr]
  rcases hr with h | h
  · exact Or.inl h.1
  · exact Or.inr ⟨h.1, h.2.1⟩
theorem fs_isf_ex (P : Int → Bool) (a : Int) (a0 : 0 ≤ a) : ∃ r, fs_isf P a r := by
  have key : ∀ n : Nat, (∃ r, fs_isf P a r) ∨ ∀ x, a ≤ x → x < a + n → P x = false := by
    intro n
    induction n with
    | zero => exact Or.inr (fun x x0 x1 => by omega)
    | succ n ih =>
      rcases ih with h | h
      · exact Or.inl h
      · cases hp : P (a + n) with
        | false =>
          refine Or.inr (fun x x0 x1 => ?_)
          by_cases e : x = a + n
          · rw [e]; exact hp
          · exact h x x0 (by omega)
        | true =>
          by_cases g : a + n < 1000
          · exact Or.inl ⟨a + n, Or.inr ⟨by omega, g, hp, fun x x0 x1 => h x x0 x1⟩⟩
          · exact Or.inl ⟨-1, Or.inl ⟨rfl, fun x x0 x1 => h x x0 (by omega)⟩⟩
  rcases key 1000 with h | h
  · exact h
  · exact ⟨-1, Or.inl ⟨rfl, fun x x0 x1 => h x x0 (by omega)⟩⟩
theorem q121 (hp : fs_pre σ S) {t x : Int} : fx_Ca 121 [(10, 0), (0, t), (0, x)] σ (fs_cq S σ 2 0 0 (fs_c1 (fs_pl t x)) (fs_arest (fs_is S fs_W1 t) x)) := by
  by_cases h : fs_pl t x
  · have hc := fs_c1y h
    have h81 := fun τ g3 => c81 (σ := τ) (l := 0) (W := fs_W1) hp.1 g3 h.1.1 h.1.2 h.2.1 h.2.2
    have hr := fs_fst_r (fs_isf_ex (fun y => decide (fs_is S fs_W1 t y ≠ -1) && decide (fs_is S fs_W1 t y ≠ fs_is S fs_W1 t (y - 1))) (x + 1) (by have := h.2; omega))
    have ha : fs_arest (fs_is S fs_W1 t) x = if fs_fst (fun y => decide (fs_is S fs_W1 t y ≠ -1) && decide (fs_is S fs_W1 t y ≠ fs_is S fs_W1 t (y - 1))) (x + 1) = -1 then -1 else fs_fst (fun y => decide (fs_is S fs_W1 t y ≠ -1) && decide (fs_is S fs_W1 t y ≠ fs_is S fs_W1 t (y - 1))) (x + 1) - x := rfl
    generalize fs_fst (fun y => decide (fs_is S fs_W1 t y ≠ -1) && decide (fs_is S fs_W1 t y ≠ fs_is S fs_W1 t (y - 1))) (x + 1) = r at h81 hr ha
    have hx := h.2
    exact t121_0 ((c138y h).V (fx_CR_d hp (fun τ g1 g2 g3 => (h81 τ g3).I ⟨fun b => ⟨⟨by omega, by omega⟩, fs_cq0e hc (by rw [ha, if_neg b]) g1 g2⟩, fun b => fs_cq0e hc (by rw [ha, if_pos b]) g1 g2⟩)))
  · exact t121_0 ((c138n h).VX (fs_cq1 (fs_c1n h) fs_qf.rfl hp))
theorem q122 (hp : fs_pre σ S) {t s w : Int} : fx_Ca 122 [(10, 0), (0, t), (0, s), (0, w)] σ (fs_cq S σ 2 0 0 (fs_c2 (fs_in 8 t ∧ fs_in 8 s) (fs_in 13 w)) (fs_sum (fs_prs (fs_is S fs_W1 t) (fs_is S fs_W1 s) w) 1000)) := by
  by_cases h : fs_in 8 t
  · by_cases h2 : fs_in 8 s
    · by_cases g : fs_in 13 w
      · exact t122_0 ((c137y h).V ((c137y h2).V ((c141y g).V (fx_CR_d hp (fun τ g1 g2 g3 => (c82 hp.1 g3 h.1 h.2 h2.1 h2.2).I (fs_cq0 (fs_c2y ⟨h, h2⟩ g) g1 g2))))))
      · exact t122_0 ((c137y h).V ((c137y h2).V ((c141n g).VX (fs_cq2 (fs_c2m ⟨h, h2⟩ g) fs_qf.rfl hp))))
    · exact t122_0 ((c137y h).V ((c137n h2).VX (fs_cq1 (fs_c2n (fun e => h2 e.2)) fs_qf.rfl hp)))
  · exact t122_0 ((c137n h).VX (fs_cq1 (fs_c2n (fun e => h e.1)) fs_qf.rfl hp))
def fs_both (v u : Int → Int) : Int := fs_sum (fun x => fs_b (decide (v x ≠ -1) && decide (u x ≠ -1))) 1000
theorem q123 (hp : fs_pre σ S) {t s : Int} : fx_Ca 123 [(10, 0), (0, t), (0, s)] σ (fs_cq S σ 2 0 0 (fs_c1 (fs_in 8 t ∧ fs_in 8 s)) (fs_both (fs_is S fs_W1 t) (fs_is S fs_W1 s))) := by
  by_cases h : fs_in 8 t
  · by_cases h2 : fs_in 8 s
    · exact t123_0 ((c137y h).V ((c137y h2).V (fx_CR_d hp (fun τ g1 g2 g3 => (c84 hp.1 g3 h.1 h.2 h2.1 h2.2).I (fs_cq0 (fs_c1y ⟨h, h2⟩) g1 g2)))))
    · exact t123_0 ((c137y h).V ((c137n h2).VX (fs_cq1 (fs_c1n (fun e => h2 e.2)) fs_qf.rfl hp)))
  · exact t123_0 ((c137n h).VX (fs_cq1 (fs_c1n (fun e => h e.1)) fs_qf.rfl hp))
def fs_oft (v : Int → Int) (a : Int) : Int := fs_sum (fun x => fs_b (decide (v x = a))) 1000
theorem q124 (hp : fs_pre σ S) {t a : Int} : fx_Ca 124 [(10, 0), (0, t), (0, a)] σ (fs_cq S σ 2 0 0 (fs_c2 (fs_in 8 t) (fs_in 100 a)) (fs_oft (fs_is S fs_W1 t) a)) := by
  by_cases h : fs_in 8 t
  · by_cases g : fs_in 100 a
    · exact t124_0 ((c137y h).V ((c141y g).V (fx_CR_d hp (fun τ g1 g2 g3 => (c85 hp.1 g3 h.1 h.2).I (fs_cq0 (fs_c2y h g) g1 g2)))))
    · exact t124_0 ((c137y h).V ((c141n g).VX (fs_cq2 (fs_c2m h g) fs_qf.rfl hp)))
  · exact t124_0 ((c137n h).VX (fs_cq1 (fs_c2n h) fs_qf.rfl hp))
end FXP
