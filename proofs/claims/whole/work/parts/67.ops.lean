/-- a state of the class and one of the reference, that say the same -/
def fs_kp (σ : fx_S) (i : Int) (K : Nat) (b : Int) : Prop := fs_ok (fs_m σ K b) ∧ fs_eq (fs_c σ i) (fs_m σ K b) ∧ fs_bt σ i
/-- what holds between calls -/
def fs_R (σ : fx_S) : Prop := fs_kp σ 0 47 0 ∧ (σ 10 0 10 ≠ 0 → fs_drawn σ 0 (fs_m σ 47 0) fs_W1) ∧
  ((0 ≤ σ 10 0 11 ∧ σ 10 0 11 ≤ 8) ∧ (0 ≤ σ 10 0 12 ∧ σ 10 0 12 < 8) ∧ σ 46 0 5 = σ 10 0 11 ∧ ∀ j, 0 ≤ j → j < σ 10 0 11 → fs_kp σ (3 + (σ 10 0 12 + 8 - σ 10 0 11 + j) % 8) 50 (1130 * j)) ∧
  (σ 46 0 6 = σ 10 0 9 ∧ (σ 10 0 9 ≠ 0 → fs_kp σ 2 49 0)) ∧
  ((0 ≤ σ 28 0 4 ∧ σ 28 0 4 ≤ 400) ∧ σ 46 0 9 = σ 28 0 4 ∧ ∀ j, 0 ≤ j → j < σ 28 0 4 → σ 51 0 j = σ 29 0 j ∧ 0 ≤ σ 29 0 j ∧ σ 29 0 j ≤ 255) ∧
  (σ 46 0 12 = σ 10 0 14 ∧ σ 46 0 7 = σ 10 0 13) ∧ σ 46 0 21 = 60 ∧ fx_bw σ
theorem fs_m_of {σ ρ : fx_S} {K : Nat} {b : Int} (h : ∀ p, ρ K 0 p = σ K 0 p) : fs_m ρ K b = fs_m σ K b := fs_m_c h
theorem fs_kp.k {σ ρ : fx_S} {i : Int} {K : Nat} {b : Int} (h : fs_kp σ i K b) (h1 : ∀ K o p, 11 ≤ K → K ≤ 25 → ρ K o p = σ K o p) (h2 : ∀ p, ρ K 0 p = σ K 0 p) : fs_kp ρ i K b := by
  obtain ⟨a, b1, c⟩ := h
  have e1 := fs_c_of h1 i
  have e2 : fs_m ρ K b = fs_m σ K b := fs_m_c h2
  refine ⟨by rw [e2]; exact a, by rw [e1, e2]; exact b1, fun t t0 t1 => ?_⟩
  rw [h1 22 _ 5 (by omega) (by omega), e1]; exact c t t0 t1
theorem fs_R.und {σ : fx_S} (h : fs_R σ) : (0 ≤ σ 10 0 11 ∧ σ 10 0 11 ≤ 8) ∧ (0 ≤ σ 10 0 12 ∧ σ 10 0 12 < 8) ∧ σ 46 0 5 = σ 10 0 11 ∧ ∀ j, 0 ≤ j → j < σ 10 0 11 → fs_kp σ (3 + (σ 10 0 12 + 8 - σ 10 0 11 + j) % 8) 50 (1130 * j) := h.2.2.1
theorem fs_R.pre {σ : fx_S} (h : fs_R σ) : fs_pre σ (fs_m σ 47 0) := by
  obtain ⟨⟨a, b, c⟩, d, -⟩ := h
  refine ⟨a, b, d, fun t t0 t1 => ?_⟩
  have := c t t0 t1
  rw [show 8 * 0 + t = t by omega] at this
  rw [this]
  exact fs_bit_c b (b.symm.ok a) t0 t1
/-- frame of a question, with its answer's place -/
def fs_q6 (σ τ : fx_S) : Prop := ∀ K o p, ¬ ((36 ≤ K ∧ K ≤ 45) ∨ (K = 10 ∧ o = 0 ∧ p = 10) ∨ K = 61) → τ K o p = σ K o p
theorem fs_q6.of {σ τ : fx_S} (h : fs_qf σ τ) : fs_q6 σ τ := fun K o p hK => h K o p (by omega)
theorem fs_R.mp {σ τ : fx_S} (h : fs_R σ) (g : fs_q6 σ τ) : fs_mp 0 τ (fs_m σ 47 0) := ⟨h.1.1, fs_m_c (fun p => g 47 0 p (by omega)), by rw [g 46 0 21 (by omega)]; exact h.2.2.2.2.2.2.1⟩
theorem fs_R.k {σ ρ : fx_S} (h : fs_R σ) (hc : ∀ K o p, (K = 10 ∧ o = 0 ∧ p ≠ 10) ∨ (11 ≤ K ∧ K ≤ 25) ∨ K = 28 ∨ K = 29 ∨ (K = 46 ∧ o = 0 ∧ (p = 5 ∨ p = 6 ∨ p = 7 ∨ p = 9 ∨ p = 12 ∨ p = 21)) ∨ (K = 47 ∧ o = 0) ∨ (49 ≤ K ∧ K ≤ 51 ∧ o = 0) → ρ K o p = σ K o p) (hd : ρ 10 0 10 ≠ 0 → fs_drawn ρ 0 (fs_m σ 47 0) fs_W1) : fs_R ρ := by
  obtain ⟨a, -, ⟨u1, u2, u3, u4⟩, ⟨k1, k2⟩, ⟨t1, t2, t3⟩, ⟨f1, f2⟩, l, bw⟩ := h
  have h1 : ∀ K o p, 11 ≤ K → K ≤ 25 → ρ K o p = σ K o p := fun K o p x y => hc K o p (by omega)
  have e : fs_m ρ 47 0 = fs_m σ 47 0 := fs_m_c (fun p => hc 47 0 p (by omega))
  refine ⟨a.k h1 (fun p => hc 47 0 p (by omega)), by rw [e]; exact hd, ⟨?_, ?_, ?_, ?_⟩, ⟨?_, ?_⟩, ⟨?_, ?_, ?_⟩, ⟨?_, ?_⟩, ?_, ?_⟩
  · rw [hc 10 0 11 (by omega)]; exact u1
  · rw [hc 10 0 12 (by omega)]; exact u2
  · rw [hc 10 0 11 (by omega), hc 46 0 5 (by omega)]; exact u3
  · rw [hc 10 0 11 (by omega), hc 10 0 12 (by omega)]
    exact fun j j0 j1 => (u4 j j0 j1).k h1 (fun p => hc 50 0 p (by omega))
  · rw [hc 46 0 6 (by omega), hc 10 0 9 (by omega)]; exact k1
  · rw [hc 10 0 9 (by omega)]; exact fun z => (k2 z).k h1 (fun p => hc 49 0 p (by omega))
  · rw [hc 28 0 4 (by omega)]; exact t1
  · rw [hc 46 0 9 (by omega), hc 28 0 4 (by omega)]; exact t2
  · rw [hc 28 0 4 (by omega)]
    intro j j0 j1
    rw [hc 51 0 j (by omega), hc 29 0 j (by omega)]; exact t3 j j0 j1
  · rw [hc 46 0 12 (by omega), hc 10 0 14 (by omega)]; exact f1
  · rw [hc 46 0 7 (by omega), hc 10 0 13 (by omega)]; exact f2
  · rw [hc 46 0 21 (by omega)]; exact l
  · intro o p
    rw [hc 14 o p (by omega), hc 20 o p (by omega)]; exact bw o p
theorem fs_R.q {σ τ ρ : fx_S} (h : fs_R σ) (g2 : fs_q6 σ τ) (g3 : fs_pre τ (fs_m σ 47 0)) (hf : fs_qm 0 τ ρ) : fs_R ρ := by
  refine h.k (fun K o p hK => by rw [hf K o p (by omega), g2 K o p (by omega)]) (fun hd => ?_)
  rw [hf 10 0 10 (by omega)] at hd
  exact fs_drawn_k (hf 36 0 8 (by omega)) (fun p => hf 37 0 p (by omega)) (fun p => hf 38 0 p (by omega)) (fun o p a b => hf 41 o p (by omega)) (fun o p a b => hf 43 o p (by omega)) (g3.2.2.1 hd)
def fs_xr (σ : fx_S) (x4 : Int) : Prop := 0 ≤ x4 ∧ x4 + 6 ≤ σ 9 0 (-1) ∧ σ 9 0 (-1) ≤ 3072
/-- how the law goes on -/
def fs_K (σ : fx_S) (x4 : Int) (Q : fx_V → fx_S → Prop) : Prop := ∀ (τ : fx_S) (w5 w6 : fx_V), fs_R τ → (∀ q, τ 9 0 q = σ 9 0 q) → fx_Wp 293 2734 [(9, 0), (10, 0), (46, 0), (61, 0), (0, x4), w5, w6] [] τ Q
theorem fx_cmp0 {x y : Int} (h : x = y) : fx_cmp x y = 0 := by
  unfold fx_cmp
  rw [if_neg (by omega), if_pos h]
section FXT0
variable {σ τ : fx_S} {c a x4 : Int} {Q : fx_V → fx_S → Prop} {mod : Nat} {A : List fx_V}
theorem c148 {o : Int} : fx_Rt 148 [(46, o)] σ (0, σ 46 o 0) σ := t148_0 ⟨rfl, rfl⟩
/-- the law's last look at a call's answers -/
theorem fs_tail {P : fx_S → Prop} (hm : fx_Ca mod A τ (fun v ρ => ∃ r, v = (0, r) ∧ ρ 46 0 0 = c ∧ (c = 0 → r = ρ 61 0 0) ∧ P ρ)) (hP : ∀ ρ, P ρ → fs_R ρ ∧ ∀ q, ρ 9 0 q = σ 9 0 q) (hk : fs_K σ x4 Q) :
    fx_CI mod A τ Q (fun y2 σ2 => fx_CI 148 [(46, 0)] σ2 Q (fun y3 σ3 => ((y3 = c → ((c ≠ 0 → fx_Wp 293 2734 [(9, 0), (10, 0), (46, 0), (61, 0), (0, x4), (0, c), (0, y2)] [] σ3 Q) ∧ (c = 0 → (((fx_cmp (σ3 61 0 0) y2) = 0 → fx_Wp 293 2734 [(9, 0), (10, 0), (46, 0), (61, 0), (0, x4), (0, c), (0, y2)] [] σ3 Q) ∧ ((fx_cmp (σ3 61 0 0) y2) ≠ 0 → Q (0, 0) σ3))))) ∧ (y3 ≠ c → Q (0, 0) σ3)))) := by
  refine fx_CI_of hm ?_
  rintro v ρ ⟨r, rfl, h0, ha, hp⟩
  obtain ⟨p1, p2⟩ := hP ρ hp
  exact Or.inl ⟨rfl, c148.I ⟨fun _ => ⟨fun _ => hk ρ _ _ p1 p2, fun z => ⟨fun _ => hk ρ _ _ p1 p2, fun q => absurd (fx_cmp0 (ha z).symm) q⟩⟩, fun q => absurd h0 q⟩⟩
theorem fs_tailq (hR : fs_R σ) (g1 : c = 0 → τ 61 0 0 = a) (g2 : fs_q6 σ τ) (g3 : fs_pre τ (fs_m σ 47 0)) (hk : fs_K σ x4 Q) (hm : fx_Ca mod A τ (fs_mq 0 τ c a)) :
    fx_CI mod A τ Q (fun y2 σ2 => fx_CI 148 [(46, 0)] σ2 Q (fun y3 σ3 => ((y3 = c → ((c ≠ 0 → fx_Wp 293 2734 [(9, 0), (10, 0), (46, 0), (61, 0), (0, x4), (0, c), (0, y2)] [] σ3 Q) ∧ (c = 0 → (((fx_cmp (σ3 61 0 0) y2) = 0 → fx_Wp 293 2734 [(9, 0), (10, 0), (46, 0), (61, 0), (0, x4), (0, c), (0, y2)] [] σ3 Q) ∧ ((fx_cmp (σ3 61 0 0) y2) ≠ 0 → Q (0, 0) σ3))))) ∧ (y3 ≠ c → Q (0, 0) σ3)))) :=
  fs_tail (P := fs_qm 0 τ) (fx_Wp.mono hm (fun v ρ h => by
    obtain ⟨r, h1, h2, h3, h4⟩ := h
    exact ⟨r, h1, h2, fun z => by rw [h3 z, h4 61 0 0 (by omega), g1 z], h4⟩)) (fun ρ hp => ⟨hR.q g2 g3 hp, fun q => by rw [hp 9 0 q (by omega), g2 9 0 q (by omega)]⟩) hk
theorem fs_tailb {b : Bool} (hR : fs_R σ) (g1 : c = 0 → τ 61 0 0 = fs_b b) (g2 : fs_q6 σ τ) (g3 : fs_pre τ (fs_m σ 47 0)) (hk : fs_K σ x4 Q) (hm : fx_Ca mod A τ (fs_mq 0 τ c (fs_b b))) :
    fx_CI mod A τ Q (fun y2 σ2 => fx_CI 148 [(46, 0)] σ2 Q (fun y3 σ3 => ((y3 = c → ((c ≠ 0 → fx_Wp 293 2734 [(9, 0), (10, 0), (46, 0), (61, 0), (0, x4), (0, c), (0, y2)] [] σ3 Q) ∧ (c = 0 → ((y2 = 0 → (((fx_cmp (σ3 61 0 0) 0) = 0 → fx_Wp 293 2734 [(9, 0), (10, 0), (46, 0), (61, 0), (0, x4), (0, c), (0, y2)] [] σ3 Q) ∧ ((fx_cmp (σ3 61 0 0) 0) ≠ 0 → Q (0, 0) σ3))) ∧ (y2 ≠ 0 → (((fx_cmp (σ3 61 0 0) 1) = 0 → fx_Wp 293 2734 [(9, 0), (10, 0), (46, 0), (61, 0), (0, x4), (0, c), (0, y2)] [] σ3 Q) ∧ ((fx_cmp (σ3 61 0 0) 1) ≠ 0 → Q (0, 0) σ3))))))) ∧ (y3 ≠ c → Q (0, 0) σ3)))) := by
  refine fx_CI_of hm ?_
  rintro v ρ ⟨r, rfl, h0, ha, hp⟩
  have p1 := hR.q g2 g3 hp
  have p2 : ∀ q, ρ 9 0 q = σ 9 0 q := fun q => by rw [hp 9 0 q (by omega), g2 9 0 q (by omega)]
  have p3 : c = 0 → ρ 61 0 0 = r := fun z => by rw [ha z, hp 61 0 0 (by omega), g1 z]
  have p4 : c = 0 → r = 0 ∨ r = 1 := fun z => by rw [ha z]; exact fs_b01 b
  refine Or.inl ⟨rfl, c148.I ⟨fun _ => ⟨fun _ => hk ρ _ _ p1 p2, fun z => ⟨fun y0 => ⟨fun _ => hk ρ _ _ p1 p2, fun q => absurd (fx_cmp0 ((p3 z).trans y0)) q⟩, fun y0 => ⟨fun _ => hk ρ _ _ p1 p2, fun q => absurd (fx_cmp0 ((p3 z).trans ?_)) q⟩⟩⟩, fun q => absurd h0 q⟩⟩
  have : r = 0 ∨ r = 1 := p4 z
  have y0 : r ≠ 0 := y0
  omega
theorem fs_tail0 (hR : fs_R σ) (g1 : fs_qf σ τ) (g2 : fs_pre τ (fs_m σ 47 0)) (hk : fs_K σ x4 Q) {w5 w6 : fx_V} (hm : fx_Ca mod A τ (fs_mq 0 τ 0 a)) : fx_CI mod A τ Q (fun y2 σ2 => ((a = y2 → fx_Wp 293 2734 [(9, 0), (10, 0), (46, 0), (61, 0), (0, x4), w5, w6] [] σ2 Q) ∧ (a ≠ y2 → Q (0, 0) σ2))) := by
  refine fx_CI_of hm ?_
  rintro v ρ ⟨r, rfl, h0, ha, hp⟩
  refine Or.inl ⟨rfl, fun _ => hk ρ _ _ (hR.q (fs_q6.of g1) g2 hp) (fun q => by rw [hp 9 0 q (by omega), g1 9 0 q (by omega)]), fun q => absurd (ha rfl).symm q⟩
end FXT0
def fs_wq (S σ : fx_S) (c a : Int) : fx_V → fx_S → Prop := fun v τ => v = (0, c) ∧ (c = 0 → τ 61 0 0 = a) ∧ fs_q6 σ τ ∧ fs_pre τ S
section FXW0
variable {σ S : fx_S} {e1 e2 e3 a : Int} {mj : Nat} {as : List fx_V}
theorem fs_wq0 {τ : fx_S} {c : Int} (hc : c = 0) (h1 : fs_qf σ τ) (h2 : fs_pre τ S) : fs_wq S σ c a (0, 0) (fx_up τ 61 0 0 a) := ⟨by rw [hc], fun _ => fx_upS, fun K o p hK => by rw [fx_upE, if_neg (by omega)]; exact h1 K o p (by omega), h2.k (fun K o p hK => by rw [fx_upE, if_neg (by omega)])⟩
theorem fs_wqn {τ : fx_S} {c e : Int} (hc : c = e) (he : e ≠ 0) (h1 : fs_qf σ τ) (h2 : fs_pre τ S) : fs_wq S σ c a (0, e) τ := ⟨by rw [hc], fun z => absurd (hc.symm.trans z) he, fs_q6.of h1, h2⟩
theorem fs_w1 {p : Prop} {i : Decidable p} (h : fx_Ca mj as σ (fs_cq S σ e1 e2 e3 (fs_c1 p) a)) : fx_CI mj as σ (fun v τ => (v.2 = e1 → fs_wq S σ (fs_c1 p) a (0, 1) τ) ∧ (v.2 ≠ e1 → fs_wq S σ (fs_c1 p) a v τ)) (fun y τ => fs_wq S σ (fs_c1 p) a (0, 0) (fx_up τ 61 0 0 y)) := by
  refine fx_CI_of h ?_
  rintro v τ ⟨hv, h1, h2⟩
  by_cases hp : p
  · rw [fs_c1y hp] at hv ⊢
    rw [hv]
    exact Or.inl ⟨rfl, fs_wq0 rfl h1 h2⟩
  · rw [fs_c1n hp] at hv ⊢
    rw [hv]
    exact Or.inr ⟨rfl, fun _ => fs_wqn rfl (by decide) h1 h2, fun z => absurd rfl z⟩
theorem fs_w1b {b : Bool} {p : Prop} {i : Decidable p} (h : fx_Ca mj as σ (fs_cq S σ e1 e2 e3 (fs_c1 p) (fs_b b))) : fx_CI mj as σ (fun v τ => (v.2 = e1 → fs_wq S σ (fs_c1 p) (fs_b b) (0, 1) τ) ∧ (v.2 ≠ e1 → fs_wq S σ (fs_c1 p) (fs_b b) v τ)) (fun y τ => ((y = 0 → fs_wq S σ (fs_c1 p) (fs_b b) (0, 0) (fx_up τ 61 0 0 0)) ∧ (y ≠ 0 → fs_wq S σ (fs_c1 p) (fs_b b) (0, 0) (fx_up τ 61 0 0 1)))) := by
  refine fx_CI_of h ?_
  rintro v τ ⟨hv, h1, h2⟩
  by_cases hp : p
  · rw [fs_c1y hp] at hv ⊢
    rw [hv]
    refine Or.inl ⟨rfl, fun z => ?_, fun z => ?_⟩
    · have e : fs_b b = 0 := z
      rw [e]
      exact fs_wq0 rfl h1 h2
    · have e : fs_b b = 1 := by
        rcases fs_b01 b with q | q
        · exact absurd q z
        · exact q
      rw [e]
      exact fs_wq0 rfl h1 h2
  · rw [fs_c1n hp] at hv ⊢
    rw [hv]
    exact Or.inr ⟨rfl, fun _ => fs_wqn rfl (by decide) h1 h2, fun z => absurd rfl z⟩
theorem fs_w2 {p q : Prop} {i : Decidable p} {j : Decidable q} (h : fx_Ca mj as σ (fs_cq S σ e1 e2 e3 (fs_c2 p q) a)) (he : e1 ≠ e2 := by decide) : fx_CI mj as σ (fun v τ => (v.2 = e1 → fs_wq S σ (fs_c2 p q) a (0, 1) τ) ∧ (v.2 = e2 → fs_wq S σ (fs_c2 p q) a (0, 2) τ) ∧ (v.2 ≠ e1 → v.2 ≠ e2 → fs_wq S σ (fs_c2 p q) a v τ)) (fun y τ => fs_wq S σ (fs_c2 p q) a (0, 0) (fx_up τ 61 0 0 y)) := by
  refine fx_CI_of h ?_
  rintro v τ ⟨hv, h1, h2⟩
  by_cases hp : p
  · by_cases hq : q
    · rw [fs_c2y hp hq] at hv ⊢
      rw [hv]
      exact Or.inl ⟨rfl, fs_wq0 rfl h1 h2⟩
    · rw [fs_c2m hp hq] at hv ⊢
      rw [hv]
      exact Or.inr ⟨rfl, fun z => absurd z.symm he, fun _ => fs_wqn rfl (by decide) h1 h2, fun _ z => absurd rfl z⟩
  · rw [fs_c2n hp] at hv ⊢
    rw [hv]
    exact Or.inr ⟨rfl, fun _ => fs_wqn rfl (by decide) h1 h2, fun z => absurd z he, fun z => absurd rfl z⟩
theorem w270 (hp : fs_pre σ S) {a b : Int} : fx_Ca 270 [(10, 0), (0, a), (0, b), (61, 0)] σ (fs_wq S σ (fs_c1 (fs_pl a b)) (fs_is S fs_W1 a b)) := t270_0 (fs_w1 (q109 hp))
theorem w271 (hp : fs_pre σ S) {a b d : Int} : fx_Ca 271 [(10, 0), (0, a), (0, b), (0, d), (61, 0)] σ (fs_wq S σ (fs_c2 (fs_pl a b) (fs_in 3 d)) (fs_aby S a b d)) := t271_0 (fs_w2 (q110 hp))
theorem w272 (hp : fs_pre σ S) {a b d : Int} : fx_Ca 272 [(10, 0), (0, a), (0, b), (0, d), (61, 0)] σ (fs_wq S σ (fs_c1 (fs_pl a b)) (if d = -1 then fs_many S a b else fs_kth S a b d)) := t272_0 (fs_w1 (q111 hp))
theorem w273 (hp : fs_pre σ S) {a b d : Int} : fx_Ca 273 [(10, 0), (0, a), (0, b), (0, d), (61, 0)] σ (fs_wq S σ (fs_c2 (fs_in 8 a) (fs_in 3 d)) (fs_arow (fs_is S fs_W1 a) b d 0)) := t273_0 (fs_w2 (q114 hp))
theorem w274 (hp : fs_pre σ S) {a b d : Int} : fx_Ca 274 [(10, 0), (0, a), (0, b), (0, d), (61, 0)] σ (fs_wq S σ (fs_c2 (fs_in 8 a) (fs_in 2 d)) (fs_arow (fs_is S fs_W1 a) b d 1)) := t274_0 (fs_w2 (q115 hp))
theorem w275 (hp : fs_pre σ S) {a b d : Int} : fx_Ca 275 [(10, 0), (0, a), (0, b), (0, d), (61, 0)] σ (fs_wq S σ (fs_c1 (fs_pl a b)) (fs_alack S a b d)) := t275_0 (fs_w1 (q113 hp))
theorem w276 (hp : fs_pre σ S) {a b d : Int} : fx_Ca 276 [(10, 0), (0, a), (0, b), (0, d), (61, 0)] σ (fs_wq S σ (fs_c1 (fs_pl a b)) (fs_achg (fs_is S fs_W1 a) b d)) := t276_0 (fs_w1 (q117 hp))
theorem w277 (hp : fs_pre σ S) {a b : Int} : fx_Ca 277 [(10, 0), (0, a), (0, b), (61, 0)] σ (fs_wq S σ (fs_c1 (fs_pl a b)) (fs_end (fs_is S fs_W1 a) b - fs_bgn (fs_is S fs_W1 a) b)) := t277_0 (fs_w1 (q118 hp))
theorem w278 (hp : fs_pre σ S) {a b d : Int} : fx_Ca 278 [(10, 0), (0, a), (0, b), (0, d), (61, 0)] σ (fs_wq S σ (fs_c2 (fs_pl a b) (fs_in 100 d)) (fs_fst (fun y => decide (fs_is S fs_W1 a y = d)) b)) := t278_0 (fs_w2 (q119 hp))
theorem w279 (hp : fs_pre σ S) {a b : Int} : fx_Ca 279 [(10, 0), (0, a), (0, b), (61, 0)] σ (fs_wq S σ (fs_c2 (fs_in (S 0 1 0) a) (fs_in 8 b)) (fs_atold S a b)) := t279_0 (fs_w2 (q126 hp))
theorem w280 (hp : fs_pre σ S) {a b : Int} : fx_Ca 280 [(10, 0), (0, a), (0, b), (61, 0)] σ (fs_wq S σ (fs_c2 (fs_in (S 0 1 0) a ∧ fs_in (S 0 1 0) b) (a ≠ b)) (fs_rel (S 5 a 0) (S 6 a 0) (S 5 b 0) (S 6 b 0))) := t280_0 (fs_w2 (q127 hp))
theorem w281 (hp : fs_pre σ S) {a b : Int} : fx_Ca 281 [(10, 0), (0, a), (0, b), (61, 0)] σ (fs_wq S σ (fs_c2 (fs_in (S 0 0 0) a) (fs_in 4 b)) (fs_aheard S a b)) := t281_0 (fs_w2 (q131 hp))
theorem w282 (hp : fs_pre σ S) {a b : Int} : fx_Ca 282 [(10, 0), (0, a), (0, b), (61, 0)] σ (fs_wq S σ (fs_c2 (fs_in (S 0 0 0) a ∧ fs_in (S 0 0 0) b) (a ≠ b)) (fs_acc S a b)) := t282_0 (fs_w2 (q132 hp))
theorem w283 (hp : fs_pre σ S) {a b : Int} : fx_Ca 283 [(10, 0), (0, a), (0, b), (61, 0)] σ (fs_wq S σ (fs_c1 (fs_in 8 a ∧ fs_in 8 b)) (fs_both (fs_is S fs_W1 a) (fs_is S fs_W1 b))) := t283_0 (fs_w1 (q123 hp))
theorem w284 (hp : fs_pre σ S) {a b : Int} : fx_Ca 284 [(10, 0), (0, a), (0, b), (61, 0)] σ (fs_wq S σ (fs_c2 (fs_in 8 a) (fs_in 7 b)) (fs_athing S a b)) := t284_0 (fs_w2 (q125 hp))
theorem w285 (hp : fs_pre σ S) {a b : Int} : fx_Ca 285 [(10, 0), (0, a), (0, b), (61, 0)] σ (fs_wq S σ (fs_c2 (fs_in 8 a) (fs_in 100 b)) (fs_oft (fs_is S fs_W1 a) b)) := t285_0 (fs_w2 (q124 hp))
theorem w286 (hp : fs_pre σ S) {a b : Int} : fx_Ca 286 [(10, 0), (0, a), (0, b), (61, 0)] σ (fs_wq S σ (fs_c1 (fs_pl a b)) (fs_near (fs_is S fs_W1 a) b)) := t286_0 (fs_w1 (q120 hp))
theorem w287 (hp : fs_pre σ S) {a b : Int} : fx_Ca 287 [(10, 0), (0, a), (0, b), (61, 0)] σ (fs_wq S σ (fs_c1 (fs_in (S 0 1 0) a ∧ fs_in (S 0 1 0) b)) (fs_shr S a b)) := t287_0 (fs_w1 (q128 hp))
theorem w288 (hp : fs_pre σ S) {a b : Int} : fx_Ca 288 [(10, 0), (0, a), (0, b), (61, 0)] σ (fs_wq S σ (fs_c1 (fs_pl a b)) (fs_arest (fs_is S fs_W1 a) b)) := t288_0 (fs_w1 (q121 hp))
theorem w289 (hp : fs_pre σ S) {a b : Int} : fx_Ca 289 [(10, 0), (0, a), (0, b), (61, 0)] σ (fs_wq S σ (fs_c1 (fs_in (S 0 1 0) a ∧ fs_in (S 0 1 0) b)) (fs_b (fs_better S a b))) := t289_0 (fs_w1b (q129 hp))
theorem w290 (hp : fs_pre σ S) {a b : Int} : fx_Ca 290 [(10, 0), (0, a), (0, b), (61, 0)] σ (fs_wq S σ (fs_c1 (fs_in 8 a)) ((fs_lg (fs_is S fs_W1 a) b 1000).1)) := t290_0 (fs_w1 (q116 hp))
theorem w291 (hp : fs_pre σ S) {a b d : Int} : fx_Ca 291 [(10, 0), (0, a), (0, b), (0, d), (61, 0)] σ (fs_wq S σ (fs_c2 (fs_in 8 a ∧ fs_in 8 b) (fs_in 13 d)) (fs_sum (fs_prs (fs_is S fs_W1 a) (fs_is S fs_W1 b) d) 1000)) := t291_0 (fs_w2 (q122 hp))
theorem w292 (hp : fs_pre σ S) {a b d : Int} : fx_Ca 292 [(10, 0), (0, a), (0, b), (0, d), (61, 0)] σ (fs_wq S σ (fs_c2 (fs_pl a b) (fs_in (S 0 1 0 + 1) d)) (fs_is S (fun f => decide (f < d)) a b)) := t292_0 (fs_w2 (q112 hp))
end FXW0
section FXO0
variable {σ : fx_S} {x4 : Int} {w5 w6 : fx_V} {Q : fx_V → fx_S → Prop}
theorem o924 (hR : fs_R σ) (hx : fs_xr σ x4) (hk : fs_K σ x4 Q) : fx_Wp 293 924 [(9, 0), (10, 0), (46, 0), (61, 0), (0, x4), w5, w6] [] σ Q := by
  obtain ⟨x0, x1, x2⟩ := hx
  refine t293_924 ⟨⟨by omega, by omega⟩, ⟨by omega, by omega⟩, ⟨by omega, by omega⟩, ⟨by omega, by omega⟩, fx_CI_of (w270 hR.pre) ?_⟩
  rintro v τ ⟨rfl, g1, g2, g3⟩
  have h9 : ∀ q, τ 9 0 q = σ 9 0 q := fun q => g2 9 0 q (by omega)
  refine Or.inl ⟨rfl, ?_⟩
  simp only [h9]
  exact ⟨⟨by omega, by omega⟩, ⟨by omega, by omega⟩, fs_tailq hR g1 g2 g3 hk (m215 (hR.mp g2))⟩
theorem o992 (hR : fs_R σ) (hx : fs_xr σ x4) (hk : fs_K σ x4 Q) : fx_Wp 293 992 [(9, 0), (10, 0), (46, 0), (61, 0), (0, x4), w5, w6] [] σ Q := by
  obtain ⟨x0, x1, x2⟩ := hx
  refine t293_992 ⟨⟨by omega, by omega⟩, ⟨by omega, by omega⟩, ⟨by omega, by omega⟩, ⟨by omega, by omega⟩, ⟨by omega, by omega⟩, ⟨by omega, by omega⟩, fx_CI_of (w271 hR.pre) ?_⟩
  rintro v τ ⟨rfl, g1, g2, g3⟩
  have h9 : ∀ q, τ 9 0 q = σ 9 0 q := fun q => g2 9 0 q (by omega)
  refine Or.inl ⟨rfl, ?_⟩
  simp only [h9]
  exact ⟨⟨by omega, by omega⟩, ⟨by omega, by omega⟩, ⟨by omega, by omega⟩, fs_tailq hR g1 g2 g3 hk (m216 (hR.mp g2))⟩
theorem o1072 (hR : fs_R σ) (hx : fs_xr σ x4) (hk : fs_K σ x4 Q) : fx_Wp 293 1072 [(9, 0), (10, 0), (46, 0), (61, 0), (0, x4), w5, w6] [] σ Q := by
  obtain ⟨x0, x1, x2⟩ := hx
  refine t293_1072 ⟨⟨by omega, by omega⟩, ⟨by omega, by omega⟩, ⟨by omega, by omega⟩, ⟨by omega, by omega⟩, ⟨by omega, by omega⟩, ⟨by omega, by omega⟩, fx_CI_of (w272 hR.pre) ?_⟩
  rintro v τ ⟨rfl, g1, g2, g3⟩
  have h9 : ∀ q, τ 9 0 q = σ 9 0 q := fun q => g2 9 0 q (by omega)
  refine Or.inl ⟨rfl, ?_⟩
  simp only [h9]
  exact ⟨⟨by omega, by omega⟩, ⟨by omega, by omega⟩, ⟨by omega, by omega⟩, fs_tailq hR g1 g2 g3 hk (m217 (hR.mp g2))⟩
theorem o1152 (hR : fs_R σ) (hx : fs_xr σ x4) (hk : fs_K σ x4 Q) : fx_Wp 293 1152 [(9, 0), (10, 0), (46, 0), (61, 0), (0, x4), w5, w6] [] σ Q := by
  obtain ⟨x0, x1, x2⟩ := hx
  refine t293_1152 ⟨⟨by omega, by omega⟩, ⟨by omega, by omega⟩, ⟨by omega, by omega⟩, ⟨by omega, by omega⟩, ⟨by omega, by omega⟩, ⟨by omega, by omega⟩, fx_CI_of (w273 hR.pre) ?_⟩
  rintro v τ ⟨rfl, g1, g2, g3⟩
  have h9 : ∀ q, τ 9 0 q = σ 9 0 q := fun q => g2 9 0 q (by omega)
  refine Or.inl ⟨rfl, ?_⟩
  simp only [h9]
  exact ⟨⟨by omega, by omega⟩, ⟨by omega, by omega⟩, ⟨by omega, by omega⟩, fs_tailq hR g1 g2 g3 hk (m220 (hR.mp g2))⟩
theorem o1232 (hR : fs_R σ) (hx : fs_xr σ x4) (hk : fs_K σ x4 Q) : fx_Wp 293 1232 [(9, 0), (10, 0), (46, 0), (61, 0), (0, x4), w5, w6] [] σ Q := by
  obtain ⟨x0, x1, x2⟩ := hx
  refine t293_1232 ⟨⟨by omega, by omega⟩, ⟨by omega, by omega⟩, ⟨by omega, by omega⟩, ⟨by omega, by omega⟩, ⟨by omega, by omega⟩, ⟨by omega, by omega⟩, fx_CI_of (w274 hR.pre) ?_⟩
  rintro v τ ⟨rfl, g1, g2, g3⟩
  have h9 : ∀ q, τ 9 0 q = σ 9 0 q := fun q => g2 9 0 q (by omega)
  refine Or.inl ⟨rfl, ?_⟩
  simp only [h9]
  exact ⟨⟨by omega, by omega⟩, ⟨by omega, by omega⟩, ⟨by omega, by omega⟩, fs_tailq hR g1 g2 g3 hk (m221 (hR.mp g2))⟩
theorem o1312 (hR : fs_R σ) (hx : fs_xr σ x4) (hk : fs_K σ x4 Q) : fx_Wp 293 1312 [(9, 0), (10, 0), (46, 0), (61, 0), (0, x4), w5, w6] [] σ Q := by
  obtain ⟨x0, x1, x2⟩ := hx
  refine t293_1312 ⟨⟨by omega, by omega⟩, ⟨by omega, by omega⟩, ⟨by omega, by omega⟩, ⟨by omega, by omega⟩, ⟨by omega, by omega⟩, ⟨by omega, by omega⟩, fx_CI_of (w275 hR.pre) ?_⟩
  rintro v τ ⟨rfl, g1, g2, g3⟩
  have h9 : ∀ q, τ 9 0 q = σ 9 0 q := fun q => g2 9 0 q (by omega)
  refine Or.inl ⟨rfl, ?_⟩
  simp only [h9]
  exact ⟨⟨by omega, by omega⟩, ⟨by omega, by omega⟩, ⟨by omega, by omega⟩, fs_tailq hR g1 g2 g3 hk (m224 (hR.mp g2))⟩
theorem o1392 (hR : fs_R σ) (hx : fs_xr σ x4) (hk : fs_K σ x4 Q) : fx_Wp 293 1392 [(9, 0), (10, 0), (46, 0), (61, 0), (0, x4), w5, w6] [] σ Q := by
  obtain ⟨x0, x1, x2⟩ := hx
  refine t293_1392 ⟨⟨by omega, by omega⟩, ⟨by omega, by omega⟩, ⟨by omega, by omega⟩, ⟨by omega, by omega⟩, ⟨by omega, by omega⟩, ⟨by omega, by omega⟩, fun hz => fx_CI_of (w276 hR.pre) ?_, fun hz => fx_CI_of (w276 hR.pre) ?_⟩
  · rintro v τ ⟨rfl, g1, g2, g3⟩
    have h9 : ∀ q, τ 9 0 q = σ 9 0 q := fun q => g2 9 0 q (by omega)
    refine Or.inl ⟨rfl, ?_⟩
    simp only [h9]
    exact ⟨⟨by omega, by omega⟩, ⟨by omega, by omega⟩, ⟨by omega, by omega⟩, fun _ => fs_tailq hR g1 g2 g3 hk (m226 (hR.mp g2)), fun z => absurd hz z⟩
  · rintro v τ ⟨rfl, g1, g2, g3⟩
    have h9 : ∀ q, τ 9 0 q = σ 9 0 q := fun q => g2 9 0 q (by omega)
    refine Or.inl ⟨rfl, ?_⟩
    simp only [h9]
    exact ⟨⟨by omega, by omega⟩, ⟨by omega, by omega⟩, ⟨by omega, by omega⟩, fun z => absurd z hz, fun _ => fs_tailq hR g1 g2 g3 hk (m226 (hR.mp g2))⟩
theorem o1488 (hR : fs_R σ) (hx : fs_xr σ x4) (hk : fs_K σ x4 Q) : fx_Wp 293 1488 [(9, 0), (10, 0), (46, 0), (61, 0), (0, x4), w5, w6] [] σ Q := by
  obtain ⟨x0, x1, x2⟩ := hx
  refine t293_1488 ⟨⟨by omega, by omega⟩, ⟨by omega, by omega⟩, ⟨by omega, by omega⟩, ⟨by omega, by omega⟩, fx_CI_of (w277 hR.pre) ?_⟩
  rintro v τ ⟨rfl, g1, g2, g3⟩
  have h9 : ∀ q, τ 9 0 q = σ 9 0 q := fun q => g2 9 0 q (by omega)
  refine Or.inl ⟨rfl, ?_⟩
  simp only [h9]
  exact ⟨⟨by omega, by omega⟩, ⟨by omega, by omega⟩, fs_tailq hR g1 g2 g3 hk (m227 (hR.mp g2))⟩
theorem o1556 (hR : fs_R σ) (hx : fs_xr σ x4) (hk : fs_K σ x4 Q) : fx_Wp 293 1556 [(9, 0), (10, 0), (46, 0), (61, 0), (0, x4), w5, w6] [] σ Q := by
  obtain ⟨x0, x1, x2⟩ := hx
  refine t293_1556 ⟨⟨by omega, by omega⟩, ⟨by omega, by omega⟩, ⟨by omega, by omega⟩, ⟨by omega, by omega⟩, ⟨by omega, by omega⟩, ⟨by omega, by omega⟩, fx_CI_of (w278 hR.pre) ?_⟩
  rintro v τ ⟨rfl, g1, g2, g3⟩
  have h9 : ∀ q, τ 9 0 q = σ 9 0 q := fun q => g2 9 0 q (by omega)
  refine Or.inl ⟨rfl, ?_⟩
  simp only [h9]
  exact ⟨⟨by omega, by omega⟩, ⟨by omega, by omega⟩, ⟨by omega, by omega⟩, fs_tailq hR g1 g2 g3 hk (m228 (hR.mp g2))⟩
theorem o1636 (hR : fs_R σ) (hx : fs_xr σ x4) (hk : fs_K σ x4 Q) : fx_Wp 293 1636 [(9, 0), (10, 0), (46, 0), (61, 0), (0, x4), w5, w6] [] σ Q := by
  obtain ⟨x0, x1, x2⟩ := hx
  refine t293_1636 ⟨⟨by omega, by omega⟩, ⟨by omega, by omega⟩, ⟨by omega, by omega⟩, ⟨by omega, by omega⟩, fx_CI_of (w279 hR.pre) ?_⟩
  rintro v τ ⟨rfl, g1, g2, g3⟩
  have h9 : ∀ q, τ 9 0 q = σ 9 0 q := fun q => g2 9 0 q (by omega)
  refine Or.inl ⟨rfl, ?_⟩
  simp only [h9]
  exact ⟨⟨by omega, by omega⟩, ⟨by omega, by omega⟩, fs_tailq hR g1 g2 g3 hk (m230 (hR.mp g2))⟩
theorem o1704 (hR : fs_R σ) (hx : fs_xr σ x4) (hk : fs_K σ x4 Q) : fx_Wp 293 1704 [(9, 0), (10, 0), (46, 0), (61, 0), (0, x4), w5, w6] [] σ Q := by
  obtain ⟨x0, x1, x2⟩ := hx
  refine t293_1704 ⟨⟨by omega, by omega⟩, ⟨by omega, by omega⟩, ⟨by omega, by omega⟩, ⟨by omega, by omega⟩, fx_CI_of (w280 hR.pre) ?_⟩
  rintro v τ ⟨rfl, g1, g2, g3⟩
  have h9 : ∀ q, τ 9 0 q = σ 9 0 q := fun q => g2 9 0 q (by omega)
  refine Or.inl ⟨rfl, ?_⟩
  simp only [h9]
  exact ⟨⟨by omega, by omega⟩, ⟨by omega, by omega⟩, fs_tailq hR g1 g2 g3 hk (m232 (hR.mp g2))⟩
theorem o1772 (hR : fs_R σ) (hx : fs_xr σ x4) (hk : fs_K σ x4 Q) : fx_Wp 293 1772 [(9, 0), (10, 0), (46, 0), (61, 0), (0, x4), w5, w6] [] σ Q := by
  obtain ⟨x0, x1, x2⟩ := hx
  refine t293_1772 ⟨⟨by omega, by omega⟩, ⟨by omega, by omega⟩, ⟨by omega, by omega⟩, ⟨by omega, by omega⟩, fx_CI_of (w281 hR.pre) ?_⟩
  rintro v τ ⟨rfl, g1, g2, g3⟩
  have h9 : ∀ q, τ 9 0 q = σ 9 0 q := fun q => g2 9 0 q (by omega)
  refine Or.inl ⟨rfl, ?_⟩
  simp only [h9]
  exact ⟨⟨by omega, by omega⟩, ⟨by omega, by omega⟩, fs_tailq hR g1 g2 g3 hk (m234 (hR.mp g2))⟩
theorem o1840 (hR : fs_R σ) (hx : fs_xr σ x4) (hk : fs_K σ x4 Q) : fx_Wp 293 1840 [(9, 0), (10, 0), (46, 0), (61, 0), (0, x4), w5, w6] [] σ Q := by
  obtain ⟨x0, x1, x2⟩ := hx
  refine t293_1840 ⟨⟨by omega, by omega⟩, ⟨by omega, by omega⟩, ⟨by omega, by omega⟩, ⟨by omega, by omega⟩, fx_CI_of (w282 hR.pre) ?_⟩
  rintro v τ ⟨rfl, g1, g2, g3⟩
  have h9 : ∀ q, τ 9 0 q = σ 9 0 q := fun q => g2 9 0 q (by omega)
  refine Or.inl ⟨rfl, ?_⟩
  simp only [h9]
  exact ⟨⟨by omega, by omega⟩, ⟨by omega, by omega⟩, fs_tailq hR g1 g2 g3 hk (m235 (hR.mp g2))⟩
theorem o1908 (hR : fs_R σ) (hx : fs_xr σ x4) (hk : fs_K σ x4 Q) : fx_Wp 293 1908 [(9, 0), (10, 0), (46, 0), (61, 0), (0, x4), w5, w6] [] σ Q := by
  obtain ⟨x0, x1, x2⟩ := hx
  refine t293_1908 ⟨⟨by omega, by omega⟩, ⟨by omega, by omega⟩, ⟨by omega, by omega⟩, ⟨by omega, by omega⟩, fx_CI_of (w283 hR.pre) ?_⟩
  rintro v τ ⟨rfl, g1, g2, g3⟩
  have h9 : ∀ q, τ 9 0 q = σ 9 0 q := fun q => g2 9 0 q (by omega)
  refine Or.inl ⟨rfl, ?_⟩
  simp only [h9]
  exact ⟨⟨by omega, by omega⟩, ⟨by omega, by omega⟩, fs_tailq hR g1 g2 g3 hk (m236 (hR.mp g2))⟩
theorem o1976 (hR : fs_R σ) (hx : fs_xr σ x4) (hk : fs_K σ x4 Q) : fx_Wp 293 1976 [(9, 0), (10, 0), (46, 0), (61, 0), (0, x4), w5, w6] [] σ Q := by
  obtain ⟨x0, x1, x2⟩ := hx
  refine t293_1976 ⟨⟨by omega, by omega⟩, ⟨by omega, by omega⟩, ⟨by omega, by omega⟩, ⟨by omega, by omega⟩, fx_CI_of (w284 hR.pre) ?_⟩
  rintro v τ ⟨rfl, g1, g2, g3⟩
  have h9 : ∀ q, τ 9 0 q = σ 9 0 q := fun q => g2 9 0 q (by omega)
  refine Or.inl ⟨rfl, ?_⟩
  simp only [h9]
  exact ⟨⟨by omega, by omega⟩, ⟨by omega, by omega⟩, fs_tailq hR g1 g2 g3 hk (m242 (hR.mp g2))⟩
theorem o2044 (hR : fs_R σ) (hx : fs_xr σ x4) (hk : fs_K σ x4 Q) : fx_Wp 293 2044 [(9, 0), (10, 0), (46, 0), (61, 0), (0, x4), w5, w6] [] σ Q := by
  obtain ⟨x0, x1, x2⟩ := hx
  refine t293_2044 ⟨⟨by omega, by omega⟩, ⟨by omega, by omega⟩, ⟨by omega, by omega⟩, ⟨by omega, by omega⟩, fx_CI_of (w285 hR.pre) ?_⟩
  rintro v τ ⟨rfl, g1, g2, g3⟩
  have h9 : ∀ q, τ 9 0 q = σ 9 0 q := fun q => g2 9 0 q (by omega)
  refine Or.inl ⟨rfl, ?_⟩
  simp only [h9]
  exact ⟨⟨by omega, by omega⟩, ⟨by omega, by omega⟩, fs_tailq hR g1 g2 g3 hk (m243 (hR.mp g2))⟩
theorem o2112 (hR : fs_R σ) (hx : fs_xr σ x4) (hk : fs_K σ x4 Q) : fx_Wp 293 2112 [(9, 0), (10, 0), (46, 0), (61, 0), (0, x4), w5, w6] [] σ Q := by
  obtain ⟨x0, x1, x2⟩ := hx
  refine t293_2112 ⟨⟨by omega, by omega⟩, ⟨by omega, by omega⟩, ⟨by omega, by omega⟩, ⟨by omega, by omega⟩, fx_CI_of (w286 hR.pre) ?_⟩
  rintro v τ ⟨rfl, g1, g2, g3⟩
  have h9 : ∀ q, τ 9 0 q = σ 9 0 q := fun q => g2 9 0 q (by omega)
  refine Or.inl ⟨rfl, ?_⟩
  simp only [h9]
  exact ⟨⟨by omega, by omega⟩, ⟨by omega, by omega⟩, fs_tailq hR g1 g2 g3 hk (m244 (hR.mp g2))⟩
theorem o2180 (hR : fs_R σ) (hx : fs_xr σ x4) (hk : fs_K σ x4 Q) : fx_Wp 293 2180 [(9, 0), (10, 0), (46, 0), (61, 0), (0, x4), w5, w6] [] σ Q := by
  obtain ⟨x0, x1, x2⟩ := hx
  refine t293_2180 ⟨⟨by omega, by omega⟩, ⟨by omega, by omega⟩, ⟨by omega, by omega⟩, ⟨by omega, by omega⟩, fx_CI_of (w287 hR.pre) ?_⟩
  rintro v τ ⟨rfl, g1, g2, g3⟩
  have h9 : ∀ q, τ 9 0 q = σ 9 0 q := fun q => g2 9 0 q (by omega)
  refine Or.inl ⟨rfl, ?_⟩
  simp only [h9]
  exact ⟨⟨by omega, by omega⟩, ⟨by omega, by omega⟩, fs_tailq hR g1 g2 g3 hk (m245 (hR.mp g2))⟩
theorem o2248 (hR : fs_R σ) (hx : fs_xr σ x4) (hk : fs_K σ x4 Q) : fx_Wp 293 2248 [(9, 0), (10, 0), (46, 0), (61, 0), (0, x4), w5, w6] [] σ Q := by
  obtain ⟨x0, x1, x2⟩ := hx
  refine t293_2248 ⟨⟨by omega, by omega⟩, ⟨by omega, by omega⟩, ⟨by omega, by omega⟩, ⟨by omega, by omega⟩, fx_CI_of (w288 hR.pre) ?_⟩
  rintro v τ ⟨rfl, g1, g2, g3⟩
  have h9 : ∀ q, τ 9 0 q = σ 9 0 q := fun q => g2 9 0 q (by omega)
  refine Or.inl ⟨rfl, ?_⟩
  simp only [h9]
  exact ⟨⟨by omega, by omega⟩, ⟨by omega, by omega⟩, fs_tailq hR g1 g2 g3 hk (m246 (hR.mp g2))⟩
theorem o2316 (hR : fs_R σ) (hx : fs_xr σ x4) (hk : fs_K σ x4 Q) : fx_Wp 293 2316 [(9, 0), (10, 0), (46, 0), (61, 0), (0, x4), w5, w6] [] σ Q := by
  obtain ⟨x0, x1, x2⟩ := hx
  refine t293_2316 ⟨⟨by omega, by omega⟩, ⟨by omega, by omega⟩, ⟨by omega, by omega⟩, ⟨by omega, by omega⟩, fx_CI_of (w289 hR.pre) ?_⟩
  rintro v τ ⟨rfl, g1, g2, g3⟩
  have h9 : ∀ q, τ 9 0 q = σ 9 0 q := fun q => g2 9 0 q (by omega)
  refine Or.inl ⟨rfl, ?_⟩
  simp only [h9]
  exact ⟨⟨by omega, by omega⟩, ⟨by omega, by omega⟩, fs_tailb hR g1 g2 g3 hk (m247 (hR.mp g2))⟩
theorem o2391 (hR : fs_R σ) (hx : fs_xr σ x4) (hk : fs_K σ x4 Q) : fx_Wp 293 2391 [(9, 0), (10, 0), (46, 0), (61, 0), (0, x4), w5, w6] [] σ Q := by
  obtain ⟨x0, x1, x2⟩ := hx
  refine t293_2391 ⟨⟨by omega, by omega⟩, ⟨by omega, by omega⟩, ⟨by omega, by omega⟩, ⟨by omega, by omega⟩, fun hz => fx_CI_of (w290 hR.pre) ?_, fun hz => fx_CI_of (w290 hR.pre) ?_⟩
  · rintro v τ ⟨rfl, g1, g2, g3⟩
    have h9 : ∀ q, τ 9 0 q = σ 9 0 q := fun q => g2 9 0 q (by omega)
    refine Or.inl ⟨rfl, ?_⟩
    simp only [h9]
    exact ⟨⟨by omega, by omega⟩, ⟨by omega, by omega⟩, fun _ => fs_tailq hR g1 g2 g3 hk (m248 (hR.mp g2)), fun z => absurd hz z⟩
  · rintro v τ ⟨rfl, g1, g2, g3⟩
    have h9 : ∀ q, τ 9 0 q = σ 9 0 q := fun q => g2 9 0 q (by omega)
    refine Or.inl ⟨rfl, ?_⟩
    simp only [h9]
    exact ⟨⟨by omega, by omega⟩, ⟨by omega, by omega⟩, fun z => absurd z hz, fun _ => fs_tailq hR g1 g2 g3 hk (m248 (hR.mp g2))⟩
theorem o2475 (hR : fs_R σ) (hx : fs_xr σ x4) (hk : fs_K σ x4 Q) : fx_Wp 293 2475 [(9, 0), (10, 0), (46, 0), (61, 0), (0, x4), w5, w6] [] σ Q := by
  obtain ⟨x0, x1, x2⟩ := hx
  refine t293_2475 ⟨⟨by omega, by omega⟩, ⟨by omega, by omega⟩, ⟨by omega, by omega⟩, ⟨by omega, by omega⟩, ⟨by omega, by omega⟩, ⟨by omega, by omega⟩, fx_CI_of (w291 hR.pre) ?_⟩
  rintro v τ ⟨rfl, g1, g2, g3⟩
  have h9 : ∀ q, τ 9 0 q = σ 9 0 q := fun q => g2 9 0 q (by omega)
  refine Or.inl ⟨rfl, ?_⟩
  simp only [h9]
  exact ⟨⟨by omega, by omega⟩, ⟨by omega, by omega⟩, ⟨by omega, by omega⟩, fs_tailq hR g1 g2 g3 hk (m249 (hR.mp g2))⟩
theorem o2555 (hR : fs_R σ) (hx : fs_xr σ x4) (hk : fs_K σ x4 Q) : fx_Wp 293 2555 [(9, 0), (10, 0), (46, 0), (61, 0), (0, x4), w5, w6] [] σ Q := by
  obtain ⟨x0, x1, x2⟩ := hx
  refine t293_2555 ⟨⟨by omega, by omega⟩, ⟨by omega, by omega⟩, ⟨by omega, by omega⟩, ⟨by omega, by omega⟩, ⟨by omega, by omega⟩, ⟨by omega, by omega⟩, fx_CI_of (w292 hR.pre) ?_⟩
  rintro v τ ⟨rfl, g1, g2, g3⟩
  have h9 : ∀ q, τ 9 0 q = σ 9 0 q := fun q => g2 9 0 q (by omega)
  refine Or.inl ⟨rfl, ?_⟩
  simp only [h9]
  exact ⟨⟨by omega, by omega⟩, ⟨by omega, by omega⟩, ⟨by omega, by omega⟩, fs_tailq hR g1 g2 g3 hk (m250 (hR.mp g2))⟩
theorem o2635 (hR : fs_R σ) (hx : fs_xr σ x4) (hk : fs_K σ x4 Q) : fx_Wp 293 2635 [(9, 0), (10, 0), (46, 0), (61, 0), (0, x4), w5, w6] [] σ Q := by
  obtain ⟨x0, x1, x2⟩ := hx
  refine t293_2635 ⟨⟨by omega, by omega⟩, ⟨by omega, by omega⟩, fx_CI_of (q133 hR.pre) ?_⟩
  rintro v τ ⟨rfl, g1, g2⟩
  have h9 : ∀ q, τ 9 0 q = σ 9 0 q := fun q => g1 9 0 q (by omega)
  refine Or.inl ⟨rfl, ?_⟩
  simp only [h9]
  exact ⟨⟨by omega, by omega⟩, fs_tail0 hR g1 g2 hk (m251 (hR.mp (fs_q6.of g1)))⟩
theorem o2660 (hR : fs_R σ) (hx : fs_xr σ x4) (hk : fs_K σ x4 Q) : fx_Wp 293 2660 [(9, 0), (10, 0), (46, 0), (61, 0), (0, x4), w5, w6] [] σ Q := by
  obtain ⟨x0, x1, x2⟩ := hx
  refine t293_2660 ⟨⟨by omega, by omega⟩, ⟨by omega, by omega⟩, fx_CI_of (q130 hR.pre) ?_⟩
  rintro v τ ⟨rfl, g1, g2⟩
  have h9 : ∀ q, τ 9 0 q = σ 9 0 q := fun q => g1 9 0 q (by omega)
  refine Or.inl ⟨rfl, ?_⟩
  simp only [h9]
  exact ⟨⟨by omega, by omega⟩, fs_tail0 hR g1 g2 hk (m253 (hR.mp (fs_q6.of g1)))⟩
theorem o2709 (hR : fs_R σ) (hx : fs_xr σ x4) (hk : fs_K σ x4 Q) : fx_Wp 293 2709 [(9, 0), (10, 0), (46, 0), (61, 0), (0, x4), w5, w6] [] σ Q := by
  obtain ⟨x0, x1, x2⟩ := hx
  refine t293_2709 ⟨⟨by omega, by omega⟩, ⟨by omega, by omega⟩, fx_CI_of (q136 hR.pre) ?_⟩
  rintro v τ ⟨rfl, g1, g2⟩
  have h9 : ∀ q, τ 9 0 q = σ 9 0 q := fun q => g1 9 0 q (by omega)
  refine Or.inl ⟨rfl, ?_⟩
  simp only [h9]
  have hu : τ 46 0 5 = σ 10 0 11 := by rw [g1 46 0 5 (by omega)]; exact hR.und.2.2.1
  have hm := m260 (hR.mp (fs_q6.of g1)) (w := σ 9 0 (x4 + 1))
  rw [hu] at hm
  exact ⟨⟨by omega, by omega⟩, fs_tail0 hR g1 g2 hk hm⟩
end FXO0
