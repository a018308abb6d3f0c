section FXA
variable {σ : fx_S} {l : Int}
theorem c67w {S : fx_S} (ho : fs_ok S) {t : Int} (t0 : 0 ≤ t) (t1 : t < 8) {is : Int → Int} (M : Int → Int) (hM : M = fs_mk S t is (S 9 t 0).toNat) (h22 : σ 22 t 3 = S 9 t 0) (h23 : ∀ k, 0 ≤ k → k < S 9 t 0 → σ 23 t k = S 11 t k ∧ σ 24 t k = S 12 t k ∧ (6 ≤ S 11 t k → σ 25 t k = S 13 t k))
    (h44 : ∀ j, 0 ≤ j → j < S 9 t 0 → σ 44 l j = M j) (h36 : σ 36 l 10 = 0) (w : fx_V) (m : Nat) (k x4 : Int) (k0 : 0 ≤ k) (k1 : k < m) (k2 : k < S 9 t 0) (hx : x4 = S 9 t 0 - m) (hx0 : 0 ≤ x4) (hk : M k = -1) (w5 w6 : fx_V) (Q : fx_V → fx_S → Prop)
    (hQ : ∀ τ : fx_S, (∀ K o p, ¬ (K = 36 ∧ o = l ∧ p = 10) → τ K o p = σ K o p) → τ 36 l 10 = (fs_lk S t M m k).2 → Q (0, (fs_lk S t M m k).1) τ) : fx_Wp 67 22 [(36, l), (22, t), w, (0, k), (0, x4), w5, w6] [] σ Q := by
  induction m generalizing k x4 w5 w6 with
  | zero => omega
  | succ m ih =>
    have hn := (ho.2.2.2.2 t t0 t1).1
    have h11 := fs_lk_in ho t0 t1 M hM k0 k2 hk
    obtain ⟨e23, e24, e25⟩ := h23 k k0 k2
    rw [fs_lk_n] at hQ
    have hup : ∀ e : Int, (∀ K o p, ¬ (K = 36 ∧ o = l ∧ p = 10) → fx_up σ 36 l 10 e K o p = σ K o p) := fun e K o p hK => by rw [fx_upE, if_neg hK]
    have kinds : S 11 t k = 13 ∨ (6 ≤ S 11 t k ∧ S 11 t k ≤ 12) := by
      rcases h11 with q | q
      · exact Or.inl q.1
      · exact Or.inr q.1
    have kin : 6 ≤ S 11 t k ∧ S 11 t k ≤ 12 → (0 ≤ S 12 t k ∧ S 12 t k < k) ∧ (0 ≤ S 13 t k ∧ S 13 t k < k) ∧ (S 11 t k = 10 → M (S 13 t k) = -1) ∧ (S 11 t k = 11 → M (S 13 t k) ≠ -1 → M (S 12 t k) = -1) ∧ (S 11 t k = 12 → M (S 13 t k) = -1 → M (S 12 t k) = -1) := by
      intro h
      rcases h11 with q | q
      · omega
      · exact q.2
    have goA : (6 ≤ S 11 t k ∧ S 11 t k ≤ 12) → M (S 12 t k) = -1 → (∀ τ : fx_S, (∀ K o p, ¬ (K = 36 ∧ o = l ∧ p = 10) → τ K o p = σ K o p) → τ 36 l 10 = (fs_lk S t M m (S 12 t k)).2 → Q (0, (fs_lk S t M m (S 12 t k)).1) τ) → ∀ w5 w6 : fx_V, fx_Wp 67 22 [(36, l), (22, t), w, (0, S 12 t k), (0, x4 + 1), w5, w6] [] σ Q := fun h h1 h2 w5 w6 => ih (S 12 t k) (x4 + 1) (kin h).1.1 (by have := kin h; omega) (by have := kin h; omega) (by omega) (by omega) h1 w5 w6 h2
    have goB : (6 ≤ S 11 t k ∧ S 11 t k ≤ 12) → M (S 13 t k) = -1 → (∀ τ : fx_S, (∀ K o p, ¬ (K = 36 ∧ o = l ∧ p = 10) → τ K o p = σ K o p) → τ 36 l 10 = (fs_lk S t M m (S 13 t k)).2 → Q (0, (fs_lk S t M m (S 13 t k)).1) τ) → ∀ w5 w6 : fx_V, fx_Wp 67 22 [(36, l), (22, t), w, (0, S 13 t k), (0, x4 + 1), w5, w6] [] σ Q := fun h h1 h2 w5 w6 => ih (S 13 t k) (x4 + 1) (kin h).2.1.1 (by have := kin h; omega) (by have := kin h; omega) (by omega) (by omega) h1 w5 w6 h2
    have hA : (6 ≤ S 11 t k ∧ S 11 t k ≤ 12) → σ 44 l (S 12 t k) = M (S 12 t k) := fun h => h44 _ (kin h).1.1 (by have := kin h; omega)
    have hB : (6 ≤ S 11 t k ∧ S 11 t k ≤ 12) → σ 44 l (S 13 t k) = M (S 13 t k) := fun h => h44 _ (kin h).2.1.1 (by have := kin h; omega)
    refine t67_22 ?_
    rw [h22, e23, e24]
    refine ⟨fun a => (show False by omega).elim, fun a => ⟨⟨by omega, by omega⟩, fun c => (show False by omega).elim, fun c1 => ⟨fun c => (show False by omega).elim, fun c2 => ⟨fun c => (show False by omega).elim, fun c3 => ⟨fun c => (show False by omega).elim, fun c4 => ⟨fun c => (show False by omega).elim, fun c5 => ⟨fun c => ?_, fun c6 => ⟨fun c => ?_, fun c7 => ⟨fun c => ?_, fun c8 => ⟨fun c => ?_, fun c9 => ⟨fun c => ?_, fun c10 => ⟨fun c => ?_, fun c11 => ⟨fun c => ?_, fun c12 => ⟨fun c => ?_, fun c13 => (show False by omega).elim⟩⟩⟩⟩⟩⟩⟩⟩⟩⟩⟩⟩⟩⟩
    case refine_8 =>
      rw [if_pos c] at hQ
      exact hQ σ (fun _ _ _ _ => rfl) h36
    all_goals
      have h612 : 6 ≤ S 11 t k ∧ S 11 t k ≤ 12 := by omega
      have hk3 := kin h612
      have hA := hA h612
      have hB := hB h612
      rw [if_neg (by omega)] at hQ
      rw [e25 h612.1]
    case refine_5 =>
      rw [if_pos c] at hQ
      exact ⟨⟨by omega, by omega⟩, goB h612 (hk3.2.2.1 c) hQ _ _⟩
    case refine_6 =>
      rw [if_neg (by omega), if_pos c] at hQ
      rw [hB]
      refine ⟨⟨by omega, by omega⟩, fun u => ⟨⟨by omega, by omega⟩, ?_⟩, fun u => ⟨⟨by omega, by omega⟩, ?_⟩⟩
      · rw [if_neg u] at hQ
        exact goA h612 (hk3.2.2.2.1 c u) hQ _ _
      · rw [if_pos u] at hQ
        exact goB h612 u hQ _ _
    case refine_7 =>
      rw [if_neg (by omega), if_neg (by omega), if_pos c] at hQ
      rw [hB]
      refine ⟨⟨by omega, by omega⟩, fun u => ⟨⟨by omega, by omega⟩, ?_⟩, fun u => ?_⟩
      · rw [if_pos u] at hQ
        exact goA h612 (hk3.2.2.2.2 c u) hQ _ _
      · rw [if_neg u] at hQ
        exact hQ _ (hup 2) fx_upS
    all_goals
      rw [if_neg (by omega), if_neg (by omega), if_neg (by omega)] at hQ
      rw [hA, hB]
      refine ⟨⟨by omega, by omega⟩, fun u => ⟨fun v => absurd u v, fun _ => ⟨⟨by omega, by omega⟩, ?_⟩⟩, fun u => ⟨⟨by omega, by omega⟩, fun v => ⟨fun _ => ⟨⟨by omega, by omega⟩, ?_⟩, fun z => absurd z u⟩, fun v => ?_⟩⟩
      · rw [if_pos u] at hQ
        exact goA h612 u hQ _ _
      · rw [if_neg u, if_pos v] at hQ
        exact goB h612 v hQ _ _
      · rw [if_neg u, if_neg v] at hQ
        exact hQ _ (hup 1) fx_upS
/-- all but the row of nodes and how LACK ends -/
def fs_l44 (l : Int) (σ τ : fx_S) : Prop := ∀ K o p, ¬ ((K = 44 ∧ o = l) ∨ (K = 36 ∧ o = l ∧ p = 10)) → τ K o p = σ K o p
theorem fs_c_r {σ : fx_S} {S : fx_S} (he : fs_eq (fs_c σ 0) S) {t : Int} (t0 : 0 ≤ t) (t1 : t < 8) : σ 22 t 3 = S 9 t 0 ∧ σ 22 t 4 = S 10 t 0 ∧ ∀ k, 0 ≤ k → k < S 9 t 0 → σ 23 t k = S 11 t k ∧ σ 24 t k = S 12 t k ∧ (6 ≤ S 11 t k → σ 25 t k = S 13 t k) := by
  obtain ⟨h1, h2, h3⟩ := he.2.2.2.2 t t0 t1
  rw [fs_c9] at h1 h3
  rw [fs_c10] at h2
  refine ⟨h1, h2, fun k k0 k1 => ?_⟩
  obtain ⟨a, b, c⟩ := h3 k k0 (by omega)
  rw [fs_c11] at a c
  rw [fs_c12] at b
  rw [fs_c13] at c
  exact ⟨a, b, fun h => c (by omega)⟩
theorem c67 {S : fx_S} (ho : fs_ok S) (he : fs_eq (fs_c σ 0) S) {W : Int → Bool} {t x p : Int} (t0 : 0 ≤ t) (t1 : t < 8) (p0 : 0 ≤ p) (p1 : p < 121) (hv : ∀ a, 0 ≤ a → a < 8 → σ 43 (8 * l + a) p = fs_is S W a x) (h : fs_is S W t x = -1) :
    fx_Ca 67 [(36, l), (22, t), (0, p)] σ (fun v τ => v = (0, (fs_nx S (fun a => fs_is S W a x) t).1) ∧ fs_l44 l σ τ ∧ τ 36 l 10 = (fs_nx S (fun a => fs_is S W a x) t).2) := by
  have hn := (ho.2.2.2.2 t t0 t1).1
  have hm := fs_is_no ho t0 t1 h
  refine t67_0 ?_
  generalize hE0 : fx_up σ 36 l 10 0 = τ0
  have e0 : ∀ K o q, ¬ (K = 36 ∧ o = l ∧ q = 10) → τ0 K o q = σ K o q := fun K o q hK => by rw [← hE0, fx_upE, if_neg hK]
  have hc0 : fs_c τ0 0 = fs_c σ 0 := fs_c_of (fun K o q a b => e0 K o q (by omega)) 0
  have he0 : fs_eq (fs_c τ0 0) S := by rw [hc0]; exact he
  obtain ⟨r3, -, rk⟩ := fs_c_r he0 t0 t1
  have hv0 : ∀ a, 0 ≤ a → a < 8 → τ0 43 (8 * l + a) p = fs_is S W a x := fun a a0 a1 => by rw [e0 43 _ p (by omega)]; exact hv a a0 a1
  have h65 := c65 (σ := τ0) (he0.symm.ok ho) (l := l) t0 t1 p0 p1 (fun a a0 a1 => by rw [hv0 a a0 (by omega)]; exact fs_is_r ho 8 (by omega) a a0 (by omega))
  have hmk : ∀ j, 0 ≤ j → j < S 9 t 0 → fs_mk (fs_c τ0 0) t (fun a => τ0 43 (8 * l + a) p) (S 9 t 0).toNat j = fs_mk S t (fun a => fs_is S W a x) (S 9 t 0).toNat j := fun j j0 j1 => fs_mk_c he0 (he0.symm.ok ho) t0 t1 (fun a a0 a1 => hv0 a a0 (by omega)) _ (by rw [fs_c9, r3]; omega) j j0 (by omega)
  rw [r3] at h65
  refine h65.I ?_
  generalize hE : fx_fill τ0 44 l (S 9 t 0) (fs_mk (fs_c τ0 0) t (fun a => τ0 43 (8 * l + a) p) (S 9 t 0).toNat) = τ
  have eτ : ∀ K o q, ¬ (K = 44 ∧ o = l) → τ K o q = τ0 K o q := fun K o q hK => by rw [← hE, fx_fillE, if_neg (fun g => hK ⟨g.1, g.2.1⟩)]
  have s3 : τ 22 t 3 = S 9 t 0 := by rw [eτ 22 t 3 (by omega)]; exact r3
  have s36 : τ 36 l 10 = 0 := by rw [eτ 36 l 10 (by omega), ← hE0, fx_upS]
  have fr : ∀ ρ : fx_S, (∀ K o p, ¬ (K = 36 ∧ o = l ∧ p = 10) → ρ K o p = τ K o p) → fs_l44 l σ ρ := fun ρ g K o q hK => by rw [g K o q (by omega), eτ K o q (by omega), e0 K o q (by omega)]
  rw [s3]
  refine ⟨⟨by omega, by omega⟩, ?_⟩
  by_cases hr : S 9 t 0 = 0
  · have enx : fs_nx S (fun a => fs_is S W a x) t = (-1, 0) := by unfold fs_nx; rw [if_pos hr]
    rw [enx]
    refine t67_22 ⟨fun a => ⟨rfl, fr τ (fun _ _ _ _ => rfl), s36⟩, fun a => by omega⟩
  · unfold fs_mv at hm
    rw [if_neg hr] at hm
    have enx : fs_nx S (fun a => fs_is S W a x) t = fs_lk S t (fs_mk S t (fun a => fs_is S W a x) (S 9 t 0).toNat) (S 9 t 0).toNat (S 9 t 0 - 1) := by unfold fs_nx; rw [if_neg hr]
    rw [enx]
    refine c67w ho t0 t1 _ rfl s3 (fun k k0 k1 => ?_) (fun j j0 j1 => ?_) s36 _ (S 9 t 0).toNat (S 9 t 0 - 1) 0 (by omega) (by omega) (by omega) (by omega) (by omega) hm _ _ _ (fun ρ g1 g2 => ⟨rfl, fr ρ g1, g2⟩)
    · rw [eτ 23 t k (by omega), eτ 24 t k (by omega), eτ 25 t k (by omega)]; exact rk k k0 k1
    · rw [← hE, fx_fillI j0 j1]; exact hmk j j0 j1
theorem c66 {S : fx_S} (ho : fs_ok S) (he : fs_eq (fs_c σ 0) S) {W : Int → Bool} (hd : fs_drawn σ l S W) {t x : Int} (t0 : 0 ≤ t) (t1 : t < 8) (x0 : 0 ≤ x) (x1 : x < 1000) (h : fs_is S W t x = -1) :
    fx_Ca 66 [(36, l), (0, t), (0, x)] σ (fun v τ => v = (4, 0) ∧ (∀ K o p, ¬ ((K = 44 ∧ o = l) ∨ (K = 45 ∧ o = l) ∨ (K = 36 ∧ o = l ∧ (p = 9 ∨ p = 10))) → τ K o p = σ K o p) ∧ ∃ c, fs_isl S (fun a => fs_is S W a x) t c ∧ c ≤ 8 ∧ τ 36 l 9 = c ∧ τ 36 l 10 = (fs_nx S (fun a => fs_is S W a x) (fs_th S (fun a => fs_is S W a x) t (c - 1).toNat)).2 ∧ ∀ i, 0 ≤ i → i < c → τ 45 l i = fs_th S (fun a => fs_is S W a x) t i.toNat) := by
  obtain ⟨hn, h0, hN, hp, ha, hv, hc, hl⟩ := fs_dr_p ho hd
  have hx := ha x x0 x1
  have hvx : ∀ a, 0 ≤ a → a < 8 → σ 43 (8 * l + a) (σ 38 l x) = fs_is S W a x := fun a a0 a1 => by
    rw [hv a _ a0 a1 hx.1 hx.2.1, hc a _ x a0 a1 hx.1 hx.2.1 hx.2.2.1 hx.2.2.2]
  refine t66_0 ?_
  generalize hT : fs_th S (fun a => fs_is S W a x) t = T
  have hTs : ∀ i : Int, 0 ≤ i → T (i + 1).toNat = (fs_nx S (fun a => fs_is S W a x) (T i.toNat)).1 := fun i i0 => by rw [← hT]; exact fs_th_s i0
  have hT0 : T 0 = t := by rw [← hT]; rfl
  generalize hE : fx_up σ 36 l 9 0 = τ0
  have hfr0 : ∀ K o p, ¬ ((K = 44 ∧ o = l) ∨ (K = 45 ∧ o = l) ∨ (K = 36 ∧ o = l ∧ (p = 9 ∨ p = 10))) → τ0 K o p = σ K o p := fun K p q hK => by
    rw [← hE, fx_upE, if_neg (by omega)]
  refine Eq.mp (congrArg (fun z => fx_Wp 66 7 [(36, l), (0, t), (0, x), (0, z)] [] τ0 _) hT0) ?_
  refine fx_whl (X := Int × fx_S) (fun y => [(36, l), (0, t), (0, x), (0, T y.1.toNat)]) (fun y => y.2) (fun y => 0 ≤ y.1 ∧ (∀ K o p, ¬ ((K = 44 ∧ o = l) ∨ (K = 45 ∧ o = l) ∨ (K = 36 ∧ o = l ∧ (p = 9 ∨ p = 10))) → y.2 K o p = σ K o p) ∧ (∀ i, 0 ≤ i → i < y.1 → y.2 45 l i = T i.toNat ∧ T i.toNat ≠ -1) ∧ y.2 36 l 9 = y.1 ∧ (T y.1.toNat = -1 ∨ (0 ≤ T y.1.toNat ∧ T y.1.toNat < 8 - y.1 ∧ fs_is S W (T y.1.toNat) x = -1)) ∧ (y.1 ≤ 8) ∧ (1 ≤ y.1 → y.2 36 l 10 = (fs_nx S (fun a => fs_is S W a x) (T (y.1 - 1).toNat)).2) ∧ (y.1 = 0 → T y.1.toNat ≠ -1)) (fun y => (9 - y.1).toNat) ?_ (0, τ0) ⟨Int.le_refl _, hfr0, fun i i0 i1 => by simp only at i1; omega, ?_, ?_, by simp, fun q => by simp only at q; omega, fun _ => ?_⟩
  · rintro ⟨i, τ⟩ ⟨i0, hf, hr, h9, hc', i8, h10, hne⟩ ih
    simp only at i0 hf hr h9 hc' i8 h10 hne
    show fx_Wp 66 7 [(36, l), (0, t), (0, x), (0, T i.toNat)] [] τ _
    have endc : T i.toNat = -1 → ((4, 0) : fx_V) = (4, 0) ∧ (∀ K o p, ¬ ((K = 44 ∧ o = l) ∨ (K = 45 ∧ o = l) ∨ (K = 36 ∧ o = l ∧ (p = 9 ∨ p = 10))) → τ K o p = σ K o p) ∧ ∃ c, fs_isl S (fun a => fs_is S W a x) t c ∧ c ≤ 8 ∧ τ 36 l 9 = c ∧ τ 36 l 10 = (fs_nx S (fun a => fs_is S W a x) (T (c - 1).toNat)).2 ∧ ∀ i, 0 ≤ i → i < c → τ 45 l i = T i.toNat := by
      intro a
      have : i ≠ 0 := fun e => hne e a
      exact ⟨rfl, hf, i, ⟨by omega, fun j j0 j1 => by rw [hT]; exact (hr j j0 j1).2, by rw [hT]; exact a⟩, i8, h9, h10 (by omega), fun j j0 j1 => (hr j j0 j1).1⟩
    refine t66_7 ⟨fun a => endc a, fun a => ?_⟩
    obtain ⟨c1, c2, c3⟩ := hc'.resolve_left a
    have hnx := fs_nx_r ho (W := W) (x := x) c1 (by omega) c3
    rw [h9]
    refine ⟨fun b => by omega, fun b => ⟨⟨by omega, by omega⟩, ⟨by omega, by omega⟩, ⟨by omega, by omega⟩, ⟨by omega, by omega⟩, ?_⟩⟩
    rw [hf 38 l x (by omega)]
    generalize hE2 : fx_up (fx_up τ 45 l i (T i.toNat)) 36 l 9 (i + 1) = τ1
    have hf1 : ∀ K o p, ¬ ((K = 44 ∧ o = l) ∨ (K = 45 ∧ o = l) ∨ (K = 36 ∧ o = l ∧ (p = 9 ∨ p = 10))) → τ1 K o p = σ K o p := fun K p q hK => by
      rw [← hE2, fx_upE, if_neg (by omega), fx_upE, if_neg (by omega)]; exact hf K p q hK
    have hc1 : fs_c τ1 0 = fs_c σ 0 := fs_c_of (fun K o q a b => hf1 K o q (by omega)) 0
    have h91 : τ1 36 l 9 = i + 1 := by rw [← hE2, fx_upS]
    have h451 : ∀ j, 0 ≤ j → j < i + 1 → τ1 45 l j = T j.toNat ∧ T j.toNat ≠ -1 := fun j j0 j1 => by
      by_cases e : j = i
      · rw [e, ← hE2, fx_upK rfl, fx_upS]; exact ⟨rfl, a⟩
      · rw [← hE2, fx_upK rfl, fx_upJ e]; exact hr j j0 (by omega)
    refine fx_CI_of (c67 (σ := τ1) ho (by rw [hc1]; exact he) c1 (by omega) hx.1 (by omega) (fun a a0 a1 => by rw [hf1 43 _ _ (by omega)]; exact hvx a a0 a1) c3) ?_
    rintro v τ2 ⟨rfl, g1, g2⟩
    refine Or.inl ⟨rfl, ?_⟩
    have := ih (i + 1, τ2) ⟨by simp only; omega, fun K p q hK => by simp only; rw [g1 K p q (by omega)]; exact hf1 K p q hK, fun j j0 j1 => by simp only at j1 ⊢; rw [g1 45 l j (by omega)]; exact h451 j j0 j1, by simp only; rw [g1 36 l 9 (by omega)]; exact h91, by
      simp only
      rw [hTs i i0]
      rcases hnx with q | ⟨q1, q2, q3⟩
      · exact Or.inl q
      · exact Or.inr ⟨q1.1, by omega, q2⟩, by simp only; omega, fun _ => by simp only; rw [g2, show i + 1 - 1 = i by omega], fun q => by simp only at q; omega⟩ (by simp only; omega)
    simp only at this
    rw [hTs i i0] at this
    exact this
  · simp only
    rw [← hE, fx_upS]
  · simp only
    have : T (0 : Int).toNat = t := hT0
    rw [this]
    exact Or.inr ⟨t0, by omega, h⟩
  · simp only
    have : T (0 : Int).toNat = t := hT0
    rw [this]; omega
end FXA
