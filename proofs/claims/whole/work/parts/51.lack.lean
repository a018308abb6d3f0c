theorem fs_mk_le {S : fx_S} {t : Int} {is : Int → Int} {n : Nat} : ∀ m : Nat, n ≤ m → ∀ j : Int, 0 ≤ j → j < n → fs_mk S t is m j = fs_mk S t is n j
  | 0, h, j, _, hj => by omega
  | m + 1, h, j, j0, hj => by
    by_cases e : n = m + 1
    · rw [e]
    · rw [fs_mk_n, if_neg (by omega)]
      exact fs_mk_le m (by omega) j j0 hj
/-- what a node is, of the row that is whole -/
theorem fs_mk_nd {S : fx_S} (ho : fs_ok S) {t : Int} (t0 : 0 ≤ t) (t1 : t < 8) {is : Int → Int} {n : Nat} (hn : (n : Int) ≤ S 9 t 0) {j : Int} (j0 : 0 ≤ j) (j1 : j < n) : fs_mk S t is n j = if S 11 t j = 1 then S 12 t j else if S 11 t j = 13 then is (S 12 t j) else fs_join (S 11 t j) (fs_mk S t is n (S 12 t j)) (fs_mk S t is n (S 13 t j)) := by
  have e1 : fs_mk S t is n j = fs_mk S t is (j + 1).toNat j := fs_mk_le n (by omega) j j0 (by omega)
  rw [e1, fs_mk_s j0, if_pos rfl]
  unfold fs_nd
  have hok := (ho.2.2.2.2 t t0 t1).2.2.1 j j0 (by omega)
  rcases hok with ⟨a, b⟩ | ⟨a, b, c⟩ | ⟨a, b, c, d, e, f⟩
  · rw [if_pos a, if_pos a]
  · have h1 : ¬ S 11 t j = 1 := by omega
    simp only [if_neg h1, if_pos a]
  · have h1 : ¬ S 11 t j = 1 := by omega
    have h13 : ¬ S 11 t j = 13 := by omega
    simp only [if_neg h1, if_neg h13]
    rw [fs_mk_le n (n := j.toNat) (by omega) _ c (by omega), fs_mk_le n (n := j.toNat) (by omega) _ e (by omega)]
/-- the thing by which a rule made nothing, and how that ends -/
def fs_lk (S : fx_S) (t : Int) (M : Int → Int) : Nat → Int → Int × Int
  | 0, _ => (-1, 0)
  | n + 1, k =>
    if S 11 t k = 13 then (S 12 t k, 0)
    else if S 11 t k = 10 then fs_lk S t M n (S 13 t k)
    else if S 11 t k = 11 then (if M (S 13 t k) = -1 then fs_lk S t M n (S 13 t k) else fs_lk S t M n (S 12 t k))
    else if S 11 t k = 12 then (if M (S 13 t k) = -1 then fs_lk S t M n (S 12 t k) else (-1, 2))
    else if M (S 12 t k) = -1 then fs_lk S t M n (S 12 t k) else if M (S 13 t k) = -1 then fs_lk S t M n (S 13 t k) else (-1, 1)
theorem fs_lk_n {S : fx_S} {t : Int} {M : Int → Int} {n : Nat} {k : Int} : fs_lk S t M (n + 1) k = if S 11 t k = 13 then (S 12 t k, 0)
    else if S 11 t k = 10 then fs_lk S t M n (S 13 t k)
    else if S 11 t k = 11 then (if M (S 13 t k) = -1 then fs_lk S t M n (S 13 t k) else fs_lk S t M n (S 12 t k))
    else if S 11 t k = 12 then (if M (S 13 t k) = -1 then fs_lk S t M n (S 12 t k) else (-1, 2))
    else if M (S 12 t k) = -1 then fs_lk S t M n (S 12 t k) else if M (S 13 t k) = -1 then fs_lk S t M n (S 13 t k) else (-1, 1) := rfl
def fs_nx (S : fx_S) (is : Int → Int) (t : Int) : Int × Int := if S 9 t 0 = 0 then (-1, 0) else fs_lk S t (fs_mk S t is (S 9 t 0).toNat) (S 9 t 0).toNat (S 9 t 0 - 1)
theorem fs_join10 {a b : Int} : fs_join 10 a b = if a = -1 then b else a := by unfold fs_join; rw [if_pos rfl]
theorem fs_join11 {a b : Int} : fs_join 11 a b = if b = -1 then -1 else a := by unfold fs_join; rw [if_neg (by decide), if_pos rfl]
theorem fs_join12 {a b : Int} : fs_join 12 a b = if b = -1 then a else -1 := by unfold fs_join; rw [if_neg (by decide), if_neg (by decide), if_pos rfl]
/-- of a node that is nothing: what it is made of, that made it so -/
theorem fs_lk_in {S : fx_S} (ho : fs_ok S) {t : Int} (t0 : 0 ≤ t) (t1 : t < 8) {is : Int → Int} (M : Int → Int) (hM : M = fs_mk S t is (S 9 t 0).toNat) {k : Int} (k0 : 0 ≤ k) (k1 : k < S 9 t 0) (h : M k = -1) :
    (S 11 t k = 13 ∧ (0 ≤ S 12 t k ∧ S 12 t k < t) ∧ is (S 12 t k) = -1) ∨ ((6 ≤ S 11 t k ∧ S 11 t k ≤ 12) ∧ (0 ≤ S 12 t k ∧ S 12 t k < k) ∧ (0 ≤ S 13 t k ∧ S 13 t k < k) ∧ (S 11 t k = 10 → M (S 13 t k) = -1) ∧ (S 11 t k = 11 → M (S 13 t k) ≠ -1 → M (S 12 t k) = -1) ∧ (S 11 t k = 12 → M (S 13 t k) = -1 → M (S 12 t k) = -1)) := by
  have hn := (ho.2.2.2.2 t t0 t1).1
  have e := fs_mk_nd ho t0 t1 (is := is) (n := (S 9 t 0).toNat) (by omega) k0 (by omega)
  rw [← hM, h] at e
  have hok := (ho.2.2.2.2 t t0 t1).2.2.1 k k0 k1
  rcases hok with ⟨a, b⟩ | ⟨a, b, c⟩ | ⟨a, b, c, d, f, g⟩
  · rw [if_pos a] at e; omega
  · rw [if_neg (by omega), if_pos a] at e
    exact Or.inl ⟨a, ⟨b, c⟩, e.symm⟩
  · rw [if_neg (by omega), if_neg (by omega)] at e
    refine Or.inr ⟨⟨a, b⟩, ⟨c, d⟩, ⟨f, g⟩, ?_, ?_, ?_⟩
    all_goals
      intro q
      rw [q] at e
      first
        | rw [fs_join10] at e
        | rw [fs_join11] at e
        | rw [fs_join12] at e
      clear hM h hn ho
      split at e <;> omega
theorem fs_lk_r {S : fx_S} (ho : fs_ok S) {t : Int} (t0 : 0 ≤ t) (t1 : t < 8) {is : Int → Int} (M : Int → Int) (hM : M = fs_mk S t is (S 9 t 0).toNat) : ∀ (n : Nat) (k : Int), 0 ≤ k → k < n → k < S 9 t 0 → M k = -1 → ((fs_lk S t M n k).1 = -1 ∧ ((fs_lk S t M n k).2 = 1 ∨ (fs_lk S t M n k).2 = 2)) ∨ ((0 ≤ (fs_lk S t M n k).1 ∧ (fs_lk S t M n k).1 < t) ∧ is (fs_lk S t M n k).1 = -1 ∧ (fs_lk S t M n k).2 = 0)
  | 0, k, k0, k1, _, _ => by omega
  | n + 1, k, k0, k1, k2, h => by
    rw [fs_lk_n]
    have ih := fs_lk_r ho t0 t1 M hM n
    rcases fs_lk_in ho t0 t1 M hM k0 k2 h with ⟨a, b, c⟩ | ⟨a, b, c, d, e, f⟩
    · rw [if_pos a]
      exact Or.inr ⟨b, c, rfl⟩
    · rw [if_neg (by omega)]
      have ia := fun h2 => ih (S 12 t k) b.1 (by omega) (by omega) h2
      have ib := fun h2 => ih (S 13 t k) c.1 (by omega) (by omega) h2
      by_cases c10 : S 11 t k = 10
      · rw [if_pos c10]; exact ib (d c10)
      · rw [if_neg c10]
        by_cases c11 : S 11 t k = 11
        · rw [if_pos c11]
          by_cases q : M (S 13 t k) = -1
          · rw [if_pos q]; exact ib q
          · rw [if_neg q]; exact ia (e c11 q)
        · rw [if_neg c11]
          by_cases c12 : S 11 t k = 12
          · rw [if_pos c12]
            by_cases q : M (S 13 t k) = -1
            · rw [if_pos q]; exact ia (f c12 q)
            · rw [if_neg q]; exact Or.inl ⟨rfl, Or.inr rfl⟩
          · rw [if_neg c12]
            by_cases q : M (S 12 t k) = -1
            · rw [if_pos q]; exact ia q
            · rw [if_neg q]
              by_cases q2 : M (S 13 t k) = -1
              · rw [if_pos q2]; exact ib q2
              · rw [if_neg q2]; exact Or.inl ⟨rfl, Or.inl rfl⟩
/-- a thing that is nothing: its rule made nothing -/
theorem fs_is_no {S : fx_S} (ho : fs_ok S) {W : Int → Bool} {t x : Int} (t0 : 0 ≤ t) (t1 : t < 8) (h : fs_is S W t x = -1) : fs_mv S t (fun a => fs_is S W a x) (S 9 t 0) = -1 := by
  rw [fs_is_e ho t0 t1] at h
  unfold fs_ia at h
  rcases fs_bs_in (W := W) (t := t) (time := x) ho with hb | ⟨b0, b1⟩
  · rw [if_pos hb] at h; exact h
  · rw [if_neg (by omega)] at h
    have := (ho.2.2.2.1 _ b0 b1).2.2.2.1
    omega
theorem fs_nx_r {S : fx_S} (ho : fs_ok S) {W : Int → Bool} {t x : Int} (t0 : 0 ≤ t) (t1 : t < 8) (h : fs_is S W t x = -1) : ((fs_nx S (fun a => fs_is S W a x) t).1 = -1) ∨ ((0 ≤ (fs_nx S (fun a => fs_is S W a x) t).1 ∧ (fs_nx S (fun a => fs_is S W a x) t).1 < t) ∧ fs_is S W (fs_nx S (fun a => fs_is S W a x) t).1 x = -1 ∧ (fs_nx S (fun a => fs_is S W a x) t).2 = 0) := by
  have hm := fs_is_no ho t0 t1 h
  have hn := (ho.2.2.2.2 t t0 t1).1
  unfold fs_nx
  by_cases e : S 9 t 0 = 0
  · rw [if_pos e]; exact Or.inl rfl
  · rw [if_neg e]
    unfold fs_mv at hm
    rw [if_neg e] at hm
    rcases fs_lk_r ho t0 t1 _ rfl (S 9 t 0).toNat (S 9 t 0 - 1) (by omega) (by omega) (by omega) hm with q | q
    · exact Or.inl q.1
    · exact Or.inr q
/-- the row of things of LACK -/
def fs_th (S : fx_S) (is : Int → Int) (t : Int) : Nat → Int
  | 0 => t
  | n + 1 => (fs_nx S is (fs_th S is t n)).1
def fs_isl (S : fx_S) (is : Int → Int) (t c : Int) : Prop := 1 ≤ c ∧ (∀ i : Int, 0 ≤ i → i < c → fs_th S is t i.toNat ≠ -1) ∧ fs_th S is t c.toNat = -1
noncomputable def fs_lc (S : fx_S) (is : Int → Int) (t : Int) : Int := Classical.epsilon (fun c => fs_isl S is t c)
theorem fs_lc_u {S : fx_S} {is : Int → Int} {t c : Int} (h : fs_isl S is t c) : fs_lc S is t = c := by
  have g : fs_isl S is t (fs_lc S is t) := Classical.epsilon_spec (p := fun c => fs_isl S is t c) ⟨c, h⟩
  generalize fs_lc S is t = d at g
  obtain ⟨a1, a2, a3⟩ := h
  obtain ⟨b1, b2, b3⟩ := g
  apply Classical.byContradiction
  intro hne
  by_cases q : d < c
  · exact a2 d (by omega) q b3
  · exact b2 c (by omega) (by omega) a3
theorem fs_th_s {S : fx_S} {is : Int → Int} {t i : Int} (h : 0 ≤ i) : fs_th S is t (i + 1).toNat = (fs_nx S is (fs_th S is t i.toNat)).1 := by
  have e : (i + 1).toNat = i.toNat + 1 := by omega
  rw [e, fs_th]
section FXM
variable {σ : fx_S} {o : Int}
/-- the kinds and parts of a node in the reference's row -/
theorem fs_mnode {t k : Int} : ∃ K : Int, σ 47 0 (378 + 94 * t + 2 + 4 * k) = K ∧ fs_m σ 47 0 11 t k = fs_kd K ∧ (K ≤ 1 → fs_m σ 47 0 12 t k = σ 47 0 (378 + 94 * t + 2 + 4 * k + 1)) ∧ (1 < K → fs_m σ 47 0 12 t k = σ 47 0 (378 + 94 * t + 2 + 4 * k + 2)) ∧ fs_m σ 47 0 13 t k = σ 47 0 (378 + 94 * t + 2 + 4 * k + 3) := by
  refine ⟨_, rfl, ?_, ?_, ?_, ?_⟩
  · show fs_kd (σ 47 0 (0 + 378 + 94 * t + 2 + 4 * k)) = _
    rw [show 0 + 378 + 94 * t + 2 + 4 * k = 378 + 94 * t + 2 + 4 * k by omega]
  · intro h
    show (if σ 47 0 (0 + 378 + 94 * t + 2 + 4 * k) ≤ 1 then σ 47 0 (0 + 378 + 94 * t + 2 + 4 * k + 1) else σ 47 0 (0 + 378 + 94 * t + 2 + 4 * k + 2)) = _
    rw [show 0 + 378 + 94 * t + 2 + 4 * k = 378 + 94 * t + 2 + 4 * k by omega, if_pos h]
  · intro h
    show (if σ 47 0 (0 + 378 + 94 * t + 2 + 4 * k) ≤ 1 then σ 47 0 (0 + 378 + 94 * t + 2 + 4 * k + 1) else σ 47 0 (0 + 378 + 94 * t + 2 + 4 * k + 2)) = _
    rw [show 0 + 378 + 94 * t + 2 + 4 * k = 378 + 94 * t + 2 + 4 * k by omega, if_neg (by omega)]
  · show σ 47 0 (0 + 378 + 94 * t + 2 + 4 * k + 3) = _
    rw [show 0 + 378 + 94 * t + 2 + 4 * k = 378 + 94 * t + 2 + 4 * k by omega]
/-- all but the row of nodes, and lackEnds -/
def fs_l57 (o : Int) (σ τ : fx_S) : Prop := ∀ K p q, ¬ (K = 57 ∨ (K = 46 ∧ p = o ∧ q = 28)) → τ K p q = σ K p q
theorem c222w {S : fx_S} (ho : fs_ok S) (hS : fs_m σ 47 0 = S) {t : Int} (t0 : 0 ≤ t) (t1 : t < 8) {is : Int → Int} (M : Int → Int) (hM : M = fs_mk S t is (S 9 t 0).toNat) (h57 : ∀ j, 0 ≤ j → j < S 9 t 0 → σ 57 0 j = M j) (w : fx_V) (m : Nat) (k : Int) (k0 : 0 ≤ k) (k1 : k < m) (k2 : k < S 9 t 0) (hk : M k = -1) (w4 w5 w6 : fx_V) (Q : fx_V → fx_S → Prop)
    (hQ : ∀ τ : fx_S, (((fs_lk S t M m k).1 ≠ -1 ∧ τ = σ) ∨ ((fs_lk S t M m k).1 = -1 ∧ τ = fx_up σ 46 o 28 (fs_lk S t M m k).2)) → Q (0, (fs_lk S t M m k).1) τ) : fx_Wp 222 15 [(46, o), (0, t), w, (0, k), w4, w5, w6] [] σ Q := by
  induction m generalizing k w4 w5 w6 with
  | zero => omega
  | succ m ih =>
    have hn := (ho.2.2.2.2 t t0 t1).1
    have h11 := fs_lk_in ho t0 t1 M hM k0 k2 hk
    obtain ⟨K, hK, n11, n12a, n12b, n13⟩ := fs_mnode (σ := σ) (t := t) (k := k)
    rw [hS] at n11 n12a n12b n13
    have hkd := fs_kd_i (m := K)
    have b0 : fx_Rt 161 [(46, o), (0, t), (0, k), (0, 0)] σ (0, K) σ := c161 t0 t1 k0 (by omega) (by omega) (by omega) (by rw [Int.add_zero]; exact hK)
    rw [fs_lk_n] at hQ
    refine t222_15 (b0.I ⟨fun a => ?_, fun a => ?_⟩)
    · have hK2 : S 11 t k = 13 := by
        rcases h11 with q | q
        · exact q.1
        · have := hkd.2.2 ⟨by omega, by omega⟩; omega
      refine (c161 t0 t1 k0 (by omega) (by omega) (by omega) (x := S 12 t k) (n12a a).symm).I ?_
      rw [if_pos hK2] at hQ
      have hs : S 12 t k ≠ -1 := by
        rcases h11 with q | q <;> omega
      exact hQ σ (Or.inl ⟨hs, rfl⟩)
    · have hK2 : (6 ≤ S 11 t k ∧ S 11 t k ≤ 12) ∧ (0 ≤ S 12 t k ∧ S 12 t k < k) ∧ (0 ≤ S 13 t k ∧ S 13 t k < k) ∧ (S 11 t k = 10 → M (S 13 t k) = -1) ∧ (S 11 t k = 11 → M (S 13 t k) ≠ -1 → M (S 12 t k) = -1) ∧ (S 11 t k = 12 → M (S 13 t k) = -1 → M (S 12 t k) = -1) := by
        rcases h11 with q | q
        · have := hkd.2.1.mp (by omega); omega
        · exact q
      obtain ⟨q1, q2, q3, q4, q5, q6⟩ := hK2
      have hK3 := hkd.2.2 (by omega)
      rw [n11, hK3.2.2] at hQ q4 q5 q6
      rw [if_neg (by omega)] at hQ
      have goA : M (S 12 t k) = -1 → (∀ τ : fx_S, (((fs_lk S t M m (S 12 t k)).1 ≠ -1 ∧ τ = σ) ∨ ((fs_lk S t M m (S 12 t k)).1 = -1 ∧ τ = fx_up σ 46 o 28 (fs_lk S t M m (S 12 t k)).2)) → Q (0, (fs_lk S t M m (S 12 t k)).1) τ) → ∀ w4 w5 w6 : fx_V, fx_Wp 222 15 [(46, o), (0, t), w, (0, S 12 t k), w4, w5, w6] [] σ Q := fun h1 h2 w4 w5 w6 => ih (S 12 t k) q2.1 (by omega) (by omega) h1 w4 w5 w6 h2
      have goB : M (S 13 t k) = -1 → (∀ τ : fx_S, (((fs_lk S t M m (S 13 t k)).1 ≠ -1 ∧ τ = σ) ∨ ((fs_lk S t M m (S 13 t k)).1 = -1 ∧ τ = fx_up σ 46 o 28 (fs_lk S t M m (S 13 t k)).2)) → Q (0, (fs_lk S t M m (S 13 t k)).1) τ) → ∀ w4 w5 w6 : fx_V, fx_Wp 222 15 [(46, o), (0, t), w, (0, S 13 t k), w4, w5, w6] [] σ Q := fun h1 h2 w4 w5 w6 => ih (S 13 t k) q3.1 (by omega) (by omega) h1 w4 w5 w6 h2
      have hA := h57 (S 12 t k) q2.1 (by omega)
      have hB := h57 (S 13 t k) q3.1 (by omega)
      refine b0.I ((c161 t0 t1 k0 (by omega) (by omega) (by omega) (x := S 12 t k) (n12b a).symm).I ((c161 t0 t1 k0 (by omega) (by omega) (by omega) (x := S 13 t k) n13.symm).I ?_))
      rw [hB]
      refine ⟨fun c => ?_, fun c => ⟨fun d => ⟨fun e => ?_, fun e => ⟨⟨by omega, by omega⟩, fun f => ?_, fun f => ?_⟩⟩, fun d => ⟨⟨by omega, by omega⟩, fun f => ⟨fun e => ?_, fun e => by omega⟩, fun f => ?_⟩⟩⟩
      · rw [if_pos (by omega)] at hQ
        exact goB (q4 (by omega)) hQ _ _ _
      · rw [if_neg (by omega), if_neg (by omega), if_neg (by omega)] at hQ
        refine t222_109 ⟨fun g => by omega, fun g => ⟨⟨by omega, by omega⟩, ?_⟩⟩
        rw [hA, hB]
        refine ⟨fun u => ⟨⟨by omega, by omega⟩, fun v => ?_, fun v => ?_⟩, fun u => ?_⟩
        · rw [if_neg u, if_neg v] at hQ
          exact hQ _ (Or.inr ⟨rfl, rfl⟩)
        · rw [if_neg u, if_pos v] at hQ
          exact goB v hQ _ _ _
        · rw [if_pos u] at hQ
          exact goA u hQ _ _ _
      · rw [if_neg (by omega), if_neg (by omega), if_pos (by omega), if_pos f] at hQ
        exact t222_109 ⟨fun g => goA (q6 (by omega) f) hQ _ _ _, fun g => by omega⟩
      · rw [if_neg (by omega), if_neg (by omega), if_pos (by omega), if_neg f] at hQ
        exact hQ _ (Or.inr ⟨rfl, rfl⟩)
      · rw [if_neg (by omega), if_pos (by omega), if_neg f] at hQ
        exact t222_109 ⟨fun g => goA (q5 (by omega) f) hQ _ _ _, fun g => by omega⟩
      · rw [if_neg (by omega), if_pos (by omega), if_pos f] at hQ
        exact goB f hQ _ _ _
theorem c222 {S : fx_S} (ho : fs_ok S) (hS : fs_m σ 47 0 = S) {W : Int → Bool} {t x : Int} (t0 : 0 ≤ t) (t1 : t < 8) (his : ∀ a, 0 ≤ a → a < 8 → σ 55 0 a = fs_is S W a x) (hr : S 9 t 0 ≠ 0) (h : fs_is S W t x = -1) :
    fx_Ca 222 [(46, o), (0, t)] σ (fun v τ => v = (0, (fs_nx S (fun a => fs_is S W a x) t).1) ∧ fs_l57 o σ τ ∧ τ 46 o 28 = if (fs_nx S (fun a => fs_is S W a x) t).1 = -1 then (fs_nx S (fun a => fs_is S W a x) t).2 else σ 46 o 28) := by
  have hn := (ho.2.2.2.2 t t0 t1).1
  have hm := fs_is_no ho t0 t1 h
  unfold fs_mv at hm
  rw [if_neg hr] at hm
  have h164 := c164 (σ := σ) (o := o) (by rw [hS]; exact ho) t0 t1 (fun a a0 a1 => by rw [his a a0 (by omega)]; exact fs_is_r ho 8 (by omega) a a0 (by omega))
  rw [hS] at h164
  have hmk : ∀ j, 0 ≤ j → j < S 9 t 0 → fs_mk S t (fun a => σ 55 0 a) (S 9 t 0).toNat j = fs_mk S t (fun a => fs_is S W a x) (S 9 t 0).toNat j := fun j j0 j1 => fs_mk_c fs_eq.rfl ho t0 t1 (fun a a0 a1 => his a a0 (by omega)) _ (by omega) j j0 (by omega)
  refine t222_0 (h164.I ?_)
  generalize hE : fx_fill σ 57 0 (S 9 t 0) (fs_mk S t (fun a => σ 55 0 a) (S 9 t 0).toNat) = τ
  have hτ : ∀ K p q, K ≠ 57 → τ K p q = σ K p q := fun K p q hK => by rw [← hE, fx_fillE, if_neg (fun e => hK e.1)]
  have hSτ : fs_m τ 47 0 = S := (fs_m_c (fun p => hτ 47 0 p (by omega))).trans hS
  have h9 : fx_Rt 160 [(46, o), (0, t), (0, 0)] τ (0, S 9 t 0) τ := by rw [← hSτ]; exact c160n t0 t1
  refine h9.I ⟨⟨by omega, by omega⟩, ?_⟩
  refine c222w ho hSτ t0 t1 _ rfl (fun j j0 j1 => ?_) _ (S 9 t 0).toNat (S 9 t 0 - 1) (by omega) (by omega) (by omega) hm _ _ _ _ ?_
  · rw [← hE, fx_fillI j0 j1]; exact hmk j j0 j1
  · intro ρ hρ
    have enx : fs_nx S (fun a => fs_is S W a x) t = fs_lk S t (fs_mk S t (fun a => fs_is S W a x) (S 9 t 0).toNat) (S 9 t 0).toNat (S 9 t 0 - 1) := by unfold fs_nx; rw [if_neg hr]
    rw [enx]
    refine ⟨rfl, fun K p q hK => ?_, ?_⟩
    · rcases hρ with ⟨-, e⟩ | ⟨-, e⟩
      · rw [e]; exact hτ K p q (by omega)
      · rw [e, fx_upE, if_neg (by omega)]; exact hτ K p q (by omega)
    · rcases hρ with ⟨g, e⟩ | ⟨g, e⟩
      · rw [if_neg g, e]; exact hτ 46 o 28 (by omega)
      · rw [if_pos g, e, fx_upS]
theorem c223 {S : fx_S} (ho : fs_ok S) (hS : fs_m σ 47 0 = S) {W : Int → Bool} {t x : Int} (t0 : 0 ≤ t) (t1 : t < 8) (his : ∀ a, 0 ≤ a → a < 8 → σ 55 0 a = fs_is S W a x) (h : fs_is S W t x = -1) :
    fx_Ca 223 [(46, o), (0, t)] σ (fun v τ => v = (4, 0) ∧ (∀ K p q, ¬ (K = 57 ∨ K = 60 ∨ (K = 46 ∧ p = o ∧ (q = 27 ∨ q = 28))) → τ K p q = σ K p q) ∧ ∃ c, fs_isl S (fun a => fs_is S W a x) t c ∧ c ≤ 8 ∧ τ 46 o 27 = c ∧ τ 46 o 28 = (fs_nx S (fun a => fs_is S W a x) (fs_th S (fun a => fs_is S W a x) t (c - 1).toNat)).2 ∧ ∀ i, 0 ≤ i → i < c → τ 60 0 i = fs_th S (fun a => fs_is S W a x) t i.toNat) := by
  refine t223_0 ?_
  generalize hT : fs_th S (fun a => fs_is S W a x) t = T
  have hTs : ∀ i : Int, 0 ≤ i → T (i + 1).toNat = (fs_nx S (fun a => fs_is S W a x) (T i.toNat)).1 := fun i i0 => by rw [← hT]; exact fs_th_s i0
  have hT0 : T 0 = t := by rw [← hT]; rfl
  generalize hE : fx_up (fx_up σ 46 o 27 0) 46 o 28 0 = τ0
  have hfr0 : ∀ K p q, ¬ (K = 57 ∨ K = 60 ∨ (K = 46 ∧ p = o ∧ (q = 27 ∨ q = 28))) → τ0 K p q = σ K p q := fun K p q hK => by
    rw [← hE, fx_upE, if_neg (by omega), fx_upE, if_neg (by omega)]
  refine Eq.mp (congrArg (fun z => fx_Wp 223 12 [(46, o), (0, t), (0, z)] [] τ0 _) hT0) ?_
  refine fx_whl (X := Int × fx_S) (fun y => [(46, o), (0, t), (0, T y.1.toNat)]) (fun y => y.2) (fun y => 0 ≤ y.1 ∧ (∀ K p q, ¬ (K = 57 ∨ K = 60 ∨ (K = 46 ∧ p = o ∧ (q = 27 ∨ q = 28))) → y.2 K p q = σ K p q) ∧ (∀ i, 0 ≤ i → i < y.1 → y.2 60 0 i = T i.toNat ∧ T i.toNat ≠ -1) ∧ y.2 46 o 27 = y.1 ∧ (T y.1.toNat = -1 ∨ (0 ≤ T y.1.toNat ∧ T y.1.toNat < 8 - y.1 ∧ fs_is S W (T y.1.toNat) x = -1 ∧ y.2 46 o 28 = 0)) ∧ (y.1 ≤ 8) ∧ (1 ≤ y.1 → y.2 46 o 28 = (fs_nx S (fun a => fs_is S W a x) (T (y.1 - 1).toNat)).2) ∧ (y.1 = 0 → T y.1.toNat ≠ -1)) (fun y => (9 - y.1).toNat) ?_ (0, τ0) ⟨Int.le_refl _, hfr0, fun i i0 i1 => by simp only at i1; omega, ?_, ?_, by simp, fun q => by simp only at q; omega, fun _ => ?_⟩
  · rintro ⟨i, τ⟩ ⟨i0, hf, hr, h27, hc, i8, h28, hne⟩ ih
    simp only at i0 hf hr h27 hc i8 h28 hne
    show fx_Wp 223 12 [(46, o), (0, t), (0, T i.toNat)] [] τ _
    refine t223_12 ⟨fun a => ?_, fun a => ?_⟩
    · have : i ≠ 0 := fun e => hne e a
      exact ⟨rfl, hf, i, ⟨by omega, fun j j0 j1 => by rw [hT]; exact (hr j j0 j1).2, by rw [hT]; exact a⟩, i8, h27, h28 (by omega), fun j j0 j1 => (hr j j0 j1).1⟩
    · obtain ⟨c1, c2, c3, c4⟩ := hc.resolve_left a
      have hnx := fs_nx_r ho (W := W) (x := x) c1 (by omega) c3
      rw [h27]
      refine ⟨⟨by omega, by omega⟩, ⟨by omega, by omega⟩, ?_⟩
      generalize hE2 : fx_up (fx_up τ 60 0 i (T i.toNat)) 46 o 27 (i + 1) = τ1
      have hf1 : ∀ K p q, ¬ (K = 57 ∨ K = 60 ∨ (K = 46 ∧ p = o ∧ (q = 27 ∨ q = 28))) → τ1 K p q = σ K p q := fun K p q hK => by
        rw [← hE2, fx_upE, if_neg (by omega), fx_upE, if_neg (by omega)]; exact hf K p q hK
      have hS1 : fs_m τ1 47 0 = S := (fs_m_c (fun p => hf1 47 0 p (by omega))).trans hS
      have h281 : τ1 46 o 28 = 0 := by rw [← hE2, fx_upJ (by omega), fx_upK rfl]; exact c4
      have h271 : τ1 46 o 27 = i + 1 := by rw [← hE2, fx_upS]
      have h601 : ∀ j, 0 ≤ j → j < i + 1 → τ1 60 0 j = T j.toNat ∧ T j.toNat ≠ -1 := fun j j0 j1 => by
        by_cases e : j = i
        · rw [e, ← hE2, fx_upK rfl, fx_upS]; exact ⟨rfl, a⟩
        · rw [← hE2, fx_upK rfl, fx_upJ e]; exact hr j j0 (by omega)
      have h162 : fx_Rt 162 [(46, o), (0, T i.toNat)] τ1 (0, fs_b (decide (0 < S 9 (T i.toNat) 0))) τ1 := by rw [← hS1]; exact c162 c1 (by omega)
      have hr9 := (ho.2.2.2.2 (T i.toNat) c1 (by omega)).1
      have step : ∀ (τ2 : fx_S), (∀ K p q, ¬ (K = 57 ∨ (K = 46 ∧ p = o ∧ q = 28)) → τ2 K p q = τ1 K p q) → τ2 46 o 28 = (fs_nx S (fun a => fs_is S W a x) (T i.toNat)).2 → fx_Wp 223 12 [(46, o), (0, t), (0, T (i + 1).toNat)] [] τ2 _ := fun τ2 g1 g2 => ih (i + 1, τ2) ⟨by simp only; omega, fun K p q hK => by simp only; rw [g1 K p q (by omega)]; exact hf1 K p q hK, fun j j0 j1 => by simp only at j1 ⊢; rw [g1 60 0 j (by omega)]; exact h601 j j0 j1, by simp only; rw [g1 46 o 27 (by omega)]; exact h271, by
          simp only
          rw [hTs i i0]
          rcases hnx with q | ⟨q1, q2, q3⟩
          · exact Or.inl q
          · exact Or.inr ⟨q1.1, by omega, q2, by rw [g2]; exact q3⟩, by simp only; omega, fun _ => by simp only; rw [g2, show i + 1 - 1 = i by omega], fun q => by simp only at q; omega⟩ (by simp only; omega)
      refine h162.I ⟨fun b => ?_, fun b => ?_⟩
      · rw [fs_b0, decide_eq_false_iff_not] at b
        have e : fs_nx S (fun a => fs_is S W a x) (T i.toNat) = (-1, 0) := by unfold fs_nx; rw [if_pos (by omega)]
        have := step τ1 (fun _ _ _ _ => rfl) (by rw [e]; exact h281)
        rw [hTs i i0, e] at this
        exact this
      · rw [fs_b1, decide_eq_true_eq] at b
        refine fx_CI_of (c222 ho hS1 c1 (by omega) (fun a a0 a1 => by rw [hf1 55 0 a (by omega)]; exact his a a0 a1) (by omega) c3) ?_
        rintro v τ2 ⟨rfl, g1, g2⟩
        refine Or.inl ⟨rfl, ?_⟩
        have := step τ2 (fun K p q hK => g1 K p q hK) (by
          rw [g2]
          rcases hnx with q | ⟨q1, q2, q3⟩
          · rw [if_pos q]
          · rw [if_neg (by omega), h281, q3])
        rw [hTs i i0] at this
        exact this
  · simp only
    rw [← hE, fx_upJ (by omega), fx_upS]
  · simp only
    have : T (0 : Int).toNat = t := hT0
    rw [this]
    exact Or.inr ⟨t0, by omega, h, by rw [← hE, fx_upS]⟩
  · simp only
    have : T (0 : Int).toNat = t := hT0
    rw [this]; omega
end FXM
