/-! ===== the pool: what the cells of all objects hold ===== -/
theorem fx_beq {a b : Nat} (h : Nat.beq a b = true) : a = b := Nat.eq_of_beq_eq_true h
theorem fx_blt {a b : Nat} (h : Nat.blt a b = true) : a < b := Nat.le_of_ble_eq_true h
theorem fx_bT {a b : Nat} (h : a = b) : Nat.beq a b = true := by
  subst h
  exact Nat.beq_refl a
theorem fx_bF {a b : Nat} (h : a ≠ b) : Nat.beq a b = false := by
  cases hb : Nat.beq a b with
  | false => rfl
  | true => exact absurd (fx_beq hb) h
def fx_rg (x : Int) : Prop := -2147483648 ≤ x ∧ x < 2147483648
def fx_rgS (σ : fx_S) : Prop := ∀ (K : Nat) (i j : Int), fx_rg (σ K i j)
/-- a number or an object that there is -/
def fx_o1 (v : fx_V) : Prop := ((v.1 = 0 ∨ v.1 = 1) ∧ fx_rg v.2) ∨ (0 ≤ v.2 ∧ v.2 < fx_cnt v.1)
def fx_oL (L : List fx_V) : Prop := ∀ v ∈ L, (v.1 ≠ 1 ∧ fx_o1 v) ∨ v.1 = 3
def fx_oS (L : List fx_V) : Prop := ∀ v ∈ L, fx_o1 v
/-- a value as the machine has it -/
def fx_cv (ad : Nat → Nat → Nat) (v : fx_V) : Value := cond (Nat.beq v.1 0) (.int (Int32.ofInt v.2)) (cond (Nat.beq v.1 1) (.long (Int64.ofInt v.2)) (.ref (ad v.1 v.2.toNat)))
theorem fx_cv0 (ad : Nat → Nat → Nat) (x : Int) : fx_cv ad (0, x) = .int (Int32.ofInt x) := rfl
theorem fx_cv1 (ad : Nat → Nat → Nat) (x : Int) : fx_cv ad (1, x) = .long (Int64.ofInt x) := rfl
theorem fx_cvo (ad : Nat → Nat → Nat) {K : Nat} (x : Int) (h : 2 ≤ K) : fx_cv ad (K, x) = .ref (ad K x.toNat) := by
  unfold fx_cv
  rw [fx_bF (a := (K, x).1) (b := 0) (by show K ≠ 0; omega), fx_bF (a := (K, x).1) (b := 1) (by show K ≠ 1; omega)]
  rfl
theorem fx_cat (ad : Nat → Nat → Nat) {v : fx_V} (h : v.1 ≠ 1) : (fx_cv ad v).category = 1 := by
  unfold fx_cv
  rw [fx_bF h]
  cases Nat.beq v.1 0 <;> rfl
theorem fx_nth_ge {α : Type} : ∀ (l : List α) (n : Nat) (d : α), l.length ≤ n → fx_nth l n d = d
  | [], _, _, _ => by simp [fx_nth]
  | _ :: l, 0, _, h => absurd h (by simp)
  | _ :: l, n + 1, d, h => by
    have h1 : l.length ≤ n := by simpa using h
    simpa [fx_nth] using fx_nth_ge l n d h1
theorem fx_nth_get {α : Type} : ∀ (l : List α) (n : Nat) (d : α), n < l.length → l[n]? = some (fx_nth l n d)
  | [], _, _, h => absurd h (by simp)
  | _ :: l, 0, _, _ => by simp [fx_nth]
  | _ :: l, n + 1, d, h => by
    have h1 : n < l.length := by simpa using h
    simpa [fx_nth] using fx_nth_get l n d h1
theorem fx_nth_in {α : Type} {l : List α} {n : Nat} (d : α) (h : n < l.length) : fx_nth l n d ∈ l := List.mem_of_getElem? (fx_nth_get l n d h)
theorem fx_nth_of {α : Type} {l : List α} {n : Nat} {d v : α} (h : l[n]? = some v) : fx_nth l n d = v := by
  have h1 := fx_nth_get l n d (List.getElem?_eq_some_iff.mp h).1
  rw [h] at h1
  exact (Option.some.inj h1).symm
theorem fx_klen : fx_kts.length = 63 := rfl
theorem fx_cnt_hi {K : Nat} (h : 63 ≤ K) : fx_cnt K = 0 := by
  unfold fx_cnt fx_kt
  rw [fx_nth_ge _ _ _ (by rw [fx_klen]; exact h)]
  rfl
theorem fx_cnt_lo : ∀ K, K < 9 → fx_cnt K = 0 := by decide +kernel
theorem fx_cnt_in {K : Nat} (h : 0 < fx_cnt K) : 9 ≤ K ∧ K < 63 := by
  refine ⟨Nat.not_lt.mp fun q => ?_, Nat.not_le.mp fun q => ?_⟩
  · rw [fx_cnt_lo K q] at h
    exact absurd h (by decide)
  · rw [fx_cnt_hi q] at h
    exact absurd h (by decide)
theorem fx_o1_cases {K : Nat} {x : Int} (h : fx_o1 (K, x)) : ((K = 0 ∨ K = 1) ∧ fx_rg x) ∨ (9 ≤ K ∧ K < 63 ∧ 0 ≤ x ∧ x < fx_cnt K) := by
  rcases h with h | ⟨h1, h2⟩
  · exact Or.inl h
  · have h3 := fx_cnt_in (K := K) (by simp only at h1 h2; omega)
    exact Or.inr ⟨h3.1, h3.2, h1, h2⟩
theorem fx_o1_num {x : Int} (h : fx_o1 (0, x)) : fx_rg x := by
  rcases fx_o1_cases h with h | h
  · exact h.2
  · omega
theorem fx_o1_lng {x : Int} (h : fx_o1 (1, x)) : fx_rg x := by
  rcases fx_o1_cases h with h | h
  · exact h.2
  · omega
theorem fx_o1_ref {K : Nat} {x : Int} (h : fx_o1 (K, x)) (hK : 2 ≤ K) : 9 ≤ K ∧ K < 63 ∧ 0 ≤ x ∧ x < fx_cnt K := by
  rcases fx_o1_cases h with h | h
  · omega
  · exact h
theorem fx_o1_of {x : Int} (h : fx_rg x) : fx_o1 (0, x) := Or.inl ⟨Or.inl rfl, h⟩
theorem fx_o1_of1 {x : Int} (h : fx_rg x) : fx_o1 (1, x) := Or.inl ⟨Or.inr rfl, h⟩
theorem fx_o1_ofK {K : Nat} {x : Int} (h : 0 ≤ x) (h2 : x < fx_cnt K) : fx_o1 (K, x) := Or.inr ⟨h, h2⟩
/-- the kinds' own check -/
def fx_kc (K : Nat) : Bool := cond (Nat.beq (fx_form K) 5)
  ((fx_fl K).all (fun q => Nat.beq q.1 0 || (decide (0 ≤ q.2.1) && decide (0 ≤ q.2.2) && decide (q.2.1 * (fx_cnt K - 1) + q.2.2 < fx_cnt q.1))) && Nat.beq (fx_nth [4, 11, 10, 6, 11, 6, 15, 30] (fx_kt K).2.1 0) (fx_fl K).length && Nat.blt (fx_kt K).2.1 8 && decide (0 < fx_cnt K))
  (cond (Nat.blt 1 (fx_form K) && Nat.blt (fx_form K) 5) (decide (0 ≤ (fx_nth (fx_fl K) 0 (0, 0, 0)).2.1) && decide (0 ≤ (fx_nth (fx_fl K) 0 (0, 0, 0)).2.2) && decide ((fx_nth (fx_fl K) 0 (0, 0, 0)).2.1 * (fx_cnt K - 1) + (fx_nth (fx_fl K) 0 (0, 0, 0)).2.2 + (fx_len K - 1) < fx_cnt (fx_nth (fx_fl K) 0 (0, 0, 0)).1)) true) && decide ((fx_kt K).2.1 < 2147483648)
theorem fx_kc_ok : ∀ K, K < 63 → fx_kc K = true := by decide +kernel
theorem fx_aff {a b i n m : Int} (ha : 0 ≤ a) (hb : 0 ≤ b) (hi : 0 ≤ i) (h : i < n) (hm : a * (n - 1) + b < m) : 0 ≤ a * i + b ∧ a * i + b < m := by
  have h1 : a * i ≤ a * (n - 1) := Int.mul_le_mul_of_nonneg_left (by omega) ha
  have h2 : 0 ≤ a * i := Int.mul_nonneg ha hi
  omega
/-- what an object's cell holds, out of its own row -/
def fx_rf (ad : Nat → Nat → Nat) (q : Nat × Int × Int) (i j : Int) : Nat := ad q.1 (q.2.1 * i + q.2.2 + j).toNat
def fx_fv (ad : Nat → Nat → Nat) (ρ : Int → Int) (K i p : Nat) : Value := cond (Nat.beq (fx_nth (fx_fl K) p (0, 0, 0)).1 0) (.int (Int32.ofInt (ρ p))) (.ref (fx_rf ad (fx_nth (fx_fl K) p (0, 0, 0)) i 0))
def fx_Er (ad : Nat → Nat → Nat) (cy : Nat → ClassId) (ρ : Int → Int) (K i : Nat) : va_E :=
  cond (Nat.beq (fx_form K) 5) (.inr ((fx_kt K).2.1, (List.range (fx_fl K).length).map (fx_fv ad ρ K i)))
    (cond (Nat.blt (fx_form K) 2) (.inl (cy (fx_form K), (fx_kt K).2.1, .inl (fun j => Int32.ofInt (ρ j)))) (cond (Nat.beq (fx_form K) 6) (.inl (cy (fx_form K), (fx_kt K).2.1, .inr (.inl (fun j => Int64.ofInt (ρ j)))))
      (.inl (cy (fx_form K), (fx_kt K).2.1, .inr (.inr (.inr (.inr (fun j => some (fx_rf ad (fx_nth (fx_fl K) 0 (0, 0, 0)) i j)))))))))
def fx_all : List (Nat × Nat) := (List.range 52).flatMap (fun K => (List.range (fx_cnt (K + 10)).toNat).map (fun i => (K + 10, i)))
def fx_W (ad : Nat → Nat → Nat) (cy : Nat → ClassId) (σ : fx_S) : va_W := fx_all.map (fun q => (ad q.1 q.2, fx_Er ad cy (σ q.1 q.2) q.1 q.2))
def fx_A (ad : Nat → Nat → Nat) : Nat → Prop := fun q => ∃ r ∈ fx_all, ad r.1 r.2 = q
/-- the addresses are apart -/
def fx_ap (ad : Nat → Nat → Nat) : Prop := ∀ (i j : Nat) (q r : Nat × Nat), fx_all[i]? = some q → fx_all[j]? = some r → ad q.1 q.2 = ad r.1 r.2 → i = j
theorem fx_in {K i : Nat} (h1 : 10 ≤ K) (h0 : K < 62) (h : (i : Int) < fx_cnt K) : (K, i) ∈ fx_all := by
  obtain ⟨k, rfl⟩ : ∃ k, K = k + 10 := ⟨K - 10, by omega⟩
  exact List.mem_flatMap.mpr ⟨k, List.mem_range.mpr (by omega), List.mem_map.mpr ⟨i, List.mem_range.mpr (by omega), rfl⟩⟩
theorem fx_W_get {K i : Nat} (ad : Nat → Nat → Nat) (cy : Nat → ClassId) (σ : fx_S) (h : (K, i) ∈ fx_all) : ∃ k : Nat, fx_all[k]? = some (K, i) ∧ (fx_W ad cy σ)[k]? = some (ad K i, fx_Er ad cy (σ K i) K i) := by
  obtain ⟨k, hk⟩ := List.getElem?_of_mem h
  exact ⟨k, hk, by simp [fx_W, hk]⟩
theorem fx_WD {ad : Nat → Nat → Nat} {cy : Nat → ClassId} {σ : fx_S} (hap : fx_ap ad) : va_D (fx_A ad) (fx_W ad cy σ) := by
  have key : ∀ (k : Nat) (q : Nat × va_E), (fx_W ad cy σ)[k]? = some q → ∃ r, fx_all[k]? = some r ∧ ad r.1 r.2 = q.1 := by
    intro k q h
    simp only [fx_W, List.getElem?_map, Option.map_eq_some_iff] at h
    obtain ⟨r, hr, e⟩ := h
    exact ⟨r, hr, by rw [← e]⟩
  refine ⟨fun i j p q hp hq e => ?_, fun k q h => ?_⟩
  · obtain ⟨r1, h1, e1⟩ := key i p hp
    obtain ⟨r2, h2, e2⟩ := key j q hq
    exact hap i j r1 r2 h1 h2 (by rw [e1, e2, e])
  · obtain ⟨r, h1, e1⟩ := key k q h
    exact ⟨r, List.mem_of_getElem? h1, e1⟩
theorem fx_up_other {σ : fx_S} {K K' : Nat} {i i' j v : Int} (h : ¬ (K' = K ∧ i' = i)) : fx_up σ K i j v K' i' = σ K' i' := by
  funext j'
  unfold fx_up
  rw [if_neg fun q => h ⟨q.1, q.2.1⟩]
theorem fx_up_same (σ : fx_S) (K : Nat) (i j v j' : Int) : fx_up σ K i j v K i j' = if j' = j then v else σ K i j' := by
  unfold fx_up
  by_cases h : j' = j <;> simp [h]
theorem fx_W_set {ad : Nat → Nat → Nat} {cy : Nat → ClassId} {σ : fx_S} (hap : fx_ap ad) {K i k : Nat} {j v : Int} (hk : fx_all[k]? = some (K, i)) {e : va_E} (he : e = fx_Er ad cy (fx_up σ K i j v K i) K i) : (fx_W ad cy σ).set k (ad K i, e) = fx_W ad cy (fx_up σ K i j v) := by
  subst he
  have hl : k < (fx_W ad cy σ).length := by
    unfold fx_W
    rw [List.length_map]
    exact (List.getElem?_eq_some_iff.mp hk).1
  apply List.ext_getElem?
  intro n
  by_cases hn : n = k
  · subst hn
    rw [List.getElem?_set_self hl]
    simp [fx_W, hk]
  · rw [List.getElem?_set_ne (Ne.symm hn)]
    simp only [fx_W, List.getElem?_map]
    cases hq : fx_all[n]? with
    | none => rfl
    | some q =>
      obtain ⟨K', i'⟩ := q
      have hne : ¬ (K' = K ∧ (i' : Int) = (i : Int)) := by
        rintro ⟨rfl, h2⟩
        have h3 : i' = i := by omega
        subst h3
        exact hn (hap n k _ _ hq hk rfl)
      simp only [Option.map_some]
      rw [fx_up_other hne]
theorem fx_rgS_up {σ : fx_S} (h : fx_rgS σ) (K : Nat) (i j : Int) {v : Int} (hv : fx_rg v) : fx_rgS (fx_up σ K i j v) := by
  intro K' i' j'
  unfold fx_up
  split
  · exact hv
  · exact h K' i' j'
theorem fx_toI {x : Int} (h : fx_rg x) : (Int32.ofInt x).toInt = x := Int32.toInt_ofInt_of_le (by have := h.1; omega) (by have := h.2; omega)
theorem fx_ofI (x : Int32) : Int32.ofInt x.toInt = x := Int32.ofInt_toInt x
theorem fx_rgI (x : Int32) : fx_rg x.toInt := ⟨by have := Int32.le_toInt x; omega, by have := Int32.toInt_lt x; omega⟩
theorem fx_eqI {x y : Int} (hx : fx_rg x) (hy : fx_rg y) : Int32.ofInt x = Int32.ofInt y ↔ x = y := ⟨fun h => by rw [← fx_toI hx, ← fx_toI hy, h], fun h => by rw [h]⟩
theorem fx_ltI {x y : Int} (hx : fx_rg x) (hy : fx_rg y) : Int32.ofInt x < Int32.ofInt y ↔ x < y := by rw [Int32.lt_iff_toInt_lt, fx_toI hx, fx_toI hy]
theorem fx_leI {x y : Int} (hx : fx_rg x) (hy : fx_rg y) : Int32.ofInt x ≤ Int32.ofInt y ↔ x ≤ y := by rw [Int32.le_iff_toInt_le, fx_toI hx, fx_toI hy]
theorem fx_rg0 : fx_rg 0 := ⟨by omega, by omega⟩
theorem fx_ix {j : Int} {n : Nat} (h0 : 0 ≤ j) (h : j < n) (hn : n < 2147483648) : vp_in (Int32.ofInt j) n ∧ (Int32.ofInt j).toNatClampNeg = j.toNat := by
  have hr : fx_rg j := ⟨by omega, by omega⟩
  refine ⟨vp_in_iff.mpr ?_, ?_⟩
  · rw [fx_toI hr]
    exact ⟨h0, h⟩
  · unfold Int32.toNatClampNeg
    rw [fx_toI hr]
/-- the locals that hold something -/
def fx_la (ad : Nat → Nat → Nat) : Nat → List fx_V → List (Nat × Value)
  | _, [] => []
  | k, v :: L => cond (Nat.beq v.1 3) (fx_la ad (k + 1) L) ((k, fx_cv ad v) :: fx_la ad (k + 1) L)
theorem fx_la_mem (ad : Nat → Nat → Nat) : ∀ (L : List fx_V) (k : Nat) (q : Nat × Value), q ∈ fx_la ad k L ↔ ∃ (i : Nat) (v : fx_V), L[i]? = some v ∧ v.1 ≠ 3 ∧ q = (k + i, fx_cv ad v)
  | [], k, q => by simp [fx_la]
  | v :: L, k, q => by
    have ih := fx_la_mem ad L (k + 1) q
    have h1 : q ∈ fx_la ad k (v :: L) ↔ (v.1 ≠ 3 ∧ q = (k, fx_cv ad v)) ∨ q ∈ fx_la ad (k + 1) L := by
      rw [show fx_la ad k (v :: L) = cond (Nat.beq v.1 3) (fx_la ad (k + 1) L) ((k, fx_cv ad v) :: fx_la ad (k + 1) L) from rfl]
      by_cases h : v.1 = 3
      · rw [fx_bT h]
        simp [h]
      · rw [fx_bF h]
        simp [h]
    rw [h1, ih]
    constructor
    · rintro (⟨h2, h3⟩ | ⟨i, w, h2, h3, h4⟩)
      · exact ⟨0, v, rfl, h2, by simpa using h3⟩
      · exact ⟨i + 1, w, by simpa using h2, h3, by rw [h4]; congr 1; omega⟩
    · rintro ⟨i, w, h2, h3, h4⟩
      cases i with
      | zero =>
        have e : v = w := by simpa using h2
        subst e
        exact Or.inl ⟨h3, by simpa using h4⟩
      | succ i => exact Or.inr ⟨i, w, by simpa using h2, h3, by rw [h4]; congr 1; omega⟩
theorem fx_nth_L {L : List fx_V} {i : Nat} {v : fx_V} (h : fx_nth L i (3, 0) = v) (hv : v.1 ≠ 3) : L[i]? = some v := by
  by_cases hl : i < L.length
  · rw [fx_nth_get L i (3, 0) hl, h]
  · rw [fx_nth_ge L i (3, 0) (by omega)] at h
    exact absurd (by rw [← h]) hv
theorem fx_la_at {ad : Nat → Nat → Nat} {ls : Array Slot} {nL : Nat} {L : List fx_V} (h : lv_has ls nL (fx_la ad 0 L)) {i : Nat} {v : fx_V} (hi : fx_nth L i (3, 0) = v) (hv : v.1 ≠ 3) : ls[i]? = some (.val (fx_cv ad v)) :=
  h.2.2 (i, fx_cv ad v) ((fx_la_mem ad L 0 _).mpr ⟨i, v, fx_nth_L hi hv, hv, by simp⟩)
theorem fx_la_set {ad : Nat → Nat → Nat} {ls : Array Slot} {nL : Nat} {L : List fx_V} {i : Nat} {v : fx_V} (hL : fx_oL L) (h : lv_has ls nL ((i, fx_cv ad v) :: (fx_la ad 0 L).filter (fun q => !(q.1 == i) && !(q.1 + 1 == i && q.2.category == 2)))) : lv_has ls nL (fx_la ad 0 (L.set i v)) := by
  refine ⟨h.1, h.2.1, fun q hq => ?_⟩
  obtain ⟨j, w, h1, h2, h3⟩ := (fx_la_mem ad _ 0 q).mp hq
  simp only [Nat.zero_add] at h3
  subst h3
  by_cases e : j = i
  · subst e
    have hl : j < L.length := by
      have := (List.getElem?_eq_some_iff.mp h1).1
      simpa using this
    rw [List.getElem?_set_self hl] at h1
    have e2 : v = w := by simpa using h1
    subst e2
    exact h.2.2 _ List.mem_cons_self
  · rw [List.getElem?_set_ne (Ne.symm e)] at h1
    refine h.2.2 _ (List.mem_cons_of_mem _ (List.mem_filter.mpr ⟨(fx_la_mem ad L 0 _).mpr ⟨j, w, h1, h2, by simp⟩, ?_⟩))
    have h4 : w.1 ≠ 1 := by
      rcases hL w (List.mem_of_getElem? h1) with h5 | h5
      · exact h5.1
      · omega
    simp [e, fx_cat ad h4]
theorem fx_oL_set {L : List fx_V} (h : fx_oL L) (i : Nat) {v : fx_V} (h1 : v.1 ≠ 1) (hv : fx_o1 v) : fx_oL (L.set i v) := by
  intro w hw
  rcases List.mem_or_eq_of_mem_set hw with h2 | h2
  · exact h w h2
  · rw [h2]; exact Or.inl ⟨h1, hv⟩
theorem fx_oL_un {L : List fx_V} (h : fx_oL L) (i : Nat) : fx_oL (L.set i (3, 0)) := by
  intro w hw
  rcases List.mem_or_eq_of_mem_set hw with h2 | h2
  · exact h w h2
  · rw [h2]; exact Or.inr rfl
theorem fx_oL_nth {L : List fx_V} (h : fx_oL L) {i : Nat} {v : fx_V} (hi : fx_nth L i (3, 0) = v) (hv : v.1 ≠ 3) : fx_o1 v := by
  rcases h v (List.mem_of_getElem? (fx_nth_L hi hv)) with h1 | h1
  · exact h1.2
  · exact absurd h1 hv
theorem fx_oS_cons {v : fx_V} {L : List fx_V} : fx_oS (v :: L) ↔ fx_o1 v ∧ fx_oS L := by
  unfold fx_oS
  constructor
  · intro h
    exact ⟨h v List.mem_cons_self, fun w hw => h w (List.mem_cons_of_mem _ hw)⟩
  · rintro ⟨h1, h2⟩ w hw
    rcases List.mem_cons.mp hw with rfl | hw
    · exact h1
    · exact h2 w hw
theorem fx_fl_ok {K p : Nat} {i : Int} (hK : K < 63) (hf : fx_form K = 5) (hp : p < (fx_fl K).length) (hq : (fx_nth (fx_fl K) p (0, 0, 0)).1 ≠ 0) (h0 : 0 ≤ i) (h1 : i < fx_cnt K) :
    0 ≤ (fx_nth (fx_fl K) p (0, 0, 0)).2.1 * i + (fx_nth (fx_fl K) p (0, 0, 0)).2.2 ∧ (fx_nth (fx_fl K) p (0, 0, 0)).2.1 * i + (fx_nth (fx_fl K) p (0, 0, 0)).2.2 < fx_cnt (fx_nth (fx_fl K) p (0, 0, 0)).1 := by
  have h := fx_kc_ok K hK
  unfold fx_kc at h
  rw [hf, show Nat.beq 5 5 = true from rfl] at h
  simp only [cond_true, Bool.and_eq_true, List.all_eq_true, decide_eq_true_eq] at h
  have h2 := h.1.1.1.1 _ (fx_nth_in (l := fx_fl K) (n := p) (0, 0, 0) hp)
  rw [fx_bF hq] at h2
  simp only [Bool.false_or, Bool.and_eq_true, decide_eq_true_eq] at h2
  exact fx_aff h2.1.1 h2.1.2 h0 h1 h2.2
theorem fx_el_ok {K : Nat} {i j : Int} (hK : K < 63) (hf : 1 < fx_form K) (hf5 : fx_form K < 5) (h0 : 0 ≤ i) (h1 : i < fx_cnt K) (hj0 : 0 ≤ j) (hj : j < fx_len K) :
    0 ≤ (fx_nth (fx_fl K) 0 (0, 0, 0)).2.1 * i + (fx_nth (fx_fl K) 0 (0, 0, 0)).2.2 + j ∧ (fx_nth (fx_fl K) 0 (0, 0, 0)).2.1 * i + (fx_nth (fx_fl K) 0 (0, 0, 0)).2.2 + j < fx_cnt (fx_nth (fx_fl K) 0 (0, 0, 0)).1 := by
  have h := fx_kc_ok K hK
  unfold fx_kc at h
  rw [fx_bF (a := fx_form K) (b := 5) (by omega), show Nat.blt 1 (fx_form K) = true from Nat.ble_eq_true_of_le hf, show Nat.blt (fx_form K) 5 = true from Nat.ble_eq_true_of_le hf5] at h
  simp only [cond_false, cond_true, Bool.and_eq_true, Bool.and_self, decide_eq_true_eq] at h
  obtain ⟨⟨⟨ha, hb⟩, hc⟩, -⟩ := h
  have h2 : (fx_nth (fx_fl K) 0 (0, 0, 0)).2.1 * i ≤ (fx_nth (fx_fl K) 0 (0, 0, 0)).2.1 * (fx_cnt K - 1) := Int.mul_le_mul_of_nonneg_left (by omega) ha
  have h3 : 0 ≤ (fx_nth (fx_fl K) 0 (0, 0, 0)).2.1 * i := Int.mul_nonneg ha h0
  omega
theorem fx_len_ok {K : Nat} (hK : K < 63) : (fx_kt K).2.1 < 2147483648 := by
  have h := fx_kc_ok K hK
  unfold fx_kc at h
  simp only [Bool.and_eq_true, decide_eq_true_eq] at h
  exact h.2
