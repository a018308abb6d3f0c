section FXW
variable {mi pc : Nat} {L L' st : List fx_V} {σ : fx_S} {Q : fx_V → fx_S → Prop} {c : fx_C} {q : fx_Q} {sw : List (Int × Nat)} {len : Nat}
theorem wi_lconst (hm : fx_code mi = c) {n : Fin 2} (he : fx_at c pc = (pc, len, .lconst n, q, sw)) {pc' : Nat} (hp : pc + 1 = pc') {v : Int} (hv : q.2.2.2.1 = v) (k : fx_Wp mi pc' L ((1, v) :: st) σ Q) : fx_Wp mi pc L st σ Q := by
  subst hp
  subst hv
  exact fx_w1 ((fx_wE hm he).trans rfl) k
theorem wi_i2l (hm : fx_code mi = c) (he : fx_at c pc = (pc, len, .i2l, q, sw)) {pc' : Nat} (hp : pc + 1 = pc') {x : Int} (k : fx_Wp mi pc' L ((1, x) :: st) σ Q) : fx_Wp mi pc L ((0, x) :: st) σ Q := by
  subst hp
  exact fx_w1 ((fx_wE hm he).trans rfl) k
theorem wi_lcmp (hm : fx_code mi = c) (he : fx_at c pc = (pc, len, .lcmp, q, sw)) {pc' : Nat} (hp : pc + 1 = pc') {x y : Int} (k : fx_Wp mi pc' L ((0, fx_cmp x y) :: st) σ Q) : fx_Wp mi pc L ((1, y) :: (1, x) :: st) σ Q := by
  subst hp
  exact fx_w1 ((fx_wE hm he).trans rfl) k
theorem wi_laload (hm : fx_code mi = c) (he : fx_at c pc = (pc, len, .laload, q, sw)) {pc' : Nat} (hp : pc + 1 = pc') {K : Nat} {i j : Int} (hf : fx_form K = 6) {N : Int} (hN : fx_len K = N) (hj : 0 ≤ j ∧ j < N) (k : fx_Wp mi pc' L ((1, σ K i j) :: st) σ Q) : fx_Wp mi pc L ((0, j) :: (K, i) :: st) σ Q := by
  subst hp
  exact fx_w1 ((fx_wE hm he).trans (fx_arrE hf (by rw [hN]; exact hj))) k
theorem wi_lastore (hm : fx_code mi = c) (he : fx_at c pc = (pc, len, .lastore, q, sw)) {pc' : Nat} (hp : pc + 1 = pc') {K : Nat} {i j v : Int} (hf : fx_form K = 6) {N : Int} (hN : fx_len K = N) (hj : 0 ≤ j ∧ j < N) (k : fx_Wp mi pc' L st (fx_up σ K i j v) Q) : fx_Wp mi pc L ((1, v) :: (0, j) :: (K, i) :: st) σ Q := by
  subst hp
  exact fx_w1 ((fx_wE hm he).trans (fx_arrE hf (by rw [hN]; exact hj))) k
theorem wi_slen (hm : fx_code mi = c) (he : fx_at c pc = (pc, len, .arraylength, q, sw)) {pc' : Nat} (hp : pc + 1 = pc') {i : Int} (k : fx_Wp mi pc' L ((0, σ 9 0 (-1)) :: st) σ Q) : fx_Wp mi pc L ((9, i) :: st) σ Q := by
  subst hp
  exact fx_w1 ((fx_wE hm he).trans rfl) k
/-- a call, of a method that has handlers -/
theorem fx_w3h {mj : Nat} {as rest : List fx_V} (hmj : mj < 500) (h : fx_step (fx_code mi) fx_rk pc L st σ = some (.inr (.inr (mj, as, rest))))
    (k : fx_Ca mj as σ (fun v σ' => (v.1 = 5 → (fx_hd mi v.2 = none ∧ Q v σ') ∨ ∃ hp i, fx_hd mi v.2 = some (hp, i) ∧ fx_Wp mi hp (L.set i (3, 0)) [] σ' Q) ∧ (v.1 ≠ 5 → fx_Wp mi (pc + 3) L (cond (Nat.beq v.1 4) rest (v :: rest)) σ' Q))) : fx_Wp mi pc L st σ Q := by
  obtain ⟨n, v, σ', kk, h1, h2, h3⟩ := k
  have hb : Nat.ble 500 mj = false := by
    cases hb : Nat.ble 500 mj
    · rfl
    · have := Nat.le_of_ble_eq_true hb; omega
  by_cases h5 : v.1 = 5
  · rcases h2 h5 with ⟨hd, hq⟩ | ⟨hp, i, hd, ⟨n2, v2, σ2, k2, g1, g2⟩⟩
    · refine ⟨n + 1, v, σ', kk, ?_, hq⟩
      unfold fx_run
      rw [h]
      simp only [hb, cond_false, h1]
      rw [fx_bT h5, cond_true, hd]
    · refine ⟨max n n2 + 1, v2, σ2, kk + k2, ?_, g2⟩
      unfold fx_run
      rw [h]
      simp only [hb, cond_false, fx_mono (Nat.le_max_left n n2) h1]
      rw [fx_bT h5, cond_true, hd]
      simp only
      rw [fx_mono (Nat.le_max_right n n2) g1]
  · obtain ⟨n2, v2, σ2, k2, g1, g2⟩ := h3 h5
    refine ⟨max n n2 + 1, v2, σ2, kk + k2, ?_, g2⟩
    unfold fx_run
    rw [h]
    simp only [hb, cond_false, fx_mono (Nat.le_max_left n n2) h1]
    rw [fx_bF h5, cond_false, fx_mono (Nat.le_max_right n n2) g1]
theorem wc_Ih {pc' : Nat} (hp : pc + 3 = pc') {mj : Nat} {as rest : List fx_V} (hmj : mj < 500) (h : fx_step (fx_code mi) fx_rk pc L st σ = some (.inr (.inr (mj, as, rest)))) {C : Int → fx_S → Prop} {X : fx_V → fx_S → Prop} (hc : fx_CI mj as σ X C) (k : ∀ x σ', C x σ' → fx_Wp mi pc' L ((0, x) :: rest) σ' Q)
    (kx : ∀ (v : fx_V) (σ' : fx_S), v.1 = 5 → X v σ' → (fx_hd mi v.2 = none ∧ Q v σ') ∨ ∃ hp i, fx_hd mi v.2 = some (hp, i) ∧ fx_Wp mi hp (L.set i (3, 0)) [] σ' Q) : fx_Wp mi pc L st σ Q := by
  subst hp
  refine fx_w3h hmj h (hc.mono fun v σ' hv => ?_)
  rcases hv with ⟨h0, h1⟩ | ⟨h0, h1⟩
  · refine ⟨fun z => by omega, fun _ => ?_⟩
    obtain ⟨v1, x⟩ := v
    simp only at h0
    subst h0
    exact k x σ' h1
  · exact ⟨fun z => kx v σ' z h1, fun z => absurd h0 z⟩
theorem wc_In {pc' : Nat} (hn : fx_nth fx_hds (mi - 261) [] = []) (hp : pc + 3 = pc') {mj : Nat} {as rest : List fx_V} (hmj : mj < 500) (h : fx_step (fx_code mi) fx_rk pc L st σ = some (.inr (.inr (mj, as, rest)))) {C : Int → fx_S → Prop} (hc : fx_CI mj as σ Q C) (k : ∀ x σ', C x σ' → fx_Wp mi pc' L ((0, x) :: rest) σ' Q) : fx_Wp mi pc L st σ Q :=
  wc_Ih hp hmj h hc k (fun v σ' _ hq => Or.inl ⟨by unfold fx_hd; rw [hn]; cases Nat.ble 261 mi <;> rfl, hq⟩)
theorem wc_Vn {pc' : Nat} (hn : fx_nth fx_hds (mi - 261) [] = []) (hp : pc + 3 = pc') {mj : Nat} {as rest : List fx_V} (hmj : mj < 500) (h : fx_step (fx_code mi) fx_rk pc L st σ = some (.inr (.inr (mj, as, rest)))) {C : fx_S → Prop} (hc : fx_CV mj as σ Q C) (k : ∀ σ', C σ' → fx_Wp mi pc' L rest σ' Q) : fx_Wp mi pc L st σ Q := by
  subst hp
  refine fx_w3h hmj h (hc.mono fun v σ' hv => ?_)
  rcases hv with ⟨h0, h1⟩ | ⟨h0, h1⟩
  · refine ⟨fun z => by omega, fun _ => ?_⟩
    rw [fx_bT h0]
    exact k σ' h1
  · exact ⟨fun z => Or.inl ⟨by unfold fx_hd; rw [hn]; cases Nat.ble 261 mi <;> rfl, h1⟩, fun z => absurd h0 z⟩
end FXW
