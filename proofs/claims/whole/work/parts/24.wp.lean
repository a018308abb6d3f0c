theorem fx_mono1 : ∀ (n mi : Nat) (T : fx_T) (r : fx_V × fx_S × Nat), fx_run n mi T = some r → fx_run (n + 1) mi T = some r
  | 0, _, _, _, h => by cases h
  | n + 1, mi, (pc, L, st, σ), r, h => by
    unfold fx_run at h ⊢
    split at h
    · cases h
    · next T' eT => exact fx_mono1 n mi T' r h
    · next w eT => exact h
    · next mj as rest eT =>
      split at h
      · cases h
      · next w σ1 k1 e1 =>
        cases hp : Nat.ble 500 mj with
        | true =>
          rw [hp, cond_true] at e1
          rw [cond_true, e1]
          simp only
          cases hb : Nat.beq w.1 5 with
          | true =>
            rw [hb, cond_true] at h
            rw [cond_true]
            split at h
            · exact h
            · next hp i eh =>
              split at h
              · cases h
              · next w' σ2 k2 e3 => rw [fx_mono1 n mi _ _ e3]; exact h
          | false =>
            rw [hb, cond_false] at h
            rw [cond_false]
            split at h
            · cases h
            · next w' σ2 k2 e3 => rw [fx_mono1 n mi _ _ e3]; exact h
        | false =>
          rw [hp, cond_false] at e1
          rw [cond_false, fx_mono1 n mj _ _ e1]
          simp only
          cases hb : Nat.beq w.1 5 with
          | true =>
            rw [hb, cond_true] at h
            rw [cond_true]
            split at h
            · exact h
            · next hp i eh =>
              split at h
              · cases h
              · next w' σ2 k2 e3 => rw [fx_mono1 n mi _ _ e3]; exact h
          | false =>
            rw [hb, cond_false] at h
            rw [cond_false]
            split at h
            · cases h
            · next w' σ2 k2 e3 => rw [fx_mono1 n mi _ _ e3]; exact h
theorem fx_mono {n n' mi : Nat} {T : fx_T} {r : fx_V × fx_S × Nat} (hn : n ≤ n') (h : fx_run n mi T = some r) : fx_run n' mi T = some r := by
  induction hn with
  | refl => exact h
  | step _ ih => exact fx_mono1 _ _ _ _ ih
def fx_Wp (mi pc : Nat) (L st : List fx_V) (σ : fx_S) (Q : fx_V → fx_S → Prop) : Prop := ∃ (n : Nat) (v : fx_V) (σ' : fx_S) (k : Nat), fx_run n mi (pc, L, st, σ) = some (v, σ', k) ∧ Q v σ'
theorem fx_Wp.mono {mi pc : Nat} {L st : List fx_V} {σ : fx_S} {Q Q' : fx_V → fx_S → Prop} (h : fx_Wp mi pc L st σ Q) (hq : ∀ v σ', Q v σ' → Q' v σ') : fx_Wp mi pc L st σ Q' := by
  obtain ⟨n, v, σ', k, h1, h2⟩ := h
  exact ⟨n, v, σ', k, h1, hq _ _ h2⟩
/-- a method, called -/
noncomputable def fx_Ca (mj : Nat) (as : List fx_V) (σ : fx_S) (Q : fx_V → fx_S → Prop) : Prop := fx_Wp mj 0 (fx_pad (fx_m mj).2.2.1 as) [] σ Q
/-- a call whose answer is a number; nothing; an object of kind K -/
noncomputable def fx_CI (mj : Nat) (as : List fx_V) (σ : fx_S) (Q : fx_V → fx_S → Prop) (C : Int → fx_S → Prop) : Prop := fx_Ca mj as σ (fun v σ' => (v.1 = 0 ∧ C v.2 σ') ∨ (v.1 = 5 ∧ Q v σ'))
noncomputable def fx_CV (mj : Nat) (as : List fx_V) (σ : fx_S) (Q : fx_V → fx_S → Prop) (C : fx_S → Prop) : Prop := fx_Ca mj as σ (fun v σ' => (v.1 = 4 ∧ C σ') ∨ (v.1 = 5 ∧ Q v σ'))
noncomputable def fx_CR (K mj : Nat) (as : List fx_V) (σ : fx_S) (Q : fx_V → fx_S → Prop) (C : Int → fx_S → Prop) : Prop := fx_Ca mj as σ (fun v σ' => (v.1 = K ∧ K ≠ 4 ∧ K ≠ 5 ∧ C v.2 σ') ∨ (v.1 = 5 ∧ Q v σ'))
section FXW
variable {mi pc : Nat} {L L' st : List fx_V} {σ : fx_S} {Q : fx_V → fx_S → Prop} {c : fx_C} {q : fx_Q} {sw : List (Int × Nat)} {len : Nat}
theorem fx_w1 {pc' : Nat} {L' st' : List fx_V} {σ' : fx_S} (h : fx_step (fx_code mi) fx_rk pc L st σ = some (.inl (pc', L', st', σ'))) (k : fx_Wp mi pc' L' st' σ' Q) : fx_Wp mi pc L st σ Q := by
  obtain ⟨n, v, σ2, kk, h1, h2⟩ := k
  refine ⟨n + 1, v, σ2, kk, ?_, h2⟩
  unfold fx_run
  rw [h]
  exact h1
theorem fx_w2 {v : fx_V} (h : fx_step (fx_code mi) fx_rk pc L st σ = some (.inr (.inl v))) (k : Q v σ) : fx_Wp mi pc L st σ Q := by
  refine ⟨1, v, σ, cond (Nat.beq v.1 5) 1 0, ?_, k⟩
  unfold fx_run
  rw [h]
theorem fx_w3 (hmi : mi < 261) {mj : Nat} {as rest : List fx_V} (hmj : mj < 500) (h : fx_step (fx_code mi) fx_rk pc L st σ = some (.inr (.inr (mj, as, rest))))
    (k : fx_Ca mj as σ (fun v σ' => (v.1 = 5 → Q v σ') ∧ (v.1 ≠ 5 → fx_Wp mi (pc + 3) L (cond (Nat.beq v.1 4) rest (v :: rest)) σ' Q))) : fx_Wp mi pc L st σ Q := by
  obtain ⟨n, v, σ', kk, h1, h2, h3⟩ := k
  have hb : Nat.ble 500 mj = false := by
    cases hb : Nat.ble 500 mj
    · rfl
    · have := Nat.le_of_ble_eq_true hb; omega
  by_cases h5 : v.1 = 5
  · refine ⟨n + 1, v, σ', kk, ?_, h2 h5⟩
    unfold fx_run
    rw [h]
    simp only [hb, cond_false, h1]
    rw [fx_bT h5, cond_true]
    have : fx_hd mi v.2 = none := by
      unfold fx_hd
      rw [show Nat.ble 261 mi = false by cases hc : Nat.ble 261 mi; rfl; have := Nat.le_of_ble_eq_true hc; omega]
      rfl
    rw [this]
  · obtain ⟨n2, v2, σ2, k2, g1, g2⟩ := h3 h5
    refine ⟨max n n2 + 1, v2, σ2, kk + k2, ?_, g2⟩
    unfold fx_run
    rw [h]
    simp only [hb, cond_false, fx_mono (Nat.le_max_left n n2) h1]
    rw [fx_bF h5, cond_false, fx_mono (Nat.le_max_right n n2) g1]
theorem fx_w4 {mj : Nat} {as rest : List fx_V} {x : Int} (hmj : 500 ≤ mj) (h : fx_step (fx_code mi) fx_rk pc L st σ = some (.inr (.inr (mj, as, rest)))) (hp : fx_prim mj as = some (0, x)) (k : fx_Wp mi (pc + 3) L ((0, x) :: rest) σ Q) : fx_Wp mi pc L st σ Q := by
  obtain ⟨n, v, σ', kk, h1, h2⟩ := k
  refine ⟨n + 1, v, σ', 0 + kk, ?_, h2⟩
  unfold fx_run
  rw [h]
  simp only [show Nat.ble 500 mj = true from Nat.ble_eq_true_of_le hmj, cond_true, hp]
  have e5 : Nat.beq ((0, x) : fx_V).1 5 = false := rfl
  have e4 : Nat.beq ((0, x) : fx_V).1 4 = false := rfl
  simp only [e5, e4, cond_false, h1]
theorem fx_wE (hm : fx_code mi = c) {ins : Instr} (he : fx_at c pc = (pc, len, ins, q, sw)) : fx_step (fx_code mi) fx_rk pc L st σ = fx_exe ins q sw fx_rk pc L st σ := by
  unfold fx_step
  rw [hm, he]
theorem wi_iconst (hm : fx_code mi = c) {n : Int} (he : fx_at c pc = (pc, len, .iconst n, q, sw)) {pc' : Nat} (hp : pc + 1 = pc') {v : Int} (hv : q.2.2.2.1 = v) (k : fx_Wp mi pc' L ((0, v) :: st) σ Q) : fx_Wp mi pc L st σ Q := by
  subst hp
  subst hv
  exact fx_w1 ((fx_wE hm he).trans rfl) k
theorem wi_bipush (hm : fx_code mi = c) {n : Int} (he : fx_at c pc = (pc, len, .bipush n, q, sw)) {pc' : Nat} (hp : pc + 2 = pc') {v : Int} (hv : q.2.2.2.1 = v) (k : fx_Wp mi pc' L ((0, v) :: st) σ Q) : fx_Wp mi pc L st σ Q := by
  subst hp
  subst hv
  exact fx_w1 ((fx_wE hm he).trans rfl) k
theorem wi_sipush (hm : fx_code mi = c) {n : Int} (he : fx_at c pc = (pc, len, .sipush n, q, sw)) {pc' : Nat} (hp : pc + 3 = pc') {v : Int} (hv : q.2.2.2.1 = v) (k : fx_Wp mi pc' L ((0, v) :: st) σ Q) : fx_Wp mi pc L st σ Q := by
  subst hp
  subst hv
  exact fx_w1 ((fx_wE hm he).trans rfl) k
theorem wi_ldc (hm : fx_code mi = c) {n : Nat} (he : fx_at c pc = (pc, len, .ldc n, q, sw)) {pc' : Nat} (hp : pc + 2 = pc') {v : Int} (hk : q.1 = 62) (hv : q.2.2.2.1 = v) (k : fx_Wp mi pc' L ((62, v) :: st) σ Q) : fx_Wp mi pc L st σ Q := by
  subst hp
  subst hv
  rw [← hk] at k
  exact fx_w1 ((fx_wE hm he).trans rfl) k
theorem wi_ldc_w (hm : fx_code mi = c) {n : Nat} (he : fx_at c pc = (pc, len, .ldc_w n, q, sw)) {pc' : Nat} (hp : pc + 3 = pc') {v : Int} (hk : q.1 = 62) (hv : q.2.2.2.1 = v) (k : fx_Wp mi pc' L ((62, v) :: st) σ Q) : fx_Wp mi pc L st σ Q := by
  subst hp
  subst hv
  rw [← hk] at k
  exact fx_w1 ((fx_wE hm he).trans rfl) k
theorem fx_ld0 {i pc' : Nat} {x : Int} (hl : fx_nth L i (3, 0) = (0, x)) : fx_load 0 i pc' L st σ = fx_go pc' L ((0, x) :: st) σ := by unfold fx_load; rw [hl]; rfl
theorem fx_ld1 {i pc' K : Nat} {x : Int} (hK : 8 < K) (hl : fx_nth L i (3, 0) = (K, x)) : fx_load 1 i pc' L st σ = fx_go pc' L ((K, x) :: st) σ := by
  unfold fx_load
  rw [hl]
  obtain ⟨j, rfl⟩ : ∃ j, K = j + 1 := ⟨K - 1, by omega⟩
  show cond (Nat.blt 8 (j + 1) && Nat.beq 1 1) _ none = _
  rw [show Nat.blt 8 (j + 1) = true from Nat.ble_eq_true_of_le hK]
  rfl
theorem wi_iload_n (hm : fx_code mi = c) {n : Fin 4} (he : fx_at c pc = (pc, len, .iload_n n, q, sw)) {pc' : Nat} (hp : pc + 1 = pc') {x : Int} (hl : fx_nth L n (3, 0) = (0, x)) (k : fx_Wp mi pc' L ((0, x) :: st) σ Q) : fx_Wp mi pc L st σ Q := by
  subst hp
  exact fx_w1 ((fx_wE hm he).trans (fx_ld0 hl)) k
theorem wi_iload (hm : fx_code mi = c) {n : Nat} (he : fx_at c pc = (pc, len, .iload n, q, sw)) {pc' : Nat} (hp : pc + 2 = pc') {x : Int} (hl : fx_nth L n (3, 0) = (0, x)) (k : fx_Wp mi pc' L ((0, x) :: st) σ Q) : fx_Wp mi pc L st σ Q := by
  subst hp
  exact fx_w1 ((fx_wE hm he).trans (fx_ld0 hl)) k
theorem wi_aload_n (hm : fx_code mi = c) {n : Fin 4} (he : fx_at c pc = (pc, len, .aload_n n, q, sw)) {pc' : Nat} (hp : pc + 1 = pc') {K : Nat} {x : Int} (hl : fx_nth L n (3, 0) = (K, x)) (hK : 8 < K) (k : fx_Wp mi pc' L ((K, x) :: st) σ Q) : fx_Wp mi pc L st σ Q := by
  subst hp
  exact fx_w1 ((fx_wE hm he).trans (fx_ld1 hK hl)) k
theorem wi_aload (hm : fx_code mi = c) {n : Nat} (he : fx_at c pc = (pc, len, .aload n, q, sw)) {pc' : Nat} (hp : pc + 2 = pc') {K : Nat} {x : Int} (hl : fx_nth L n (3, 0) = (K, x)) (hK : 8 < K) (k : fx_Wp mi pc' L ((K, x) :: st) σ Q) : fx_Wp mi pc L st σ Q := by
  subst hp
  exact fx_w1 ((fx_wE hm he).trans (fx_ld1 hK hl)) k
theorem wi_istore_n (hm : fx_code mi = c) {n : Fin 4} (he : fx_at c pc = (pc, len, .istore_n n, q, sw)) {pc' : Nat} (hp : pc + 1 = pc') {x : Int} (hL : L.set n (0, x) = L') (k : fx_Wp mi pc' L' st σ Q) : fx_Wp mi pc L ((0, x) :: st) σ Q := by
  subst hp
  exact fx_w1 ((fx_wE hm he).trans rfl) (by rw [hL]; exact k)
theorem wi_istore (hm : fx_code mi = c) {n : Nat} (he : fx_at c pc = (pc, len, .istore n, q, sw)) {pc' : Nat} (hp : pc + 2 = pc') {x : Int} (hL : L.set n (0, x) = L') (k : fx_Wp mi pc' L' st σ Q) : fx_Wp mi pc L ((0, x) :: st) σ Q := by
  subst hp
  exact fx_w1 ((fx_wE hm he).trans rfl) (by rw [hL]; exact k)
theorem fx_cT {b : Bool} {r t : Option fx_R} (h : b = true) : cond b r t = r := by rw [h]; rfl
theorem fx_cF {b : Bool} {r t : Option fx_R} (h : b = false) : cond b r t = t := by rw [h]; rfl
theorem wi_astore_n (hm : fx_code mi = c) {n : Fin 4} (he : fx_at c pc = (pc, len, .astore_n n, q, sw)) {pc' : Nat} (hp : pc + 1 = pc') {K : Nat} {x : Int} (hK : 8 < K) (hL : L.set n (K, x) = L') (k : fx_Wp mi pc' L' st σ Q) : fx_Wp mi pc L ((K, x) :: st) σ Q := by
  subst hp
  exact fx_w1 ((fx_wE hm he).trans (fx_cT (Nat.ble_eq_true_of_le hK))) (by rw [hL]; exact k)
theorem wi_astore (hm : fx_code mi = c) {n : Nat} (he : fx_at c pc = (pc, len, .astore n, q, sw)) {pc' : Nat} (hp : pc + 2 = pc') {K : Nat} {x : Int} (hK : 8 < K) (hL : L.set n (K, x) = L') (k : fx_Wp mi pc' L' st σ Q) : fx_Wp mi pc L ((K, x) :: st) σ Q := by
  subst hp
  exact fx_w1 ((fx_wE hm he).trans (fx_cT (Nat.ble_eq_true_of_le hK))) (by rw [hL]; exact k)
theorem fx_addE {x y : Int} (h : fx_rg (x + y)) (hx : fx_rg x) (hy : fx_rg y) : fx_add x y = x + y := by
  unfold fx_add
  rw [← Int32.ofInt_add]
  exact fx_toI h
theorem fx_addE' {x y : Int} (h : fx_rg (x + y)) : fx_add x y = x + y := by
  unfold fx_add
  rw [← Int32.ofInt_add]
  exact fx_toI h
theorem fx_subE {x y : Int} (h : fx_rg (x - y)) : fx_sub x y = x - y := by
  unfold fx_sub
  rw [← Int32.ofInt_sub]
  exact fx_toI h
theorem fx_mulE {x y : Int} (h : fx_rg (x * y)) : fx_mul x y = x * y := by
  unfold fx_mul
  rw [← Int32.ofInt_mul]
  exact fx_toI h
theorem wi_iinc (hm : fx_code mi = c) {i : Nat} {n : Int} (he : fx_at c pc = (pc, len, .iinc i n, q, sw)) {pc' : Nat} (hp : pc + 3 = pc') {x : Int} (hl : fx_nth L i (3, 0) = (0, x)) (hr : fx_rg (x + n)) (hL : L.set i (0, x + n) = L') (k : fx_Wp mi pc' L' st σ Q) : fx_Wp mi pc L st σ Q := by
  subst hp
  exact fx_w1 ((fx_wE hm he).trans (by show fx_num (fx_nth L i (3, 0)) _ = _; rw [hl]; show fx_go _ (L.set i (0, fx_add x n)) _ _ = _; rw [fx_addE' hr, hL]; rfl)) k
theorem wi_iadd (hm : fx_code mi = c) (he : fx_at c pc = (pc, len, .iadd, q, sw)) {pc' : Nat} (hp : pc + 1 = pc') {x y : Int} (hr : fx_rg (x + y)) (k : fx_Wp mi pc' L ((0, x + y) :: st) σ Q) : fx_Wp mi pc L ((0, y) :: (0, x) :: st) σ Q := by
  subst hp
  exact fx_w1 ((fx_wE hm he).trans rfl) (by rw [fx_addE' hr]; exact k)
theorem wi_isub (hm : fx_code mi = c) (he : fx_at c pc = (pc, len, .isub, q, sw)) {pc' : Nat} (hp : pc + 1 = pc') {x y : Int} (hr : fx_rg (x - y)) (k : fx_Wp mi pc' L ((0, x - y) :: st) σ Q) : fx_Wp mi pc L ((0, y) :: (0, x) :: st) σ Q := by
  subst hp
  exact fx_w1 ((fx_wE hm he).trans rfl) (by rw [fx_subE hr]; exact k)
theorem wi_imul (hm : fx_code mi = c) (he : fx_at c pc = (pc, len, .imul, q, sw)) {pc' : Nat} (hp : pc + 1 = pc') {x y : Int} (hr : fx_rg (x * y)) (k : fx_Wp mi pc' L ((0, x * y) :: st) σ Q) : fx_Wp mi pc L ((0, y) :: (0, x) :: st) σ Q := by
  subst hp
  exact fx_w1 ((fx_wE hm he).trans rfl) (by rw [fx_mulE hr]; exact k)
theorem wi_idiv (hm : fx_code mi = c) (he : fx_at c pc = (pc, len, .idiv, q, sw)) {pc' : Nat} (hp : pc + 1 = pc') {x y : Int} (hr : y ≠ 0) (k : fx_Wp mi pc' L ((0, fx_div x y) :: st) σ Q) : fx_Wp mi pc L ((0, y) :: (0, x) :: st) σ Q := by
  subst hp
  exact fx_w1 ((fx_wE hm he).trans (if_neg hr)) k
theorem wi_irem (hm : fx_code mi = c) (he : fx_at c pc = (pc, len, .irem, q, sw)) {pc' : Nat} (hp : pc + 1 = pc') {x y : Int} (hr : y ≠ 0) (k : fx_Wp mi pc' L ((0, fx_rem x y) :: st) σ Q) : fx_Wp mi pc L ((0, y) :: (0, x) :: st) σ Q := by
  subst hp
  exact fx_w1 ((fx_wE hm he).trans (if_neg hr)) k
theorem wi_iand (hm : fx_code mi = c) (he : fx_at c pc = (pc, len, .iand, q, sw)) {pc' : Nat} (hp : pc + 1 = pc') {x y : Int} (k : fx_Wp mi pc' L ((0, fx_and x y) :: st) σ Q) : fx_Wp mi pc L ((0, y) :: (0, x) :: st) σ Q := by
  subst hp
  exact fx_w1 ((fx_wE hm he).trans rfl) k
theorem wi_ior (hm : fx_code mi = c) (he : fx_at c pc = (pc, len, .ior, q, sw)) {pc' : Nat} (hp : pc + 1 = pc') {x y : Int} (k : fx_Wp mi pc' L ((0, fx_or x y) :: st) σ Q) : fx_Wp mi pc L ((0, y) :: (0, x) :: st) σ Q := by
  subst hp
  exact fx_w1 ((fx_wE hm he).trans rfl) k
theorem wi_ishl (hm : fx_code mi = c) (he : fx_at c pc = (pc, len, .ishl, q, sw)) {pc' : Nat} (hp : pc + 1 = pc') {x y : Int} (k : fx_Wp mi pc' L ((0, fx_shl x y) :: st) σ Q) : fx_Wp mi pc L ((0, y) :: (0, x) :: st) σ Q := by
  subst hp
  exact fx_w1 ((fx_wE hm he).trans rfl) k
theorem wi_iushr (hm : fx_code mi = c) (he : fx_at c pc = (pc, len, .iushr, q, sw)) {pc' : Nat} (hp : pc + 1 = pc') {x y : Int} (k : fx_Wp mi pc' L ((0, fx_ushr x y) :: st) σ Q) : fx_Wp mi pc L ((0, y) :: (0, x) :: st) σ Q := by
  subst hp
  exact fx_w1 ((fx_wE hm he).trans rfl) k
theorem wi_dup (hm : fx_code mi = c) (he : fx_at c pc = (pc, len, .dup, q, sw)) {pc' : Nat} (hp : pc + 1 = pc') {K : Nat} {x : Int} (hK : Nat.beq K 1 = false) (k : fx_Wp mi pc' L ((K, x) :: (K, x) :: st) σ Q) : fx_Wp mi pc L ((K, x) :: st) σ Q := by
  subst hp
  exact fx_w1 ((fx_wE hm he).trans (fx_cF hK)) k
theorem wi_dup2 (hm : fx_code mi = c) (he : fx_at c pc = (pc, len, .dup2, q, sw)) {pc' : Nat} (hp : pc + 1 = pc') {K K' : Nat} {x x' : Int} (hK : (Nat.beq K 1 || Nat.beq K' 1) = false) (k : fx_Wp mi pc' L ((K, x) :: (K', x') :: (K, x) :: (K', x') :: st) σ Q) : fx_Wp mi pc L ((K, x) :: (K', x') :: st) σ Q := by
  subst hp
  exact fx_w1 ((fx_wE hm he).trans (fx_cF hK)) k
theorem wi_pop (hm : fx_code mi = c) (he : fx_at c pc = (pc, len, .pop, q, sw)) {pc' : Nat} (hp : pc + 1 = pc') {K : Nat} {x : Int} (hK : Nat.beq K 1 = false) (k : fx_Wp mi pc' L st σ Q) : fx_Wp mi pc L ((K, x) :: st) σ Q := by
  subst hp
  exact fx_w1 ((fx_wE hm he).trans (fx_cF hK)) k
theorem fx_upK {σ : fx_S} {K K' : Nat} {i j i' j' v : Int} (h : Nat.beq K' K = false) : fx_up σ K i j v K' i' j' = σ K' i' j' := by
  unfold fx_up
  rw [if_neg]
  rintro ⟨e, -⟩
  rw [e, Nat.beq_refl] at h
  cases h
theorem fx_upI {σ : fx_S} {K K' : Nat} {i j i' j' v : Int} (h : i' ≠ i) : fx_up σ K i j v K' i' j' = σ K' i' j' := if_neg (fun e => h e.2.1)
theorem fx_upJ {σ : fx_S} {K K' : Nat} {i j i' j' v : Int} (h : j' ≠ j) : fx_up σ K i j v K' i' j' = σ K' i' j' := if_neg (fun e => h e.2.2)
theorem fx_upS {σ : fx_S} {K : Nat} {i j v : Int} : fx_up σ K i j v K i j = v := if_pos ⟨rfl, rfl, rfl⟩
theorem wi_getI (hm : fx_code mi = c) {n K p : Nat} {x1 x2 : Int} (he : fx_at c pc = (pc, len, .getfield n, (0, K, p, x1, x2), sw)) {pc' : Nat} (hp : pc + 3 = pc') {P : Int} (hP : ((p : Nat) : Int) = P) {i : Int} (k : fx_Wp mi pc' L ((0, σ K i P) :: st) σ Q) : fx_Wp mi pc L ((K, i) :: st) σ Q := by
  subst hp
  subst hP
  exact fx_w1 ((fx_wE hm he).trans ((fx_cT (Nat.beq_refl K)).trans rfl)) k
theorem wi_getIe (hm : fx_code mi = c) {n K p : Nat} {x1 x2 : Int} (he : fx_at c pc = (pc, len, .getfield n, (0, K, p, x1, x2), sw)) {pc' : Nat} (hp : pc + 3 = pc') {P : Int} (hP : ((p : Nat) : Int) = P) {i x : Int} (hx : σ K i P = x) (k : fx_Wp mi pc' L ((0, x) :: st) σ Q) : fx_Wp mi pc L ((K, i) :: st) σ Q := by
  subst hx
  exact wi_getI hm he hp hP k
theorem wi_getR (hm : fx_code mi = c) {n T K p : Nat} {x1 x2 : Int} (he : fx_at c pc = (pc, len, .getfield n, (T, K, p, x1, x2), sw)) {pc' : Nat} (hp : pc + 3 = pc') (hT : Nat.beq T 0 = false) {i x : Int} (hx : x1 * i + x2 = x) (k : fx_Wp mi pc' L ((T, x) :: st) σ Q) : fx_Wp mi pc L ((K, i) :: st) σ Q := by
  subst hp
  exact fx_w1 ((fx_wE hm he).trans ((fx_cT (Nat.beq_refl K)).trans (fx_cF hT))) (by subst hx; exact k)
theorem wi_putI (hm : fx_code mi = c) {n K p : Nat} {x1 x2 : Int} (he : fx_at c pc = (pc, len, .putfield n, (0, K, p, x1, x2), sw)) {pc' : Nat} (hp : pc + 3 = pc') {P : Int} (hP : ((p : Nat) : Int) = P) {i v : Int} (k : fx_Wp mi pc' L st (fx_up σ K i P v) Q) : fx_Wp mi pc L ((0, v) :: (K, i) :: st) σ Q := by
  subst hp
  subst hP
  exact fx_w1 ((fx_wE hm he).trans ((fx_cT (Nat.beq_refl K)).trans rfl)) k
theorem wi_putZ (hm : fx_code mi = c) {n K p : Nat} {x1 x2 : Int} (he : fx_at c pc = (pc, len, .putfield n, (1, K, p, x1, x2), sw)) {pc' : Nat} (hp : pc + 3 = pc') {P : Int} (hP : ((p : Nat) : Int) = P) {i v : Int} (hv : v = 0 ∨ v = 1) (k : fx_Wp mi pc' L st (fx_up σ K i P v) Q) : fx_Wp mi pc L ((0, v) :: (K, i) :: st) σ Q := by
  subst hp
  subst hP
  exact fx_w1 ((fx_wE hm he).trans ((fx_cT (Nat.beq_refl K)).trans (if_pos hv))) k
theorem fx_arrE {f K : Nat} {j : Int} {r : Option fx_R} (hf : fx_form K = f) (hj : 0 ≤ j ∧ j < fx_len K) : fx_arr f K j r = r := by
  unfold fx_arr
  rw [fx_bT hf, if_pos hj]
  rfl
theorem wi_iaload (hm : fx_code mi = c) (he : fx_at c pc = (pc, len, .iaload, q, sw)) {pc' : Nat} (hp : pc + 1 = pc') {K : Nat} {i j : Int} (h9 : Nat.beq K 9 = false) (hf : fx_form K = 0) {N : Int} (hN : fx_len K = N) (hj : 0 ≤ j ∧ j < N) (k : fx_Wp mi pc' L ((0, σ K i j) :: st) σ Q) : fx_Wp mi pc L ((0, j) :: (K, i) :: st) σ Q := by
  subst hp
  exact fx_w1 ((fx_wE hm he).trans ((fx_cF h9).trans (fx_arrE hf (by rw [hN]; exact hj)))) k
theorem wi_sload (hm : fx_code mi = c) (he : fx_at c pc = (pc, len, .iaload, q, sw)) {pc' : Nat} (hp : pc + 1 = pc') {i j : Int} (hj : 0 ≤ j ∧ j < σ 9 0 (-1)) (k : fx_Wp mi pc' L ((0, σ 9 0 j) :: st) σ Q) : fx_Wp mi pc L ((0, j) :: (9, i) :: st) σ Q := by
  subst hp
  exact fx_w1 ((fx_wE hm he).trans (if_pos hj)) k
theorem wi_baload (hm : fx_code mi = c) (he : fx_at c pc = (pc, len, .baload, q, sw)) {pc' : Nat} (hp : pc + 1 = pc') {K : Nat} {i j : Int} (hf : fx_form K = 1) {N : Int} (hN : fx_len K = N) (hj : 0 ≤ j ∧ j < N) (k : fx_Wp mi pc' L ((0, σ K i j) :: st) σ Q) : fx_Wp mi pc L ((0, j) :: (K, i) :: st) σ Q := by
  subst hp
  exact fx_w1 ((fx_wE hm he).trans (fx_arrE hf (by rw [hN]; exact hj))) k
theorem wi_ialoade (hm : fx_code mi = c) (he : fx_at c pc = (pc, len, .iaload, q, sw)) {pc' : Nat} (hp : pc + 1 = pc') {K : Nat} {i j : Int} (h9 : Nat.beq K 9 = false) (hf : fx_form K = 0) {N : Int} (hN : fx_len K = N) (hj : 0 ≤ j ∧ j < N) {x : Int} (hx : σ K i j = x) (k : fx_Wp mi pc' L ((0, x) :: st) σ Q) : fx_Wp mi pc L ((0, j) :: (K, i) :: st) σ Q := by
  subst hx
  exact wi_iaload hm he hp h9 hf hN hj k
theorem wi_baloade (hm : fx_code mi = c) (he : fx_at c pc = (pc, len, .baload, q, sw)) {pc' : Nat} (hp : pc + 1 = pc') {K : Nat} {i j : Int} (hf : fx_form K = 1) {N : Int} (hN : fx_len K = N) (hj : 0 ≤ j ∧ j < N) {x : Int} (hx : σ K i j = x) (k : fx_Wp mi pc' L ((0, x) :: st) σ Q) : fx_Wp mi pc L ((0, j) :: (K, i) :: st) σ Q := by
  subst hx
  exact wi_baload hm he hp hf hN hj k
theorem wi_aaload (hm : fx_code mi = c) (he : fx_at c pc = (pc, len, .aaload, q, sw)) {pc' : Nat} (hp : pc + 1 = pc') {K K' : Nat} {i j x x1 x2 : Int} (hf : (Nat.blt 1 (fx_form K) && Nat.blt (fx_form K) 5) = true) (hd : fx_nth (fx_fl K) 0 (0, 0, 0) = (K', x1, x2)) {N : Int} (hN : fx_len K = N) (hj : 0 ≤ j ∧ j < N) (hx : x1 * i + x2 + j = x) (k : fx_Wp mi pc' L ((K', x) :: st) σ Q) : fx_Wp mi pc L ((0, j) :: (K, i) :: st) σ Q := by
  subst hp
  exact fx_w1 ((fx_wE hm he).trans ((fx_cT hf).trans (if_pos (by rw [hN]; exact hj)))) (by rw [hd]; subst hx; exact k)
theorem wi_iastore (hm : fx_code mi = c) (he : fx_at c pc = (pc, len, .iastore, q, sw)) {pc' : Nat} (hp : pc + 1 = pc') {K : Nat} {i j v : Int} (hf : fx_form K = 0) {N : Int} (hN : fx_len K = N) (hj : 0 ≤ j ∧ j < N) (k : fx_Wp mi pc' L st (fx_up σ K i j v) Q) : fx_Wp mi pc L ((0, v) :: (0, j) :: (K, i) :: st) σ Q := by
  subst hp
  exact fx_w1 ((fx_wE hm he).trans (fx_arrE hf (by rw [hN]; exact hj))) k
theorem wi_bastore (hm : fx_code mi = c) (he : fx_at c pc = (pc, len, .bastore, q, sw)) {pc' : Nat} (hp : pc + 1 = pc') {K : Nat} {i j v : Int} (hf : fx_form K = 1) {N : Int} (hN : fx_len K = N) (hj : 0 ≤ j ∧ j < N) (hv : v = 0 ∨ v = 1) (k : fx_Wp mi pc' L st (fx_up σ K i j v) Q) : fx_Wp mi pc L ((0, v) :: (0, j) :: (K, i) :: st) σ Q := by
  subst hp
  exact fx_w1 ((fx_wE hm he).trans ((fx_arrE hf (by rw [hN]; exact hj)).trans (if_pos hv))) k
theorem wi_alen (hm : fx_code mi = c) (he : fx_at c pc = (pc, len, .arraylength, q, sw)) {pc' : Nat} (hp : pc + 1 = pc') {K : Nat} {i N : Int} (h9 : Nat.beq K 9 = false) (hf : Nat.blt (fx_form K) 2 = true) (hN : fx_len K = N) (k : fx_Wp mi pc' L ((0, N) :: st) σ Q) : fx_Wp mi pc L ((K, i) :: st) σ Q := by
  subst hp
  exact fx_w1 ((fx_wE hm he).trans ((fx_cF h9).trans (fx_cT hf))) (by rw [hN]; exact k)
theorem wi_goto (hm : fx_code mi = c) {o : Int} (he : fx_at c pc = (pc, len, .goto o, q, sw)) {t : Nat} (ht : q.1 = t) (k : fx_Wp mi t L st σ Q) : fx_Wp mi pc L st σ Q := by
  subst ht
  exact fx_w1 ((fx_wE hm he).trans rfl) k
theorem wi_if_eq (hm : fx_code mi = c) {o : Int} (he : fx_at c pc = (pc, len, .ifCond .eq o, q, sw)) {pc' : Nat} (hp : pc + 3 = pc') {t : Nat} (ht : q.1 = t) {x : Int} (a : x = 0 → fx_Wp mi t L st σ Q) (b : x ≠ 0 → fx_Wp mi pc' L st σ Q) : fx_Wp mi pc L ((0, x) :: st) σ Q := by
  subst hp
  subst ht
  by_cases h : x = 0
  · exact fx_w1 ((fx_wE hm he).trans (if_pos h)) (a h)
  · exact fx_w1 ((fx_wE hm he).trans (if_neg h)) (b h)
theorem wi_if_ne (hm : fx_code mi = c) {o : Int} (he : fx_at c pc = (pc, len, .ifCond .ne o, q, sw)) {pc' : Nat} (hp : pc + 3 = pc') {t : Nat} (ht : q.1 = t) {x : Int} (a : x ≠ 0 → fx_Wp mi t L st σ Q) (b : x = 0 → fx_Wp mi pc' L st σ Q) : fx_Wp mi pc L ((0, x) :: st) σ Q := by
  subst hp
  subst ht
  by_cases h : x = 0
  · exact fx_w1 ((fx_wE hm he).trans (if_pos h)) (b h)
  · exact fx_w1 ((fx_wE hm he).trans (if_neg h)) (a h)
theorem wi_if_lt (hm : fx_code mi = c) {o : Int} (he : fx_at c pc = (pc, len, .ifCond .lt o, q, sw)) {pc' : Nat} (hp : pc + 3 = pc') {t : Nat} (ht : q.1 = t) {x : Int} (a : x < 0 → fx_Wp mi t L st σ Q) (b : 0 ≤ x → fx_Wp mi pc' L st σ Q) : fx_Wp mi pc L ((0, x) :: st) σ Q := by
  subst hp
  subst ht
  by_cases h : x < 0
  · exact fx_w1 ((fx_wE hm he).trans (if_pos h)) (a h)
  · exact fx_w1 ((fx_wE hm he).trans (if_neg h)) (b (by omega))
theorem wi_if_ge (hm : fx_code mi = c) {o : Int} (he : fx_at c pc = (pc, len, .ifCond .ge o, q, sw)) {pc' : Nat} (hp : pc + 3 = pc') {t : Nat} (ht : q.1 = t) {x : Int} (a : 0 ≤ x → fx_Wp mi t L st σ Q) (b : x < 0 → fx_Wp mi pc' L st σ Q) : fx_Wp mi pc L ((0, x) :: st) σ Q := by
  subst hp
  subst ht
  by_cases h : x < 0
  · exact fx_w1 ((fx_wE hm he).trans (if_pos h)) (b h)
  · exact fx_w1 ((fx_wE hm he).trans (if_neg h)) (a (by omega))
theorem wi_if_gt (hm : fx_code mi = c) {o : Int} (he : fx_at c pc = (pc, len, .ifCond .gt o, q, sw)) {pc' : Nat} (hp : pc + 3 = pc') {t : Nat} (ht : q.1 = t) {x : Int} (a : 0 < x → fx_Wp mi t L st σ Q) (b : x ≤ 0 → fx_Wp mi pc' L st σ Q) : fx_Wp mi pc L ((0, x) :: st) σ Q := by
  subst hp
  subst ht
  by_cases h : 0 < x
  · exact fx_w1 ((fx_wE hm he).trans (if_pos h)) (a h)
  · exact fx_w1 ((fx_wE hm he).trans (if_neg h)) (b (by omega))
theorem wi_if_le (hm : fx_code mi = c) {o : Int} (he : fx_at c pc = (pc, len, .ifCond .le o, q, sw)) {pc' : Nat} (hp : pc + 3 = pc') {t : Nat} (ht : q.1 = t) {x : Int} (a : x ≤ 0 → fx_Wp mi t L st σ Q) (b : 0 < x → fx_Wp mi pc' L st σ Q) : fx_Wp mi pc L ((0, x) :: st) σ Q := by
  subst hp
  subst ht
  by_cases h : 0 < x
  · exact fx_w1 ((fx_wE hm he).trans (if_pos h)) (b h)
  · exact fx_w1 ((fx_wE hm he).trans (if_neg h)) (a (by omega))
theorem wi_ic_eq (hm : fx_code mi = c) {o : Int} (he : fx_at c pc = (pc, len, .if_icmp .eq o, q, sw)) {pc' : Nat} (hp : pc + 3 = pc') {t : Nat} (ht : q.1 = t) {x y : Int} (a : x = y → fx_Wp mi t L st σ Q) (b : x ≠ y → fx_Wp mi pc' L st σ Q) : fx_Wp mi pc L ((0, y) :: (0, x) :: st) σ Q := by
  subst hp
  subst ht
  by_cases h : x = y
  · exact fx_w1 ((fx_wE hm he).trans (if_pos h)) (a h)
  · exact fx_w1 ((fx_wE hm he).trans (if_neg h)) (b h)
theorem wi_ic_ne (hm : fx_code mi = c) {o : Int} (he : fx_at c pc = (pc, len, .if_icmp .ne o, q, sw)) {pc' : Nat} (hp : pc + 3 = pc') {t : Nat} (ht : q.1 = t) {x y : Int} (a : x ≠ y → fx_Wp mi t L st σ Q) (b : x = y → fx_Wp mi pc' L st σ Q) : fx_Wp mi pc L ((0, y) :: (0, x) :: st) σ Q := by
  subst hp
  subst ht
  by_cases h : x = y
  · exact fx_w1 ((fx_wE hm he).trans (if_pos h)) (b h)
  · exact fx_w1 ((fx_wE hm he).trans (if_neg h)) (a h)
theorem wi_ic_lt (hm : fx_code mi = c) {o : Int} (he : fx_at c pc = (pc, len, .if_icmp .lt o, q, sw)) {pc' : Nat} (hp : pc + 3 = pc') {t : Nat} (ht : q.1 = t) {x y : Int} (a : x < y → fx_Wp mi t L st σ Q) (b : y ≤ x → fx_Wp mi pc' L st σ Q) : fx_Wp mi pc L ((0, y) :: (0, x) :: st) σ Q := by
  subst hp
  subst ht
  by_cases h : x < y
  · exact fx_w1 ((fx_wE hm he).trans (if_pos h)) (a h)
  · exact fx_w1 ((fx_wE hm he).trans (if_neg h)) (b (by omega))
theorem wi_ic_ge (hm : fx_code mi = c) {o : Int} (he : fx_at c pc = (pc, len, .if_icmp .ge o, q, sw)) {pc' : Nat} (hp : pc + 3 = pc') {t : Nat} (ht : q.1 = t) {x y : Int} (a : y ≤ x → fx_Wp mi t L st σ Q) (b : x < y → fx_Wp mi pc' L st σ Q) : fx_Wp mi pc L ((0, y) :: (0, x) :: st) σ Q := by
  subst hp
  subst ht
  by_cases h : x < y
  · exact fx_w1 ((fx_wE hm he).trans (if_pos h)) (b h)
  · exact fx_w1 ((fx_wE hm he).trans (if_neg h)) (a (by omega))
theorem wi_ic_gt (hm : fx_code mi = c) {o : Int} (he : fx_at c pc = (pc, len, .if_icmp .gt o, q, sw)) {pc' : Nat} (hp : pc + 3 = pc') {t : Nat} (ht : q.1 = t) {x y : Int} (a : y < x → fx_Wp mi t L st σ Q) (b : x ≤ y → fx_Wp mi pc' L st σ Q) : fx_Wp mi pc L ((0, y) :: (0, x) :: st) σ Q := by
  subst hp
  subst ht
  by_cases h : y < x
  · exact fx_w1 ((fx_wE hm he).trans (if_pos h)) (a h)
  · exact fx_w1 ((fx_wE hm he).trans (if_neg h)) (b (by omega))
theorem wi_ic_le (hm : fx_code mi = c) {o : Int} (he : fx_at c pc = (pc, len, .if_icmp .le o, q, sw)) {pc' : Nat} (hp : pc + 3 = pc') {t : Nat} (ht : q.1 = t) {x y : Int} (a : x ≤ y → fx_Wp mi t L st σ Q) (b : y < x → fx_Wp mi pc' L st σ Q) : fx_Wp mi pc L ((0, y) :: (0, x) :: st) σ Q := by
  subst hp
  subst ht
  by_cases h : y < x
  · exact fx_w1 ((fx_wE hm he).trans (if_pos h)) (b h)
  · exact fx_w1 ((fx_wE hm he).trans (if_neg h)) (a (by omega))
def fx_swT (x : Int) (P : Nat → Prop) : List (Int × Nat) → Nat → Prop
  | [], d => P d
  | q :: l, d => (x = q.1 → P q.2) ∧ (x ≠ q.1 → fx_swT x P l d)
theorem fx_swT_sel {x : Int} {P : Nat → Prop} : ∀ {l : List (Int × Nat)} {d : Nat}, fx_swT x P l d → P (fx_sel x l d)
  | [], _, h => h
  | q :: l, d, h => by
    unfold fx_sel
    by_cases e : x = q.1
    · rw [if_pos e]; exact h.1 e
    · rw [if_neg e]; exact fx_swT_sel (h.2 e)
theorem fx_swc {x k : Int} {t : Nat} {P : Nat → Prop} {l : List (Int × Nat)} {d : Nat} (a : x = k → P t) (b : x ≠ k → fx_swT x P l d) : fx_swT x P ((k, t) :: l) d := ⟨a, b⟩
theorem fx_swn {x : Int} {P : Nat → Prop} {d : Nat} (a : P d) : fx_swT x P [] d := a
theorem wi_tsw (hm : fx_code mi = c) {d lo hi : Int} {os : Array Int} (he : fx_at c pc = (pc, len, .tableswitch d lo hi os, q, sw)) {x : Int} (a : fx_swT x (fun t => fx_Wp mi t L st σ Q) sw q.1) : fx_Wp mi pc L ((0, x) :: st) σ Q := fx_w1 ((fx_wE hm he).trans rfl) (fx_swT_sel a)
theorem wi_lsw (hm : fx_code mi = c) {d : Int} {os : Array (Int × Int)} (he : fx_at c pc = (pc, len, .lookupswitch d os, q, sw)) {x : Int} (a : fx_swT x (fun t => fx_Wp mi t L st σ Q) sw q.1) : fx_Wp mi pc L ((0, x) :: st) σ Q := fx_w1 ((fx_wE hm he).trans rfl) (fx_swT_sel a)
theorem wi_iret (hm : fx_code mi = c) {K p : Nat} {x1 x2 : Int} (he : fx_at c pc = (pc, len, .ireturn, (0, K, p, x1, x2), sw)) {x : Int} (k : Q (0, x) σ) : fx_Wp mi pc L [(0, x)] σ Q := fx_w2 ((fx_wE hm he).trans rfl) k
theorem wi_zret (hm : fx_code mi = c) {K p : Nat} {x1 x2 : Int} (he : fx_at c pc = (pc, len, .ireturn, (1, K, p, x1, x2), sw)) {x : Int} (hx : x = 0 ∨ x = 1) (k : Q (0, x) σ) : fx_Wp mi pc L [(0, x)] σ Q := fx_w2 ((fx_wE hm he).trans (if_pos hx)) k
theorem wi_vret (hm : fx_code mi = c) (he : fx_at c pc = (pc, len, .return_, q, sw)) (k : Q (4, 0) σ) : fx_Wp mi pc L [] σ Q := fx_w2 ((fx_wE hm he).trans rfl) k
theorem wi_aret (hm : fx_code mi = c) (he : fx_at c pc = (pc, len, .areturn, q, sw)) {K : Nat} {x : Int} (hK : 9 < K) (k : Q (K, x) σ) : fx_Wp mi pc L [(K, x)] σ Q := fx_w2 ((fx_wE hm he).trans (fx_cT (Nat.ble_eq_true_of_le hK))) k
theorem wi_new (hm : fx_code mi = c) {n : Nat} (he : fx_at c pc = (pc, len, .new n, q, sw)) {v : Int} (hv : q.2.2.2.1 = v) (k : Q (5, v) σ) : fx_Wp mi pc L [] σ Q := by
  subst hv
  exact fx_w2 ((fx_wE hm he).trans rfl) k
theorem fx_callE {mj n K : Nat} {as rest : List fx_V} (hr : fx_rk mj = (K, n)) (hst : st = as.reverse ++ rest) (hn : as.length = n) (hl : Nat.ble rest.length 8 = true) (ha : st.all (fun v => !Nat.beq v.1 1) = true) : fx_inv mj (fx_rk mj).2 st = some (.inr (.inr (mj, as, rest))) := by
  have h1 : st.take n = as.reverse := by rw [hst, ← hn, ← List.length_reverse, List.take_left]
  have h2 : st.drop n = rest := by rw [hst, ← hn, ← List.length_reverse, List.drop_left]
  unfold fx_inv
  rw [hr]
  simp only
  rw [h1, h2, ha, hl, show Nat.ble n st.length = true from Nat.ble_eq_true_of_le (by rw [hst, ← hn]; simp)]
  rw [List.reverse_reverse]
  rfl
theorem fx_exV {mj n K : Nat} {i : Int} {as rest : List fx_V} {idx : Nat} (hq : q.1 = mj) (hr : fx_rk mj = (K, n)) (hK : Nat.blt 0 K = true) (hst : st = (((K, i) :: as).reverse ++ rest)) (hn : as.length + 1 = n) (hl : Nat.ble rest.length 8 = true) (ha : st.all (fun v => !Nat.beq v.1 1) = true) : fx_exe (.invokevirtual idx) q sw fx_rk pc L st σ = some (.inr (.inr (mj, (K, i) :: as, rest))) := by
  show cond _ (fx_inv q.1 (fx_rk q.1).2 st) none = _
  rw [hq, fx_callE (as := (K, i) :: as) (rest := rest) hr hst (by simpa using hn) hl ha]
  have h1 : st.take (fx_rk mj).2 = ((K, i) :: as).reverse := by
    rw [hr, hst, ← hn]
    have : ((K, i) :: as).reverse.length = as.length + 1 := by simp
    rw [← this, List.take_left]
  rw [h1, List.reverse_reverse, hr]
  simp only [fx_nth]
  rw [hK, Nat.beq_refl]
  rfl
theorem fx_exS {mj n : Nat} {as rest : List fx_V} {idx : Nat} (hq : q.1 = mj) (hr : fx_rk mj = (0, n)) (hst : st = as.reverse ++ rest) (hn : as.length = n) (hl : Nat.ble rest.length 8 = true) (ha : st.all (fun v => !Nat.beq v.1 1) = true) : fx_exe (.invokestatic idx) q sw fx_rk pc L st σ = some (.inr (.inr (mj, as, rest))) := by
  show cond _ (fx_inv q.1 (fx_rk q.1).2 st) none = _
  rw [hq, fx_callE (as := as) (rest := rest) hr hst hn hl ha, hr]
  rfl
theorem wc_I (hmi : mi < 261) {pc' : Nat} (hp : pc + 3 = pc') {mj : Nat} {as rest : List fx_V} (hmj : mj < 500) (h : fx_step (fx_code mi) fx_rk pc L st σ = some (.inr (.inr (mj, as, rest)))) {C : Int → fx_S → Prop} (hc : fx_CI mj as σ Q C) (k : ∀ x σ', C x σ' → fx_Wp mi pc' L ((0, x) :: rest) σ' Q) : fx_Wp mi pc L st σ Q := by
  subst hp
  refine fx_w3 hmi hmj h (hc.mono fun v σ' hv => ?_)
  rcases hv with ⟨h0, h1⟩ | ⟨h0, h1⟩
  · refine ⟨fun z => by omega, fun _ => ?_⟩
    obtain ⟨v1, x⟩ := v
    simp only at h0
    subst h0
    exact k x σ' h1
  · exact ⟨fun _ => h1, fun z => absurd h0 z⟩
theorem wc_V (hmi : mi < 261) {pc' : Nat} (hp : pc + 3 = pc') {mj : Nat} {as rest : List fx_V} (hmj : mj < 500) (h : fx_step (fx_code mi) fx_rk pc L st σ = some (.inr (.inr (mj, as, rest)))) {C : fx_S → Prop} (hc : fx_CV mj as σ Q C) (k : ∀ σ', C σ' → fx_Wp mi pc' L rest σ' Q) : fx_Wp mi pc L st σ Q := by
  subst hp
  refine fx_w3 hmi hmj h (hc.mono fun v σ' hv => ?_)
  rcases hv with ⟨h0, h1⟩ | ⟨h0, h1⟩
  · refine ⟨fun z => by omega, fun _ => ?_⟩
    rw [fx_bT h0]
    exact k σ' h1
  · exact ⟨fun _ => h1, fun z => absurd h0 z⟩
theorem wc_R (hmi : mi < 261) {pc' : Nat} (hp : pc + 3 = pc') {mj K : Nat} {as rest : List fx_V} (hmj : mj < 500) (h : fx_step (fx_code mi) fx_rk pc L st σ = some (.inr (.inr (mj, as, rest)))) {C : Int → fx_S → Prop} (hc : fx_CR K mj as σ Q C) (k : ∀ x σ', C x σ' → fx_Wp mi pc' L ((K, x) :: rest) σ' Q) : fx_Wp mi pc L st σ Q := by
  subst hp
  refine fx_w3 hmi hmj h (hc.mono fun v σ' hv => ?_)
  rcases hv with ⟨h0, h4, h5, h1⟩ | ⟨h0, h1⟩
  · refine ⟨fun z => by omega, fun _ => ?_⟩
    obtain ⟨v1, x⟩ := v
    simp only at h0
    subst h0
    rw [show Nat.beq (v1, x).1 4 = false from fx_bF h4]
    exact k x σ' h1
  · exact ⟨fun _ => h1, fun z => absurd h0 z⟩
end FXW
