theorem fx_max_run {n : Nat} {as : List fx_V} {σ : fx_S} {r : fx_V × fx_S × Nat} (hn : as.length = 2) (h : fx_run n 0 (0, fx_pad 2 as, [], σ) = some r) : ∃ x y, as = [(0, x), (0, y)] ∧ r = ((0, if x < y then y else x), σ, 0) := by
  obtain ⟨⟨K1, x⟩, ⟨K2, y⟩, rfl⟩ : ∃ a b, as = [a, b] := by
    match as, hn with
    | [a, b], _ => exact ⟨a, b, rfl⟩
  have hc : fx_code 0 = fx_c0 := rfl
  have up : ∀ {n pc : Nat} {L st : List fx_V} {r : fx_V × fx_S × Nat} {T : fx_T}, fx_step (fx_code 0) fx_rk pc L st σ = some (.inl T) → fx_run n 0 (pc, L, st, σ) = some r → ∃ n', fx_run n' 0 T = some r := by
    intro n pc L st r T h1 h2
    cases n with
    | zero => cases h2
    | succ n => exact ⟨n, by rw [fx_run, h1] at h2; exact h2⟩
  have no : ∀ {n pc : Nat} {L st : List fx_V} {r : fx_V × fx_S × Nat}, fx_step (fx_code 0) fx_rk pc L st σ = none → fx_run n 0 (pc, L, st, σ) = some r → False := by
    intro n pc L st r h1 h2
    cases n with
    | zero => cases h2
    | succ n => rw [fx_run, h1] at h2; cases h2
  have en : ∀ {n pc : Nat} {L st : List fx_V} {r : fx_V × fx_S × Nat} {x : Int}, fx_step (fx_code 0) fx_rk pc L st σ = some (.inr (.inl (0, x))) → fx_run n 0 (pc, L, st, σ) = some r → r = ((0, x), σ, 0) := by
    intro n pc L st r x h1 h2
    cases n with
    | zero => cases h2
    | succ n => rw [fx_run, h1] at h2; cases h2; rfl
  rcases Nat.eq_zero_or_pos K1 with rfl | k1
  · obtain ⟨n, h⟩ := up (T := (1, [(0, x), (K2, y)], [(0, x)], σ)) rfl h
    rcases Nat.eq_zero_or_pos K2 with rfl | k2
    · obtain ⟨n, h⟩ := up (T := (2, [(0, x), (0, y)], [(0, y), (0, x)], σ)) rfl h
      refine ⟨x, y, rfl, ?_⟩
      by_cases hxy : x < y
      · obtain ⟨n, h⟩ := up (T := (9, [(0, x), (0, y)], [], σ)) (by show fx_br .lt x y _ _ = _; unfold fx_br; exact if_pos hxy) h
        obtain ⟨n, h⟩ := up (T := (10, [(0, x), (0, y)], [(0, y)], σ)) rfl h
        rw [if_pos hxy]
        exact en rfl h
      · obtain ⟨n, h⟩ := up (T := (5, [(0, x), (0, y)], [], σ)) (by show fx_br .lt x y _ _ = _; unfold fx_br; exact if_neg hxy) h
        obtain ⟨n, h⟩ := up (T := (6, [(0, x), (0, y)], [(0, x)], σ)) rfl h
        obtain ⟨n, h⟩ := up (T := (10, [(0, x), (0, y)], [(0, x)], σ)) rfl h
        rw [if_neg hxy]
        exact en rfl h
    · obtain ⟨k, rfl⟩ : ∃ k, K2 = k + 1 := ⟨K2 - 1, by omega⟩
      exact (no (by show cond (Nat.blt 8 (k + 1) && Nat.beq 0 1) _ none = none; rw [show Nat.beq 0 1 = false from rfl, Bool.and_false]; rfl) h).elim
  · obtain ⟨k, rfl⟩ : ∃ k, K1 = k + 1 := ⟨K1 - 1, by omega⟩
    exact (no (by show cond (Nat.blt 8 (k + 1) && Nat.beq 0 1) _ none = none; rw [show Nat.beq 0 1 = false from rfl, Bool.and_false]; rfl) h).elim
theorem fx_min_run {n : Nat} {as : List fx_V} {σ : fx_S} {r : fx_V × fx_S × Nat} (hn : as.length = 2) (h : fx_run n 1 (0, fx_pad 2 as, [], σ) = some r) : ∃ x y, as = [(0, x), (0, y)] ∧ r = ((0, if y < x then y else x), σ, 0) := by
  obtain ⟨⟨K1, x⟩, ⟨K2, y⟩, rfl⟩ : ∃ a b, as = [a, b] := by
    match as, hn with
    | [a, b], _ => exact ⟨a, b, rfl⟩
  have up : ∀ {n pc : Nat} {L st : List fx_V} {r : fx_V × fx_S × Nat} {T : fx_T}, fx_step (fx_code 1) fx_rk pc L st σ = some (.inl T) → fx_run n 1 (pc, L, st, σ) = some r → ∃ n', fx_run n' 1 T = some r := by
    intro n pc L st r T h1 h2
    cases n with
    | zero => cases h2
    | succ n => exact ⟨n, by rw [fx_run, h1] at h2; exact h2⟩
  have no : ∀ {n pc : Nat} {L st : List fx_V} {r : fx_V × fx_S × Nat}, fx_step (fx_code 1) fx_rk pc L st σ = none → fx_run n 1 (pc, L, st, σ) = some r → False := by
    intro n pc L st r h1 h2
    cases n with
    | zero => cases h2
    | succ n => rw [fx_run, h1] at h2; cases h2
  have en : ∀ {n pc : Nat} {L st : List fx_V} {r : fx_V × fx_S × Nat} {x : Int}, fx_step (fx_code 1) fx_rk pc L st σ = some (.inr (.inl (0, x))) → fx_run n 1 (pc, L, st, σ) = some r → r = ((0, x), σ, 0) := by
    intro n pc L st r x h1 h2
    cases n with
    | zero => cases h2
    | succ n => rw [fx_run, h1] at h2; cases h2; rfl
  rcases Nat.eq_zero_or_pos K1 with rfl | k1
  · obtain ⟨n, h⟩ := up (T := (1, [(0, x), (K2, y)], [(0, x)], σ)) rfl h
    rcases Nat.eq_zero_or_pos K2 with rfl | k2
    · obtain ⟨n, h⟩ := up (T := (2, [(0, x), (0, y)], [(0, y), (0, x)], σ)) rfl h
      refine ⟨x, y, rfl, ?_⟩
      by_cases hxy : y < x
      · obtain ⟨n, h⟩ := up (T := (9, [(0, x), (0, y)], [], σ)) (by show fx_br .gt x y _ _ = _; unfold fx_br; exact if_pos hxy) h
        obtain ⟨n, h⟩ := up (T := (10, [(0, x), (0, y)], [(0, y)], σ)) rfl h
        rw [if_pos hxy]
        exact en rfl h
      · obtain ⟨n, h⟩ := up (T := (5, [(0, x), (0, y)], [], σ)) (by show fx_br .gt x y _ _ = _; unfold fx_br; exact if_neg hxy) h
        obtain ⟨n, h⟩ := up (T := (6, [(0, x), (0, y)], [(0, x)], σ)) rfl h
        obtain ⟨n, h⟩ := up (T := (10, [(0, x), (0, y)], [(0, x)], σ)) rfl h
        rw [if_neg hxy]
        exact en rfl h
    · obtain ⟨k, rfl⟩ : ∃ k, K2 = k + 1 := ⟨K2 - 1, by omega⟩
      exact (no (by show cond (Nat.blt 8 (k + 1) && Nat.beq 0 1) _ none = none; rw [show Nat.beq 0 1 = false from rfl, Bool.and_false]; rfl) h).elim
  · obtain ⟨k, rfl⟩ : ∃ k, K1 = k + 1 := ⟨K1 - 1, by omega⟩
    exact (no (by show cond (Nat.blt 8 (k + 1) && Nat.beq 0 1) _ none = none; rw [show Nat.beq 0 1 = false from rfl, Bool.and_false]; rfl) h).elim
section FXB
variable {p : Program} {l : Launch} {e : Env} {R : Room} {s : State} {m : MethodId} {args : Array Value} {below : List Frame} {meth : Method} {c : Code} {H : Heap} {locs : List Loc} {cells slots : Nat} {Q : State → Prop}
variable {mi pc mj n : Nat} {L st as rest : List fx_V} {σ σ1 : fx_S} {ls : Array Slot} {D : va_G} {ad : Nat → Nat → Nat} {cy : Nat → ClassId} {Ls : Nat} {xs : Nat → Int32} {A : Nat → Prop} {w : fx_V} {k : Nat}
theorem fx_dk_at {mj : Nat} (h : mj < 294) : (2 ≤ mj → plainName (fx_m mj).1.cls = true) ∧ (fx_m mj).1.cls ≠ "java/lang/invoke/MethodHandle" ∧ (fx_m mj).1.cls ≠ "java/lang/invoke/VarHandle" ∧ (parseMethodDescriptor (fx_m mj).1.desc).map (fun d => d.parameters.length) = some ((fx_m mj).2.2.2.2.2.1 - cond (Nat.beq (fx_m mj).2.2.2.2.1 0) 0 1) ∧ (fx_m mj).2.2.1 ≤ 21 ∧ (fx_m mj).2.2.2.2.2.1 ≤ (fx_m mj).2.2.1 := by
  have h1 := List.all_eq_true.mp fx_dk_ok mj (List.mem_range.mpr h)
  simp only [fx_dk, Bool.and_eq_true, decide_eq_true_eq, Bool.or_eq_true] at h1
  obtain ⟨⟨⟨⟨⟨⟨h2, h3⟩, h4⟩, h5⟩, h6⟩, h7⟩, -⟩ := h1
  refine ⟨fun z => ?_, h3, h4, h5, Nat.le_of_ble_eq_true h6, Nat.le_of_ble_eq_true h7⟩
  rcases h2 with h2 | h2
  · have := fx_blt h2; omega
  · exact h2
theorem fx_pre (hZ : fx_Zf ad cy D Ls xs A s s.heap) (hA1 : ∀ r ∈ fx_all, A (ad r.1 r.2)) (hA2 : ∀ q, s.heap.size ≤ q → A q) (hP : va_P D vwCl (fx_W ad cy σ) H) (hSS : va_S A s.heap H locs) : ∀ U : State, U.heap = H → s.WarmedH U.vm → fx_Pc ad cy D Ls xs H.size as σ (as.map (fx_cv ad)).toArray U := by
  intro U hU hW
  refine ⟨rfl, by rw [hU], by rw [hU]; exact hP, ?_⟩
  rw [hU]
  refine ((hZ.kept hSS.1 hSS.2.1).narrow (B := fx_Az ad H.size) ?_).warm hW
  rintro q (⟨r, hr, rfl⟩ | hq)
  · exact hA1 r hr
  · exact hA2 q (Nat.le_trans hSS.1 hq)
theorem fx_subA (hA1 : ∀ r ∈ fx_all, A (ad r.1 r.2)) (hA2 : ∀ q, s.heap.size ≤ q → A q) (hSS : va_S A s.heap H locs) : ∀ q, fx_Az ad H.size q → A q := by
  rintro q (⟨r, hr, rfl⟩ | hq)
  · exact hA1 r hr
  · exact hA2 q (Nat.le_trans hSS.1 hq)
set_option maxHeartbeats 1000000 in
theorem fx_callV (hpri : fx_Pri l) (hC : fx_Con l n) (hF : fx_Fr p s m args c mi) (hm : mi < 294) (hap : fx_ap ad) (hA1 : ∀ r ∈ fx_all, A (ad r.1 r.2)) (hA2 : ∀ q, s.heap.size ≤ q → A q) (hZ : fx_Zf ad cy D Ls xs A s s.heap) (hRf : fx_lev mi + 3 ≤ R.frames) (hRl : 40 * fx_lev mi ≤ R.locals)
    (hS : fx_oS st) (hσ : fx_rgS σ) (hsc : fx_scr Ls xs σ) (hl : ls.size = (fx_m mi).2.2.1) (hP : va_P D vwCl (fx_W ad cy σ) H) (hSS : va_S A s.heap H locs)
    {idx : Nat} (hd : decode (fx_m mi).2.1 pc = .ok (.invokevirtual idx, 3)) (hlev : fx_lev mj < fx_lev mi) (hmw : (fx_own mi, idx, mj) ∈ fx_mwl) (hmj : mj < 261 ∨ mj = 500 ∨ mj = 501) (hrk : 0 < (fx_rk mj).1) (hk1 : (fx_nth (st.take (fx_rk mj).2).reverse 0 (3, 0)).1 = (fx_rk mj).1) (hlen : (fx_rk mj).2 ≤ st.length) (hlen8 : (st.drop (fx_rk mj).2).length ≤ 8) (hno : ∀ v ∈ st, v.1 ≠ 1)
    (hrun : cond (Nat.ble 500 mj) (match fx_prim mj (st.take (fx_rk mj).2).reverse with | some v => some (v, σ, 0) | none => none) (fx_run n mj (0, fx_pad (fx_m mj).2.2.1 (st.take (fx_rk mj).2).reverse, [], σ)) = some (w, σ1, k)) (hc : cells + k ≤ R.cells) (hs : slots + 6 * k ≤ R.slots) :
    ∃ a, vx_Run p l e R s m args below meth c H locs cells slots k (6 * k) (F0 m pc ls (st.map (fx_cv ad))) ((st.drop (fx_rk mj).2).map (fx_cv ad)) (fx_Qc ad cy D H.size w σ1 a) (fx_Xc ad cy D H.size w σ1) (fx_Az ad H.size) := by
  obtain ⟨hx, hb, hml, hown, hts⟩ := hF
  obtain ⟨as, has⟩ : ∃ as, as = (st.take (fx_rk mj).2).reverse := ⟨_, rfl⟩
  have hasn : as.length = (fx_rk mj).2 := by rw [has, List.length_reverse, List.length_take]; omega
  rw [← has] at hk1 hrun
  have hasS : fx_oS as := fun v hv => hS v (List.mem_of_mem_take (List.mem_reverse.mp (by rw [has] at hv; exact hv)))
  have hasN : ∀ v ∈ as, v.1 ≠ 1 := fun v hv => hno v (List.mem_of_mem_take (List.mem_reverse.mp (by rw [has] at hv; exact hv)))
  have hst : st = as.reverse ++ st.drop (fx_rk mj).2 := by rw [has, List.reverse_reverse, List.take_append_drop]
  have hrk9 : 9 < (fx_rk mj).1 := by
    rcases hmj with h | rfl | rfl
    · have h5 := List.all_eq_true.mp fx_rk5_ok mj (List.mem_range.mpr h)
      have e1 : fx_rk mj = ((fx_m mj).2.2.2.2.1, (fx_m mj).2.2.2.2.2.1) := by
        unfold fx_rk
        rw [fx_bF (a := mj) (b := 500) (by omega), fx_bF (a := mj) (b := 501) (by omega)]; rfl
      rw [e1] at hrk ⊢
      simp only at hrk ⊢
      unfold fx_rk5 at h5
      rw [fx_bF (a := (fx_m mj).2.2.2.2.1) (b := 0) (by omega)] at h5
      simp only [Bool.false_or, Bool.and_eq_true] at h5
      have f5 := fx_beq h5.1.1.1
      refine Nat.not_le.mp fun z => ?_
      have : ∀ K, K ≤ 9 → fx_form K ≠ 5 := by decide
      exact this _ z f5
    · decide
    · decide
  obtain ⟨⟨K, x⟩, as', hcons⟩ : ∃ a as', as = a :: as' := by
    cases as with
    | nil => rw [show (fx_nth ([] : List fx_V) 0 (3, 0)).1 = 3 from rfl] at hk1; omega
    | cons a as' => exact ⟨a, as', rfl⟩
  have hK1 : K = (fx_rk mj).1 := by rw [hcons] at hk1; exact hk1
  have hst2 : st.map (fx_cv ad) = (as'.map (fx_cv ad)).reverse ++ .ref (ad K x.toNat) :: (st.drop (fx_rk mj).2).map (fx_cv ad) := by
    conv => lhs; rw [hst, hcons]
    simp only [List.reverse_cons, List.map_append, List.map_reverse, List.map_cons, List.map_nil, List.append_assoc, List.singleton_append]
    rw [fx_cvo ad x (by omega)]
  have hcat : 2 * (F0 m pc ls (st.map (fx_cv ad))).monitorRoom + (((st.drop (fx_rk mj).2).map (fx_cv ad)).map fun v => v.category).sum ≤ 8 := by
    refine lv_room ?_
    rw [fx_cats ad _ (fun v hv => hno v (List.mem_of_mem_drop hv))]
    exact hlen8
  have ho1 : fx_o1 (K, x) := hasS _ (by rw [hcons]; exact List.mem_cons_self)
  obtain ⟨b1, b2, b3, b4⟩ := fx_o1_ref ho1 (by omega)
  have hmap : (as.map (fx_cv ad)).toArray = (Value.ref (ad K x.toNat) :: as'.map (fx_cv ad)).toArray := by rw [hcons, List.map_cons, fx_cvo ad x (by omega)]
  have hpre := fx_pre (as := as) hZ hA1 hA2 hP hSS
  rw [hmap] at hpre
  have hT : GoodIn fx_T0 (wsV (fx_cls (fx_own mi)) idx (fx_yn mj).cls (fx_yn mj) (fx_ws mj)) := by
    intro z hz
    unfold wsV at hz
    rcases List.mem_append.mp hz with h | h
    · refine fx_T0_good z ?_
      simp only [List.mem_cons, List.not_mem_nil, or_false] at h
      rcases hmj with hj | rfl | rfl
      · have ey : fx_yn mj = (fx_m mj).1 := by
          unfold fx_yn
          rw [fx_bF (a := mj) (b := 500) (by omega), fx_bF (a := mj) (b := 501) (by omega)]; rfl
        have ek : Nat.beq (fx_m mj).2.2.2.2.1 0 = false := by
          refine fx_bF fun z => ?_
          unfold fx_rk at hrk9
          rw [fx_bF (a := mj) (b := 500) (by omega), fx_bF (a := mj) (b := 501) (by omega)] at hrk9
          simp only [cond_false] at hrk9
          omega
        rcases h with rfl | rfl | rfl | rfl
        · exact fx_T0_in (fx_mwl_in _ hmw) rfl
        · have := fx_iw _ (fx_m_in hj)
          unfold fx_iword at this
          rw [ek] at this
          rw [ey]
          exact fx_T0_in this rfl
        · have := fx_lw _ (fx_m_in hj)
          unfold fx_lword at this
          rw [ek] at this
          rw [ey]
          exact fx_T0_in this rfl
        · rw [ey]
          exact fx_T0_in (fx_zw _ (fx_m_in hj)) rfl
      · rcases h with rfl | rfl | rfl | rfl
        · exact fx_T0_in (fx_mwl_in _ hmw) rfl
        · exact fx_T0_in (fx_pw 2 (by decide)) rfl
        · exact fx_T0_in (fx_pw 3 (by decide)) rfl
        · exact fx_T0_in (fx_pw 6 (by decide)) rfl
      · rcases h with rfl | rfl | rfl | rfl
        · exact fx_T0_in (fx_mwl_in _ hmw) rfl
        · exact fx_T0_in (fx_pw 4 (by decide)) rfl
        · exact fx_T0_in (fx_pw 5 (by decide)) rfl
        · exact fx_T0_in (fx_pw 6 (by decide)) rfl
    · exact fx_ws_good (by omega) z h
  have hR' : ∀ {mL : Nat}, mL ≤ 21 → (fx_rm mj k).frames + 1 ≤ R.frames ∧ 8 + (mL + 11) + (fx_rm mj k).locals ≤ R.locals := by
    intro mL h
    unfold fx_rm
    simp only
    omega
  refine ⟨(Value.ref (ad K x.toNat) :: as'.map (fx_cv ad)).toArray, ?_⟩
  rcases hmj with hj | hj
  · rw [show Nat.ble 500 mj = false by cases hb : Nat.ble 500 mj; rfl; have := Nat.le_of_ble_eq_true hb; omega, cond_false] at hrun
    obtain ⟨d1, d2, d3, d4, d5, d6⟩ := fx_dk_at (mj := mj) (by omega)
    have e1 : fx_rk mj = ((fx_m mj).2.2.2.2.1, (fx_m mj).2.2.2.2.2.1) := by
      unfold fx_rk
      rw [fx_bF (a := mj) (b := 500) (by omega), fx_bF (a := mj) (b := 501) (by omega)]; rfl
    have ey : fx_yn mj = (fx_m mj).1 := by
      unfold fx_yn
      rw [fx_bF (a := mj) (b := 500) (by omega), fx_bF (a := mj) (b := 501) (by omega)]; rfl
    rw [e1] at hasn hK1 hrk9
    simp only at hasn hK1 hrk9
    have hM := hC mj as σ w σ1 k (by refine Nat.not_lt.mp fun z => ?_; rcases (by omega : mj = 0 ∨ mj = 1) with rfl | rfl <;> exact absurd hrk (by decide)) (by omega) hrun (by omega) hasS hasN hσ ad cy D Ls xs H.size hap hsc
    have h5 := List.all_eq_true.mp fx_rk5_ok mj (List.mem_range.mpr hj)
    unfold fx_rk5 at h5
    rw [fx_bF (a := (fx_m mj).2.2.2.2.1) (b := 0) (by omega)] at h5 d4
    simp only [Bool.false_or, Bool.and_eq_true, decide_eq_true_eq] at h5
    obtain ⟨⟨⟨f1, f2⟩, f3⟩, f4⟩ := h5
    have f1 := fx_beq f1
    have f2 := fx_blt f2
    have f4 := fx_blt f4
    rw [← hK1] at f1 f2 f3 f4
    obtain ⟨nn, rfl⟩ : ∃ nn : Nat, x = (nn : Int) := ⟨x.toNat, by omega⟩
    obtain ⟨kk, g1, g2⟩ := fx_W_get ad cy σ (fx_in (K := K) (i := nn) (by omega) f4 b4)
    rw [fx_Er5 f1] at g2
    have hcw : fx_ws mj = Cond.code (fx_yn mj) (fx_m mj).2.1 (fx_m mj).2.2.1 (fx_m mj).2.2.2.1 :: fx_T0 := by
      unfold fx_ws fx_cd
      rw [show Nat.blt mj 261 = true from Nat.ble_eq_true_of_le hj, ey]; rfl
    exact vx_runV (As := as'.map (fx_cv ad)) ⟨hx, hb, hml, hown, hts⟩ hM (cwV ((fx_m mj).2.2.2.2.2.1 - 1) hts hT hcw rfl rfl ⟨rfl, by rw [ey]; exact d2, by rw [ey]; exact d3, by rw [ey]; exact d4⟩ (hR' d5)) ⟨fx_blind, by rw [ey, ← f3]; exact va_recv hZ.1 hP (fx_vw _ f2) g2, hpre⟩ rfl (by rw [List.length_map]; rw [hcons] at hasn; simp only [List.length_cons] at hasn; omega) hl hst2 hcat hd ⟨hc, hs⟩
  · rw [show Nat.ble 500 mj = true from Nat.ble_eq_true_of_le (by omega), cond_true] at hrun
    cases hpv : fx_prim mj as with
    | none => rw [hpv] at hrun; cases hrun
    | some u =>
      rw [hpv] at hrun
      simp only [Option.some.injEq, Prod.mk.injEq] at hrun
      obtain ⟨rfl, rfl, rfl⟩ := hrun
      have hK62 : K = 62 := by
        rcases hj with rfl | rfl <;> exact hK1
      have hM := hpri mj as σ u hj hpv (by rw [hcons]; exact hK62) hasS hasN ad cy D Ls xs H.size hap hsc
      subst hK62
      obtain ⟨-, -, -, -, ⟨adV, hvs⟩, -⟩ := hZ
      have hx17 : x.toNat < 17 := by have : fx_cnt 62 = 17 := rfl; omega
      obtain ⟨cellB, r1, r2, r3, -⟩ := ((hvs.1 x.toNat hx17).1).kept hSS.2.1
      rcases hj with rfl | rfl
      · exact vx_runV (As := as'.map (fx_cv ad)) ⟨hx, hb, hml, hown, hts⟩ hM (cwV 0 hts hT (show fx_ws 500 = Cond.code yJ0_length_8abf5 cJ0_length_8abf5 1 (some .int) :: fx_T0 from rfl) rfl rfl ⟨rfl, by decide, by decide, by decide +kernel⟩ (hR' (by decide))) ⟨fx_blind, ⟨cellB, r1, r2, r3⟩, hpre⟩ rfl (by rw [List.length_map]; rw [hcons] at hasn; simp only [List.length_cons] at hasn; have : (fx_rk 500).2 = 1 := rfl; omega) hl hst2 hcat hd ⟨hc, hs⟩
      · exact vx_runV (As := as'.map (fx_cv ad)) ⟨hx, hb, hml, hown, hts⟩ hM (cwV 1 hts hT (show fx_ws 501 = Cond.code yJ0_charAt_5068e cJ0_charAt_5068e 2 (some .char) :: fx_T0 from rfl) rfl rfl ⟨rfl, by decide, by decide, by decide +kernel⟩ (hR' (by decide))) ⟨fx_blind, ⟨cellB, r1, r2, r3⟩, hpre⟩ rfl (by rw [List.length_map]; rw [hcons] at hasn; simp only [List.length_cons] at hasn; have : (fx_rk 501).2 = 2 := rfl; omega) hl hst2 hcat hd ⟨hc, hs⟩
end FXB
