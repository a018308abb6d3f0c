set_option maxRecDepth 100000 in
theorem fx_msL_cls : ∀ M ∈ fx_msL, M.1.cls = RL := by decide +kernel
theorem fx_maxI {x y : Int} (hx : fx_rg x) (hy : fx_rg y) : (if Int32.ofInt x < Int32.ofInt y then Int32.ofInt y else Int32.ofInt x) = Int32.ofInt (if x < y then y else x) := by
  by_cases h : x < y
  · rw [if_pos h, if_pos ((fx_ltI hx hy).mpr h)]
  · rw [if_neg h, if_neg fun z => h ((fx_ltI hx hy).mp z)]
theorem fx_minI {x y : Int} (hx : fx_rg x) (hy : fx_rg y) : (if Int32.ofInt y < Int32.ofInt x then Int32.ofInt y else Int32.ofInt x) = Int32.ofInt (if y < x then y else x) := by
  by_cases h : y < x
  · rw [if_pos h, if_pos ((fx_ltI hy hx).mpr h)]
  · rw [if_neg h, if_neg fun z => h ((fx_ltI hy hx).mp z)]
section FXB
variable {p : Program} {l : Launch} {e : Env} {R : Room} {s : State} {m : MethodId} {args : Array Value} {below : List Frame} {meth : Method} {c : Code} {H : Heap} {locs : List Loc} {cells slots : Nat} {Q : State → Prop}
variable {mi pc mj n : Nat} {L st : List fx_V} {σ σ1 : fx_S} {ls : Array Slot} {D : va_G} {ad : Nat → Nat → Nat} {cy : Nat → ClassId} {Ls : Nat} {xs : Nat → Int32} {A : Nat → Prop} {w : fx_V} {k : Nat}
set_option maxHeartbeats 1000000 in
theorem fx_callS (hC : fx_Con l n) (hF : fx_Fr p s m args c mi) (hm : mi < 294) (hap : fx_ap ad) (hA1 : ∀ r ∈ fx_all, A (ad r.1 r.2)) (hA2 : ∀ q, s.heap.size ≤ q → A q) (hZ : fx_Zf ad cy D Ls xs A s s.heap) (hRf : fx_lev mi + 3 ≤ R.frames) (hRl : 40 * fx_lev mi ≤ R.locals)
    (hS : fx_oS st) (hσ : fx_rgS σ) (hsc : fx_scr Ls xs σ) (hl : ls.size = (fx_m mi).2.2.1) (hP : va_P D vwCl (fx_W ad cy σ) H) (hSS : va_S A s.heap H locs)
    {idx : Nat} (hd : decode (fx_m mi).2.1 pc = .ok (.invokestatic idx, 3)) (hlev : fx_lev mj < fx_lev mi) (hmw : (fx_own mi, idx, mj) ∈ fx_mwl ∨ (fx_own mi, idx, mj) ∈ fx_nwl) (hmj : mj < 293) (hrk : (fx_rk mj).1 = 0) (hlen : (fx_rk mj).2 ≤ st.length) (hlen8 : (st.drop (fx_rk mj).2).length ≤ 8) (hno : ∀ v ∈ st, v.1 ≠ 1)
    (hrun : fx_run n mj (0, fx_pad (fx_m mj).2.2.1 (st.take (fx_rk mj).2).reverse, [], σ) = some (w, σ1, k)) (hc : cells + k ≤ R.cells) (hs : slots + 6 * k ≤ R.slots)
    (kx : w.1 = 5 → ∀ (ce : Cell) (q9 : Addr) (H1 : Heap) (locs1 : List Loc), va_P D vwCl (fx_W ad cy σ1) H1 → va_S A s.heap H1 locs1 → H1[q9]? = some ce → ce.vm = .none → s.vm.findClass (fx_en w) = some ce.cls → vx_W p l e R s m args below meth c H1 locs1 (cells + k) (slots + 6 * k) Q (F0 m pc ls ((st.drop (fx_rk mj).2).map (fx_cv ad))) q9)
    (kk : w.1 ≠ 5 → ∀ (H1 : Heap) (locs1 : List Loc), va_P D vwCl (fx_W ad cy σ1) H1 → va_S A s.heap H1 locs1 → W p l e R s m args below meth c H1 locs1 (cells + k) (slots + 6 * k) Q (F0 m (pc + 3) ls ((fx_rv ad w).toList ++ (st.drop (fx_rk mj).2).map (fx_cv ad)))) :
    W p l e R s m args below meth c H locs cells slots Q (F0 m pc ls (st.map (fx_cv ad))) := by
  obtain ⟨hx, hb, hml, hown, hts⟩ := hF
  have e1 : fx_rk mj = ((fx_m mj).2.2.2.2.1, (fx_m mj).2.2.2.2.2.1) := by
    unfold fx_rk
    rw [fx_bF (a := mj) (b := 500) (by omega), fx_bF (a := mj) (b := 501) (by omega)]; rfl
  have ey : fx_yn mj = (fx_m mj).1 := by
    unfold fx_yn
    rw [fx_bF (a := mj) (b := 500) (by omega), fx_bF (a := mj) (b := 501) (by omega)]; rfl
  have hrk0 : (fx_m mj).2.2.2.2.1 = 0 := by rw [e1] at hrk; exact hrk
  obtain ⟨as, has⟩ : ∃ as, as = (st.take (fx_rk mj).2).reverse := ⟨_, rfl⟩
  have hasn : as.length = (fx_rk mj).2 := by rw [has, List.length_reverse, List.length_take]; omega
  rw [← has] at hrun
  have hasS : fx_oS as := fun v hv => hS v (List.mem_of_mem_take (List.mem_reverse.mp (by rw [has] at hv; exact hv)))
  have hasN : ∀ v ∈ as, v.1 ≠ 1 := fun v hv => hno v (List.mem_of_mem_take (List.mem_reverse.mp (by rw [has] at hv; exact hv)))
  have hst : st = as.reverse ++ st.drop (fx_rk mj).2 := by rw [has, List.reverse_reverse, List.take_append_drop]
  have hst2 : st.map (fx_cv ad) = (as.map (fx_cv ad)).reverse ++ (st.drop (fx_rk mj).2).map (fx_cv ad) := by
    conv => lhs; rw [hst]
    simp only [List.map_append, List.map_reverse]
  have hcats := fx_cats ad (st.drop (fx_rk mj).2) (fun v hv => hno v (List.mem_of_mem_drop hv))
  have hcat : 2 * (F0 m pc ls (st.map (fx_cv ad))).monitorRoom + (((st.drop (fx_rk mj).2).map (fx_cv ad)).map fun v => v.category).sum ≤ 8 := lv_room (by rw [hcats]; exact hlen8)
  have hpre := fx_pre (as := as) hZ hA1 hA2 hP hSS
  obtain ⟨d1, d2, d3, d4, d5, d6⟩ := fx_dk_at (mj := mj) (by omega)
  rw [hrk0] at d4
  have hR' : ∀ {mL : Nat}, mL ≤ 21 → (fx_rm mj k).frames + 1 ≤ R.frames ∧ 8 + (mL + 11) + (fx_rm mj k).locals ≤ R.locals := by
    intro mL h
    unfold fx_rm
    simp only
    omega
  have hn2 : as.length = (fx_m mj).2.2.2.2.2.1 := by rw [hasn, e1]
  by_cases h2 : mj < 2
  · have hmw0 : (fx_own mi, idx, mj) ∈ fx_mwl := by
      rcases hmw with h | h
      · exact h
      · have := fx_nwl_1 h
        simp only [Prod.mk.injEq] at this
        omega
    have hlk := hts _ (fx_T0_in (fx_mwl_in _ hmw0) rfl)
    have hio := fx_iw _ (fx_m_in (mj := mj) (by omega))
    unfold fx_iword at hio
    rw [hrk0] at hio
    have hst9 := hts _ (fx_T0_in hio rfl)
    have hini := hts _ (fx_T0_in (fx_zw _ (fx_m_in (mj := mj) (by omega))) rfl)
    have hcode := hts _ (fx_T0_in (fx_cw _ (fx_m_in (mj := mj) (by omega))) rfl)
    rcases (by omega : mj = 0 ∨ mj = 1) with rfl | rfl
    · obtain ⟨x, y, ha, hr⟩ := fx_max_run (by rw [hn2]; rfl) hrun
      simp only [Prod.mk.injEq] at hr
      obtain ⟨rfl, rfl, rfl⟩ := hr
      rw [ha] at hasS hst2
      rw [hst2]
      refine va_mmax (rest := (st.drop (fx_rk 0).2).map (fx_cv ad)) hx hb (by rw [hml, hl]) hown hlk hst9 hini hcode (by omega) (by rw [hcats]; omega) (by omega) (by omega) hd ?_
      rw [fx_maxI (fx_o1_num (fx_oS_head hasS)) (fx_o1_num (fx_oS_head (fx_oS_tail hasS)))]
      exact kk (by simp) H locs hP hSS
    · obtain ⟨x, y, ha, hr⟩ := fx_min_run (by rw [hn2]; rfl) hrun
      simp only [Prod.mk.injEq] at hr
      obtain ⟨rfl, rfl, rfl⟩ := hr
      rw [ha] at hasS hst2
      rw [hst2]
      refine va_mmin (rest := (st.drop (fx_rk 1).2).map (fx_cv ad)) hx hb (by rw [hml, hl]) hown hlk hst9 hini hcode (by omega) (by rw [hcats]; omega) (by omega) (by omega) hd ?_
      rw [fx_minI (fx_o1_num (fx_oS_head hasS)) (fx_o1_num (fx_oS_head (fx_oS_tail hasS)))]
      exact kk (by simp) H locs hP hSS
  · have hM := hC mj as σ w σ1 k (by omega) (by omega) hrun (by omega) hasS hasN hσ ad cy D Ls xs H.size hap hsc
    refine fx_callW (ad := ad) (cy := cy) (D := D) (sz := H.size) (v := w) (σ' := σ1) (a := (as.map (fx_cv ad)).toArray) ?_ hSS (fx_subA hA1 hA2 hSS) kx kk
    by_cases h6 : mj < 261
    · have hcw : fx_ws mj = Cond.code (fx_yn mj) (fx_m mj).2.1 (fx_m mj).2.2.1 (fx_m mj).2.2.2.1 :: fx_T0 := by
        unfold fx_ws fx_cd
        rw [show Nat.blt mj 261 = true from Nat.ble_eq_true_of_le h6, ey]; rfl
      have hio := fx_iw _ (fx_m_in (mj := mj) h6)
      unfold fx_iword at hio
      rw [hrk0] at hio
      have hst9 : (Cond.static (fx_yn mj)).before args s = true := by rw [ey]; exact hts _ (fx_T0_in hio rfl)
      have hini : (Cond.initialized (fx_yn mj).cls).before args s = true := by rw [ey]; exact hts _ (fx_T0_in (fx_zw _ (fx_m_in h6)) rfl)
      rcases hmw with hmw | hmw
      · exact vx_runS (As := as.map (fx_cv ad)) ⟨hx, hb, hml, hown, hts⟩ hM ⟨callB_of (fx_m mj).2.2.2.2.2.1 hts (fx_ws_good (by omega)) hcw rfl rfl hini (hts _ (fx_T0_in (fx_mwl_in _ hmw) rfl)) (by rw [ey]; exact ⟨d2, d3, d4⟩) (hR' d5), hst9⟩ ⟨fx_blind, hpre⟩ rfl (by rw [List.length_map]; exact hn2) hl hst2 hcat hd ⟨hc, hs⟩
      · exact vx_runSN (As := as.map (fx_cv ad)) (host := RX6) ⟨hx, hb, hml, hown, hts⟩ hM ⟨va_cnB (fx_m mj).2.2.2.2.2.1 hts (fx_ws_good (by omega)) hcw rfl rfl (hZ.2.2.2.2.2.2.1 _ hmw) hini (by rw [ey]; exact ⟨d2, d3, d4⟩) (hR' d5), hst9, trivial⟩ ⟨fx_blind, hpre⟩ rfl (by rw [List.length_map]; exact hn2) hl hst2 hcat hd ⟨hc, hs⟩
    · have hmw0 : (fx_own mi, idx, mj) ∈ fx_mwl := by
        rcases hmw with h | h
        · exact h
        · have := fx_nwl_1 h
          simp only [Prod.mk.injEq] at this
          omega
      have hin := fx_m_inL (mj := mj) (by omega) hmj
      have hcw : fx_ws mj = Cond.codeWith (fx_yn mj) (fx_m mj).2.1 (fx_m mj).2.2.1 (fx_m mj).2.2.2.1 (fx_nth fx_hhs (mj - 261) []) :: fx_T0 := by
        unfold fx_ws fx_cd
        rw [fx_bltF (by omega), fx_bF (a := mj) (b := 500) (by omega), fx_bF (a := mj) (b := 501) (by omega), ey]
        simp only [cond_false, fx_hword]
      have hcls : (fx_m mj).1.cls = RL := fx_msL_cls _ (List.of_mem_zip hin).1
      have hT : GoodIn fx_T0 (va_wsS (fx_cls (fx_own mi)) idx (fx_yn mj) (fx_ws mj)) := by
        intro z hz
        unfold va_wsS at hz
        rcases List.mem_append.mp hz with h | h
        · refine fx_T0_good z ?_
          simp only [List.mem_cons, List.not_mem_nil, or_false] at h
          rcases h with rfl | rfl | rfl
          · exact fx_T0_in (fx_mwl_in _ hmw0) rfl
          · rw [ey]; exact fx_T0_in (fx_hs _ hin) rfl
          · rw [ey, hcls]; exact fx_T0_in fx_hz rfl
        · exact fx_ws_good (by omega) z h
      exact vx_runSX (As := as.map (fx_cv ad)) ⟨hx, hb, hml, hown, hts⟩ hM (vx_cwSW (fx_m mj).2.2.2.2.2.1 hts hT hcw rfl rfl (by rw [ey]; exact ⟨d2, d3, d4⟩) (hR' d5)) ⟨fx_blind, hpre⟩ rfl (by rw [List.length_map]; exact hn2) hl hst2 hcat hd ⟨hc, hs⟩
end FXB
