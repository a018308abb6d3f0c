theorem fx_hd_in {mi : Nat} {ev : Int} {r : Nat × Nat} (h : fx_hd mi ev = some r) : 261 ≤ mi ∧ mi < 293 ∧ fx_hf ev (fx_nth fx_hds (mi - 261) []) = some r := by
  unfold fx_hd at h
  cases hb : Nat.ble 261 mi with
  | false => rw [hb] at h; cases h
  | true =>
    rw [hb, cond_true] at h
    have h1 := Nat.le_of_ble_eq_true hb
    refine ⟨h1, Nat.not_le.mp fun z => ?_, h⟩
    rw [fx_nth_ge _ _ _ (by show 32 ≤ _; omega)] at h
    cases h
set_option maxHeartbeats 4000000 in
theorem fx_bodyS (l : Launch) (hpri : fx_Pri l) (n : Nat) (hC : fx_Con l n) (hB : fx_Body l n) : fx_Body l (n + 1) := by
  intro p e R s m args below meth c Q mi ad cy D Ls xs A pc L st σ v σ' k H locs ls cells slots hF hm hTab hap hA1 hA2 hZ hRf hRl hrun hL hS hσ hsc hl hP hSS hc hs hret hthr hnew
  unfold fx_run at hrun
  split at hrun
  · cases hrun
  · next T eT =>
    obtain ⟨len, ins, q, sw, c1, -, -, -, c2⟩ := fx_ent hm eT
    obtain ⟨h1, h2, h3, h4⟩ := fx_exe_ok c1 hL hS hσ c2
    refine fx_sim hF hm hap hA1 hZ.1 hZ.2.1 hZ.2.2.2.2.2.2.2.2.2.2.2.1 hZ.2.2.2.2.2.2.2.2.2.2.2.2.1 hZ.2.2.2.2.2.2.2.2.2.2.2.2.2 eT hL hS hσ hsc hl hP hSS (fun H1 locs1 ls1 hl1 hP1 hS1 => ?_)
    obtain ⟨pc', L', st', σ1⟩ := T
    exact hB p e R s m args below meth c Q mi ad cy D Ls xs A pc' L' st' σ1 v σ' k H1 locs1 ls1 cells slots hF hm hTab hap hA1 hA2 hZ hRf hRl hrun h1 h2 h3 (fx_scr_of hsc h4) hl1 hP1 hS1 hc hs hret hthr hnew
  · next w eT =>
    obtain ⟨len, ins, q, sw, -, -, c1, clen, cd, cn, c2⟩ := fx_ent2 hm eT
    simp only [Option.some.injEq, Prod.mk.injEq] at hrun
    obtain ⟨rfl, rfl, rfl⟩ := hrun
    have len_ : fx_isw ins = false → len = fx_il ins := fun z => by
      rw [z, Bool.false_or] at clen
      exact fx_beq clen
    rcases fx_exe_out c2 with ⟨rfl, x, rfl, hb, hz⟩ | ⟨rfl, rfl, hz⟩ | ⟨rfl, K, x, rfl, h9, hz⟩ | ⟨⟨i, rfl⟩, rfl, hz⟩ | ⟨⟨i, rfl⟩, -, -, -, -, -, hz⟩ | ⟨⟨i, rfl⟩, -, -, -, -, hz⟩
    · cases hz
      rw [len_ rfl] at cd
      simp only [fx_ckI] at c1
      refine hret pc ls H locs .ireturn cells slots rfl rfl cd (Or.inl ⟨rfl, rfl, q.1, c1, ?_⟩) hP hSS
      rcases hb with hb | hb
      · exact Or.inl (fx_beq hb)
      · exact Or.inr hb
    · cases hz
      rw [len_ rfl] at cd
      simp only [fx_ckI] at c1
      exact hret pc ls H locs .return_ cells slots rfl rfl cd (Or.inr (Or.inl ⟨rfl, rfl, c1⟩)) hP hSS
    · cases hz
      rw [len_ rfl] at cd
      simp only [fx_ckI] at c1
      have e4 : Nat.beq (K, x).1 4 = false := fx_bF (by simp only; omega)
      have e5 : Nat.beq (K, x).1 5 = false := fx_bF (by simp only; omega)
      have hr := hret pc ls H locs .areturn cells slots (by rw [e5]; rfl) (by rw [e5]; rfl) cd (Or.inr (Or.inr ⟨rfl, h9, c1⟩)) hP hSS
      unfold fx_rv at hr
      rw [e4] at hr
      exact hr
    · cases hz
      rw [len_ rfl] at cd
      exact hnew rfl pc ls H locs i q cells slots rfl rfl cd (by unfold fx_ckI at c1 ⊢; exact c1) cn rfl hl.1 hP hSS
    · cases hz
    · cases hz
  · next mj as rest eT =>
    obtain ⟨len, ins, q, sw, cin, cat, c1, clen, cd, cn, c2⟩ := fx_ent2 hm eT
    obtain ⟨g0, g1, g2, g3⟩ := fx_exe_ok c1 hL hS hσ c2
    have len_ : fx_isw ins = false → len = fx_il ins := fun z => by
      rw [z, Bool.false_or] at clen
      exact fx_beq clen
    split at hrun
    · cases hrun
    · next w σ1 k1 e1 =>
      have hpres : fx_okV w ∧ fx_rgS σ1 ∧ σ1 9 = σ 9 := by
        cases hb : Nat.ble 500 mj with
        | true =>
          rw [hb, cond_true] at e1
          split at e1
          · next u eu =>
            cases e1
            obtain ⟨p1, p2⟩ := fx_prim_ok eu
            exact ⟨Or.inr (Or.inr ⟨by omega, Or.inl ⟨Or.inl p1, p2⟩⟩), hσ, rfl⟩
          · cases e1
        | false =>
          rw [hb, cond_false] at e1
          have hj : mj < 294 := by
            rcases g0 with g | g | g
            · simp only at g; omega
            · simp only at g; subst g; cases hb
            · simp only at g; subst g; cases hb
          exact fx_pres n mj 0 _ _ _ _ _ _ hj e1 (fx_pad_ok _ g1 g2) (fun _ h => by cases h) hσ
      obtain ⟨w1, w2, w3⟩ := hpres
      have hsc1 := fx_scr_of hsc w3
      have hk1 : k1 ≤ k := by
        cases hb : Nat.beq w.1 5 with
        | true =>
          rw [hb, cond_true] at hrun
          split at hrun
          · cases hrun; exact Nat.le_refl _
          · split at hrun
            · cases hrun
            · cases hrun; exact Nat.le_add_right _ _
        | false =>
          rw [hb, cond_false] at hrun
          split at hrun
          · cases hrun
          · cases hrun; exact Nat.le_add_right _ _
      -- behind the call
      have kk : w.1 ≠ 5 → ∀ (H1 : Heap) (locs1 : List Loc), va_P D vwCl (fx_W ad cy σ1) H1 → va_S A s.heap H1 locs1 → W p l e R s m args below meth c H1 locs1 (cells + k1) (slots + 6 * k1) Q (F0 m (pc + 3) ls ((fx_rv ad w).toList ++ rest.map (fx_cv ad))) := by
        intro h5 H1 locs1 hP1 hS1
        rw [fx_bF h5, cond_false] at hrun
        split at hrun
        · cases hrun
        · next w' σ2 k2 e2 =>
          simp only [Option.some.injEq, Prod.mk.injEq] at hrun
          obtain ⟨rfl, rfl, rfl⟩ := hrun
          have hst : fx_oS (cond (Nat.beq w.1 4) rest (w :: rest)) := by
            cases hb4 : Nat.beq w.1 4 with
            | true => exact g3
            | false =>
              refine fx_oS_push g3 ?_
              rcases w1 with z | z | z
              · rw [fx_bT z] at hb4; cases hb4
              · exact absurd z.1 h5
              · exact z.2
          have em : (fx_rv ad w).toList ++ rest.map (fx_cv ad) = (cond (Nat.beq w.1 4) rest (w :: rest)).map (fx_cv ad) := by
            unfold fx_rv
            cases Nat.beq w.1 4 <;> rfl
          rw [em]
          exact hB p e R s m args below meth c Q mi ad cy D Ls xs A (pc + 3) L _ σ1 _ _ k2 H1 locs1 ls (cells + k1) (slots + 6 * k1) hF hm hTab hap hA1 hA2 hZ hRf hRl e2 hL hst w2 hsc1 hl hP1 hS1 (by omega) (by omega)
            (fun pc1 ls1 H2 locs2 ri c2 s2 q1 q2 => hret pc1 ls1 H2 locs2 ri c2 s2 (by omega) (by omega)) (fun z z1 z2 z3 pc1 ls1 H2 locs2 r2 ce q9 c2 s2 q1 q2 => hthr z z1 z2 z3 pc1 ls1 H2 locs2 r2 ce q9 c2 s2 (by omega) (by omega)) (fun z pc1 ls1 H2 locs2 ik q' c2 s2 q1 q2 => hnew z pc1 ls1 H2 locs2 ik q' c2 s2 (by omega) (by omega))
      have hpc : ((∃ i, ins = .invokevirtual i) ∨ ∃ i, ins = .invokestatic i) → pc ∈ fx_pcs (fx_code mi) := fun hi => by
        have := fx_pcs_in cin (by rw [cat]; exact hi)
        rw [cat] at this
        exact this
      have kx : ((∃ i, ins = .invokevirtual i) ∨ ∃ i, ins = .invokestatic i) → w.1 = 5 → ∀ (ce : Cell) (q9 : Addr) (H1 : Heap) (locs1 : List Loc), va_P D vwCl (fx_W ad cy σ1) H1 → va_S A s.heap H1 locs1 → H1[q9]? = some ce → ce.vm = .none → s.vm.findClass (fx_en w) = some ce.cls → vx_W p l e R s m args below meth c H1 locs1 (cells + k1) (slots + 6 * k1) Q (F0 m pc ls (rest.map (fx_cv ad))) q9 := by
        intro hi h5 ce q9 H1 locs1 hP1 hS1 hce hcv hcl
        rw [fx_bT h5, cond_true] at hrun
        split at hrun
        · simp only [Option.some.injEq, Prod.mk.injEq] at hrun
          obtain ⟨rfl, rfl, rfl⟩ := hrun
          have w5 : 0 ≤ w.2 ∧ w.2 < 4 := by
            rcases w1 with z | z | z
            · omega
            · exact z.2
            · rcases fx_o1_cases (K := w.1) (x := w.2) z.2 with y | y <;> omega
          exact hthr h5 w5.1 w5.2 (by assumption) pc ls H1 locs1 _ ce q9 _ _ rfl rfl hP1 hS1 hce hcv hcl
        · next hp i eh =>
          split at hrun
          · cases hrun
          · next w' σ2 k2 e2 =>
            simp only [Option.some.injEq, Prod.mk.injEq] at hrun
            obtain ⟨rfl, rfl, rfl⟩ := hrun
            obtain ⟨m1, m2, hf⟩ := fx_hd_in eh
            have hck := List.all_eq_true.mp fx_hk_ok (mi - 261) (List.mem_range.mpr (by omega))
            unfold fx_hk at hck
            rw [show mi - 261 + 261 = mi by omega] at hck
            obtain ⟨pre, x, suf, len', t1, t2, t3, t4, t5, t6, t7, t8, t9, t10⟩ := fx_catchP hck hf
            have hown : s.vm.findClass RL = some m.cls := by
              have h9 := hF.2.2.2.1
              have : fx_own mi = 10 := by
                have : ∀ j, j < 32 → fx_own (j + 261) = 10 := by decide +kernel
                have h10 := this (mi - 261) (by omega)
                rwa [show mi - 261 + 261 = mi by omega] at h10
              rw [this] at h9
              exact h9
            have hen : fx_en w ∈ fx_exn := fx_nth_in _ (by rw [fx_exn_len]; omega)
            have hlink : ∀ {ct ev : Nat}, (ct, ev) ∈ fx_kll → (Cond.classLink RL ct (fx_nth fx_exn ev "")).before args s = true := fun h => hF.2.2.2.2 _ (fx_T0_in (fx_kw _ h) rfl)
            refine vx_catch hown pre x suf (by rw [hTab m1 m2, t1]) (fun z hz => ?_) (t3 pc (hpc hi)) t4 (hlink t5) (va_Nw.use rfl (hZ.2.2.2.2.2.2.2.1 _ hen)) hce hcv hcl ?_
            · obtain ⟨z1, e', z2, z3, z4⟩ := t2 z hz
              refine Or.inr ⟨z1, _, hlink z3, hZ.2.2.2.2.2.2.2.2.1 _ hen _ (fx_nth_in _ (by rw [fx_exn_len]; omega)) (fx_exn_ne (by omega) z2 (by omega))⟩
            · have fin : ∀ ls' : Array Slot, lv_has ls' (fx_m mi).2.2.1 ((i, Value.ref q9) :: (fx_la ad 0 L).filter (fun q => !(q.1 == i) && !(q.1 + 1 == i && q.2.category == 2))) → W p l e R s m args below meth c H1 locs1 (cells + k1) (slots + 6 * k1) Q (F0 m hp ls' []) := by
                intro ls' hl'
                exact hB p e R s m args below meth c Q mi ad cy D Ls xs A hp (L.set i (3, 0)) [] σ1 _ _ k2 H1 locs1 ls' (cells + k1) (slots + 6 * k1) hF hm hTab hap hA1 hA2 hZ hRf hRl e2 (fx_oL_un hL i) (fun _ h => by cases h) w2 hsc1 (fx_la_un hL hl') hP1 hS1 (by omega) (by omega)
                  (fun pc1 ls1 H2 locs2 ri c2 s2 q1 q2 => hret pc1 ls1 H2 locs2 ri c2 s2 (by omega) (by omega)) (fun z z1 z2 z3 pc1 ls1 H2 locs2 r2 ce q9 c2 s2 q1 q2 => hthr z z1 z2 z3 pc1 ls1 H2 locs2 r2 ce q9 c2 s2 (by omega) (by omega)) (fun z pc1 ls1 H2 locs2 ik q' c2 s2 q1 q2 => hnew z pc1 ls1 H2 locs2 ik q' c2 s2 (by omega) (by omega))
              unfold fx_ast at t8
              split at t8
              · next kk9 nn dd =>
                simp only [Bool.and_eq_true] at t8
                have a1 := fx_beq t8.1.1
                have a2 := fx_beq t8.1.2
                have a3 := fx_beq t8.2
                subst a2 a3
                rw [t9] at fin
                exact lv_astore_n hF.1 hF.2.1 dd a1 hl (by omega) rfl fin
              · next kk9 nn dd =>
                simp only [Bool.and_eq_true] at t8
                have a1 := fx_beq t8.1.1
                have a2 := fx_beq t8.1.2
                have a3 := fx_beq t8.2
                subst a1 a2 a3
                rw [t9] at fin
                exact lv_astore hF.1 hF.2.1 dd hl (by omega) rfl fin
              · cases t8
      rcases fx_exe_out c2 with ⟨-, x, -, -, hz⟩ | ⟨-, -, hz⟩ | ⟨-, K, x, -, -, hz⟩ | ⟨-, -, hz⟩ | ⟨⟨i, rfl⟩, b1, b2, b3, b4, b5, hz⟩ | ⟨⟨i, rfl⟩, b1, b3, b4, b5, hz⟩
      · cases hz
      · cases hz
      · cases hz
      · cases hz
      · cases hz
        rw [len_ rfl] at cd
        simp only [fx_ckI, Bool.and_eq_true, Bool.or_eq_true, decide_eq_true_eq] at c1
        obtain ⟨⟨a1, a2⟩, a3⟩ := c1
        have hmj : q.1 < 261 ∨ q.1 = 500 ∨ q.1 = 501 := by
          rcases a3 with (z | z) | z
          · exact Or.inl (fx_blt z)
          · exact Or.inr (Or.inl (fx_beq z))
          · exact Or.inr (Or.inr (fx_beq z))
        obtain ⟨a, hr⟩ := fx_callV (cells := cells) (slots := slots) (l := l) (e := e) (below := below) (meth := meth) hpri hC hF hm hap hA1 hA2 hZ hRf hRl hS hσ hsc hl.1 hP hSS cd (fx_blt a1) a2 hmj b1 b2 b3 b4 b5 e1 (by omega) (by omega)
        exact fx_callW hr hSS (fx_subA hA1 hA2 hSS) (kx (Or.inl ⟨_, rfl⟩)) kk
      · cases hz
        rw [len_ rfl] at cd
        simp only [fx_ckI, Bool.and_eq_true, Bool.or_eq_true, decide_eq_true_eq] at c1
        obtain ⟨⟨a1, a2⟩, a3⟩ := c1
        have hmj := fx_blt a3
        rw [show Nat.ble 500 q.1 = false by cases hb : Nat.ble 500 q.1; rfl; have := Nat.le_of_ble_eq_true hb; omega, cond_false] at e1
        exact fx_callS hC hF hm hap hA1 hA2 hZ hRf hRl hS hσ hsc hl.1 hP hSS cd (fx_blt a1) a2 hmj b1 b3 b4 b5 e1 (by omega) (by omega) (kx (Or.inr ⟨_, rfl⟩)) kk
