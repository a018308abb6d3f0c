theorem fx_ckAll : ∀ mi, mi < 294 → fx_ckC mi = true := by
  intro mi h
  have h1 : mi ∈ ([0, 1, 2, 3, 4, 5, 6, 7, 8, 9, 10, 11, 12, 13, 14, 15, 16] ++ ([17, 18, 19, 20, 21, 22, 23, 24, 25, 26] ++ ([27, 28, 29, 30, 31, 32, 33, 34, 35, 36, 37] ++ ([38, 39, 40, 41, 42, 43, 44, 45, 46, 47, 48, 49, 50, 51] ++ ([52, 53, 54, 55, 56, 57, 58, 59, 60] ++ ([61, 62, 63, 64, 65, 66] ++ ([67, 68, 69, 70, 71, 72, 73, 74, 75, 76, 77, 78, 79, 80, 81] ++ ([82, 83, 84, 85, 86, 87, 88, 89, 90, 91, 92, 93, 94] ++ ([95, 96, 97, 98, 99, 100, 101, 102, 103, 104, 105, 106, 107, 108, 109, 110, 111, 112] ++ ([113, 114, 115, 116, 117, 118, 119, 120, 121, 122, 123, 124, 125, 126, 127, 128, 129, 130, 131, 132] ++ ([133, 134, 135, 136, 137, 138, 139, 140, 141, 142, 143, 144, 145, 146, 147, 148, 149, 150, 151, 152, 153, 154, 155, 156, 157] ++ ([158, 159, 160, 161, 162, 163, 164, 165, 166, 167] ++ ([168, 169, 170, 171, 172, 173, 174, 175, 176, 177, 178] ++ ([179, 180, 181, 182, 183, 184, 185, 186, 187, 188, 189, 190, 191] ++ ([192, 193, 194, 195, 196, 197, 198, 199, 200, 201] ++ ([202, 203, 204, 205, 206, 207, 208, 209, 210] ++ ([211, 212, 213, 214, 215, 216, 217, 218, 219, 220] ++ ([221, 222, 223, 224, 225, 226, 227, 228, 229] ++ ([230, 231, 232, 233, 234, 235, 236, 237, 238] ++ ([239, 240, 241, 242, 243, 244, 245, 246, 247] ++ ([248, 249, 250, 251, 252, 253, 254, 255, 256, 257, 258] ++ ([259, 260, 261, 262, 263, 264, 265, 266, 267, 268, 269, 270, 271, 272, 273, 274, 275, 276, 277, 278, 279, 280, 281, 282, 283, 284] ++ ([285, 286, 287, 288, 289, 290, 291, 292] ++ ([293]))))))))))))))))))))))) : List Nat) := by
    have h2 : mi ∈ List.range 294 := List.mem_range.mpr h
    have h3 : List.range 294 = [0, 1, 2, 3, 4, 5, 6, 7, 8, 9, 10, 11, 12, 13, 14, 15, 16] ++ ([17, 18, 19, 20, 21, 22, 23, 24, 25, 26] ++ ([27, 28, 29, 30, 31, 32, 33, 34, 35, 36, 37] ++ ([38, 39, 40, 41, 42, 43, 44, 45, 46, 47, 48, 49, 50, 51] ++ ([52, 53, 54, 55, 56, 57, 58, 59, 60] ++ ([61, 62, 63, 64, 65, 66] ++ ([67, 68, 69, 70, 71, 72, 73, 74, 75, 76, 77, 78, 79, 80, 81] ++ ([82, 83, 84, 85, 86, 87, 88, 89, 90, 91, 92, 93, 94] ++ ([95, 96, 97, 98, 99, 100, 101, 102, 103, 104, 105, 106, 107, 108, 109, 110, 111, 112] ++ ([113, 114, 115, 116, 117, 118, 119, 120, 121, 122, 123, 124, 125, 126, 127, 128, 129, 130, 131, 132] ++ ([133, 134, 135, 136, 137, 138, 139, 140, 141, 142, 143, 144, 145, 146, 147, 148, 149, 150, 151, 152, 153, 154, 155, 156, 157] ++ ([158, 159, 160, 161, 162, 163, 164, 165, 166, 167] ++ ([168, 169, 170, 171, 172, 173, 174, 175, 176, 177, 178] ++ ([179, 180, 181, 182, 183, 184, 185, 186, 187, 188, 189, 190, 191] ++ ([192, 193, 194, 195, 196, 197, 198, 199, 200, 201] ++ ([202, 203, 204, 205, 206, 207, 208, 209, 210] ++ ([211, 212, 213, 214, 215, 216, 217, 218, 219, 220] ++ ([221, 222, 223, 224, 225, 226, 227, 228, 229] ++ ([230, 231, 232, 233, 234, 235, 236, 237, 238] ++ ([239, 240, 241, 242, 243, 244, 245, 246, 247] ++ ([248, 249, 250, 251, 252, 253, 254, 255, 256, 257, 258] ++ ([259, 260, 261, 262, 263, 264, 265, 266, 267, 268, 269, 270, 271, 272, 273, 274, 275, 276, 277, 278, 279, 280, 281, 282, 283, 284] ++ ([285, 286, 287, 288, 289, 290, 291, 292] ++ ([293]))))))))))))))))))))))) := by decide +kernel
    rwa [h3] at h2
  simp only [List.mem_append] at h1
  rcases h1 with h1 | h1 | h1 | h1 | h1 | h1 | h1 | h1 | h1 | h1 | h1 | h1 | h1 | h1 | h1 | h1 | h1 | h1 | h1 | h1 | h1 | h1 | h1 | h1
  · exact List.all_eq_true.mp fx_ck_0 mi h1
  · exact List.all_eq_true.mp fx_ck_1 mi h1
  · exact List.all_eq_true.mp fx_ck_2 mi h1
  · exact List.all_eq_true.mp fx_ck_3 mi h1
  · exact List.all_eq_true.mp fx_ck_4 mi h1
  · exact List.all_eq_true.mp fx_ck_5 mi h1
  · exact List.all_eq_true.mp fx_ck_6 mi h1
  · exact List.all_eq_true.mp fx_ck_7 mi h1
  · exact List.all_eq_true.mp fx_ck_8 mi h1
  · exact List.all_eq_true.mp fx_ck_9 mi h1
  · exact List.all_eq_true.mp fx_ck_10 mi h1
  · exact List.all_eq_true.mp fx_ck_11 mi h1
  · exact List.all_eq_true.mp fx_ck_12 mi h1
  · exact List.all_eq_true.mp fx_ck_13 mi h1
  · exact List.all_eq_true.mp fx_ck_14 mi h1
  · exact List.all_eq_true.mp fx_ck_15 mi h1
  · exact List.all_eq_true.mp fx_ck_16 mi h1
  · exact List.all_eq_true.mp fx_ck_17 mi h1
  · exact List.all_eq_true.mp fx_ck_18 mi h1
  · exact List.all_eq_true.mp fx_ck_19 mi h1
  · exact List.all_eq_true.mp fx_ck_20 mi h1
  · exact List.all_eq_true.mp fx_ck_21 mi h1
  · exact List.all_eq_true.mp fx_ck_22 mi h1
  · exact List.all_eq_true.mp fx_ck_23 mi h1
theorem fx_dcAll : ∀ mi, mi < 294 → fx_dcC mi = true := by
  intro mi h
  have h1 : mi ∈ ([0, 1, 2, 3, 4, 5, 6, 7, 8, 9, 10, 11, 12, 13, 14, 15, 16] ++ ([17, 18, 19, 20, 21, 22, 23, 24, 25, 26] ++ ([27, 28, 29, 30, 31, 32, 33, 34, 35, 36, 37] ++ ([38, 39, 40, 41, 42, 43, 44, 45, 46, 47, 48, 49, 50, 51] ++ ([52, 53, 54, 55, 56, 57, 58, 59, 60] ++ ([61, 62, 63, 64, 65, 66] ++ ([67, 68, 69, 70, 71, 72, 73, 74, 75, 76, 77, 78, 79, 80, 81] ++ ([82, 83, 84, 85, 86, 87, 88, 89, 90, 91, 92, 93, 94] ++ ([95, 96, 97, 98, 99, 100, 101, 102, 103, 104, 105, 106, 107, 108, 109, 110, 111, 112] ++ ([113, 114, 115, 116, 117, 118, 119, 120, 121, 122, 123, 124, 125, 126, 127, 128, 129, 130, 131, 132] ++ ([133, 134, 135, 136, 137, 138, 139, 140, 141, 142, 143, 144, 145, 146, 147, 148, 149, 150, 151, 152, 153, 154, 155, 156, 157] ++ ([158, 159, 160, 161, 162, 163, 164, 165, 166, 167] ++ ([168, 169, 170, 171, 172, 173, 174, 175, 176, 177, 178] ++ ([179, 180, 181, 182, 183, 184, 185, 186, 187, 188, 189, 190, 191] ++ ([192, 193, 194, 195, 196, 197, 198, 199, 200, 201] ++ ([202, 203, 204, 205, 206, 207, 208, 209, 210] ++ ([211, 212, 213, 214, 215, 216, 217, 218, 219, 220] ++ ([221, 222, 223, 224, 225, 226, 227, 228, 229] ++ ([230, 231, 232, 233, 234, 235, 236, 237, 238] ++ ([239, 240, 241, 242, 243, 244, 245, 246, 247] ++ ([248, 249, 250, 251, 252, 253, 254, 255, 256, 257, 258] ++ ([259, 260, 261, 262, 263, 264, 265, 266, 267, 268, 269, 270, 271, 272, 273, 274, 275, 276, 277, 278, 279, 280, 281, 282, 283, 284] ++ ([285, 286, 287, 288, 289, 290, 291, 292] ++ ([293]))))))))))))))))))))))) : List Nat) := by
    have h2 : mi ∈ List.range 294 := List.mem_range.mpr h
    have h3 : List.range 294 = [0, 1, 2, 3, 4, 5, 6, 7, 8, 9, 10, 11, 12, 13, 14, 15, 16] ++ ([17, 18, 19, 20, 21, 22, 23, 24, 25, 26] ++ ([27, 28, 29, 30, 31, 32, 33, 34, 35, 36, 37] ++ ([38, 39, 40, 41, 42, 43, 44, 45, 46, 47, 48, 49, 50, 51] ++ ([52, 53, 54, 55, 56, 57, 58, 59, 60] ++ ([61, 62, 63, 64, 65, 66] ++ ([67, 68, 69, 70, 71, 72, 73, 74, 75, 76, 77, 78, 79, 80, 81] ++ ([82, 83, 84, 85, 86, 87, 88, 89, 90, 91, 92, 93, 94] ++ ([95, 96, 97, 98, 99, 100, 101, 102, 103, 104, 105, 106, 107, 108, 109, 110, 111, 112] ++ ([113, 114, 115, 116, 117, 118, 119, 120, 121, 122, 123, 124, 125, 126, 127, 128, 129, 130, 131, 132] ++ ([133, 134, 135, 136, 137, 138, 139, 140, 141, 142, 143, 144, 145, 146, 147, 148, 149, 150, 151, 152, 153, 154, 155, 156, 157] ++ ([158, 159, 160, 161, 162, 163, 164, 165, 166, 167] ++ ([168, 169, 170, 171, 172, 173, 174, 175, 176, 177, 178] ++ ([179, 180, 181, 182, 183, 184, 185, 186, 187, 188, 189, 190, 191] ++ ([192, 193, 194, 195, 196, 197, 198, 199, 200, 201] ++ ([202, 203, 204, 205, 206, 207, 208, 209, 210] ++ ([211, 212, 213, 214, 215, 216, 217, 218, 219, 220] ++ ([221, 222, 223, 224, 225, 226, 227, 228, 229] ++ ([230, 231, 232, 233, 234, 235, 236, 237, 238] ++ ([239, 240, 241, 242, 243, 244, 245, 246, 247] ++ ([248, 249, 250, 251, 252, 253, 254, 255, 256, 257, 258] ++ ([259, 260, 261, 262, 263, 264, 265, 266, 267, 268, 269, 270, 271, 272, 273, 274, 275, 276, 277, 278, 279, 280, 281, 282, 283, 284] ++ ([285, 286, 287, 288, 289, 290, 291, 292] ++ ([293]))))))))))))))))))))))) := by decide +kernel
    rwa [h3] at h2
  simp only [List.mem_append] at h1
  rcases h1 with h1 | h1 | h1 | h1 | h1 | h1 | h1 | h1 | h1 | h1 | h1 | h1 | h1 | h1 | h1 | h1 | h1 | h1 | h1 | h1 | h1 | h1 | h1 | h1
  · exact List.all_eq_true.mp fx_dc_0 mi h1
  · exact List.all_eq_true.mp fx_dc_1 mi h1
  · exact List.all_eq_true.mp fx_dc_2 mi h1
  · exact List.all_eq_true.mp fx_dc_3 mi h1
  · exact List.all_eq_true.mp fx_dc_4 mi h1
  · exact List.all_eq_true.mp fx_dc_5 mi h1
  · exact List.all_eq_true.mp fx_dc_6 mi h1
  · exact List.all_eq_true.mp fx_dc_7 mi h1
  · exact List.all_eq_true.mp fx_dc_8 mi h1
  · exact List.all_eq_true.mp fx_dc_9 mi h1
  · exact List.all_eq_true.mp fx_dc_10 mi h1
  · exact List.all_eq_true.mp fx_dc_11 mi h1
  · exact List.all_eq_true.mp fx_dc_12 mi h1
  · exact List.all_eq_true.mp fx_dc_13 mi h1
  · exact List.all_eq_true.mp fx_dc_14 mi h1
  · exact List.all_eq_true.mp fx_dc_15 mi h1
  · exact List.all_eq_true.mp fx_dc_16 mi h1
  · exact List.all_eq_true.mp fx_dc_17 mi h1
  · exact List.all_eq_true.mp fx_dc_18 mi h1
  · exact List.all_eq_true.mp fx_dc_19 mi h1
  · exact List.all_eq_true.mp fx_dc_20 mi h1
  · exact List.all_eq_true.mp fx_dc_21 mi h1
  · exact List.all_eq_true.mp fx_dc_22 mi h1
  · exact List.all_eq_true.mp fx_dc_23 mi h1
theorem fx_ent {mi pc : Nat} {L st : List fx_V} {σ : fx_S} {R : fx_R} (hm : mi < 294) (h : fx_step (fx_code mi) fx_rk pc L st σ = some R) : ∃ len ins q sw, fx_ckI mi pc q sw ins = true ∧ (fx_isw ins || Nat.beq len (fx_il ins)) = true ∧ decode (fx_m mi).2.1 pc = .ok (ins, len) ∧ fx_dcN (fx_m mi).2.1 pc q ins = true ∧ fx_exe ins q sw fx_rk pc L st σ = some R := by
  rcases fx_at_in (c := fx_code mi) (pc := pc) with ⟨h1, h2⟩ | h1
  · have c1 := List.all_eq_true.mp (fx_ckAll mi hm) _ h1
    have c2 := List.all_eq_true.mp (fx_dcAll mi hm) _ h1
    unfold fx_step at h
    generalize fx_at (fx_code mi) pc = e at *
    obtain ⟨pc', len, ins, q, sw⟩ := e
    simp only at h2
    subst h2
    simp only [fx_ckE, Bool.and_eq_true] at c1
    simp only [fx_dcE, Bool.and_eq_true, decide_eq_true_eq] at c2
    exact ⟨len, ins, q, sw, c1.1, c1.2, c2.1, c2.2, h⟩
  · unfold fx_step at h
    rw [h1] at h
    simp only [fx_exe] at h
    cases h
theorem fx_tx_ok : ∀ l ∈ fx_tx, l.length < 100 ∧ ∀ b ∈ l, 0 ≤ b ∧ b < 256 := by decide +kernel
theorem fx_tx_at (i : Nat) : (fx_nth fx_tx i []).length < 100 ∧ ∀ b ∈ fx_nth fx_tx i [], 0 ≤ b ∧ b < 256 := by
  by_cases h : i < fx_tx.length
  · exact fx_tx_ok _ (fx_nth_in [] h)
  · rw [fx_nth_ge _ _ _ (by omega)]
    exact ⟨by simp, fun b hb => by cases hb⟩
theorem fx_prim_ok {mj : Nat} {as : List fx_V} {v : fx_V} (h : fx_prim mj as = some v) : v.1 = 0 ∧ fx_rg v.2 := by
  unfold fx_prim at h
  split at h
  · next K i =>
    cases hb : Nat.beq mj 500 with
    | false => rw [hb] at h; cases h
    | true =>
      rw [hb] at h
      cases h
      have := (fx_tx_at i.toNat).1
      exact ⟨rfl, by simp only; omega, by simp only; omega⟩
  · next K i k =>
    cases hb : Nat.beq mj 501 with
    | false => rw [hb] at h; cases h
    | true =>
      rw [hb, cond_true] at h
      by_cases hk : 0 ≤ k ∧ k < ((fx_nth fx_tx i.toNat []).length : Int)
      · rw [if_pos hk] at h
        cases h
        have := (fx_tx_at i.toNat).2 _ (fx_nth_in (l := fx_nth fx_tx i.toNat []) (n := k.toNat) 0 (by omega))
        exact ⟨rfl, by simp only; omega, by simp only; omega⟩
      · rw [if_neg hk] at h; cases h
  · cases h
theorem fx_pad_ok : ∀ (n : Nat) {as : List fx_V}, fx_oS as → (∀ v ∈ as, v.1 ≠ 1) → fx_oL (fx_pad n as)
  | 0, _, _, _ => fun _ h => by cases h
  | n + 1, [], h1, h2 => fun v hv => by
    rcases List.mem_cons.mp hv with rfl | hv
    · exact Or.inr rfl
    · exact fx_pad_ok n h1 h2 v hv
  | n + 1, a :: as, h1, h2 => fun v hv => by
    rcases List.mem_cons.mp hv with rfl | hv
    · exact Or.inl ⟨h2 _ List.mem_cons_self, fx_oS_head h1⟩
    · exact fx_pad_ok n (fx_oS_tail h1) (fun w hw => h2 w (List.mem_cons_of_mem _ hw)) v hv
def fx_okV (v : fx_V) : Prop := v.1 = 4 ∨ (v.1 = 5 ∧ 0 ≤ v.2 ∧ v.2 < 4) ∨ (v.1 ≠ 1 ∧ fx_o1 v)
theorem fx_pres : ∀ (n mi pc : Nat) (L st : List fx_V) (σ : fx_S) (v : fx_V) (σ' : fx_S) (k : Nat), mi < 294 → fx_run n mi (pc, L, st, σ) = some (v, σ', k) → fx_oL L → fx_oS st → fx_rgS σ → fx_okV v ∧ fx_rgS σ' ∧ σ' 9 = σ 9
  | 0, _, _, _, _, _, _, _, _, _, h, _, _, _ => by cases h
  | n + 1, mi, pc, L, st, σ, v, σ', k, hm, h, hL, hS, hσ => by
    unfold fx_run at h
    split at h
    · cases h
    · next T e =>
      obtain ⟨len, ins, q, sw, c1, -, -, -, c2⟩ := fx_ent hm e
      obtain ⟨h1, h2, h3, h4⟩ := fx_exe_ok c1 hL hS hσ c2
      obtain ⟨pc', L', st', σ1⟩ := T
      have h5 := fx_pres n mi pc' L' st' σ1 v σ' k hm h h1 h2 h3
      exact ⟨h5.1, h5.2.1, h5.2.2.trans h4⟩
    · next w e =>
      obtain ⟨len, ins, q, sw, c1, -, -, -, c2⟩ := fx_ent hm e
      have h1 := fx_exe_ok c1 hL hS hσ c2
      cases h
      exact ⟨h1, hσ, rfl⟩
    · next mj as rest e =>
      obtain ⟨len, ins, q, sw, c1, -, -, -, c2⟩ := fx_ent hm e
      obtain ⟨g0, g1, g2, g3⟩ := fx_exe_ok c1 hL hS hσ c2
      split at h
      · cases h
      · next w σ1 k1 e1 =>
        have hw : fx_okV w ∧ fx_rgS σ1 ∧ σ1 9 = σ 9 := by
          cases hb : Nat.ble 500 mj with
          | true =>
            rw [hb, cond_true] at e1
            split at e1
            · next u eu =>
              cases e1
              obtain ⟨p1, p2⟩ := fx_prim_ok eu
              exact ⟨Or.inr (Or.inr ⟨by omega, Or.inl ⟨Or.inl p1, p2⟩⟩), hσ, rfl⟩
            · cases e1
          | false =>
            rw [hb, cond_false] at e1
            have hj : mj < 294 := by
              rcases g0 with g | g | g
              · simp only at g; omega
              · simp only at g; subst g; cases hb
              · simp only at g; subst g; cases hb
            exact fx_pres n mj 0 _ _ _ _ _ _ hj e1 (fx_pad_ok _ g1 g2) (fun _ h => by cases h) hσ
        obtain ⟨w1, w2, w3⟩ := hw
        cases hb : Nat.beq w.1 5 with
        | true =>
          rw [hb, cond_true] at h
          split at h
          · cases h
            exact ⟨w1, w2, w3⟩
          · next hp i ei =>
            split at h
            · cases h
            · next w' σ2 k2 e2 =>
              cases h
              have h5 := fx_pres n mi hp _ _ _ _ _ _ hm e2 (fx_oL_un hL i) (fun _ h => by cases h) w2
              exact ⟨h5.1, h5.2.1, h5.2.2.trans w3⟩
        | false =>
          rw [hb, cond_false] at h
          split at h
          · cases h
          · next w' σ2 k2 e2 =>
            cases h
            have hst : fx_oS (cond (Nat.beq w.1 4) rest (w :: rest)) := by
              cases hb4 : Nat.beq w.1 4 with
              | true => exact g3
              | false =>
                refine fx_oS_push g3 ?_
                rcases w1 with z | z | z
                · rw [fx_bT z] at hb4; cases hb4
                · rw [fx_bT z.1] at hb; cases hb
                · exact z.2
            have h5 := fx_pres n mi (pc + 3) _ _ _ _ _ _ hm e2 hL hst w2
            exact ⟨h5.1, h5.2.1, h5.2.2.trans w3⟩
