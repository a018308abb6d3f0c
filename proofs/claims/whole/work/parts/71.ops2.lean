theorem fx_and255 (x : Int) : 0 ≤ fx_and x 255 ∧ fx_and x 255 ≤ 255 := by
  have h : (Int32.ofInt x &&& Int32.ofInt 255).toInt = ((Int32.ofInt x).toBitVec &&& 255#32).toInt := by
    rw [← Int32.toInt_toBitVec, Int32.toBitVec_and]; rfl
  have h2 : ((Int32.ofInt x).toBitVec &&& 255#32).toNat ≤ 255 := by
    rw [BitVec.toNat_and]; exact Nat.and_le_right
  unfold fx_and
  rw [h, BitVec.toInt_eq_toNat_of_lt (by omega)]
  omega
theorem fx_rem4 {x : Int} (h0 : 0 ≤ x) (h1 : x < 20) : fx_rem x 4 = x % 4 := by
  have : x = 0 ∨ x = 1 ∨ x = 2 ∨ x = 3 ∨ x = 4 ∨ x = 5 ∨ x = 6 ∨ x = 7 ∨ x = 8 ∨ x = 9 ∨ x = 10 ∨ x = 11 ∨ x = 12 ∨ x = 13 ∨ x = 14 ∨ x = 15 ∨ x = 16 ∨ x = 17 ∨ x = 18 ∨ x = 19 := by omega
  rcases this with rfl | rfl | rfl | rfl | rfl | rfl | rfl | rfl | rfl | rfl | rfl | rfl | rfl | rfl | rfl | rfl | rfl | rfl | rfl | rfl <;> decide
/-- an octet of a number -/
def fs_oc (x j : Int) : Int := fx_and (fx_ushr x (24 - 8 * j)) 255
/-- the octets of five numbers -/
def fs_o5 (x1 x2 x3 x4 x5 j : Int) : Int := if j < 4 then fs_oc x1 j else if j < 8 then fs_oc x2 (j - 4) else if j < 12 then fs_oc x3 (j - 8) else if j < 16 then fs_oc x4 (j - 12) else fs_oc x5 (j - 16)
section FXF0
variable {σ τ : fx_S} {Q : fx_V → fx_S → Prop}
theorem c9s {x y y' m : Int} (hm : σ 28 0 4 = m) (m0 : 0 ≤ m ∧ m < 400) (y0 : 0 ≤ y ∧ y ≤ 24) (hy : y + (-8) = y') (k : fx_Wp 9 3 [(28, 0), (0, x), (0, y')] [] (fx_up (fx_up σ 29 0 m (fx_and (fx_ushr x y) 255)) 28 0 4 (m + 1)) Q) : fx_Wp 9 3 [(28, 0), (0, x), (0, y)] [] σ Q := by
  refine t9_3 ?_
  rw [hm, hy]
  exact ⟨fun a => by omega, fun _ => ⟨fun a => by omega, fun _ => ⟨m0, ⟨by omega, by omega⟩, ⟨by omega, by omega⟩, k⟩⟩⟩
/-- appended octets -/
def fs_ap (σ τ : fx_S) (n m : Int) (B : Int → Int) : Prop := (∀ K o p, ¬ ((K = 28 ∧ o = 0 ∧ p = 4) ∨ (K = 29 ∧ o = 0 ∧ n ≤ p)) → τ K o p = σ K o p) ∧ τ 28 0 4 = n + m ∧ ∀ j, 0 ≤ j → j < m → τ 29 0 (n + j) = B j
theorem c9 {x n m : Int} {B : Int → Int} {σ0 : fx_S} (h : fs_ap σ0 σ n m B) (h0 : 0 ≤ n) (hm : 0 ≤ m) (h1 : n + m ≤ 396) (hB : ∀ j, 0 ≤ j → j < 4 → B (m + j) = fs_oc x j) : fx_Ca 9 [(28, 0), (0, x)] σ (fun v τ => v = (4, 0) ∧ fs_ap σ0 τ n (m + 4) B) := by
  obtain ⟨f, hl, hp⟩ := h
  refine t9_0 (c9s hl ⟨by omega, by omega⟩ ⟨by omega, by omega⟩ (y' := 16) (by omega) ?_)
  refine c9s (m := n + m + 1) fx_upS ⟨by omega, by omega⟩ ⟨by omega, by omega⟩ (y' := 8) (by omega) ?_
  refine c9s (m := n + m + 1 + 1) fx_upS ⟨by omega, by omega⟩ ⟨by omega, by omega⟩ (y' := 0) (by omega) ?_
  refine c9s (m := n + m + 1 + 1 + 1) fx_upS ⟨by omega, by omega⟩ ⟨by omega, by omega⟩ (y' := -8) (by omega) ?_
  refine t9_3 ⟨fun _ => ⟨rfl, fun K o p hK => ?_, ?_, fun j j0 j1 => ?_⟩, fun a => by omega⟩
  · rw [fx_upE, if_neg (by omega), fx_upE, if_neg (by omega), fx_upE, if_neg (by omega), fx_upE, if_neg (by omega), fx_upE, if_neg (by omega), fx_upE, if_neg (by omega), fx_upE, if_neg (by omega), fx_upE, if_neg (by omega)]
    exact f K o p hK
  · rw [fx_upS]; omega
  · have b0 := hB 0 (by omega) (by omega)
    have b1 := hB 1 (by omega) (by omega)
    have b2 := hB 2 (by omega) (by omega)
    have b3 := hB 3 (by omega) (by omega)
    have e0 : fs_oc x 0 = fx_and (fx_ushr x 24) 255 := rfl
    have e1 : fs_oc x 1 = fx_and (fx_ushr x 16) 255 := rfl
    have e2 : fs_oc x 2 = fx_and (fx_ushr x 8) 255 := rfl
    have e3 : fs_oc x 3 = fx_and (fx_ushr x 0) 255 := rfl
    simp only [fx_upE]
    by_cases q3 : j = m + 3
    · subst q3; simp; rw [if_pos (by omega), b3, e3]
    by_cases q2 : j = m + 2
    · subst q2; simp; rw [if_neg (by omega), if_pos (by omega), b2, e2]
    by_cases q1 : j = m + 1
    · subst q1; simp; rw [if_neg (by omega), if_neg (by omega), if_pos (by omega), b1, e1]
    by_cases q0 : j = m
    · subst q0; simp; rw [if_neg (by omega), if_neg (by omega), if_neg (by omega)]; rw [show j + 0 = j by omega] at b0; rw [b0, e0]
    simp; rw [if_neg (by omega), if_neg (by omega), if_neg (by omega), if_neg (by omega)]; exact hp j j0 (by omega)
theorem c96 {x1 x2 x3 x4 x5 : Int} (h0 : 0 ≤ σ 28 0 4) (h1 : σ 28 0 4 ≤ 400) : fx_Ca 96 [(10, 0), (0, x1), (0, x2), (0, x3), (0, x4), (0, x5)] σ (fun v τ => (σ 28 0 4 + 20 ≤ 400 ∧ v = (0, σ 28 0 4 + 20) ∧ fs_ap σ τ (σ 28 0 4) 20 (fs_o5 x1 x2 x3 x4 x5)) ∨ (400 < σ 28 0 4 + 20 ∧ v = (0, -1) ∧ τ = σ)) := by
  refine t96_0 ⟨⟨by omega, by omega⟩, fun hl => ?_, fun hl => Or.inr ⟨hl, rfl, rfl⟩⟩
  have a0 : fs_ap σ σ (σ 28 0 4) 0 (fs_o5 x1 x2 x3 x4 x5) := ⟨fun _ _ _ _ => rfl, by omega, fun j j0 j1 => by omega⟩
  refine fx_CV_of (c9 a0 h0 (by omega) (by omega) (fun j j0 j1 => by unfold fs_o5; rw [if_pos (by omega)]; congr 1; omega)) ?_
  rintro v τ ⟨rfl, a⟩
  refine Or.inl ⟨rfl, fx_CV_of (c9 a h0 (by omega) (by omega) (fun j j0 j1 => by unfold fs_o5; rw [if_neg (by omega), if_pos (by omega)]; congr 1; omega)) ?_⟩
  rintro v τ ⟨rfl, a⟩
  refine Or.inl ⟨rfl, fx_CV_of (c9 a h0 (by omega) (by omega) (fun j j0 j1 => by unfold fs_o5; rw [if_neg (by omega), if_neg (by omega), if_pos (by omega)]; congr 1; omega)) ?_⟩
  rintro v τ ⟨rfl, a⟩
  refine Or.inl ⟨rfl, fx_CV_of (c9 a h0 (by omega) (by omega) (fun j j0 j1 => by unfold fs_o5; rw [if_neg (by omega), if_neg (by omega), if_neg (by omega), if_pos (by omega)]; congr 1; omega)) ?_⟩
  rintro v τ ⟨rfl, a⟩
  refine Or.inl ⟨rfl, fx_CV_of (c9 a h0 (by omega) (by omega) (fun j j0 j1 => by unfold fs_o5; rw [if_neg (by omega), if_neg (by omega), if_neg (by omega), if_neg (by omega)]; congr 1; omega)) ?_⟩
  rintro v τ ⟨rfl, a⟩
  have e := a.2.1
  refine Or.inl ⟨rfl, Or.inl ⟨hl, ?_, a⟩⟩
  rw [show τ 28 0 4 = σ 28 0 4 + 20 by omega]
/-- the reference's -/
theorem c179 {x1 x2 x3 x4 x5 : Int} (h0 : 0 ≤ σ 46 0 9) (h1 : σ 46 0 9 ≤ 400) : fx_Ca 179 [(46, 0), (0, x1), (0, x2), (0, x3), (0, x4), (0, x5)] σ (fun v τ => (∀ K o p, ¬ ((K = 46 ∧ o = 0 ∧ (p = 0 ∨ p = 9)) ∨ (K = 51 ∧ o = 0 ∧ σ 46 0 9 ≤ p)) → τ K o p = σ K o p) ∧ ((σ 46 0 9 + 20 ≤ 400 ∧ v = (0, σ 46 0 9 + 20) ∧ τ 46 0 9 = σ 46 0 9 + 20 ∧ ∀ j, 0 ≤ j → j < 20 → τ 51 0 (σ 46 0 9 + j) = fs_o5 x1 x2 x3 x4 x5 j) ∨ (400 < σ 46 0 9 + 20 ∧ v = (0, -1) ∧ τ 46 0 9 = σ 46 0 9 ∧ ∀ q, τ 51 0 q = σ 51 0 q))) := by
  refine t179_0 ⟨⟨by omega, by omega⟩, fun hl => ?_, fun hl => ⟨fun K o p hK => by rw [fx_upE, if_neg (by omega)], Or.inr ⟨hl, rfl, fx_upJ (by omega), fun q => fx_upK rfl⟩⟩⟩
  refine fx_whl (X := Int × fx_V × fx_S) (fun y => [(46, 0), (0, x1), (0, x2), (0, x3), (0, x4), (0, x5), (0, y.1), y.2.1]) (fun y => y.2.2) (fun y => (0 ≤ y.1 ∧ y.1 ≤ 20) ∧ (∀ K o p, ¬ ((K = 46 ∧ o = 0 ∧ (p = 0 ∨ p = 9)) ∨ (K = 51 ∧ o = 0 ∧ σ 46 0 9 ≤ p)) → y.2.2 K o p = σ K o p) ∧ y.2.2 46 0 9 = σ 46 0 9 + y.1 ∧ ∀ j, 0 ≤ j → j < y.1 → y.2.2 51 0 (σ 46 0 9 + j) = fs_o5 x1 x2 x3 x4 x5 j) (fun y => (20 - y.1).toNat) ?_ (0, (3, 0), fx_up σ 46 0 0 0) ⟨⟨by simp, by simp⟩, fun K o p hK => by simp only; rw [fx_upE, if_neg (by omega)], by simp only; rw [fx_upJ (by omega)]; omega, fun j j0 j1 => by simp only at j1; omega⟩
  rintro ⟨k, w7, τ⟩ ⟨⟨k0, k1⟩, hf, hl9, hp⟩ ih
  simp only at k0 k1 hf hl9 hp
  show fx_Wp 179 23 [(46, 0), (0, x1), (0, x2), (0, x3), (0, x4), (0, x5), (0, k), w7] [] τ _
  have next : ∀ (x : Int) (w : fx_V), fs_oc x (k % 4) = fs_o5 x1 x2 x3 x4 x5 k → k < 20 → (fx_rg (8 * (fx_rem k 4))) ∧ (fx_rg (24 - (8 * (fx_rem k 4)))) ∧ (0 ≤ (τ 46 0 9) ∧ (τ 46 0 9) < 400) ∧ (fx_rg ((τ 46 0 9) + 1)) ∧ (fx_rg (k + 1)) ∧ fx_Wp 179 23 [(46, 0), (0, x1), (0, x2), (0, x3), (0, x4), (0, x5), (0, (k + 1)), w] [] (fx_up (fx_up τ 51 0 (τ 46 0 9) (fx_and (fx_ushr x (24 - (8 * (fx_rem k 4)))) 255)) 46 0 9 ((τ 46 0 9) + 1)) (fun v τ => (∀ K o p, ¬ ((K = 46 ∧ o = 0 ∧ (p = 0 ∨ p = 9)) ∨ (K = 51 ∧ o = 0 ∧ σ 46 0 9 ≤ p)) → τ K o p = σ K o p) ∧ ((σ 46 0 9 + 20 ≤ 400 ∧ v = (0, σ 46 0 9 + 20) ∧ τ 46 0 9 = σ 46 0 9 + 20 ∧ ∀ j, 0 ≤ j → j < 20 → τ 51 0 (σ 46 0 9 + j) = fs_o5 x1 x2 x3 x4 x5 j) ∨ (400 < σ 46 0 9 + 20 ∧ v = (0, -1) ∧ τ 46 0 9 = σ 46 0 9 ∧ ∀ q, τ 51 0 q = σ 51 0 q))) := by
    intro x w hx hk
    rw [fx_rem4 k0 hk, hl9]
    refine ⟨⟨by omega, by omega⟩, ⟨by omega, by omega⟩, ⟨by omega, by omega⟩, ⟨by omega, by omega⟩, ⟨by omega, by omega⟩, ?_⟩
    generalize hE : fx_up (fx_up τ 51 0 (σ 46 0 9 + k) (fx_and (fx_ushr x (24 - (8 * (k % 4)))) 255)) 46 0 9 (σ 46 0 9 + k + 1) = ρ
    refine ih (k + 1, w, ρ) ⟨⟨by simp only; omega, by simp only; omega⟩, fun K o p hK => ?_, ?_, fun j j0 j1 => ?_⟩ (by simp only; omega)
    · simp only
      rw [← hE, fx_upE, if_neg (by omega), fx_upE, if_neg (by omega)]; exact hf K o p hK
    · simp only
      rw [← hE, fx_upS]; omega
    · simp only at j1 ⊢
      rw [← hE, fx_upK rfl]
      by_cases e : j = k
      · rw [e, fx_upS]; exact hx
      · rw [fx_upJ (by omega)]; exact hp j j0 (by omega)
  refine t179_23 ⟨fun a => ⟨hf, Or.inl ⟨hl, by rw [hl9]; congr 1; omega, by rw [hl9]; omega, fun j j0 j1 => hp j j0 (by omega)⟩⟩, fun a => ⟨fun b => ⟨fun c => ⟨fun d => ⟨fun e => next x5 _ ?_ a, fun e => next x4 _ ?_ a⟩, fun d => next x3 _ ?_ a⟩, fun c => next x2 _ ?_ a⟩, fun b => next x1 _ ?_ a⟩⟩
  all_goals unfold fs_o5
  · rw [if_neg (by omega), if_neg (by omega), if_neg (by omega), if_neg (by omega)]; congr 1; omega
  · rw [if_neg (by omega), if_neg (by omega), if_neg (by omega), if_pos (by omega)]; congr 1; omega
  · rw [if_neg (by omega), if_neg (by omega), if_pos (by omega)]; congr 1; omega
  · rw [if_neg (by omega), if_pos (by omega)]; congr 1; omega
  · rw [if_pos (by omega)]; congr 1; omega
theorem fs_o5r {x1 x2 x3 x4 x5 j : Int} : 0 ≤ fs_o5 x1 x2 x3 x4 x5 j ∧ fs_o5 x1 x2 x3 x4 x5 j ≤ 255 := by
  unfold fs_o5
  repeat' split
  all_goals exact fx_and255 _
theorem fs_R_t {ρ : fx_S} {m : Int} (hR : fs_R σ) (hf : ∀ K o p, ¬ ((K = 28 ∧ o = 0 ∧ p = 4) ∨ K = 29 ∨ K = 51 ∨ (K = 46 ∧ o = 0 ∧ (p = 0 ∨ p = 9))) → ρ K o p = σ K o p) (h28 : ρ 28 0 4 = m) (h9 : ρ 46 0 9 = m) (hm : 0 ≤ m ∧ m ≤ 400) (hb : ∀ j, 0 ≤ j → j < m → ρ 51 0 j = ρ 29 0 j ∧ 0 ≤ ρ 29 0 j ∧ ρ 29 0 j ≤ 255) : fs_R ρ := by
  obtain ⟨a, d, ⟨u1, u2, u3, u4⟩, ⟨k1, k2⟩, -, ⟨f1, f2⟩, l, bw⟩ := hR
  have h1 : ∀ K o p, 11 ≤ K → K ≤ 25 → ρ K o p = σ K o p := fun K o p x y => hf K o p (by omega)
  have e : fs_m ρ 47 0 = fs_m σ 47 0 := fs_m_c (fun p => hf 47 0 p (by omega))
  refine ⟨a.k h1 (fun p => hf 47 0 p (by omega)), fun z => ?_, ⟨?_, ?_, ?_, ?_⟩, ⟨?_, ?_⟩, ⟨?_, ?_, ?_⟩, ⟨?_, ?_⟩, ?_, ?_⟩
  · rw [hf 10 0 10 (by omega)] at z
    rw [e]
    exact fs_drawn_k (hf 36 0 8 (by omega)) (fun p => hf 37 0 p (by omega)) (fun p => hf 38 0 p (by omega)) (fun o p x y => hf 41 o p (by omega)) (fun o p x y => hf 43 o p (by omega)) (d z)
  · rw [hf 10 0 11 (by omega)]; exact u1
  · rw [hf 10 0 12 (by omega)]; exact u2
  · rw [hf 10 0 11 (by omega), hf 46 0 5 (by omega)]; exact u3
  · rw [hf 10 0 11 (by omega), hf 10 0 12 (by omega)]
    exact fun j j0 j1 => (u4 j j0 j1).k h1 (fun p => hf 50 0 p (by omega))
  · rw [hf 46 0 6 (by omega), hf 10 0 9 (by omega)]; exact k1
  · rw [hf 10 0 9 (by omega)]; exact fun z => (k2 z).k h1 (fun p => hf 49 0 p (by omega))
  · rw [h28]; exact hm
  · rw [h9, h28]
  · rw [h28]; exact hb
  · rw [hf 46 0 12 (by omega), hf 10 0 14 (by omega)]; exact f1
  · rw [hf 46 0 7 (by omega), hf 10 0 13 (by omega)]; exact f2
  · rw [hf 46 0 21 (by omega)]; exact l
  · intro o p
    rw [hf 14 o p (by omega), hf 20 o p (by omega)]; exact bw o p
theorem fs_R.e {e : Int} (hR : fs_R σ) : fs_R (fx_up σ 46 0 0 e) := by
  refine hR.k (fun K o p hK => by rw [fx_upE, if_neg (by omega)]) (fun z => fs_drawn_k (fx_upK rfl) (fun p => fx_upK rfl) (fun p => fx_upK rfl) (fun o p a b => fx_upK rfl) (fun o p a b => fx_upK rfl) (hR.2.1 (by rwa [fx_upK rfl] at z)))
/-- another state in place of the one that is now -/
theorem fs_Rc {ρ : fx_S} (hR : fs_R σ) (hf : ∀ K o p, ¬ (fs_at 0 K o ∨ K = 61 ∨ K = 47 ∨ (K = 10 ∧ o = 0 ∧ 10 ≤ p ∧ p ≤ 12) ∨ (K = 46 ∧ o = 0 ∧ (p = 0 ∨ p = 5))) → ρ K o p = σ K o p) (hk : fs_kp ρ 0 47 0) (h10 : ρ 10 0 10 = 0) (h5 : ρ 46 0 5 = ρ 10 0 11) (h12 : 0 ≤ ρ 10 0 12 ∧ ρ 10 0 12 < 8) (h11 : 0 ≤ ρ 10 0 11 ∧ ρ 10 0 11 ≤ σ 10 0 11) (hi : ∀ j, 0 ≤ j → j < ρ 10 0 11 → (ρ 10 0 12 + 8 - ρ 10 0 11 + j) % 8 = (σ 10 0 12 + 8 - σ 10 0 11 + j) % 8) (bw : fx_bw ρ) : fs_R ρ := by
  obtain ⟨a, d, ⟨u1, u2, u3, u4⟩, ⟨k1, k2⟩, ⟨t1, t2, t3⟩, ⟨f1, f2⟩, l, -⟩ := hR
  have hg : ∀ K o p, ¬ (11 ≤ K ∧ K ≤ 25) → ¬ (K = 61 ∨ K = 47 ∨ (K = 10 ∧ o = 0 ∧ 10 ≤ p ∧ p ≤ 12) ∨ (K = 46 ∧ o = 0 ∧ (p = 0 ∨ p = 5))) → ρ K o p = σ K o p := fun K o p x y => hf K o p (by unfold fs_at; omega)
  have hat : ∀ i, i ≠ 0 → ∀ K o p, fs_at i K o → ρ K o p = σ K o p := fun i i0 K o p hK => hf K o p (by unfold fs_at at hK ⊢; omega)
  refine ⟨hk, fun z => absurd h10 z, ⟨⟨h11.1, by omega⟩, h12, h5, fun j j0 j1 => ?_⟩, ⟨?_, ?_⟩, ⟨?_, ?_, ?_⟩, ⟨?_, ?_⟩, ?_, bw⟩
  · rw [hi j j0 j1]
    exact (u4 j j0 (by omega)).at (hat _ (by omega)) (fun p _ _ => hg 50 0 _ (by omega) (by omega))
  · rw [hg 46 0 6 (by omega) (by omega), hg 10 0 9 (by omega) (by omega)]; exact k1
  · rw [hg 10 0 9 (by omega) (by omega)]; exact fun z => (k2 z).at (hat 2 (by omega)) (fun p _ _ => hg 49 0 _ (by omega) (by omega))
  · rw [hg 28 0 4 (by omega) (by omega)]; exact t1
  · rw [hg 46 0 9 (by omega) (by omega), hg 28 0 4 (by omega) (by omega)]; exact t2
  · rw [hg 28 0 4 (by omega) (by omega)]
    intro j j0 j1
    rw [hg 51 0 j (by omega) (by omega), hg 29 0 j (by omega) (by omega)]; exact t3 j j0 j1
  · rw [hg 46 0 12 (by omega) (by omega), hg 10 0 14 (by omega) (by omega)]; exact f1
  · rw [hg 46 0 7 (by omega) (by omega), hg 10 0 13 (by omega) (by omega)]; exact f2
  · rw [hg 46 0 21 (by omega) (by omega)]; exact l
theorem c254 : fx_Rt 254 [(46, 0)] σ (4, 0) (fx_up (fx_fill (fx_up σ 46 0 0 0) 49 0 1130 (fun p => σ 47 0 p)) 46 0 6 1) := by
  refine t254_0 ?_
  have m := fun Q I => fx_for (mi := 254) (pc := 7) (Q := Q) (fun k => [(46, 0), (0, k)]) (fun k => fx_fill (fx_up σ 46 0 0 0) 49 0 k (fun p => σ 47 0 p)) 0 1130 I
  simp only [fx_fill0] at m
  refine m _ (fun k => 0 ≤ k) (by omega) (by omega) ?_ ?_
  · intro k k0 k1 _ ih
    have ih := ih (by omega)
    rw [← fx_fill_s (f := fun p => σ 47 0 p) (v := σ 47 0 k) k0 rfl (fun _ _ _ => rfl)] at ih
    refine t254_7 ⟨fun a => by omega, fun a => ⟨⟨k0, a⟩, ⟨by omega, by omega⟩, ?_⟩⟩
    rw [fx_fillK (K := 49) (K' := 47) rfl, fx_upK rfl]
    exact ih
  · intro _
    exact t254_7 ⟨fun a => ⟨rfl, rfl⟩, fun a => by omega⟩
theorem c255y (h : σ 46 0 6 ≠ 0) : fx_Rt 255 [(46, 0)] σ (0, 1) (fx_up (fx_fill (fx_up σ 46 0 0 0) 47 0 1130 (fun p => σ 49 0 p)) 46 0 5 0) := by
  refine t255_0 ⟨fun _ => ?_, fun a => absurd a h⟩
  have m := fun Q I => fx_for (mi := 255) (pc := 16) (Q := Q) (fun k => [(46, 0), (0, k)]) (fun k => fx_fill (fx_up σ 46 0 0 0) 47 0 k (fun p => σ 49 0 p)) 0 1130 I
  simp only [fx_fill0] at m
  refine m _ (fun k => 0 ≤ k) (by omega) (by omega) ?_ ?_
  · intro k k0 k1 _ ih
    have ih := ih (by omega)
    rw [← fx_fill_s (f := fun p => σ 49 0 p) (v := σ 49 0 k) k0 rfl (fun _ _ _ => rfl)] at ih
    refine t255_16 ⟨fun a => by omega, fun a => ⟨⟨k0, a⟩, ⟨by omega, by omega⟩, ?_⟩⟩
    rw [fx_fillK (K := 47) (K' := 49) rfl, fx_upK rfl]
    exact ih
  · intro _
    exact t255_16 ⟨fun a => ⟨rfl, rfl⟩, fun a => by omega⟩
theorem c255n (h : σ 46 0 6 = 0) : fx_Rt 255 [(46, 0)] σ (0, 0) (fx_up σ 46 0 0 0) := t255_0 ⟨fun a => absurd h a, fun _ => ⟨rfl, rfl⟩⟩
theorem c214n (h : σ 46 0 5 = 0) : fx_Rt 214 [(46, 0)] σ (0, 0) (fx_up σ 46 0 0 1) := t214_0 ⟨fun a => absurd h a, fun _ => ⟨rfl, rfl⟩⟩
theorem c214y {u : Int} (h : σ 46 0 5 = u) (h0 : 1 ≤ u ∧ u ≤ 8) : fx_Rt 214 [(46, 0)] σ (0, u - 1) (fx_fill (fx_up (fx_up σ 46 0 0 0) 46 0 5 (u - 1)) 47 0 1130 (fun p => σ 50 0 (1130 * (u - 1) + p))) := by
  refine t214_0 ?_
  rw [h]
  refine ⟨fun _ => ⟨⟨by omega, by omega⟩, ?_⟩, fun a => by omega⟩
  have m := fun Q I => fx_for (mi := 214) (pc := 37) (Q := Q) (fun k => [(46, 0), (0, k)]) (fun k => fx_fill (fx_up (fx_up σ 46 0 0 0) 46 0 5 (u - 1)) 47 0 k (fun p => σ 50 0 (1130 * (u - 1) + p))) 0 1130 I
  simp only [fx_fill0] at m
  refine m _ (fun k => 0 ≤ k) (by omega) (by omega) ?_ ?_
  · intro k k0 k1 _ ih
    have ih := ih (by omega)
    rw [← fx_fill_s (f := fun p => σ 50 0 (1130 * (u - 1) + p)) (v := σ 50 0 (1130 * (u - 1) + k)) k0 rfl (fun _ _ _ => rfl)] at ih
    refine t214_37 ?_
    rw [fx_fillK (K := 47) (K' := 46) rfl, fx_fillK (K := 47) (K' := 50) rfl, fx_upS]
    refine ⟨fun a => by omega, fun a => ⟨⟨by omega, by omega⟩, ⟨by omega, by omega⟩, ⟨by omega, by omega⟩, ⟨k0, a⟩, ⟨by omega, by omega⟩, ?_⟩⟩
    rw [fx_upK rfl, fx_upK rfl]
    exact ih
  · intro _
    refine t214_37 ?_
    rw [fx_fillK (K := 47) (K' := 46) rfl, fx_upS]
    exact ⟨fun a => ⟨rfl, rfl⟩, fun a => by omega⟩
end FXF0
