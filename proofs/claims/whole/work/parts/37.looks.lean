section FXN
variable {σ : fx_S} {o : Int}
theorem fs_kd_i {m : Int} : (fs_kd m = 1 ↔ m = 1) ∧ (fs_kd m = 13 ↔ m = 0) ∧ (6 ≤ fs_kd m ∧ fs_kd m ≤ 12 → 2 ≤ m ∧ m ≤ 8 ∧ fs_kd m = m + 4) := by
  unfold fs_kd
  grind
theorem c164 (ho : fs_ok (fs_m σ 47 0)) {t : Int} (t0 : 0 ≤ t) (t1 : t < 8) (hi : ∀ a, 0 ≤ a → a < t → -1 ≤ σ 55 0 a ∧ σ 55 0 a ≤ 99) :
    fx_Rt 164 [(46, o), (0, t)] σ (0, fs_mv (fs_m σ 47 0) t (fun a => σ 55 0 a) (fs_m σ 47 0 9 t 0)) (fx_fill σ 57 0 (fs_m σ 47 0 9 t 0) (fs_mk (fs_m σ 47 0) t (fun a => σ 55 0 a) (fs_m σ 47 0 9 t 0).toNat)) := by
  have hr := ho.2.2.2.2 t t0 t1
  have hn := hr.1
  have hmr := fs_mk_r ho t0 t1 hi
  generalize hM : fs_mk (fs_m σ 47 0) t (fun a => σ 55 0 a) = M at hmr
  refine t164_0 ((c160n t0 t1).I ?_)
  generalize hN : fs_m σ 47 0 9 t 0 = n at hn
  have main : ∀ (k : Int) (w w2 : fx_V), 0 ≤ k → k ≤ n → fx_Wp 164 9 [(46, o), (0, t), (0, n), (0, k), w, w2] [] (fx_fill σ 57 0 k (M k.toNat)) (fun v s => v = (0, fs_mv (fs_m σ 47 0) t (fun a => σ 55 0 a) n) ∧ s = fx_fill σ 57 0 n (M n.toNat)) := by
    intro k w w2 q1 q2
    refine fx_whl (X := Int × fx_V × fx_V) (fun x => [(46, o), (0, t), (0, n), (0, x.1), x.2.1, x.2.2]) (fun x => fx_fill σ 57 0 x.1 (M x.1.toNat)) (fun x => 0 ≤ x.1 ∧ x.1 ≤ n) (fun x => (n - x.1).toNat) ?_ (k, w, w2) ⟨q1, q2⟩
    clear q1 q2 k w w2
    rintro ⟨k, w, w2⟩ ⟨h0, h1⟩ ih
    simp only at h0 h1
    show fx_Wp 164 9 [(46, o), (0, t), (0, n), (0, k), w, w2] [] (fx_fill σ 57 0 k (M k.toNat)) _
    have ih : ∀ (w w2 : fx_V) (v : Int), k < n → fs_nd (fs_m σ 47 0) t (M k.toNat) (fun a => σ 55 0 a) k = v → fx_Wp 164 9 [(46, o), (0, t), (0, n), (0, k + 1), w, w2] [] (fx_up (fx_fill σ 57 0 k (M k.toNat)) 57 0 k v) (fun v s => v = (0, fs_mv (fs_m σ 47 0) t (fun a => σ 55 0 a) n) ∧ s = fx_fill σ 57 0 n (M n.toNat)) := by
      intro w w2 v hk hv
      have := ih (k + 1, w, w2) ⟨by simp only; omega, by simp only; omega⟩ (by simp only; omega)
      simp only at this
      rw [fx_fill_s (g := M (k + 1).toNat) h0 (by rw [← hM, fs_mk_s h0, if_pos rfl, hM]; exact hv) (fun j j0 j1 => by rw [← hM, fs_mk_s h0, if_neg (by omega)])]
      exact this
    refine t164_9 ⟨fun a => ?_, fun a => ?_⟩
    · have e : k = n := by omega
      rw [e]
      unfold fs_mv
      refine ⟨fun b => ⟨⟨by omega, by omega⟩, by omega, ?_, rfl⟩, fun b => ⟨by rw [if_pos b], rfl⟩⟩
      rw [if_neg b, fx_fillI (by omega) (by omega), hM]
    · have hok := hr.2.2.1 k h0 (by rw [hN]; exact a)
      generalize hW : fx_fill σ 57 0 k (M k.toNat) = τ at ih ⊢
      have h47 : ∀ a, τ 47 0 a = σ 47 0 a := fun a => by rw [← hW]; exact fx_fillK rfl
      have h55 : ∀ a, τ 55 0 a = σ 55 0 a := fun a => by rw [← hW]; exact fx_fillK rfl
      have h57 : ∀ a, 0 ≤ a → a < k → τ 57 0 a = M k.toNat a := fun a a0 a1 => by rw [← hW]; exact fx_fillI a0 a1
      generalize hK : σ 47 0 (378 + 94 * t + 2 + 4 * k) = K
      have e11 : fs_m σ 47 0 11 t k = fs_kd K := by
        show fs_kd (σ 47 0 (0 + 378 + 94 * t + 2 + 4 * k)) = _
        rw [← hK, show 0 + 378 + 94 * t + 2 + 4 * k = 378 + 94 * t + 2 + 4 * k by omega]
      have e12 : fs_m σ 47 0 12 t k = if K ≤ 1 then σ 47 0 (378 + 94 * t + 2 + 4 * k + 1) else σ 47 0 (378 + 94 * t + 2 + 4 * k + 2) := by
        show (if σ 47 0 (0 + 378 + 94 * t + 2 + 4 * k) ≤ 1 then σ 47 0 (0 + 378 + 94 * t + 2 + 4 * k + 1) else σ 47 0 (0 + 378 + 94 * t + 2 + 4 * k + 2)) = _
        rw [← hK, show 0 + 378 + 94 * t + 2 + 4 * k = 378 + 94 * t + 2 + 4 * k by omega]
      have e13 : fs_m σ 47 0 13 t k = σ 47 0 (378 + 94 * t + 2 + 4 * k + 3) := by
        show σ 47 0 (0 + 378 + 94 * t + 2 + 4 * k + 3) = _
        rw [show 0 + 378 + 94 * t + 2 + 4 * k = 378 + 94 * t + 2 + 4 * k by omega]
      unfold fs_okn at hok
      have hnd : fs_nd (fs_m σ 47 0) t (M k.toNat) (fun a => σ 55 0 a) k = if fs_kd K = 1 then fs_m σ 47 0 12 t k else if fs_kd K = 13 then σ 55 0 (fs_m σ 47 0 12 t k) else fs_join (fs_kd K) (M k.toNat (fs_m σ 47 0 12 t k)) (M k.toNat (fs_m σ 47 0 13 t k)) := by
        unfold fs_nd
        rw [e11]
      rw [e11] at hok
      obtain ⟨k1, k2, k3⟩ := fs_kd_i (m := K)
      refine (c161 t0 t1 h0 (by omega) (by omega) (by omega) (x := K) (by rw [h47, ← hK, Int.add_zero])).I ((c161 t0 t1 h0 (by omega) (by omega) (by omega) (x := σ 47 0 (378 + 94 * t + 2 + 4 * k + 1)) (h47 _)).I ⟨fun b => ⟨fun c => ?_, fun c => ?_⟩, fun b => ?_⟩)
      · have hj : 6 ≤ fs_kd K ∧ fs_kd K ≤ 12 ∧ 0 ≤ fs_m σ 47 0 12 t k ∧ fs_m σ 47 0 12 t k < k ∧ 0 ≤ fs_m σ 47 0 13 t k ∧ fs_m σ 47 0 13 t k < k := by
          rcases hok with h | h | h
          · exact absurd (k1.mp h.1) c
          · exact absurd (k2.mp h.1) b
          · exact h
        have hk3 := k3 ⟨hj.1, hj.2.1⟩
        rw [if_neg (by omega)] at e12
        have r1 := hmr k.toNat (by omega) (fs_m σ 47 0 12 t k) (by omega) (by omega)
        have r2 := hmr k.toNat (by omega) (fs_m σ 47 0 13 t k) (by omega) (by omega)
        refine (c161 t0 t1 h0 (by omega) (by omega) (by omega) (x := fs_m σ 47 0 12 t k) (by rw [h47, e12])).I ⟨by omega, (c161 t0 t1 h0 (by omega) (by omega) (by omega) (x := fs_m σ 47 0 13 t k) (by rw [h47, e13])).I ⟨by omega, ?_⟩⟩
        rw [h57 _ (by omega) (by omega), h57 _ (by omega) (by omega)]
        refine (c163 (by omega) (by omega) r1.1 r1.2 r2.1 r2.2).I ⟨by omega, ⟨by omega, by omega⟩, ih _ _ _ a ?_⟩
        rw [hnd, if_neg (by omega), if_neg (by omega), hk3.2.2]
      · have e1 : fs_kd K = 1 := k1.mpr c
        rw [if_pos (by omega)] at e12
        refine ⟨by omega, ⟨by omega, by omega⟩, ih _ _ _ a ?_⟩
        rw [hnd, if_pos e1, e12]
      · have e1 : fs_kd K = 13 := k2.mpr b
        rw [if_pos (by omega)] at e12
        rw [h55]
        refine ⟨by omega, by omega, ⟨by omega, by omega⟩, ih _ _ _ a ?_⟩
        rw [hnd, if_neg (by omega), if_pos e1, e12]
  have := main 0 (3, 0) (3, 0) (by omega) hn.1
  rw [fx_fill0] at this
  exact this
end FXN
