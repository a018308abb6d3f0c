/-- what a node is, of what those ahead of it are and what the things are -/
def fs_nd (S : fx_S) (t : Int) (v is : Int → Int) (k : Int) : Int := if S 11 t k = 1 then S 12 t k else if S 11 t k = 13 then is (S 12 t k) else fs_join (S 11 t k) (v (S 12 t k)) (v (S 13 t k))
def fs_mk (S : fx_S) (t : Int) (is : Int → Int) : Nat → Int → Int
  | 0 => fun _ => 0
  | n + 1 => fun j => if j = n then fs_nd S t (fs_mk S t is n) is n else fs_mk S t is n j
theorem fs_mk_n {S : fx_S} {t : Int} {is : Int → Int} {n : Nat} {j : Int} : fs_mk S t is (n + 1) j = if j = n then fs_nd S t (fs_mk S t is n) is n else fs_mk S t is n j := rfl
def fs_mv (S : fx_S) (t : Int) (is : Int → Int) (k : Int) : Int := if k = 0 then -1 else fs_mk S t is k.toNat (k - 1)
theorem fs_mk_s {S : fx_S} {t : Int} {is : Int → Int} {k j : Int} (h : 0 ≤ k) : fs_mk S t is (k + 1).toNat j = if j = k then fs_nd S t (fs_mk S t is k.toNat) is k else fs_mk S t is k.toNat j := by
  have e : (k + 1).toNat = k.toNat + 1 := by omega
  rw [e, fs_mk, show ((k.toNat : Nat) : Int) = k by omega]
theorem fs_mv_s {S : fx_S} {t : Int} {is : Int → Int} {k : Int} (h : 0 ≤ k) : fs_mv S t is (k + 1) = fs_nd S t (fs_mk S t is k.toNat) is k := by
  unfold fs_mv
  rw [if_neg (by omega), fs_mk_s h, if_pos (by omega)]
theorem fs_join_r {k a b : Int} (a0 : -1 ≤ a ∧ a ≤ 99) (b0 : -1 ≤ b ∧ b ≤ 99) : -1 ≤ fs_join k a b ∧ fs_join k a b ≤ 99 := by
  unfold fs_join
  grind
theorem fs_mk_r {S : fx_S} (ho : fs_ok S) {t : Int} (t0 : 0 ≤ t) (t1 : t < 8) {is : Int → Int} (hi : ∀ a, 0 ≤ a → a < t → -1 ≤ is a ∧ is a ≤ 99) : ∀ n : Nat, (n : Int) ≤ S 9 t 0 → ∀ j : Int, 0 ≤ j → j < n → -1 ≤ fs_mk S t is n j ∧ fs_mk S t is n j ≤ 99
  | 0, _, j, h0, h1 => by omega
  | n + 1, hn, j, h0, h1 => by
    have ih := fs_mk_r ho t0 t1 hi n (by omega)
    rw [fs_mk_n]
    by_cases e : j = n
    · rw [if_pos e]
      have := (ho.2.2.2.2 t t0 t1).2.2.1 n (by omega) (by omega)
      unfold fs_nd
      rcases this with ⟨a, b⟩ | ⟨a, b, c⟩ | ⟨a, b, c, d, e, f⟩
      · rw [if_pos a]; omega
      · rw [if_neg (by omega), if_pos a]; exact hi _ b c
      · by_cases h1 : S 11 t n = 1
        · omega
        · by_cases h13 : S 11 t n = 13
          · omega
          · rw [if_neg h1, if_neg h13]
            exact fs_join_r (ih _ c d) (ih _ e f)
    · rw [if_neg e]
      exact ih j h0 (by omega)
theorem fs_mk_c {S T : fx_S} (he : fs_eq S T) (ho : fs_ok S) {t : Int} (t0 : 0 ≤ t) (t1 : t < 8) {is is' : Int → Int} (hi : ∀ a, 0 ≤ a → a < t → is a = is' a) : ∀ n : Nat, (n : Int) ≤ S 9 t 0 → ∀ j : Int, 0 ≤ j → j < n → fs_mk S t is n j = fs_mk T t is' n j
  | 0, _, j, h0, h1 => by omega
  | n + 1, hn, j, h0, h1 => by
    have ih := fs_mk_c he ho t0 t1 hi n (by omega)
    rw [fs_mk_n, fs_mk_n]
    by_cases e : j = n
    · rw [if_pos e, if_pos e]
      have hok := (ho.2.2.2.2 t t0 t1).2.2.1 n (by omega) (by omega)
      obtain ⟨e1, e2, e3⟩ := (he.2.2.2.2 t t0 t1).2.2 n (by omega) (by omega)
      unfold fs_nd
      rw [← e1, ← e2]
      rcases hok with ⟨a, b⟩ | ⟨a, b, c⟩ | ⟨a, b, c, d, e, f⟩
      · rw [if_pos a, if_pos a]
      · have h1 : ¬ S 11 t n = 1 := by omega
        simp only [if_neg h1, if_pos a]; exact hi _ b c
      · have h1 : ¬ S 11 t n = 1 := by omega
        have h13 : ¬ S 11 t n = 13 := by omega
        simp only [if_neg h1, if_neg h13]
        rw [← e3 a, ih _ c d, ih _ e f]
    · rw [if_neg e, if_neg e]
      exact ih j h0 (by omega)
/-- a row, filled from its first place -/
def fx_fill (σ : fx_S) (K : Nat) (o n : Int) (f : Int → Int) : fx_S := fun K' o' p => if K' = K ∧ o' = o ∧ 0 ≤ p ∧ p < n then f p else σ K' o' p
theorem fx_fillE {σ : fx_S} {K K' : Nat} {o n o' p : Int} {f : Int → Int} : fx_fill σ K o n f K' o' p = if K' = K ∧ o' = o ∧ 0 ≤ p ∧ p < n then f p else σ K' o' p := rfl
theorem fx_fill0 {σ : fx_S} {K : Nat} {o : Int} {f : Int → Int} : fx_fill σ K o 0 f = σ := by
  funext K' o' p
  rw [fx_fillE, if_neg (by omega)]
theorem fx_fillK {σ : fx_S} {K K' : Nat} {o n o' p : Int} {f : Int → Int} (h : Nat.beq K' K = false) : fx_fill σ K o n f K' o' p = σ K' o' p := by
  rw [fx_fillE, if_neg]
  rintro ⟨e, -⟩
  rw [e, Nat.beq_refl] at h
  cases h
theorem fx_fillI {σ : fx_S} {K : Nat} {o n p : Int} {f : Int → Int} (h0 : 0 ≤ p) (h1 : p < n) : fx_fill σ K o n f K o p = f p := if_pos ⟨rfl, rfl, h0, h1⟩
theorem fx_fill_s {σ : fx_S} {K : Nat} {o k v : Int} {f g : Int → Int} (h : 0 ≤ k) (hg : g k = v) (hf : ∀ j, 0 ≤ j → j < k → f j = g j) : fx_up (fx_fill σ K o k f) K o k v = fx_fill σ K o (k + 1) g := by
  funext K' o' p
  have hp := hf p
  clear hf
  rw [fx_upE, fx_fillE, fx_fillE]
  grind
section FXK
variable {σ : fx_S}
theorem fs_c0 {k : Nat} {a b : Int} (hk : k = 9 ∨ k = 10 ∨ k = 11 ∨ k = 12 ∨ k = 13 ∨ k = 14) : fs_c σ 0 k a b = (if k = 9 then σ 22 a 3 else if k = 10 then σ 22 a 4 else if k = 11 then σ 23 a b else if k = 12 then σ 24 a b else if k = 13 then σ 25 a b else σ 22 a 5) := by
  have e : 8 * (0 : Int) + a = a := by omega
  rcases hk with rfl | rfl | rfl | rfl | rfl | rfl <;> simp [fs_c]
theorem fs_c9 {a b : Int} : fs_c σ 0 9 a b = σ 22 a 3 := by simp [fs_c]
theorem fs_c10 {a b : Int} : fs_c σ 0 10 a b = σ 22 a 4 := by simp [fs_c]
theorem fs_c11 {a b : Int} : fs_c σ 0 11 a b = σ 23 a b := by simp [fs_c]
theorem fs_c12 {a b : Int} : fs_c σ 0 12 a b = σ 24 a b := by simp [fs_c]
theorem fs_c13 {a b : Int} : fs_c σ 0 13 a b = σ 25 a b := by simp [fs_c]
theorem c65 (ho : fs_ok (fs_c σ 0)) {l t p : Int} (t0 : 0 ≤ t) (t1 : t < 8) (p0 : 0 ≤ p) (p1 : p < 121) (hi : ∀ a, 0 ≤ a → a < t → -1 ≤ σ 43 (8 * l + a) p ∧ σ 43 (8 * l + a) p ≤ 99) :
    fx_Rt 65 [(36, l), (22, t), (0, p)] σ (0, fs_mv (fs_c σ 0) t (fun a => σ 43 (8 * l + a) p) (σ 22 t 3)) (fx_fill σ 44 l (σ 22 t 3) (fs_mk (fs_c σ 0) t (fun a => σ 43 (8 * l + a) p) (σ 22 t 3).toNat)) := by
  have hr := ho.2.2.2.2 t t0 t1
  have hn := hr.1
  rw [fs_c9] at hn
  have hmr := fs_mk_r ho t0 t1 hi
  generalize hM : fs_mk (fs_c σ 0) t (fun a => σ 43 (8 * l + a) p) = M at hmr
  refine t65_0 ?_
  have main : ∀ (k : Int) (w : fx_V), 0 ≤ k → k ≤ σ 22 t 3 → fx_Wp 65 5 [(36, l), (22, t), (0, p), (0, fs_mv (fs_c σ 0) t (fun a => σ 43 (8 * l + a) p) k), (0, k), w] [] (fx_fill σ 44 l k (M k.toNat)) (fun v s => v = (0, fs_mv (fs_c σ 0) t (fun a => σ 43 (8 * l + a) p) (σ 22 t 3)) ∧ s = fx_fill σ 44 l (σ 22 t 3) (M (σ 22 t 3).toNat)) := by
    intro k w q1 q2
    refine fx_whl (X := Int × fx_V) (fun x => [(36, l), (22, t), (0, p), (0, fs_mv (fs_c σ 0) t (fun a => σ 43 (8 * l + a) p) x.1), (0, x.1), x.2]) (fun x => fx_fill σ 44 l x.1 (M x.1.toNat)) (fun x => 0 ≤ x.1 ∧ x.1 ≤ σ 22 t 3) (fun x => (σ 22 t 3 - x.1).toNat) ?_ (k, w) ⟨q1, q2⟩
    clear q1 q2 k w
    rintro ⟨k, w⟩ ⟨h0, h1⟩ ih
    simp only at h0 h1
    show fx_Wp 65 5 [(36, l), (22, t), (0, p), (0, fs_mv (fs_c σ 0) t (fun a => σ 43 (8 * l + a) p) k), (0, k), w] [] (fx_fill σ 44 l k (M k.toNat)) _
    have ih : ∀ (w' : fx_V) (v : Int), k < σ 22 t 3 → fs_nd (fs_c σ 0) t (M k.toNat) (fun a => σ 43 (8 * l + a) p) k = v → fx_Wp 65 5 [(36, l), (22, t), (0, p), (0, v), (0, k + 1), w'] [] (fx_up (fx_fill σ 44 l k (M k.toNat)) 44 l k v) (fun v s => v = (0, fs_mv (fs_c σ 0) t (fun a => σ 43 (8 * l + a) p) (σ 22 t 3)) ∧ s = fx_fill σ 44 l (σ 22 t 3) (M (σ 22 t 3).toNat)) := by
      intro w' v hk hv
      have := ih (k + 1, w') ⟨by simp only; omega, by simp only; omega⟩ (by simp only; omega)
      simp only at this
      rw [fs_mv_s h0, hM, hv] at this
      rw [fx_fill_s (g := M (k + 1).toNat) h0 (by rw [← hM, fs_mk_s h0, if_pos rfl, hM]; exact hv) (fun j j0 j1 => by rw [← hM, fs_mk_s h0, if_neg (by omega)])]
      exact this
    refine t65_5 ?_
    rw [fx_fillK rfl]
    refine ⟨fun a => ?_, fun a => ⟨by omega, ?_⟩⟩
    · have e : k = σ 22 t 3 := by omega
      rw [e]
      exact ⟨rfl, rfl⟩
    · have hok := hr.2.2.1 k h0 (by rw [fs_c9]; exact a)
      unfold fs_okn at hok
      rw [fs_c11, fs_c12, fs_c13] at hok
      have hnd : fs_nd (fs_c σ 0) t (M k.toNat) (fun a => σ 43 (8 * l + a) p) k = if σ 23 t k = 1 then σ 24 t k else if σ 23 t k = 13 then σ 43 (8 * l + σ 24 t k) p else fs_join (σ 23 t k) (M k.toNat (σ 24 t k)) (M k.toNat (σ 25 t k)) := by
        unfold fs_nd
        rw [fs_c11, fs_c12, fs_c13]
      rw [hnd] at ih
      rw [fx_fillK (K := 44) (K' := 23) rfl, fx_fillK (K := 44) (K' := 24) rfl, fx_fillK (K := 44) (K' := 25) rfl, fx_fillK (K := 44) (K' := 43) rfl]
      refine ⟨fun b => ⟨⟨by omega, by omega⟩, ih _ _ a (by rw [if_pos b])⟩, fun b => ⟨fun c => ⟨by omega, by omega, ⟨by omega, by omega⟩, ?_⟩, fun c => ⟨by omega, by omega, ?_⟩⟩⟩
      · rw [show 8 * l + 0 + σ 24 t k = 8 * l + σ 24 t k by omega]
        exact ih _ _ a (by rw [if_neg b, if_pos c])
      · have h3 : 0 ≤ σ 24 t k ∧ σ 24 t k < k ∧ 0 ≤ σ 25 t k ∧ σ 25 t k < k ∧ 6 ≤ σ 23 t k ∧ σ 23 t k ≤ 12 := by omega
        have r1 := hmr k.toNat (by rw [fs_c9]; omega) (σ 24 t k) (by omega) (by omega)
        have r2 := hmr k.toNat (by rw [fs_c9]; omega) (σ 25 t k) (by omega) (by omega)
        rw [fx_fillI (by omega) (by omega), fx_fillI (by omega) (by omega)]
        exact (c8 (by omega) (by omega) r1.1 r1.2 r2.1 r2.2).I ⟨⟨by omega, by omega⟩, ih _ _ a (by rw [if_neg b, if_neg c])⟩
  have := main 0 (3, 0) (by omega) hn.1
  rw [show fs_mv (fs_c σ 0) t (fun a => σ 43 (8 * l + a) p) 0 = -1 from if_pos rfl, fx_fill0] at this
  exact this
end FXK
