/-! ===== what the constructors made is the store at its start ===== -/
def ky_S (n : Nat) : Nat := if n < 3 then 1 + 42 * n else 128 + 42 * (n - 3)
def ky_R (n : Nat) : Nat := if n = 88 then 466 else if n = 89 then 478 else ky_S (n / 8) + 10 + 4 * (n % 8)
def ky_L (n : Nat) : Nat := 484 + 24 * n
/-- where the n-th of kind K lies, from the first cell on -/
def ky_off (K n : Nat) : Nat :=
  cond (Nat.blt K 12) (cond (Nat.beq K 10) 0 (ky_S n)) <|
  cond (Nat.beq K 12) 127 <|
  cond (Nat.blt K 22) (ky_S n + (K - 12)) <|
  cond (Nat.blt K 26) (ky_R n + (K - 22)) <|
  cond (Nat.blt K 28) (464 + (K - 26) + 12 * n) <|
  cond (Nat.blt K 33) (470 + (K - 28)) <|
  cond (Nat.beq K 33) 475 <|
  cond (Nat.blt K 36) (482 + (K - 34)) <|
  cond (Nat.blt K 41) (ky_L n + (K - 36)) <|
  cond (Nat.beq K 41) (ky_L (n / 8) + 5 + n % 8) <|
  cond (Nat.beq K 42) (ky_L n + 13) <|
  cond (Nat.beq K 43) (ky_L (n / 8) + 14 + n % 8) <|
  cond (Nat.beq K 44) (ky_L n + 22) <|
  cond (Nat.beq K 45) (ky_L n + 23) <|
  cond (Nat.blt K 59) (532 + (K - 46)) <|
  cond (Nat.beq K 59) (545 + n) <|
  cond (Nat.beq K 60) 547 548
/-- what is not zero at the start -/
def ky_v (K : Nat) (p : Int) : Int := if K = 10 ∧ p = 14 then -1 else if K = 46 ∧ p = 12 then -1 else if K = 46 ∧ p = 21 then 60 else 0
def ky_s (L : Nat) (xs : Nat → Int32) : fx_S := fun K _ j => if K = 9 then (if j < 0 then (L : Int) else (xs j.toNat).toInt) else ky_v K j
def ky_f (K n p : Nat) : Nat × Nat × Int := cond (Nat.beq (fx_nth (fx_fl K) p (0, 0, 0)).1 0) (0, 0, ky_v K p) (1, ky_off (fx_nth (fx_fl K) p (0, 0, 0)).1 ((fx_nth (fx_fl K) p (0, 0, 0)).2.1 * n + (fx_nth (fx_fl K) p (0, 0, 0)).2.2 + 0).toNat, 0)
def ky_cell (K n : Nat) : ke_C :=
  cond (Nat.beq (fx_form K) 5) (1, (fx_kt K).2.1, 0, (List.range (fx_fl K).length).map (ky_f K n))
    (cond (Nat.blt (fx_form K) 2) (0, fx_form K, (fx_kt K).2.1, []) (cond (Nat.beq (fx_form K) 6) (3, 6, (fx_kt K).2.1, [])
      (2, fx_form K, (fx_kt K).2.1, (List.range (fx_kt K).2.1).map (fun (j : Nat) => (1, ky_off (fx_nth (fx_fl K) 0 (0, 0, 0)).1 ((fx_nth (fx_fl K) 0 (0, 0, 0)).2.1 * n + (fx_nth (fx_fl K) 0 (0, 0, 0)).2.2 + j).toNat, 0)))))
def ky_all : List ke_C := ([] ++ kc_L6 0) ++ kc_L7 (0 + 532) ++ [(3, 6, 1, [])]
set_option maxRecDepth 100000 in
theorem ky_ck : fx_all.all (fun q => @decide (ky_all[ky_off q.1 q.2]? = some (ky_cell q.1 q.2)) (kc_do _ _)) = true := by decide +kernel
theorem ky_in {q : Nat × Nat} (h : q ∈ fx_all) : ky_all[ky_off q.1 q.2]? = some (ky_cell q.1 q.2) := kc_eo (List.all_eq_true.mp ky_ck q h)
def ky_it : List Nat := [0, 1, 13, 24, 35, 46, 57, 68, 79, 90, 101, 112, 202, 292, 382, 113, 203, 293, 383, 114, 204, 294, 384, 115, 205, 295, 385, 116, 206, 296, 386, 117, 207, 297, 387, 118, 208, 298, 388, 119, 209, 299, 389, 2, 14, 25, 36, 47, 58, 69, 80, 91, 102, 120, 210, 300, 390, 121, 211, 301, 391, 122, 212, 302, 392, 123, 213, 303, 393, 124, 214, 304, 394, 125, 215, 305, 395, 126, 216, 306, 396, 127, 217, 307, 397, 3, 15, 26, 37, 48, 59, 70, 81, 92, 103, 128, 218, 308, 398, 129, 219, 309, 399, 130, 220, 310, 400, 131, 221, 311, 401, 132, 222, 312, 402, 133, 223, 313, 403, 134, 224, 314, 404, 135, 225, 315, 405, 12, 4, 16, 27, 38, 49, 60, 71, 82, 93, 104, 136, 226, 316, 406, 137, 227, 317, 407, 138, 228, 318, 408, 139, 229, 319, 409, 140, 230, 320, 410, 141, 231, 321, 411, 142, 232, 322, 412, 143, 233, 323, 413, 5, 17, 28, 39, 50, 61, 72, 83, 94, 105, 144, 234, 324, 414, 145, 235, 325, 415, 146, 236, 326, 416, 147, 237, 327, 417, 148, 238, 328, 418, 149, 239, 329, 419, 150, 240, 330, 420, 151, 241, 331, 421, 6, 18, 29, 40, 51, 62, 73, 84, 95, 106, 152, 242, 332, 422, 153, 243, 333, 423, 154, 244, 334, 424, 155, 245, 335, 425, 156, 246, 336, 426, 157, 247, 337, 427, 158, 248, 338, 428, 159, 249, 339, 429, 7, 19, 30, 41, 52, 63, 74, 85, 96, 107, 160, 250, 340, 430, 161, 251, 341, 431, 162, 252, 342, 432, 163, 253, 343, 433, 164, 254, 344, 434, 165, 255, 345, 435, 166, 256, 346, 436, 167, 257, 347, 437, 8, 20, 31, 42, 53, 64, 75, 86, 97, 108, 168, 258, 348, 438, 169, 259, 349, 439, 170, 260, 350, 440, 171, 261, 351, 441, 172, 262, 352, 442, 173, 263, 353, 443, 174, 264, 354, 444, 175, 265, 355, 445, 9, 21, 32, 43, 54, 65, 76, 87, 98, 109, 176, 266, 356, 446, 177, 267, 357, 447, 178, 268, 358, 448, 179, 269, 359, 449, 180, 270, 360, 450, 181, 271, 361, 451, 182, 272, 362, 452, 183, 273, 363, 453, 10, 22, 33, 44, 55, 66, 77, 88, 99, 110, 184, 274, 364, 454, 185, 275, 365, 455, 186, 276, 366, 456, 187, 277, 367, 457, 188, 278, 368, 458, 189, 279, 369, 459, 190, 280, 370, 460, 191, 281, 371, 461, 11, 23, 34, 45, 56, 67, 78, 89, 100, 111, 192, 282, 372, 462, 193, 283, 373, 463, 194, 284, 374, 464, 195, 285, 375, 465, 196, 286, 376, 466, 197, 287, 377, 467, 198, 288, 378, 468, 199, 289, 379, 469, 472, 474, 200, 290, 380, 470, 476, 477, 478, 479, 480, 481, 473, 475, 201, 291, 381, 471, 482, 483, 484, 486, 488, 490, 492, 494, 495, 496, 497, 498, 499, 500, 501, 510, 512, 513, 514, 515, 516, 517, 518, 519, 528, 530, 485, 487, 489, 491, 493, 502, 503, 504, 505, 506, 507, 508, 509, 511, 520, 521, 522, 523, 524, 525, 526, 527, 529, 531, 532, 533, 534, 535, 536, 537, 538, 539, 540, 541, 542, 543, 544, 545, 546, 547, 548]
def ky_go : List (Nat × Nat) → Nat → Bool
  | [], _ => true
  | q :: l, i => Nat.beq (fx_nth ky_it (ky_off q.1 q.2) 999) i && ky_go l (i + 1)
set_option maxRecDepth 100000 in
theorem ky_gock : ky_go fx_all 0 = true := by decide +kernel
theorem ky_inv : ∀ (l : List (Nat × Nat)) (k i : Nat) (q : Nat × Nat), ky_go l k = true → l[i]? = some q → fx_nth ky_it (ky_off q.1 q.2) 999 = k + i
  | [], _, _, _, _, h => by cases h
  | a :: l, k, 0, q, hg, h => by
    cases h
    unfold ky_go at hg
    rw [Bool.and_eq_true] at hg
    exact Nat.eq_of_beq_eq_true hg.1
  | a :: l, k, i + 1, q, hg, h => by
    unfold ky_go at hg
    rw [Bool.and_eq_true] at hg
    have := ky_inv l (k + 1) i q hg.2 h
    omega
theorem ky_K : ∀ q ∈ fx_all, 10 ≤ q.1 ∧ q.1 < 62 := by
  intro q h
  obtain ⟨K, h1, h2⟩ := List.mem_flatMap.mp h
  obtain ⟨i, -, rfl⟩ := List.mem_map.mp h2
  have := List.mem_range.mp h1
  exact ⟨by simp only; omega, by simp only; omega⟩
theorem ky_fl : fx_kts.all (fun k => k.2.2.2.all (fun q => Nat.beq q.1 0 || (Nat.ble 10 q.1 && Nat.blt q.1 62))) = true := by decide +kernel
theorem ky_flK (K p : Nat) (h : (fx_nth (fx_fl K) p (0, 0, 0)).1 ≠ 0) : 10 ≤ (fx_nth (fx_fl K) p (0, 0, 0)).1 ∧ (fx_nth (fx_fl K) p (0, 0, 0)).1 < 62 := by
  have hp : p < (fx_fl K).length := by
    refine Nat.not_le.mp fun z => h ?_
    rw [fx_nth_ge _ _ _ z]
  have hK : K < fx_kts.length := by
    refine Nat.not_le.mp fun z => ?_
    unfold fx_fl fx_kt at hp
    rw [fx_nth_ge _ _ _ z] at hp
    exact absurd hp (Nat.not_lt_zero _)
  have h1 := List.all_eq_true.mp (List.all_eq_true.mp ky_fl (fx_kt K) (fx_nth_in _ hK)) _ (fx_nth_in (0, 0, 0) hp)
  rw [Bool.or_eq_true] at h1
  rcases h1 with h1 | h1
  · exact absurd (Nat.eq_of_beq_eq_true h1) h
  · rw [Bool.and_eq_true] at h1
    exact ⟨Nat.le_of_ble_eq_true h1.1, fx_blt h1.2⟩
theorem ky_fl0 : ∀ K, 10 ≤ K → K < 62 → 1 < fx_form K → fx_form K < 5 → (fx_nth (fx_fl K) 0 (0, 0, 0)).1 ≠ 0 := by
  have h : (List.range 62).all (fun K => !(Nat.ble 10 K && Nat.blt 1 (fx_form K) && Nat.blt (fx_form K) 5) || !Nat.beq (fx_nth (fx_fl K) 0 (0, 0, 0)).1 0) = true := by decide +kernel
  intro K h1 h2 h3 h4
  have h5 := List.all_eq_true.mp h K (List.mem_range.mpr h2)
  rw [show Nat.ble 10 K = true from Nat.ble_eq_true_of_le h1, show Nat.blt 1 (fx_form K) = true from Nat.ble_eq_true_of_le h3, show Nat.blt (fx_form K) 5 = true from Nat.ble_eq_true_of_le h4] at h5
  simp only [Bool.and_self, Bool.not_true, Bool.false_or] at h5
  exact fk_nb h5
theorem ky_fm : ∀ K, 10 ≤ K → K < 62 → fx_form K < 7 := by
  have h : (List.range 62).all (fun K => !Nat.ble 10 K || Nat.blt (fx_form K) 7) = true := by decide +kernel
  intro K h1 h2
  have h5 := List.all_eq_true.mp h K (List.mem_range.mpr h2)
  rw [show Nat.ble 10 K = true from Nat.ble_eq_true_of_le h1] at h5
  exact fx_blt h5
def ky_ad (B b : Nat) (str : Nat → Nat) : Nat → Nat → Nat := fun K n => if K = 9 then b else if K = 62 then str n else B + ky_off K n
theorem ky_adE {B b : Nat} {str : Nat → Nat} {K : Nat} (n : Nat) (h1 : 10 ≤ K) (h2 : K < 62) : ky_ad B b str K n = B + ky_off K n := by
  unfold ky_ad
  rw [if_neg (by omega), if_neg (by omega)]
theorem ky_ap (B b : Nat) (str : Nat → Nat) : fx_ap (ky_ad B b str) := by
  intro i j q r hi hj h
  obtain ⟨q1, q2⟩ := ky_K q (List.mem_of_getElem? hi)
  obtain ⟨r1, r2⟩ := ky_K r (List.mem_of_getElem? hj)
  rw [ky_adE _ q1 q2, ky_adE _ r1 r2] at h
  have e := Nat.add_left_cancel h
  have a := ky_inv fx_all 0 i q ky_gock hi
  have c := ky_inv fx_all 0 j r ky_gock hj
  rw [e] at a
  omega
theorem ky_arr {c : ClassId} {N : Nat} {f g : Nat → Value} (h : ∀ j, j < N → f j = g j) : arrV c N f = arrV c N g := by
  unfold arrV
  congr 1
  congr 1
  funext j
  exact h j.val j.isLt
theorem ky_nth {α : Type} (f : Nat → α) (d : α) (N j : Nat) (h : j < N) : fx_nth ((List.range N).map f) j d = f j := fx_nth_of (by rw [List.getElem?_map, List.getElem?_range h]; rfl)
theorem ky_v0 {K : Nat} {j : Int} (h : fx_form K ≠ 5) : ky_v K j = 0 := by
  have h1 : K ≠ 10 := fun e => h (by rw [e]; rfl)
  have h2 : K ≠ 46 := fun e => h (by rw [e]; rfl)
  unfold ky_v
  rw [if_neg (fun z => h1 z.1), if_neg (fun z => h2 z.1), if_neg (fun z => h2 z.1)]
section KY
variable {D : va_G} {cy : Nat → ClassId} {B b L : Nat} {str : Nat → Nat} {xs : Nat → Int32} {H : Heap}
theorem ky_sK {K : Nat} (i j : Int) (h : 10 ≤ K) : ky_s L xs K i j = ky_v K j := by
  unfold ky_s
  rw [if_neg (by omega)]
theorem ky_at {K n : Nat} (h1 : 10 ≤ K) (h2 : K < 62) (h : va_at D vwCl (B + (0 + ky_off K n), ke_e cy B (ky_cell K n)) H) : va_at D vwCl (ky_ad B b str K n, fx_Er (ky_ad B b str) cy (ky_s L xs K n) K n) H := by
  rw [Nat.zero_add, ← ky_adE (b := b) (str := str) n h1 h2] at h
  by_cases f5 : fx_form K = 5
  · rw [fx_Er5 f5]
    have e : ke_e cy B (ky_cell K n) = .inr ((fx_kt K).2.1, (List.range (fx_fl K).length).map (fx_fv (ky_ad B b str) (ky_s L xs K n) K n)) := by
      unfold ky_cell
      rw [fx_bT f5, cond_true]
      show (Sum.inr ((fx_kt K).2.1, ((List.range (fx_fl K).length).map (ky_f K n)).map (ke_v B)) : va_E) = _
      rw [List.map_map]
      congr 2
      refine List.map_congr_left (fun p hp => ?_)
      show ke_v B (ky_f K n p) = fx_fv (ky_ad B b str) (ky_s L xs K n) K n p
      unfold ky_f fx_fv
      by_cases z : (fx_nth (fx_fl K) p (0, 0, 0)).1 = 0
      · rw [fx_bT z, cond_true, cond_true, ky_sK _ _ h1]
        rfl
      · rw [fx_bF z, cond_false, cond_false]
        obtain ⟨k1, k2⟩ := ky_flK K p z
        unfold fx_rf
        rw [ky_adE _ k1 k2]
        rfl
    rw [e] at h
    exact h
  · by_cases f2 : fx_form K < 2
    · rw [fx_Er01 f2]
      have e : ke_e cy B (ky_cell K n) = .inl (cy (fx_form K), (fx_kt K).2.1, .inl (fun _ => 0)) := by
        unfold ky_cell
        rw [fx_bF f5, cond_false, show Nat.blt (fx_form K) 2 = true from Nat.ble_eq_true_of_le f2, cond_true]
        rfl
      rw [e] at h
      have e2 : (fun j : Nat => Int32.ofInt (ky_s L xs K n j)) = fun _ => 0 := by
        funext j
        rw [ky_sK _ _ h1, ky_v0 f5]
        rfl
      rw [e2]
      exact h
    · by_cases f6 : fx_form K = 6
      · rw [fx_Er6 f6]
        have e : ke_e cy B (ky_cell K n) = .inl (cy 6, (fx_kt K).2.1, .inr (.inl (fun _ => 0))) := by
          unfold ky_cell
          rw [fx_bF f5, cond_false, fx_bltF (by omega), cond_false, fx_bT f6, cond_true]
          rfl
        rw [e] at h
        have e2 : (fun j : Nat => Int64.ofInt (ky_s L xs K n j)) = fun _ => 0 := by
          funext j
          rw [ky_sK _ _ h1, ky_v0 f5]
          rfl
        rw [e2]
        exact h
      · have f7 := ky_fm K h1 h2
        rw [fx_Er24 (by omega) (by omega)]
        have e : ke_e cy B (ky_cell K n) = .inl (cy (fx_form K), (fx_kt K).2.1, .inr (.inr (.inr (.inr (fun j => ke_r B (fx_nth ((List.range (fx_kt K).2.1).map (fun (j : Nat) => (1, ky_off (fx_nth (fx_fl K) 0 (0, 0, 0)).1 ((fx_nth (fx_fl K) 0 (0, 0, 0)).2.1 * n + (fx_nth (fx_fl K) 0 (0, 0, 0)).2.2 + j).toNat, (0 : Int)))) j (2, 0, 0))))))) := by
          unfold ky_cell
          rw [fx_bF f5, cond_false, fx_bltF (by omega), cond_false, fx_bF f6, cond_false]
          rfl
        rw [e] at h
        have h3 : H[ky_ad B b str K n]? = some (vp_cell (cy (fx_form K)) ((fx_kt K).2.1, .inr (.inr (.inr (.inr (fun j => ke_r B (fx_nth ((List.range (fx_kt K).2.1).map (fun (j : Nat) => (1, ky_off (fx_nth (fx_fl K) 0 (0, 0, 0)).1 ((fx_nth (fx_fl K) 0 (0, 0, 0)).2.1 * n + (fx_nth (fx_fl K) 0 (0, 0, 0)).2.2 + j).toNat, (0 : Int)))) j (2, 0, 0)))))))) := h
        show H[ky_ad B b str K n]? = some (vp_cell (cy (fx_form K)) ((fx_kt K).2.1, .inr (.inr (.inr (.inr (fun j => some (fx_rf (ky_ad B b str) (fx_nth (fx_fl K) 0 (0, 0, 0)) n j)))))))
        rw [h3, vp_cell_q, vp_cell_q]
        congr 1
        refine ky_arr (fun j hj => ?_)
        rw [ky_nth _ _ _ _ hj]
        obtain ⟨k1, k2⟩ := ky_flK K 0 (ky_fl0 K h1 h2 (by omega) (by omega))
        unfold fx_rf
        rw [ky_adE _ k1 k2]
        rfl
theorem ky_P {H0 : Heap} {locs : List Loc} (h : ke_W D cy B H0 0 ky_all H locs) : va_P D vwCl (fx_W (ky_ad B b str) cy (ky_s L xs)) H := by
  intro k q hq
  unfold fx_W at hq
  rw [List.getElem?_map] at hq
  obtain ⟨r, hr, rfl⟩ := Option.map_eq_some_iff.mp hq
  have hm := List.mem_of_getElem? hr
  obtain ⟨r1, r2⟩ := ky_K r hm
  exact ky_at r1 r2 (h.2.2 _ _ (ky_in hm))
theorem ky_scr : fx_scr L xs (ky_s L xs) := by
  refine ⟨rfl, fun j hj => ?_⟩
  show (if (j : Int) < 0 then (L : Int) else (xs (j : Int).toNat).toInt) = _
  rw [if_neg (by omega)]
  rfl
theorem ky_vrg (K : Nat) (j : Int) : fx_rg (ky_v K j) := by
  unfold ky_v
  split
  · exact ⟨by omega, by omega⟩
  · split
    · exact ⟨by omega, by omega⟩
    · split
      · exact ⟨by omega, by omega⟩
      · exact ⟨by omega, by omega⟩
theorem ky_rg (hL : L ≤ 3072) : fx_rgS (ky_s L xs) := by
  intro K i j
  unfold ky_s
  split
  · split
    · exact ⟨by omega, by omega⟩
    · have h1 := Int32.le_toInt (xs j.toNat)
      have h2 := Int32.toInt_lt (xs j.toNat)
      exact ⟨by omega, by omega⟩
  · exact ky_vrg K j
theorem ky_z {K : Nat} (i j : Int) (h1 : 10 < K) (h2 : K ≠ 46) : ky_s L xs K i j = 0 := by
  rw [ky_sK _ _ (by omega)]
  unfold ky_v
  rw [if_neg (fun z => by omega), if_neg (fun z => by omega), if_neg (fun z => by omega)]
theorem ky_c (i : Int) : fs_c (ky_s L xs) i = fun _ _ _ => 0 := by
  funext k a c
  unfold fs_c
  split <;> first | rfl | (rw [ky_z _ _ (by decide) (by decide)])
def ky_Z : fx_S := fun k _ _ => if k = 11 then 13 else 0
theorem ky_m {K : Nat} (c : Int) (h1 : 10 < K) (h2 : K ≠ 46) : fs_m (ky_s L xs) K c = ky_Z := by
  funext k a d
  unfold fs_m ky_Z
  split <;> first | rfl | (rw [ky_z _ _ h1 h2]; rfl) | (simp only [ky_z _ _ h1 h2, ite_self]; rfl) | (rw [if_neg (by assumption)])
theorem ky_ok : fs_ok ky_Z := by
  refine ⟨(show (0 : Int) ≤ 0 ∧ (0 : Int) ≤ 8 by decide), (show (0 : Int) ≤ 0 ∧ (0 : Int) ≤ 60 by decide), fun s a c => absurd (show s < (0 : Int) from c) (by omega), fun f a c => absurd (show f < (0 : Int) from c) (by omega), fun t _ _ => ⟨(show (0 : Int) ≤ 0 ∧ (0 : Int) ≤ 23 by decide), (show (0 : Int) ≤ 0 ∧ (0 : Int) ≤ 12 by decide), fun k a c => absurd (show k < (0 : Int) from c) (by omega), fun _ => rfl⟩⟩
theorem ky_kp {i c : Int} {K : Nat} (h1 : 10 < K) (h2 : K ≠ 46) : fs_kp (ky_s L xs) i K c := by
  refine ⟨?_, ?_, fun t _ _ => ?_⟩
  · rw [ky_m c h1 h2]; exact ky_ok
  · rw [ky_m c h1 h2, ky_c]
    exact ⟨rfl, rfl, fun s a c => absurd (show s < (0 : Int) from c) (by omega), fun f a c => absurd (show f < (0 : Int) from c) (by omega), fun t _ _ => ⟨rfl, rfl, fun k a c => absurd (show k < (0 : Int) from c) (by omega)⟩⟩
  · rw [ky_z _ _ (by decide) (by decide), ky_c]; rfl
theorem ky_Rr : fs_R (ky_s L xs) := by
  have z10 : ∀ p : Int, p ≠ 14 → ky_s L xs 10 0 p = 0 := fun p hp => by
    rw [ky_sK _ _ (by decide)]
    unfold ky_v
    rw [if_neg (fun z => hp z.2), if_neg (fun z => by omega), if_neg (fun z => by omega)]
  have z46 : ∀ p : Int, p ≠ 12 → p ≠ 21 → ky_s L xs 46 0 p = 0 := fun p hp hq => by
    rw [ky_sK _ _ (by decide)]
    unfold ky_v
    rw [if_neg (fun z => by omega), if_neg (fun z => hp z.2), if_neg (fun z => hq z.2)]
  refine ⟨ky_kp (by decide) (by decide), fun h => absurd (z10 10 (by decide)) h, ⟨?_, ?_, ?_, fun j a c => ?_⟩, ⟨?_, fun h => absurd (z10 9 (by decide)) h⟩, ⟨?_, ?_, fun j a c => ?_⟩, ⟨?_, ?_⟩, ?_, fun o p => ⟨Or.inl (ky_z _ _ (by decide) (by decide)), Or.inl (ky_z _ _ (by decide) (by decide))⟩⟩
  · rw [z10 11 (by decide)]; decide
  · rw [z10 12 (by decide)]; decide
  · rw [z10 11 (by decide), z46 5 (by decide) (by decide)]
  · exact ky_kp (by decide) (by decide)
  · rw [z10 9 (by decide), z46 6 (by decide) (by decide)]
  · rw [ky_z (K := 28) _ _ (by decide) (by decide)]; decide
  · rw [ky_z (K := 28) _ _ (by decide) (by decide), z46 9 (by decide) (by decide)]
  · rw [ky_z (K := 28) _ _ (by decide) (by decide)] at c; omega
  · rw [ky_sK (K := 46) _ _ (by decide), ky_sK (K := 10) _ _ (by decide)]
    unfold ky_v
    rw [if_neg (fun z => by omega), if_pos ⟨rfl, rfl⟩, if_pos ⟨rfl, rfl⟩]
  · rw [z10 13 (by decide), z46 7 (by decide) (by decide)]
  · rw [ky_sK (K := 46) _ _ (by decide)]
    unfold ky_v
    rw [if_neg (fun z => by omega), if_neg (fun z => by omega), if_pos ⟨rfl, rfl⟩]
end KY
