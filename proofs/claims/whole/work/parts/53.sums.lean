theorem fs_sum_0 : ∀ n : Nat, fs_sum (fun _ => 0) n = 0
  | 0 => rfl
  | n + 1 => by rw [fs_sum, fs_sum_0 n]; rfl
theorem fs_sum_add {f g : Int → Int} : ∀ n : Nat, fs_sum (fun x => f x + g x) n = fs_sum f n + fs_sum g n
  | 0 => rfl
  | n + 1 => by rw [fs_sum, fs_sum, fs_sum, fs_sum_add n]; omega
theorem fs_sum_sw {g : Int → Int → Int} {n : Nat} : ∀ m : Nat, fs_sum (fun a => fs_sum (fun b => g a b) n) m = fs_sum (fun b => fs_sum (fun a => g a b) m) n
  | 0 => by
    show 0 = _
    have : fs_sum (fun b => fs_sum (fun a => g a b) 0) n = fs_sum (fun _ => 0) n := fs_sum_c n (fun _ _ _ => rfl)
    rw [this, fs_sum_0]
  | m + 1 => by
    rw [fs_sum, fs_sum_sw m, ← fs_sum_add]
    exact fs_sum_c n (fun _ _ _ => rfl)
theorem fs_sum_1 {B c : Int} : ∀ n : Nat, fs_sum (fun f => if f = B then c else 0) n = if 0 ≤ B ∧ B < n then c else 0
  | 0 => by rw [if_neg (by omega)]; rfl
  | n + 1 => by
    rw [fs_sum, fs_sum_1 n]
    by_cases e : (n : Int) = B
    · rw [if_neg (by omega), if_pos e, if_pos (by omega)]; omega
    · rw [if_neg e]
      by_cases h : 0 ≤ B ∧ B < n
      · rw [if_pos h, if_pos (by omega)]; omega
      · rw [if_neg h, if_neg (by omega)]; rfl
/-- how many times a source's facts are the best: by facts, by times -/
theorem fs_voice_sw {S : fx_S} (ho : fs_ok S) {W : Int → Bool} {s : Int} : fs_sum (fun t => fs_sum (fs_voice S W s t) 1000) 8 = fs_sum (fun f => if S 4 f 0 = s then fs_reign S W f else 0) (S 0 1 0).toNat := by
  have hfa := ho.2.1
  have h1 : ∀ t x, fs_voice S W s t x = fs_sum (fun f => if S 4 f 0 = s ∧ S 3 f 0 = t ∧ fs_bs S W t x = f then 1 else 0) (S 0 1 0).toNat := by
    intro t x
    have hin := fs_bs_in (W := W) (t := t) (time := x) ho
    have hbt := fs_bs_t (S := S) (W := W) (t := t) (x := x)
    unfold fs_voice
    generalize fs_bs S W t x = B at hin hbt
    by_cases e : B = -1
    · rw [fs_sum_c (g := fun _ => 0) _ (fun f f0 f1 => if_neg (by omega)), fs_sum_0, e]; rfl
    · have hB := hbt e
      by_cases e4 : S 4 B 0 = s
      · rw [fs_sum_c (g := fun f => if f = B then 1 else 0) _ (fun f f0 f1 => by
          by_cases g : f = B
          · rw [if_pos g, g, if_pos ⟨e4, hB, rfl⟩]
          · rw [if_neg g, if_neg (fun h => g h.2.2.symm)]), fs_sum_1, if_pos (by omega), decide_eq_true e, decide_eq_true e4]; rfl
      · rw [fs_sum_c (g := fun _ => 0) _ (fun f f0 f1 => by
          by_cases g : f = B
          · rw [g, if_neg (fun h => e4 h.1)]
          · rw [if_neg (fun h => g h.2.2.symm)]), fs_sum_0, decide_eq_false e4, Bool.and_false]; rfl
  have h2 : fs_sum (fun t => fs_sum (fs_voice S W s t) 1000) 8 = fs_sum (fun t => fs_sum (fun x => fs_sum (fun f => if S 4 f 0 = s ∧ S 3 f 0 = t ∧ fs_bs S W t x = f then 1 else 0) (S 0 1 0).toNat) 1000) 8 := fs_sum_c 8 (fun t _ _ => fs_sum_c 1000 (fun x _ _ => h1 t x))
  rw [h2]
  have h3 : ∀ t, fs_sum (fun x => fs_sum (fun f => if S 4 f 0 = s ∧ S 3 f 0 = t ∧ fs_bs S W t x = f then 1 else 0) (S 0 1 0).toNat) 1000 = fs_sum (fun f => fs_sum (fun x => if S 4 f 0 = s ∧ S 3 f 0 = t ∧ fs_bs S W t x = f then 1 else 0) 1000) (S 0 1 0).toNat := fun t => fs_sum_sw 1000
  rw [fs_sum_c 8 (fun t _ _ => h3 t), fs_sum_sw 8]
  refine fs_sum_c _ (fun f f0 f1 => ?_)
  have hf := (ho.2.2.2.1 f f0 (by omega)).1
  by_cases e4 : S 4 f 0 = s
  · rw [if_pos e4, fs_sum_c (g := fun t => if t = S 3 f 0 then fs_reign S W f else 0) 8 (fun t t0 t1 => ?_), fs_sum_1, if_pos (by omega)]
    by_cases g : t = S 3 f 0
    · rw [if_pos g]
      unfold fs_reign
      refine fs_sum_c 1000 (fun x _ _ => ?_)
      rw [g]
      by_cases q : fs_bs S W (S 3 f 0) x = f
      · rw [if_pos ⟨e4, rfl, q⟩, decide_eq_true q]; rfl
      · rw [if_neg (fun h => q h.2.2), decide_eq_false q]; rfl
    · rw [if_neg g, fs_sum_c (g := fun _ => 0) 1000 (fun x _ _ => if_neg (fun h => g h.2.1.symm)), fs_sum_0]
  · rw [if_neg e4, fs_sum_c (g := fun _ => 0) 8 (fun t _ _ => by rw [fs_sum_c (g := fun _ => 0) 1000 (fun x _ _ => if_neg (fun h => e4 h.1)), fs_sum_0]), fs_sum_0]
section FXM
variable {σ : fx_S} {o : Int}
theorem fs_gone_m (ho : fs_ok (fs_m σ 47 0)) {f : Int} (f0 : 0 ≤ f) (f1 : f < σ 47 0 1) {τ : fx_S} (h : ∀ q, q ≠ 18 + 6 * f + 5 → τ 47 0 q = σ 47 0 q) (h2 : τ 47 0 (18 + 6 * f + 5) = 1) : fs_eq (fs_gone (fs_m σ 47 0) f) (fs_m τ 47 0) := by
  have hn := fs_mn ho
  have hh : ∀ q p, q = p → q ≠ 18 + 6 * f + 5 → σ 47 0 q = τ 47 0 p := fun q p e hq => by rw [← e]; exact (h q hq).symm
  have e0 : (fs_gone (fs_m σ 47 0) f) 0 0 0 = σ 47 0 0 := by simp [fs_gone, fx_up, fs_m]
  have e1 : (fs_gone (fs_m σ 47 0) f) 0 1 0 = σ 47 0 1 := by simp [fs_gone, fx_up, fs_m]
  refine ⟨by rw [e0]; exact hh 0 _ (by omega) (by omega), by rw [e1]; exact hh 1 _ (by omega) (by omega), fun s a b => ?_, fun g a b => ?_, fun t a b => ?_⟩
  · rw [e0] at b
    simp only [fs_gone, fx_up, fs_m]
    simp
    exact ⟨hh _ _ rfl (by omega), hh _ _ rfl (by omega)⟩
  · rw [e1] at b
    by_cases e : g = f
    · subst e
      simp only [fs_gone, fx_up, fs_m]
      simp
      exact ⟨hh _ _ rfl (by omega), hh _ _ rfl (by omega), hh _ _ rfl (by omega), hh _ _ rfl (by omega), hh _ _ rfl (by omega), h2.symm⟩
    · simp only [fs_gone, fx_up, fs_m]
      simp [e]
      exact ⟨hh _ _ rfl (by omega), hh _ _ rfl (by omega), hh _ _ rfl (by omega), hh _ _ rfl (by omega), hh _ _ rfl (by omega), hh _ _ rfl (by omega)⟩
  · have hc : ∀ q, 378 ≤ q → τ 47 0 q = σ 47 0 q := fun q hq => h q (by omega)
    simp only [fs_gone, fx_up, fs_m]
    simp
    refine ⟨hh _ _ rfl (by omega), hh _ _ rfl (by omega), fun k k0 k1 => ?_⟩
    rw [hc (378 + 94 * t + 2 + 4 * k) (by omega), hc (378 + 94 * t + 2 + 4 * k + 1) (by omega), hc (378 + 94 * t + 2 + 4 * k + 2) (by omega), hc (378 + 94 * t + 2 + 4 * k + 3) (by omega)]
    exact ⟨rfl, rfl, fun _ => rfl⟩
theorem c229 (ho : fs_ok (fs_m σ 47 0)) (hl : σ 46 o 21 = 60) {f : Int} (f0 : 0 ≤ f) (f1 : f < σ 47 0 1) (h8 : fs_m σ 47 0 8 f 0 = 0) : fx_Ca 229 [(46, o), (0, f)] σ (fun v τ => v = (0, fs_sum (fun t => fs_sum (fs_oth (fs_m σ 47 0) fs_W1 (fun g => decide (g ≠ f)) t) 1000) 8) ∧ fs_sc σ τ) := by
  have hn := fs_mn ho
  have h8' : σ 47 0 (18 + 6 * f + 5) = 0 := by
    have e : fs_m σ 47 0 8 f 0 = σ 47 0 (18 + 6 * f + 5) := by
      show σ 47 0 (0 + 18 + 6 * f + 5) = _
      exact fs_mi (by omega)
    rw [← e]; exact h8
  have hgok : ∀ τ : fx_S, (∀ q, q ≠ 18 + 6 * f + 5 → τ 47 0 q = σ 47 0 q) → τ 47 0 (18 + 6 * f + 5) = 1 → fs_ok (fs_m τ 47 0) ∧ ∀ t x, 0 ≤ t → t < 8 → fs_is (fs_m τ 47 0) fs_W1 t x = fs_is (fs_m σ 47 0) (fun g => decide (g ≠ f)) t x := by
    intro τ g1 g2
    have he := fs_gone_m ho f0 f1 g1 g2
    refine ⟨he.ok (fs_gone_ok ho), fun t x t0 t1 => ?_⟩
    rw [← fs_is_c he (fs_gone_ok ho) (fun _ _ _ => rfl) 8 (by omega) t t0 (by omega)]
    exact fs_gone_is ho 8 (by omega) t t0 (by omega)
  have hsw : fs_sum (fun t => fs_sum (fs_oth (fs_m σ 47 0) fs_W1 (fun g => decide (g ≠ f)) t) 1000) 8 = fs_sum (fun x => fs_sum (fun t => fs_oth (fs_m σ 47 0) fs_W1 (fun g => decide (g ≠ f)) t x) 8) 1000 := fs_sum_sw (g := fun t x => fs_oth (fs_m σ 47 0) fs_W1 (fun g => decide (g ≠ f)) t x) 8
  rw [hsw]
  have hFr : ∀ x t, 0 ≤ fs_oth (fs_m σ 47 0) fs_W1 (fun g => decide (g ≠ f)) t x ∧ fs_oth (fs_m σ 47 0) fs_W1 (fun g => decide (g ≠ f)) t x ≤ 1 := fun x t => fs_b_r _
  have hGr0 : ∀ x, 0 ≤ fs_sum (fun t => fs_oth (fs_m σ 47 0) fs_W1 (fun g => decide (g ≠ f)) t x) 8 ∧ fs_sum (fun t => fs_oth (fs_m σ 47 0) fs_W1 (fun g => decide (g ≠ f)) t x) 8 ≤ 8 := fun x => fs_sum01 (hFr x) 8
  generalize hG : (fun x => fs_sum (fun t => fs_oth (fs_m σ 47 0) fs_W1 (fun g => decide (g ≠ f)) t x) 8) = G
  have hGx : ∀ x, G x = fs_sum (fun t => fs_oth (fs_m σ 47 0) fs_W1 (fun g => decide (g ≠ f)) t x) 8 := fun x => by rw [← hG]
  have hGr : ∀ x, 0 ≤ G x ∧ G x ≤ 8 := fun x => by rw [hGx]; exact hGr0 x
  refine t229_0 (fx_whl (X := Int × fx_V × fx_S) (fun y => [(46, o), (0, f), (0, fs_sum G y.1.toNat), (0, y.1), y.2.1]) (fun y => y.2.2) (fun y => (0 ≤ y.1 ∧ y.1 ≤ 1000) ∧ fs_sc σ y.2.2) (fun y => (1000 - y.1).toNat) ?_ (0, (3, 0), σ) ⟨⟨by simp, by simp⟩, fs_sc.rfl⟩)
  rintro ⟨x, w, τ⟩ ⟨⟨x0, x1⟩, hf⟩ ih
  simp only at x0 x1 hf
  show fx_Wp 229 4 [(46, o), (0, f), (0, fs_sum G x.toNat), (0, x), w] [] τ _
  refine t229_4 ⟨fun a => ⟨by rw [show x = 1000 by omega]; rfl, hf⟩, fun a => ?_⟩
  have hm : fs_m τ 47 0 = fs_m σ 47 0 := hf.m (by omega)
  refine fx_CV_of (c165w (σ := τ) (o := o) (x := x) (by rw [hm]; exact ho) (by rw [hf 46 o 21 (by omega)]; exact hl)) ?_
  rintro v τ1 ⟨rfl, s1, -, v1⟩
  rw [hm] at v1
  refine Or.inl ⟨rfl, ?_⟩
  refine fx_whl (X := Int × fx_S) (fun y => [(46, o), (0, f), (0, fs_sum G x.toNat), (0, x), (0, y.1)]) (fun y => y.2) (fun y => (0 ≤ y.1 ∧ y.1 ≤ 8) ∧ fs_sc σ y.2 ∧ (∀ t, 0 ≤ t → t < 8 → y.2 55 0 t = fs_is (fs_m σ 47 0) fs_W1 t x) ∧ ∀ t, 0 ≤ t → t < y.1 → y.2 60 0 t = fs_is (fs_m σ 47 0) fs_W1 t x) (fun y => (8 - y.1).toNat) ?_ (0, τ1) ⟨⟨by simp, by simp⟩, hf.trans s1, fun t t0 t1 => (v1 t t0 t1).1, fun t t0 t1 => by simp only at t1; omega⟩
  clear v1 s1 hm hf
  rintro ⟨i, τ⟩ ⟨⟨i0, i1⟩, hf, h55, h60⟩ ih2
  simp only at i0 i1 hf h55 h60
  show fx_Wp 229 19 [(46, o), (0, f), (0, fs_sum G x.toNat), (0, x), (0, i)] [] τ _
  refine t229_19 ⟨fun b => ⟨⟨by omega, by omega⟩, ⟨by omega, by omega⟩, ⟨by omega, by omega⟩, by omega, ?_⟩, fun b => ⟨⟨i0, b⟩, ⟨by omega, by omega⟩, ?_⟩⟩
  · generalize hE : fx_up τ 47 0 (18 + 6 * f + 5) 1 = τ3
    have e3 : ∀ K p q, ¬ (K = 47 ∧ p = 0 ∧ q = 18 + 6 * f + 5) → τ3 K p q = τ K p q := fun K p q hK => by rw [← hE, fx_upE, if_neg hK]
    have hg := hgok τ3 (fun q hq => by rw [e3 47 0 q (by omega)]; exact hf 47 0 q (by omega)) (by rw [← hE, fx_upS])
    refine fx_CV_of (c165w (σ := τ3) (o := o) (x := x) hg.1 (by rw [e3 46 o 21 (by omega), hf 46 o 21 (by omega)]; exact hl)) ?_
    rintro v τ4 ⟨rfl, s4, p4, v4⟩
    refine Or.inl ⟨rfl, ?_⟩
    generalize hE5 : fx_up τ4 47 0 (18 + 6 * f + 5) 0 = τ5
    have e5 : fs_sc σ τ5 := by
      intro K p q hK
      by_cases g : K = 47 ∧ p = 0 ∧ q = 18 + 6 * f + 5
      · obtain ⟨rfl, rfl, rfl⟩ := g
        rw [← hE5, fx_upS, h8']
      · rw [← hE5, fx_upE, if_neg g, s4 K p q hK, e3 K p q g]; exact hf K p q hK
    have h55' : ∀ t, 0 ≤ t → t < 8 → τ5 55 0 t = fs_is (fs_m σ 47 0) (fun g => decide (g ≠ f)) t x := fun t t0 t1 => by
      rw [← hE5, fx_upK rfl, (v4 t t0 t1).1]; exact hg.2 t x t0 t1
    have h60' : ∀ t, 0 ≤ t → t < 8 → τ5 60 0 t = fs_is (fs_m σ 47 0) fs_W1 t x := fun t t0 t1 => by
      rw [← hE5, fx_upK rfl, p4 60 0 t (by omega), e3 60 0 t (by omega)]; exact h60 t t0 (by omega)
    have m : fx_Wp 229 84 [(46, o), (0, f), (0, fs_sum G x.toNat + fs_sum (fun t => fs_oth (fs_m σ 47 0) fs_W1 (fun g => decide (g ≠ f)) t x) (0 : Int).toNat), (0, x), (0, 0)] [] τ5 (fun v τ => v = (0, fs_sum G 1000) ∧ fs_sc σ τ) := by
      refine fx_for (fun t => [(46, o), (0, f), (0, fs_sum G x.toNat + fs_sum (fun t => fs_oth (fs_m σ 47 0) fs_W1 (fun g => decide (g ≠ f)) t x) t.toNat), (0, x), (0, t)]) (fun _ => τ5) 0 8 (fun _ => True) (by omega) trivial ?_ ?_
      · intro t t0 t1 _ ih3
        have ih3 := ih3 trivial
        rw [fs_sum_s _ t0] at ih3
        have hb1 := fs_sum_r hGr x.toNat
        have hb2 := fs_sum01 (hFr x) t.toNat
        refine t229_84 ⟨fun c => by omega, fun c => ⟨⟨t0, c⟩, ?_⟩⟩
        rw [h55' t t0 c, h60' t t0 c]
        refine ⟨fun d => ⟨⟨by omega, by omega⟩, ⟨by omega, by omega⟩, ?_⟩, fun d => ⟨⟨by omega, by omega⟩, ⟨by omega, by omega⟩, ?_⟩⟩
        · have e : fs_oth (fs_m σ 47 0) fs_W1 (fun g => decide (g ≠ f)) t x = 0 := by unfold fs_oth; rw [decide_eq_false (fun q => q d.symm)]; rfl
          rw [e] at ih3
          simp only [Int.add_zero] at ih3 ⊢
          exact ih3
        · have e : fs_oth (fs_m σ 47 0) fs_W1 (fun g => decide (g ≠ f)) t x = 1 := by have d' : fs_is (fs_m σ 47 0) fs_W1 t x ≠ fs_is (fs_m σ 47 0) (fun g => decide (g ≠ f)) t x := fun q => d q.symm; unfold fs_oth; rw [decide_eq_true d']; rfl
          rw [e] at ih3
          rw [Int.add_assoc]
          exact ih3
      · intro _
        refine t229_84 ⟨fun c => ⟨⟨by omega, by omega⟩, ?_⟩, fun c => by omega⟩
        have := ih (x + 1, (0, 8), τ5) ⟨⟨by simp only; omega, by simp only; omega⟩, e5⟩ (by simp only; omega)
        simp only at this
        rw [fs_sum_s G x0, hGx x] at this
        exact this
    have z : fs_sum G x.toNat + fs_sum (fun t => fs_oth (fs_m σ 47 0) fs_W1 (fun g => decide (g ≠ f)) t x) (0 : Int).toNat = fs_sum G x.toNat := by show _ + 0 = _; omega
    rw [z] at m
    exact m
  · generalize hE : fx_up τ 60 0 i (τ 55 0 i) = τ3
    refine ih2 (i + 1, τ3) ⟨⟨by simp only; omega, by simp only; omega⟩, ?_, fun t t0 t1 => ?_, fun t t0 t1 => ?_⟩ (by simp only; omega)
    · show fs_sc σ τ3
      rw [← hE]; exact hf.up (by omega)
    · simp only
      rw [← hE, fx_upK rfl]; exact h55 t t0 t1
    · simp only at t1 ⊢
      by_cases e : t = i
      · rw [e, ← hE, fx_upS]; exact h55 i i0 b
      · rw [← hE, fx_upJ e]; exact h60 t t0 (by omega)
end FXM
