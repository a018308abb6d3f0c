/-- the row put aside -/
def fs_asd (τ σ1 : fx_S) : Prop := (∀ K o p, ¬ (K = 48 ∨ (55 ≤ K ∧ K ≤ 60) ∨ (K = 46 ∧ o = 0 ∧ (p = 0 ∨ p = 27 ∨ p = 28))) → σ1 K o p = τ K o p) ∧ ∀ p, 0 ≤ p → p < 1130 → σ1 48 0 p = τ 47 0 p
def fs_mt (τ : fx_S) (cd er r : Int) (A : fx_S) (ans : Int) : fx_V → fx_S → Prop := fun v ρ => ∃ y, v = (0, y) ∧ ((cd ≠ 0 ∧ ρ = fx_up τ 46 0 0 cd) ∨ (cd = 0 ∧ r ≠ 0 ∧ fs_M1 τ ρ er r) ∨ (cd = 0 ∧ r = 0 ∧ fs_M2 τ ρ A ∧ y = ans))
section FXT2
variable {τ σ1 σ2 σ3 S A X : fx_S} {r er cd ans y : Int} {Q : fx_V → fx_S → Prop}
theorem fs_mt0 {n : Int} (h : cd = n) (hn : n ≠ 0) : fs_mt τ cd er r A ans (0, y) (fx_up τ 46 0 0 n) := ⟨y, rfl, Or.inl ⟨by rw [h]; exact hn, by rw [h]⟩⟩
theorem fs_mt1 {ρ : fx_S} (h : cd = 0) (hr : r ≠ 0) (m : fs_M1 τ ρ er r) : fs_mt τ cd er r A ans (0, y) ρ := ⟨y, rfl, Or.inr (Or.inl ⟨h, hr, m⟩)⟩
theorem fs_mt2 {ρ : fx_S} (h : cd = 0) (hr : r = 0) (m : fs_M2 τ ρ A) (hy : y = ans) : fs_mt τ cd er r A ans (0, y) ρ := ⟨y, rfl, Or.inr (Or.inr ⟨h, hr, m, hy⟩)⟩
theorem fs_asd0 {Y : fx_S} (h : ∀ K o p, ¬ (K = 48 ∨ (55 ≤ K ∧ K ≤ 60) ∨ (K = 46 ∧ o = 0 ∧ (p = 0 ∨ p = 27 ∨ p = 28))) → Y K o p = τ K o p) : fs_asd τ (fx_fill Y 48 0 1130 (fun p => Y 47 0 p)) :=
  ⟨fun K o p hK => by rw [fx_fillE, if_neg (by omega)]; exact h K o p hK, fun p p0 p1 => by rw [fx_fillE, if_pos ⟨rfl, rfl, p0, p1⟩]; exact h 47 0 p (by omega)⟩
theorem fs_asd.m (h : fs_asd τ σ1) (hm : fs_mp 0 τ S) : fs_mp 0 σ1 S := ⟨hm.1, (fs_m_c (fun p => h.1 47 0 p (by omega))).trans hm.2.1, by rw [h.1 46 0 21 (by omega)]; exact hm.2.2⟩
theorem fs_asd.ok (h : fs_asd τ σ1) (hm : fs_mp 0 τ S) : fs_ok (fs_m σ1 47 0) := by rw [(h.m hm).2.1]; exact hm.1
theorem fs_m4 {C : Int → fx_S → Prop} (h1 : fs_asd τ σ1) (h5 : 0 ≤ τ 46 0 5 ∧ τ 46 0 5 ≤ 8) (hr : 0 ≤ r)
    (a1 : ∀ K p q, ¬ (K = 47 ∨ (K = 46 ∧ p = 0 ∧ q = 29)) → σ3 K p q = σ1 K p q) (a2 : r = 0 → fs_eq A (fs_m σ3 47 0)) (a3 : r ≠ 0 → ∀ q, σ3 47 0 q = σ1 47 0 q)
    (k : ∀ σ4, (∀ K p q, ¬ (K = 50 ∨ (K = 46 ∧ p = 0 ∧ (q = 0 ∨ q = 5 ∨ q = 7))) → σ4 K p q = σ3 K p q) → (r ≠ 0 → fs_M1 τ σ4 er r → C 0 σ4) ∧ (r = 0 → fs_M2 τ σ4 A → C 1 σ4)) :
    fx_CI 178 [(46, 0), (0, r), (0, er)] σ3 Q C := by
  obtain ⟨h1, h48⟩ := h1
  have e5 : σ3 46 0 5 = τ 46 0 5 := (a1 46 0 5 (by omega)).trans (h1 46 0 5 (by omega))
  refine fx_CI_of (c178 (σ := σ3) (o := 0) (by omega) (by omega) (e := er) hr) ?_
  rintro v σ4 ⟨rfl, f1, f2, f3, f4, f5⟩
  have kk := k σ4 f1
  have hfm : fs_fm τ σ4 := fun K o p hK => by rw [f1 K o p (by omega), a1 K o p (by omega)]; exact h1 K o p (by omega)
  by_cases hz : r = 0
  · rw [if_pos hz]
    rw [if_pos hz] at f3
    obtain ⟨g1, g2, g3⟩ := f4 hz
    rw [e5] at g1 g3
    refine Or.inl ⟨rfl, kk.2 hz ⟨hfm, f3, f2.trans hz, ?_, g1, fun p p0 p1 => ?_, fun j p j0 j1 p0 p1 => ?_⟩⟩
    · rw [fs_m_c (fun p => f1 47 0 p (by omega))]; exact a2 hz
    · rw [g2 p p0 p1, a1 48 0 p (by omega)]; exact h48 p p0 p1
    · rw [g3 j p j0 j1 p0 p1, a1 50 0 _ (by omega)]; exact h1 50 0 _ (by omega)
  · rw [if_neg hz]
    rw [if_neg hz] at f3
    obtain ⟨g1, g2⟩ := f5 hz
    refine Or.inl ⟨rfl, kk.1 hz ⟨hfm, f3, f2, g1.trans e5, fun q => ?_, fun q => ?_⟩⟩
    · rw [f1 47 0 q (by omega), a3 hz]; exact h1 47 0 q (by omega)
    · rw [g2, a1 50 0 q (by omega)]; exact h1 50 0 q (by omega)
theorem fs_m5 {C : Int → fx_S → Prop} {k a b c d e : Int} (hk : 16 ≤ k ∧ k ≤ 23) (h1 : fs_asd τ σ1) (h5 : 0 ≤ τ 46 0 5 ∧ τ 46 0 5 ≤ 8) (hm : fs_mp 0 τ S) {v : fx_V} (ha : fs_ma 0 σ1 k a b c d e σ1 v σ3)
    (kk : ∀ σ4, (∀ K p q, ¬ (K = 47 ∨ K = 50 ∨ (K = 46 ∧ p = 0 ∧ (q = 0 ∨ q = 5 ∨ q = 7))) → σ4 K p q = σ1 K p q) → (fs_ref S k a b c d ≠ 0 → fs_M1 τ σ4 er (fs_ref S k a b c d) → C 0 σ4) ∧ (fs_ref S k a b c d = 0 → fs_M2 τ σ4 (fs_do S k a b c d e X) → C 1 σ4)) :
    (v.1 = 0 ∧ fx_CI 178 [(46, 0), (0, v.2), (0, er)] σ3 Q C) ∨ (v.1 = 5 ∧ Q v σ3) := by
  obtain ⟨rfl, a1, a2, a3⟩ := ha
  simp only [(h1.m hm).2.1] at a2 a3 ⊢
  refine Or.inl ⟨trivial, fs_m4 h1 h5 fs_ref_nn.1 (A := fs_do S k a b c d e X) (fun K p q hK => a1 K p q (by omega)) (fun z => ?_) a3 (fun σ4 hf => kk σ4 (fun K p q hK => ?_))⟩
  · have := a2 z
    rwa [fs_do_R (R' := X) hk] at this
  · rw [hf K p q (by omega)]; exact a1 K p q (by omega)
theorem fs_p17 {x : Int} (hx : fs_in 100 x) : fs_par 17 x 0 0 0 0 X := by
  refine ⟨by omega, ?_, ?_, ?_, ?_, ?_, ?_⟩ <;> intro z <;> omega
theorem fs_p18 {t s a b v : Int} (ht : fs_in 8 t) (ha : fs_in 1001 a) (hb : fs_in 1001 b) (hv : fs_in 100 v) : fs_par 18 t s a b v X := by
  refine ⟨by omega, ?_, ?_, ?_, ?_, ?_, ?_⟩ <;> intro z <;> omega
theorem fs_p19 {f k : Int} (hk : 19 ≤ k ∧ k ≤ 21) : fs_par k f 0 0 0 0 X := by
  refine ⟨by omega, ?_, ?_, ?_, ?_, ?_, ?_⟩ <;> intro z <;> omega
theorem fs_p22 {s r : Int} (hr : fs_in 100 r) : fs_par 22 s r 0 0 0 X := by
  refine ⟨by omega, ?_, ?_, ?_, ?_, ?_, ?_⟩ <;> intro z <;> omega
theorem fs_p23 {t x : Int} (ht : fs_in 8 t) (hx : 0 ≤ x ∧ x ≤ 1000) : fs_par 23 t x 0 0 0 X := by
  refine ⟨by omega, ?_, ?_, ?_, ?_, ?_, ?_⟩ <;> intro z <;> omega
theorem fs_p16 {t : Int} (ht : fs_in 8 t) : fs_par 16 t 0 0 0 0 X := by
  refine ⟨by omega, ?_, ?_, ?_, ?_, ?_, ?_⟩ <;> intro z <;> omega
theorem fs_A17 {x : Int} : fs_do S 17 x 0 0 0 0 X 0 0 0 = S 0 0 0 + 1 := by simp [fs_do, fs_src, fx_up]
theorem fs_A18 {t s a b v : Int} : fs_do S 18 t s a b v X 0 1 0 = S 0 1 0 + 1 := by simp [fs_do, fs_fct, fx_up]
theorem fs_A23 {t x : Int} (ho : fs_ok S) (ht : fs_in 8 t) (hx : 0 ≤ x ∧ x ≤ 1000) (hr : fs_ref S 23 t x 0 0 = 0) : fs_do S 23 t x 0 0 0 X 0 1 0 = S 0 1 0 + fs_cnt (fun f => fs_cut S f t x) (S 0 1 0).toNat := by
  have hn := ho.2.1
  have e : fs_do S 23 t x 0 0 0 X = fs_cutS S t x (S 0 1 0).toNat := by simp [fs_do]
  rw [e]
  exact (fs_cutS_p ho ht hx _ (by omega) ((fs_ref_0 hr).2.2.2.2 rfl)).2.2.1
theorem m206 (h : fs_mp 0 τ S) (h5 : 0 ≤ τ 46 0 5 ∧ τ 46 0 5 ≤ 8) {x : Int} : fx_Ca 206 [(46, 0), (0, x)] τ (fs_mt τ (fs_c1 (fs_in 100 x)) 2 (fs_ref S 17 x 0 0 0) (fs_do S 17 x 0 0 0 0 X) (S 0 0 0)) := by
  by_cases hx : fs_in 100 x
  · refine t206_0 ((m149y ⟨hx.1, by omega⟩).I ⟨fun a => absurd a (by decide), fun _ => c176.V ?_⟩)
    have hA := fs_asd0 (τ := τ) (Y := fx_up τ 46 0 0 0) (fun K o p hK => by rw [fx_upE, if_neg (by omega)])
    generalize fx_fill (fx_up τ 46 0 0 0) 48 0 1130 (fun p => fx_up τ 46 0 0 0 47 0 p) = σ1 at hA ⊢
    refine fx_CI_of (c168 (hA.ok h)) (fun v σ3 ha => fs_m5 (X := X) (by omega) hA h5 h ha (fun σ4 hf => ⟨fun hr m => ⟨fun _ => fs_mt1 (fs_c1y hx) hr m, fun a => absurd rfl a⟩, fun hr m => ⟨fun a => absurd a (by decide), fun _ => ?_⟩⟩))
    have e : fs_do S 17 x 0 0 0 0 X 0 0 0 = σ4 47 0 0 := m.2.2.2.1.1
    rw [fs_A17] at e
    have hn := h.1.1
    exact ⟨⟨by omega, by omega⟩, fs_mt2 (fs_c1y hx) hr m (by omega)⟩
  · exact t206_0 ((m149n (fun z => hx ⟨z.1, by omega⟩)).I ⟨fun _ => fs_mt0 (fs_c1n hx) (by decide), fun a => absurd rfl a⟩)
theorem m207 (h : fs_mp 0 τ S) (h5 : 0 ≤ τ 46 0 5 ∧ τ 46 0 5 ≤ 8) {t s a b x : Int} : fx_Ca 207 [(46, 0), (0, t), (0, s), (0, a), (0, b), (0, x)] τ (fs_mt τ (fs_c2 (fs_in 8 t) (fs_in 1001 a ∧ fs_in 1001 b ∧ fs_in 100 x)) 3 (fs_ref S 18 t s a b) (fs_do S 18 t s a b x X) (S 0 1 0)) := by
  by_cases ht : fs_in 8 t
  · by_cases ha : fs_in 1001 a
    · by_cases hb : fs_in 1001 b
      · by_cases hx : fs_in 100 x
        · have hc := fs_c2y (p := fs_in 8 t) (q := fs_in 1001 a ∧ fs_in 1001 b ∧ fs_in 100 x) ht ⟨ha, hb, hx⟩
          refine t207_0 ((m154y ht).I ⟨fun _ => (m149y ⟨ha.1, by omega⟩).I ⟨fun a => absurd a (by decide), fun _ => (m149y ⟨hb.1, by omega⟩).I ⟨fun a => absurd a (by decide), fun _ => (m149y ⟨hx.1, by omega⟩).I ⟨fun _ => c176.V ?_, fun a => absurd a (by decide)⟩⟩⟩, fun a => absurd a (by decide)⟩)
          have hA := fs_asd0 (τ := τ) (Y := fx_up τ 46 0 0 0) (fun K o p hK => by rw [fx_upE, if_neg (by omega)])
          generalize fx_fill (fx_up τ 46 0 0 0) 48 0 1130 (fun p => fx_up τ 46 0 0 0 47 0 p) = σ1 at hA ⊢
          refine fx_CI_of (c169 (hA.ok h)) (fun v σ3 ha => fs_m5 (X := X) (by omega) hA h5 h ha (fun σ4 hf => ⟨fun hr m => ⟨fun _ => fs_mt1 hc hr m, fun a => absurd rfl a⟩, fun hr m => ⟨fun a => absurd a (by decide), fun _ => ?_⟩⟩))
          have e : fs_do S 18 t s a b x X 0 1 0 = σ4 47 0 1 := m.2.2.2.1.2.1
          rw [fs_A18] at e
          have hn := h.1.2.1
          exact ⟨⟨by omega, by omega⟩, fs_mt2 hc hr m (by omega)⟩
        · exact t207_0 ((m154y ht).I ⟨fun _ => (m149y ⟨ha.1, by omega⟩).I ⟨fun a => absurd a (by decide), fun _ => (m149y ⟨hb.1, by omega⟩).I ⟨fun a => absurd a (by decide), fun _ => (m149n (fun z => hx ⟨z.1, by omega⟩)).I ⟨fun a => absurd rfl a, fun _ => fs_mt0 (fs_c2m ht (fun z => hx z.2.2)) (by decide)⟩⟩⟩, fun a => absurd a (by decide)⟩)
      · exact t207_0 ((m154y ht).I ⟨fun _ => (m149y ⟨ha.1, by omega⟩).I ⟨fun a => absurd a (by decide), fun _ => (m149n (fun z => hb ⟨z.1, by omega⟩)).I ⟨fun _ => fs_mt0 (fs_c2m ht (fun z => hb z.2.1)) (by decide), fun a => absurd rfl a⟩⟩, fun a => absurd a (by decide)⟩)
    · exact t207_0 ((m154y ht).I ⟨fun _ => (m149n (fun z => ha ⟨z.1, by omega⟩)).I ⟨fun _ => fs_mt0 (fs_c2m ht (fun z => ha z.1)) (by decide), fun a => absurd rfl a⟩, fun a => absurd a (by decide)⟩)
  · exact t207_0 ((m154n ht).I ⟨fun a => absurd rfl a, fun _ => fs_mt0 (fs_c2n ht) (by decide)⟩)
theorem m208 (h : fs_mp 0 τ S) (h5 : 0 ≤ τ 46 0 5 ∧ τ 46 0 5 ≤ 8) {f : Int} : fx_Ca 208 [(46, 0), (0, f)] τ (fs_mt τ 0 1 (fs_ref S 19 f 0 0 0) (fs_do S 19 f 0 0 0 0 X) (fs_reign S fs_W1 f)) := by
  refine t208_0 (c176.V ?_)
  have hA := fs_asd0 (τ := τ) (Y := τ) (fun K o p hK => rfl)
  generalize fx_fill τ 48 0 1130 (fun p => τ 47 0 p) = σ1 at hA ⊢
  have hm1 := hA.m h
  refine fx_CV_of (c167 (hA.ok h) hm1.2.2) ?_
  rintro v σ2 ⟨rfl, g1, g2⟩
  have hB : fs_asd τ σ2 := ⟨fun K o p hK => (g1 K o p (by omega)).trans (hA.1 K o p hK), fun p p0 p1 => (g1 48 0 p (by omega)).trans (hA.2 p p0 p1)⟩
  rw [hm1.2.1] at g2
  have e1 : σ1 47 0 1 = S 0 1 0 := by rw [← hm1.2.1]; rfl
  refine Or.inl ⟨rfl, fx_CI_of (c170 (hB.ok h)) (fun v σ3 ha => fs_m5 (X := X) (by omega) hB h5 h ha (fun σ4 hf => ⟨fun hr m => ⟨fun _ => fs_mt1 rfl hr m, fun a => absurd rfl a⟩, fun hr m => ⟨fun a => absurd a (by decide), fun _ => ?_⟩⟩))⟩
  have hf0 := ((fs_ref_0 hr).2.2.1 rfl).1
  have hn := h.1.2.1
  exact ⟨⟨by omega, by omega⟩, fs_mt2 rfl hr m (by rw [hf 58 0 f (by omega)]; exact g2 f hf0.1 (by omega))⟩
theorem m210a (h : fs_mp 0 τ S) (h5 : 0 ≤ τ 46 0 5 ∧ τ 46 0 5 ≤ 8) {s k v : Int} (hk : (k = 20 ∧ v = 1) ∨ (k = 21 ∧ v = 0)) (hA : fs_asd τ σ1) : fx_CI 171 [(46, 0), (0, s), (0, v)] σ1 (fs_mt τ 0 1 (fs_ref S k s 0 0 0) (fs_do S k s 0 0 0 0 X) (fs_nof (fs_do S k s 0 0 0 0 X) 4 s)) (fun y1 σ2 => fx_CI 178 [(46, 0), (0, y1), (0, 1)] σ2 (fs_mt τ 0 1 (fs_ref S k s 0 0 0) (fs_do S k s 0 0 0 0 X) (fs_nof (fs_do S k s 0 0 0 0 X) 4 s)) (fun y2 σ3 => ((y2 = 0 → fs_mt τ 0 1 (fs_ref S k s 0 0 0) (fs_do S k s 0 0 0 0 X) (fs_nof (fs_do S k s 0 0 0 0 X) 4 s) (0, 0) σ3) ∧ (y2 ≠ 0 → fx_CI 209 [(46, 0), (0, 1), (0, s)] σ3 (fs_mt τ 0 1 (fs_ref S k s 0 0 0) (fs_do S k s 0 0 0 0 X) (fs_nof (fs_do S k s 0 0 0 0 X) 4 s)) (fun y3 σ4 => fs_mt τ 0 1 (fs_ref S k s 0 0 0) (fs_do S k s 0 0 0 0 X) (fs_nof (fs_do S k s 0 0 0 0 X) 4 s) (0, y3) σ4))))) := by
  have hk2 : 16 ≤ k ∧ k ≤ 23 := by omega
  refine fx_CI_of (c171 (hA.ok h) hk) (fun v σ3 ha => fs_m5 (X := X) hk2 hA h5 h ha (fun σ4 hf => ⟨fun hr m => ⟨fun _ => fs_mt1 rfl hr m, fun a => absurd rfl a⟩, fun hr m => ⟨fun a => absurd a (by decide), fun _ => ?_⟩⟩))
  have okA : fs_ok (fs_do S k s 0 0 0 0 X) := fs_do_ok h.1 (fs_p19 (by omega)) hr
  have me := m.2.2.2.1
  have hm4 : fs_mp 0 σ4 (fs_m σ4 47 0) := ⟨me.ok okA, rfl, by rw [hf 46 0 21 (by omega)]; exact (hA.m h).2.2⟩
  exact (m209 hm4 (s := s)).2.I (fs_mt2 rfl hr m (fs_nof_c me okA (Or.inr rfl)).symm)
theorem m210y (h : fs_mp 0 τ S) (h5 : 0 ≤ τ 46 0 5 ∧ τ 46 0 5 ≤ 8) {s : Int} : fx_Ca 210 [(46, 0), (0, s), (0, 0)] τ (fs_mt τ 0 1 (fs_ref S 20 s 0 0 0) (fs_do S 20 s 0 0 0 0 X) (fs_nof (fs_do S 20 s 0 0 0 0 X) 4 s)) := by
  refine t210_0 (c176.V ⟨fun _ => ?_, fun a => absurd rfl a⟩)
  exact m210a h h5 (Or.inl ⟨rfl, rfl⟩) (fs_asd0 (τ := τ) (Y := τ) (fun K o p hK => rfl))
theorem m210n (h : fs_mp 0 τ S) (h5 : 0 ≤ τ 46 0 5 ∧ τ 46 0 5 ≤ 8) {s : Int} : fx_Ca 210 [(46, 0), (0, s), (0, 1)] τ (fs_mt τ 0 1 (fs_ref S 21 s 0 0 0) (fs_do S 21 s 0 0 0 0 X) (fs_nof (fs_do S 21 s 0 0 0 0 X) 4 s)) := by
  refine t210_0 (c176.V ⟨fun a => absurd a (by decide), fun _ => ?_⟩)
  exact m210a h h5 (Or.inr ⟨rfl, rfl⟩) (fs_asd0 (τ := τ) (Y := τ) (fun K o p hK => rfl))
theorem m211 (h : fs_mp 0 τ S) (h5 : 0 ≤ τ 46 0 5 ∧ τ 46 0 5 ≤ 8) {s x : Int} : fx_Ca 211 [(46, 0), (0, s), (0, x)] τ (fs_mt τ (fs_c1 (fs_in 100 x)) 2 (fs_ref S 22 s x 0 0) (fs_do S 22 s x 0 0 0 X) (S 1 s 0)) := by
  by_cases hx : fs_in 100 x
  · refine t211_0 ((m149y ⟨hx.1, by omega⟩).I ⟨fun a => absurd a (by decide), fun _ => c176.V ?_⟩)
    have hA := fs_asd0 (τ := τ) (Y := fx_up τ 46 0 0 0) (fun K o p hK => by rw [fx_upE, if_neg (by omega)])
    generalize fx_fill (fx_up τ 46 0 0 0) 48 0 1130 (fun p => fx_up τ 46 0 0 0 47 0 p) = σ1 at hA ⊢
    have hm1 := hA.m h
    have hn := h.1.1
    by_cases hs : fs_in (S 0 0 0) s
    · refine (m152y hm1 hs).I ⟨fun a => absurd a (by decide), fun _ => ⟨⟨by omega, by omega⟩, ⟨by omega, by omega⟩, ?_⟩⟩
      have e1 : σ1 47 0 (2 + s) = S 1 s 0 := by rw [← hm1.2.1]; show _ = σ1 47 0 (0 + 2 + s); exact fs_mi (by omega)
      refine fx_CI_of (c172 (hA.ok h)) (fun v σ3 ha => fs_m5 (X := X) (by omega) hA h5 h ha (fun σ4 hf => ⟨fun hr m => ⟨fun _ => fs_mt1 (fs_c1y hx) hr m, fun a => absurd rfl a⟩, fun hr m => ⟨fun a => absurd a (by decide), fun _ => fs_mt2 (fs_c1y hx) hr m e1⟩⟩))
    · refine (m152n hm1 hs).I ⟨fun _ => ?_, fun a => absurd rfl a⟩
      exact fx_CI_of (c172 (hA.ok h)) (fun v σ3 ha => fs_m5 (X := X) (by omega) hA h5 h ha (fun σ4 hf => ⟨fun hr m => ⟨fun _ => fs_mt1 (fs_c1y hx) hr m, fun a => absurd rfl a⟩, fun hr m => absurd ((fs_ref_0 hr).2.2.2.1 (by omega)) hs⟩))
  · exact t211_0 ((m149n (fun z => hx ⟨z.1, by omega⟩)).I ⟨fun _ => fs_mt0 (fs_c1n hx) (by decide), fun a => absurd rfl a⟩)
theorem m212 (h : fs_mp 0 τ S) (h5 : 0 ≤ τ 46 0 5 ∧ τ 46 0 5 ≤ 8) {t x : Int} : fx_Ca 212 [(46, 0), (0, t), (0, x)] τ (fs_mt τ (fs_c2 (fs_in 8 t) (1 ≤ x ∧ x < 1000)) 3 (fs_ref S 23 t x 0 0) (fs_do S 23 t x 0 0 0 X) (fs_cnt (fun f => fs_cut S f t x) (S 0 1 0).toNat)) := by
  by_cases ht : fs_in 8 t
  · by_cases hx : 1 ≤ x ∧ x < 1000
    · have hc := fs_c2y (p := fs_in 8 t) (q := 1 ≤ x ∧ x < 1000) ht hx
      refine t212_0 ((m154y ht).I ⟨fun _ => (m149y ⟨hx.1, by omega⟩).I ⟨fun _ => c176.V ?_, fun a => absurd a (by decide)⟩, fun a => absurd a (by decide)⟩)
      have hA := fs_asd0 (τ := τ) (Y := fx_up τ 46 0 0 0) (fun K o p hK => by rw [fx_upE, if_neg (by omega)])
      generalize fx_fill (fx_up τ 46 0 0 0) 48 0 1130 (fun p => fx_up τ 46 0 0 0 47 0 p) = σ1 at hA ⊢
      have hm1 := hA.m h
      refine fx_CI_of (c174 (hA.ok h) ht ⟨by omega, by omega⟩) ?_
      rintro v σ3 ⟨rfl, a1, a29, a2, a3⟩
      have e1 : σ1 47 0 1 = S 0 1 0 := by rw [← hm1.2.1]; rfl
      rw [e1] at a29
      simp only [hm1.2.1] at a2 a3 a29 ⊢
      refine Or.inl ⟨trivial, fs_m4 (A := fs_do S 23 t x 0 0 0 X) hA h5 fs_ref_nn.1 a1 (fun z => ?_) a3 (fun σ4 hf => ⟨fun hr m => ⟨fun _ => fs_mt1 hc hr m, fun a => absurd rfl a⟩, fun hr m => ⟨fun a => absurd a (by decide), fun _ => fs_mt2 hc hr m ((hf 46 0 29 (by omega)).trans a29)⟩⟩)⟩
      have := a2 z
      rwa [fs_do_R (R' := X) ⟨by omega, by omega⟩] at this
    · exact t212_0 ((m154y ht).I ⟨fun _ => (m149n (fun z => hx ⟨z.1, by omega⟩)).I ⟨fun a => absurd rfl a, fun _ => fs_mt0 (fs_c2m ht hx) (by decide)⟩, fun a => absurd a (by decide)⟩)
  · exact t212_0 ((m154n ht).I ⟨fun a => absurd rfl a, fun _ => fs_mt0 (fs_c2n ht) (by decide)⟩)
theorem m213 (h : fs_mp 0 τ S) (h5 : 0 ≤ τ 46 0 5 ∧ τ 46 0 5 ≤ 8) {t : Int} : fx_Ca 213 [(46, 0), (0, t)] τ (fs_mt τ (fs_c1 (fs_in 8 t)) 2 (fs_ref S 16 t 0 0 0) (fs_do S 16 t 0 0 0 0 X) (S 10 t 0)) := by
  by_cases ht : fs_in 8 t
  · refine t213_0 ((m154y ht).I ⟨fun a => absurd a (by decide), fun _ => c176.V ?_⟩)
    have hA := fs_asd0 (τ := τ) (Y := fx_up τ 46 0 0 0) (fun K o p hK => by rw [fx_upE, if_neg (by omega)])
    generalize fx_fill (fx_up τ 46 0 0 0) 48 0 1130 (fun p => fx_up τ 46 0 0 0 47 0 p) = σ1 at hA ⊢
    have hm1 := hA.m h
    have e1 : σ1 47 0 (378 + 94 * t + 1) = S 10 t 0 := by rw [← hm1.2.1]; show _ = σ1 47 0 (0 + 378 + 94 * t + 1); exact fs_mi (by omega)
    refine (c160 ht.1 ht.2 (by omega) (by omega) e1).I ?_
    exact fx_CI_of (c175 (hA.ok h) ht.1 ht.2) (fun v σ3 ha => fs_m5 (X := X) (by omega) hA h5 h ha (fun σ4 hf => ⟨fun hr m => ⟨fun _ => fs_mt1 (fs_c1y ht) hr m, fun a => absurd rfl a⟩, fun hr m => ⟨fun a => absurd a (by decide), fun _ => fs_mt2 (fs_c1y ht) hr m rfl⟩⟩))
  · exact t213_0 ((m154n ht).I ⟨fun _ => fs_mt0 (fs_c1n ht) (by decide), fun a => absurd rfl a⟩)
end FXT2
