noncomputable def fx_T0 : List Cond := lw_tbl.filter goodWord
theorem fx_T0_in {w : Cond} (h : w ∈ lw_tbl) (g : goodWord w = true) : w ∈ fx_T0 := List.mem_filter.mpr ⟨h, g⟩
theorem fx_T0_good : GoodIn fx_T0 fx_T0 := fun w h => ⟨h, good_of_word (List.mem_filter.mp h).2⟩
def fx_nfs : List Nat := [4, 11, 10, 6, 11, 6, 15, 30]
theorem fx_vw : ∀ X, X < 8 → vwCl[X]? = some (fx_cls X, fx_TX X, fx_nth fx_nfs X 0)
  | 0, _ => rfl
  | 1, _ => rfl
  | 2, _ => rfl
  | 3, _ => rfl
  | 4, _ => rfl
  | 5, _ => rfl
  | 6, _ => rfl
  | 7, _ => rfl
  | _ + 8, h => absurd h (by omega)
theorem fx_lay : ∀ X, X < 8 → ∀ w ∈ u_ws (fx_cls X) (fx_TX X) (fx_nth fx_nfs X 0), w ∈ fx_T0
  | 0, _ => fun w h => fx_T0_in (fx_lay0 w h) (by revert w; decide +kernel)
  | 1, _ => fun w h => fx_T0_in (fx_lay1 w h) (by revert w; decide +kernel)
  | 2, _ => fun w h => fx_T0_in (fx_lay2 w h) (by revert w; decide +kernel)
  | 3, _ => fun w h => fx_T0_in (fx_lay3 w h) (by revert w; decide +kernel)
  | 4, _ => fun w h => fx_T0_in (fx_lay4 w h) (by revert w; decide +kernel)
  | 5, _ => fun w h => fx_T0_in (fx_lay5 w h) (by revert w; decide +kernel)
  | 6, _ => fun w h => fx_T0_in (fx_lay6 w h) (by revert w; decide +kernel)
  | 7, _ => fun w h => fx_T0_in (fx_lay7 w h) (by revert w; decide +kernel)
  | _ + 8, h => absurd h (by omega)
theorem fx_ty : ∀ X, X < 8 → ∃ ty : Nat → FieldType, ∀ k, k < fx_nth fx_nfs X 0 → parseFieldDescriptor (fx_TX X k).2.2.1 = some (ty k)
  | 0, _ => ⟨_, tyX0_ok⟩
  | 1, _ => ⟨_, tyX1_ok⟩
  | 2, _ => ⟨_, tyX2_ok⟩
  | 3, _ => ⟨_, tyX3_ok⟩
  | 4, _ => ⟨_, tyX4_ok⟩
  | 5, _ => ⟨_, tyX5_ok⟩
  | 6, _ => ⟨_, tyX6_ok⟩
  | 7, _ => ⟨_, tyX7_ok⟩
  | _ + 8, h => absurd h (by omega)
theorem fx_nm : ∀ X, X < 8 → ∀ a, a < fx_nth fx_nfs X 0 → ∀ b, b < fx_nth fx_nfs X 0 → a ≠ b → (fx_TX X a).2.1 ≠ (fx_TX X b).2.1
  | 0, _ => nmX0
  | 1, _ => nmX1
  | 2, _ => nmX2
  | 3, _ => nmX3
  | 4, _ => nmX4
  | 5, _ => nmX5
  | 6, _ => nmX6
  | 7, _ => nmX7
  | _ + 8, h => absurd h (by omega)
theorem fx_own1 : ∀ X, X < 8 → ∀ k, k < fx_nth fx_nfs X 0 → (fx_TX X k).1 = fx_cls X
  | 0, _ => by decide +kernel
  | 1, _ => by decide +kernel
  | 2, _ => by decide +kernel
  | 3, _ => by decide +kernel
  | 4, _ => by decide +kernel
  | 5, _ => by decide +kernel
  | 6, _ => by decide +kernel
  | 7, _ => by decide +kernel
  | _ + 8, h => absurd h (by omega)
theorem fx_pw_ok : ∀ q ∈ fx_pwl, (fx_TX q.1 q.2.1).2.2.2 = false ∧ parseFieldDescriptor (fx_TX q.1 q.2.1).2.2.1 = some (cond (Nat.beq q.2.2 0) .int .boolean) := by decide +kernel
def fx_tys (cy : Nat → ClassId) : List (ClassId × FieldType) := [(cy 0, .int), (cy 1, .boolean), (cy 2, .object "FactLines$Rule"), (cy 3, .object "FactLines$State"), (cy 4, .array .int), (cy 6, .long)]
def fx_scr (Ls : Nat) (xs : Nat → Int32) (σ : fx_S) : Prop := σ 9 0 (-1) = (Ls : Int) ∧ ∀ j : Nat, j < Ls → σ 9 0 (j : Int) = (xs j).toInt
/-- what a method's frame says -/
def fx_Fr (p : Program) (s : State) (m : MethodId) (args : Array Value) (c : Code) (mi : Nat) : Prop :=
  p.tables.exec = Jvm.exec ∧ c.code = (fx_m mi).2.1 ∧ c.maxLocals = (fx_m mi).2.2.1 ∧ s.vm.findClass (fx_cls (fx_own mi)) = some m.cls ∧ ∀ w ∈ fx_T0, w.before args s = true
/-- the texts, by the class and place of their word -/
def fx_Tx (ad : Nat → Nat → Nat) (s : State) : Prop := ∀ q ∈ fx_swl, vk_R (fx_cls q.1) q.2.1 (fx_txs q.2.2) (ad 62 q.2.2) s
theorem fx_Er5 {ad : Nat → Nat → Nat} {cy : Nat → ClassId} {ρ : Int → Int} {K i : Nat} (h : fx_form K = 5) : fx_Er ad cy ρ K i = .inr ((fx_kt K).2.1, (List.range (fx_fl K).length).map (fx_fv ad ρ K i)) := by
  unfold fx_Er; rw [h]; rfl
theorem fx_Er01 {ad : Nat → Nat → Nat} {cy : Nat → ClassId} {ρ : Int → Int} {K i : Nat} (h : fx_form K < 2) : fx_Er ad cy ρ K i = .inl (cy (fx_form K), (fx_kt K).2.1, .inl (fun j => Int32.ofInt (ρ j))) := by
  unfold fx_Er; rw [fx_bF (a := fx_form K) (b := 5) (by omega), show Nat.blt (fx_form K) 2 = true from Nat.ble_eq_true_of_le h]; rfl
theorem fx_Er6 {ad : Nat → Nat → Nat} {cy : Nat → ClassId} {ρ : Int → Int} {K i : Nat} (h : fx_form K = 6) : fx_Er ad cy ρ K i = .inl (cy 6, (fx_kt K).2.1, .inr (.inl (fun j => Int64.ofInt (ρ j)))) := by
  unfold fx_Er; rw [h]; rfl
theorem fx_bltF {a b : Nat} (h : b ≤ a) : Nat.blt a b = false := by
  cases e : Nat.blt a b with
  | false => rfl
  | true => have := fx_blt e; omega
theorem fx_Er24 {ad : Nat → Nat → Nat} {cy : Nat → ClassId} {ρ : Int → Int} {K i : Nat} (h : 1 < fx_form K) (h5 : fx_form K < 5) : fx_Er ad cy ρ K i = .inl (cy (fx_form K), (fx_kt K).2.1, .inr (.inr (.inr (.inr (fun j => some (fx_rf ad (fx_nth (fx_fl K) 0 (0, 0, 0)) i j)))))) := by
  unfold fx_Er; rw [fx_bF (a := fx_form K) (b := 5) (by omega), fx_bltF (a := fx_form K) (b := 2) (by omega), fx_bF (a := fx_form K) (b := 6) (by omega)]; rfl
theorem fx_i2l {x : Int} (h : fx_rg x) : (Int32.ofInt x).toInt64 = Int64.ofInt x := by
  apply Int64.toInt_inj.mp
  rw [Int32.toInt_toInt64, fx_toI h, Int64.toInt_ofInt_of_le (by have := h.1; omega) (by have := h.2; omega)]
theorem fx_toL {x : Int} (h : fx_rg x) : (Int64.ofInt x).toInt = x := Int64.toInt_ofInt_of_le (by have := h.1; omega) (by have := h.2; omega)
theorem fx_lcmp {x y : Int} (hx : fx_rg x) (hy : fx_rg y) : lg_cmp (Int64.ofInt x) (Int64.ofInt y) = Int32.ofInt (fx_cmp x y) := by
  have h1 : Int64.ofInt x > Int64.ofInt y ↔ y < x := by
    show Int64.ofInt y < Int64.ofInt x ↔ _
    rw [Int64.lt_iff_toInt_lt, fx_toL hx, fx_toL hy]
  have h2 : Int64.ofInt x = Int64.ofInt y ↔ x = y := by rw [← Int64.toInt_inj, fx_toL hx, fx_toL hy]
  unfold lg_cmp fx_cmp
  by_cases a : y < x
  · rw [if_pos (h1.mpr a), if_neg (by omega), if_neg (by omega)]; rfl
  · rw [if_neg fun z => a (h1.mp z)]
    by_cases b : x = y
    · rw [if_pos (h2.mpr b), if_neg (by omega), if_pos b]; rfl
    · rw [if_neg fun z => b (h2.mp z), if_pos (by omega)]; rfl
theorem fx_updI {ρ : Int → Int} {j v : Int} {n : Nat} (h0 : 0 ≤ j) (h : j < n) (hn : n < 2147483648) : upd (fun j : Nat => Int32.ofInt (ρ j)) (Int32.ofInt j).toNatClampNeg (Int32.ofInt v) = fun j' : Nat => Int32.ofInt (if (j' : Int) = j then v else ρ j') := by
  rw [(fx_ix h0 h hn).2]
  funext j'
  unfold upd
  by_cases e : j' = j.toNat
  · rw [if_pos e, if_pos (by omega)]
  · rw [if_neg e, if_neg (by omega)]
theorem fx_updL {ρ : Int → Int} {j v : Int} {n : Nat} (h0 : 0 ≤ j) (h : j < n) (hn : n < 2147483648) : vp_updL (fun j : Nat => Int64.ofInt (ρ j)) (Int32.ofInt j).toNatClampNeg (Int64.ofInt v) = fun j' : Nat => Int64.ofInt (if (j' : Int) = j then v else ρ j') := by
  rw [(fx_ix h0 h hn).2]
  funext j'
  unfold vp_updL
  by_cases e : j' = j.toNat
  · rw [if_pos e, if_pos (by omega)]
  · rw [if_neg e, if_neg (by omega)]
theorem fx_narB {v : Int} (h : v = 0 ∨ v = 1) : vp_nar .boolean (Int32.ofInt v) = Int32.ofInt v ∧ narrow .boolean (.int (Int32.ofInt v)) = .int (Int32.ofInt v) ∧ fits .boolean (.int (Int32.ofInt v)) = true := by
  rcases h with rfl | rfl <;> exact ⟨by decide, by decide, by decide⟩
theorem fx_fv_set {ad : Nat → Nat → Nat} {cy : Nat → ClassId} {σ : fx_S} {K i p : Nat} {v : Int} (hf : fx_form K = 5) (hp : p < (fx_fl K).length) (h0 : (fx_nth (fx_fl K) p (0, 0, 0)).1 = 0) :
    (.inr ((fx_kt K).2.1, ((List.range (fx_fl K).length).map (fx_fv ad (σ K i) K i)).set p (.int (Int32.ofInt v))) : va_E) = fx_Er ad cy (fx_up σ K i p v K i) K i := by
  rw [fx_Er5 hf]
  congr 2
  apply List.ext_getElem?
  intro n
  by_cases hn : n = p
  · subst hn
    rw [List.getElem?_set_self (by simpa using hp), List.getElem?_map, List.getElem?_range hp]
    simp only [Option.map_some]
    unfold fx_fv
    rw [h0, fx_up_same, if_pos rfl]
    rfl
  · rw [List.getElem?_set_ne (Ne.symm hn), List.getElem?_map, List.getElem?_map]
    cases hq : (List.range (fx_fl K).length)[n]? with
    | none => rfl
    | some n' =>
      have e : n' = n := by
        have := List.getElem?_eq_some_iff.mp hq
        simpa using this.2.symm
      subst e
      simp only [Option.map_some]
      unfold fx_fv
      rw [fx_up_same, if_neg (by omega)]
theorem fx_swt_ok (x : Int) {pc : Nat} : ∀ {sw : List (Int × Nat)} {lo : Int} {offs : List Int}, fx_swt pc sw lo offs = true → (((x < lo) ∨ lo + (offs.length : Int) ≤ x) ∧ ∀ d, fx_sel x sw d = d) ∨ (∃ off, (lo ≤ x ∧ x < lo + (offs.length : Int)) ∧ offs[(x - lo).toNat]? = some off ∧ ∀ d, (pc : Int) + off = (fx_sel x sw d : Nat))
  | [], lo, [], _ => Or.inl ⟨by simp only [List.length_nil]; omega, fun _ => rfl⟩
  | [], _, _ :: _, h => by cases h
  | _ :: _, _, [], h => by cases h
  | q :: l, lo, o :: r, h => by
    simp only [fx_swt, Bool.and_eq_true, decide_eq_true_eq] at h
    obtain ⟨⟨h1, h2⟩, h3⟩ := h
    by_cases e : x = lo
    · refine Or.inr ⟨o, ⟨by omega, by simp only [List.length_cons]; omega⟩, by rw [show (x - lo).toNat = 0 by omega]; rfl, fun d => ?_⟩
      unfold fx_sel
      rw [if_pos (by omega)]
      exact h2
    · have es : ∀ d, fx_sel x (q :: l) d = fx_sel x l d := fun d => by
        rw [show fx_sel x (q :: l) d = if x = q.1 then q.2 else fx_sel x l d from rfl, if_neg (by omega)]
      rcases fx_swt_ok x h3 with ⟨a1, a2⟩ | ⟨off, a1, a2, a3⟩
      · refine Or.inl ⟨by simp only [List.length_cons]; omega, fun d => by rw [es, a2]⟩
      · refine Or.inr ⟨off, ⟨by omega, by simp only [List.length_cons]; omega⟩, ?_, fun d => by rw [es]; exact a3 d⟩
        rw [show (x - lo).toNat = (x - (lo + 1)).toNat + 1 by omega]
        exact a2
theorem fx_swl_ok (x : Int) {pc t : Nat} {d : Int} (hd : (pc : Int) + d = (t : Int)) : ∀ {sw : List (Int × Nat)} {ps : List (Int × Int)}, fx_swl2 pc sw ps = true → (pc : Int) + Op.lookupswitch.offset ps d x = (fx_sel x sw t : Nat)
  | [], [], _ => by simpa [Op.lookupswitch.offset, fx_sel] using hd
  | [], _ :: _, h => by cases h
  | _ :: _, [], h => by cases h
  | q :: l, o :: r, h => by
    simp only [fx_swl2, Bool.and_eq_true, decide_eq_true_eq] at h
    obtain ⟨⟨h1, h2⟩, h3⟩ := h
    have ih := fx_swl_ok x hd h3
    obtain ⟨o1, o2⟩ := o
    rw [Op.lookupswitch.offset_cons]
    unfold fx_sel
    by_cases e : x = q.1
    · rw [if_pos e, if_pos (by simp only at h1; omega)]
      exact h2
    · rw [if_neg e, if_neg (by simp only at h1; omega)]
      exact ih
