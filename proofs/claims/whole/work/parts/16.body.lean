def fx_pcs : fx_C → List Nat
  | [] => []
  | q :: l => match q.2.2.1 with
    | .invokevirtual _ => q.1 :: fx_pcs l
    | .invokestatic _ => q.1 :: fx_pcs l
    | _ => fx_pcs l
def fx_ast (cc : ByteArray) (h i len : Nat) : Bool := match decode cc h with
  | .ok (.astore_n k, n) => Nat.beq k.val i && Nat.beq n 1 && Nat.beq len 1
  | .ok (.astore k, n) => Nat.beq k i && Nat.beq n 2 && Nat.beq len 2
  | _ => false
def fx_cov (r : Nat × Nat × Nat × Nat) (pc : Nat) : Bool := covers ⟨r.1, r.2.1, r.2.2.1, r.2.2.2⟩ pc
def fx_hk1 (cc : ByteArray) (mL : Nat) (pcs : List Nat) : List (Int × Nat × Nat × Nat) → List (Nat × Nat × Nat × Nat) → Bool
  | [], [] => true
  | q :: l, r :: t => decide (0 ≤ q.1) && decide (q.1 < 4) && decide ((r.2.2.2, q.1.toNat) ∈ fx_kll) && Nat.beq r.2.2.1 q.2.1 && !Nat.beq r.2.2.2 0 && pcs.all (fx_cov r) && fx_ast cc q.2.1 q.2.2.1 q.2.2.2 && Nat.blt q.2.2.1 mL && fx_hk1 cc mL pcs l t
  | _, _ => false
noncomputable def fx_hk (i : Nat) : Bool := fx_hk1 (fx_m (i + 261)).2.1 (fx_m (i + 261)).2.2.1 (fx_pcs (fx_code (i + 261))) (fx_nth fx_hds i []) (fx_nth fx_hhs i [])
set_option maxRecDepth 100000 in
theorem fx_hk_ok : (List.range 32).all fx_hk = true := by decide +kernel
theorem fx_catchP {cc : ByteArray} {mL : Nat} {pcs : List Nat} {ev : Int} {hp i : Nat} : ∀ {hs : List (Int × Nat × Nat × Nat)} {hh : List (Nat × Nat × Nat × Nat)}, fx_hk1 cc mL pcs hs hh = true → fx_hf ev hs = some (hp, i) →
    ∃ (pre : List ExceptionTableEntry) (x : ExceptionTableEntry) (suf : List ExceptionTableEntry) (len : Nat), tableOf hh = pre ++ x :: suf ∧ (∀ z ∈ pre, z.catchType ≠ 0 ∧ ∃ e' : Nat, e' < 4 ∧ (z.catchType, e') ∈ fx_kll ∧ (e' : Int) ≠ ev) ∧ (∀ pc ∈ pcs, covers x pc = true) ∧ x.catchType ≠ 0 ∧ (x.catchType, ev.toNat) ∈ fx_kll ∧ 0 ≤ ev ∧ ev < 4 ∧ fx_ast cc x.handlerPc i len = true ∧ hp = x.handlerPc + len ∧ i < mL
  | [], [], _, h => by cases h
  | [], _ :: _, h, _ => by cases h
  | _ :: _, [], h, _ => by cases h
  | q :: l, r :: t, h, h2 => by
    simp only [fx_hk1, Bool.and_eq_true, decide_eq_true_eq, List.all_eq_true, Bool.not_eq_true'] at h
    obtain ⟨⟨⟨⟨⟨⟨⟨⟨c1, c2⟩, c3⟩, c4⟩, c5⟩, c6⟩, c7⟩, c8⟩, c9⟩ := h
    have c4 := fx_beq c4
    have c5' : r.2.2.2 ≠ 0 := fun z => by rw [z] at c5; cases c5
    unfold fx_hf at h2
    by_cases e : q.1 = ev
    · rw [if_pos e] at h2
      cases h2
      subst e
      exact ⟨[], ⟨r.1, r.2.1, r.2.2.1, r.2.2.2⟩, tableOf t, q.2.2.2, rfl, (fun _ h => nomatch h), c6, c5', c3, c1, c2, (by show fx_ast cc r.2.2.1 q.2.2.1 q.2.2.2 = true; rw [c4]; exact c7), (by show _ = r.2.2.1 + q.2.2.2; rw [c4]), fx_blt c8⟩
    · rw [if_neg e] at h2
      obtain ⟨pre, x, suf, len, g1, g2, g3⟩ := fx_catchP c9 h2
      refine ⟨⟨r.1, r.2.1, r.2.2.1, r.2.2.2⟩ :: pre, x, suf, len, ?_, fun z hz => ?_, g3⟩
      · show (⟨r.1, r.2.1, r.2.2.1, r.2.2.2⟩ : ExceptionTableEntry) :: tableOf t = _
        rw [g1]; rfl
      · rcases List.mem_cons.mp hz with rfl | hz
        · exact ⟨c5', q.1.toNat, by omega, c3, by omega⟩
        · exact g2 z hz
theorem fx_exn_len : fx_exn.length = 4 := rfl
theorem fx_exn_ne {a b : Nat} (ha : a < 4) (hb : b < 4) (h : a ≠ b) : fx_nth fx_exn a "" ≠ fx_nth fx_exn b "" := by
  have : ∀ a, a < 4 → ∀ b, b < 4 → a ≠ b → fx_nth fx_exn a "" ≠ fx_nth fx_exn b "" := by decide +kernel
  exact this a ha b hb h
/-- what a run's start and its ends ask -/
def fx_rok (M : fx_M) (ri : Instr) (v : fx_V) : Prop := (ri = .ireturn ∧ v.1 = 0 ∧ ∃ t, fx_ckR M t = true ∧ (t = 0 ∨ v.2 = 0 ∨ v.2 = 1)) ∨ (ri = .return_ ∧ v = (4, 0) ∧ fx_ckV M = true) ∨ (ri = .areturn ∧ 9 < v.1 ∧ fx_ckA M = true)
theorem fx_la_un {ad : Nat → Nat → Nat} {ls : Array Slot} {nL : Nat} {L : List fx_V} {i : Nat} {w : Value} (hL : fx_oL L) (h : lv_has ls nL ((i, w) :: (fx_la ad 0 L).filter (fun q => !(q.1 == i) && !(q.1 + 1 == i && q.2.category == 2)))) : lv_has ls nL (fx_la ad 0 (L.set i (3, 0))) := by
  refine ⟨h.1, h.2.1, fun q hq => ?_⟩
  obtain ⟨j, v, h1, h2, h3⟩ := (fx_la_mem ad _ 0 q).mp hq
  simp only [Nat.zero_add] at h3
  subst h3
  by_cases e : j = i
  · subst e
    have hl : j < L.length := by
      have := (List.getElem?_eq_some_iff.mp h1).1
      simpa using this
    rw [List.getElem?_set_self hl] at h1
    cases h1
    exact absurd rfl h2
  · rw [List.getElem?_set_ne (Ne.symm e)] at h1
    refine h.2.2 _ (List.mem_cons_of_mem _ (List.mem_filter.mpr ⟨(fx_la_mem ad L 0 _).mpr ⟨j, v, h1, h2, by simp⟩, ?_⟩))
    have h4 : v.1 ≠ 1 := by
      rcases hL v (List.mem_of_getElem? h1) with h5 | h5
      · exact h5.1
      · omega
    simp [e, fx_cat ad h4]
noncomputable def fx_dk (mj : Nat) : Bool := (Nat.blt mj 2 || plainName (fx_m mj).1.cls) && decide ((fx_m mj).1.cls ≠ "java/lang/invoke/MethodHandle") && decide ((fx_m mj).1.cls ≠ "java/lang/invoke/VarHandle") && decide ((parseMethodDescriptor (fx_m mj).1.desc).map (fun d => d.parameters.length) = some ((fx_m mj).2.2.2.2.2.1 - cond (Nat.beq (fx_m mj).2.2.2.2.1 0) 0 1)) && Nat.ble (fx_m mj).2.2.1 21 && Nat.ble (fx_m mj).2.2.2.2.2.1 (fx_m mj).2.2.1 && Nat.beq (fx_lev mj) (fx_m mj).2.2.2.2.2.2
set_option maxRecDepth 100000 in
theorem fx_dk_ok : (List.range 294).all fx_dk = true := by decide +kernel
noncomputable def fx_rk5 (mj : Nat) : Bool := Nat.beq (fx_m mj).2.2.2.2.1 0 || (Nat.beq (fx_form (fx_m mj).2.2.2.2.1) 5 && Nat.blt (fx_kt (fx_m mj).2.2.2.2.1).2.1 8 && decide (fx_cls (fx_kt (fx_m mj).2.2.2.2.1).2.1 = (fx_m mj).1.cls) && Nat.blt (fx_m mj).2.2.2.2.1 62)
set_option maxRecDepth 100000 in
theorem fx_rk5_ok : (List.range 261).all fx_rk5 = true := by decide +kernel
def fx_Body (l : Launch) (n : Nat) : Prop := ∀ (p : Program) (e : Env) (R : Room) (s : State) (m : MethodId) (args : Array Value) (below : List Frame) (meth : Method) (c : Code) (Q : State → Prop) (mi : Nat) (ad : Nat → Nat → Nat) (cy : Nat → ClassId) (D : va_G) (Ls : Nat) (xs : Nat → Int32) (A : Nat → Prop) (pc : Nat) (L st : List fx_V) (σ : fx_S) (v : fx_V) (σ' : fx_S) (k : Nat) (H : Heap) (locs : List Loc) (ls : Array Slot) (cells slots : Nat),
  fx_Fr p s m args c mi → mi < 294 → (261 ≤ mi → mi < 293 → c.exceptionTable.toList = tableOf (fx_nth fx_hhs (mi - 261) [])) → fx_ap ad → (∀ r ∈ fx_all, A (ad r.1 r.2)) → (∀ q, s.heap.size ≤ q → A q) → fx_Zf ad cy D Ls xs A s s.heap → fx_lev mi + 3 ≤ R.frames → 40 * fx_lev mi ≤ R.locals →
  fx_run n mi (pc, L, st, σ) = some (v, σ', k) → fx_oL L → fx_oS st → fx_rgS σ → fx_scr Ls xs σ → lv_has ls (fx_m mi).2.2.1 (fx_la ad 0 L) → va_P D vwCl (fx_W ad cy σ) H → va_S A s.heap H locs → cells + k ≤ R.cells → slots + 6 * k ≤ R.slots →
  (∀ (pc1 : Nat) (ls1 : Array Slot) (H1 : Heap) (locs1 : List Loc) (ri : Instr) (c2 s2 : Nat), c2 = cells + k → s2 = slots + 6 * k → decode (fx_m mi).2.1 pc1 = .ok (ri, 1) → fx_rok (fx_m mi) ri v → va_P D vwCl (fx_W ad cy σ') H1 → va_S A s.heap H1 locs1 → W p l e R s m args below meth c H1 locs1 c2 s2 Q (F0 m pc1 ls1 (fx_rv ad v).toList)) →
  (v.1 = 5 → 0 ≤ v.2 → v.2 < 4 → fx_hd mi v.2 = none → ∀ (pc1 : Nat) (ls1 : Array Slot) (H1 : Heap) (locs1 : List Loc) (rest : List Value) (ce : Cell) (q9 : Addr) (c2 s2 : Nat), c2 = cells + k → s2 = slots + 6 * k → va_P D vwCl (fx_W ad cy σ') H1 → va_S A s.heap H1 locs1 → H1[q9]? = some ce → ce.vm = .none → s.vm.findClass (fx_en v) = some ce.cls → vx_W p l e R s m args below meth c H1 locs1 c2 s2 Q (F0 m pc1 ls1 rest) q9) →
  (v.1 = 5 → ∀ (pc1 : Nat) (ls1 : Array Slot) (H1 : Heap) (locs1 : List Loc) (ik : Nat) (q : fx_Q) (c2 s2 : Nat), c2 + 1 = cells + k → s2 + 6 = slots + 6 * k → decode (fx_m mi).2.1 pc1 = .ok (.new ik, 3) → fx_ckI mi pc1 q [] (.new ik) = true → fx_dcN (fx_m mi).2.1 pc1 q (.new ik) = true → v = (5, q.2.2.2.1) → ls1.size = (fx_m mi).2.2.1 → va_P D vwCl (fx_W ad cy σ') H1 → va_S A s.heap H1 locs1 → W p l e R s m args below meth c H1 locs1 c2 s2 Q (F0 m pc1 ls1 [])) →
  W p l e R s m args below meth c H locs cells slots Q (F0 m pc ls (st.map (fx_cv ad)))
theorem fx_scr_of {Ls : Nat} {xs : Nat → Int32} {σ σ' : fx_S} (h : fx_scr Ls xs σ) (e : σ' 9 = σ 9) : fx_scr Ls xs σ' := by
  unfold fx_scr
  rw [e]
  exact h
theorem fx_cats (ad : Nat → Nat → Nat) : ∀ (l : List fx_V), (∀ v ∈ l, v.1 ≠ 1) → ((l.map (fx_cv ad)).map fun v => v.category).sum = l.length
  | [], _ => rfl
  | a :: l, h => by
    simp only [List.map_cons, List.sum_cons, List.length_cons]
    rw [fx_cats ad l (fun v hv => h v (List.mem_cons_of_mem _ hv)), fx_cat ad (h a List.mem_cons_self)]
    omega
theorem fx_pcs_in : ∀ {c : fx_C} {q : fx_I}, q ∈ c → ((∃ k, q.2.2.1 = .invokevirtual k) ∨ ∃ k, q.2.2.1 = .invokestatic k) → q.1 ∈ fx_pcs c
  | [], _, h, _ => nomatch h
  | a :: c, q, h, hi => by
    have sub : fx_pcs c ⊆ fx_pcs (a :: c) := by
      intro x hx
      unfold fx_pcs
      split
      · exact List.mem_cons_of_mem _ hx
      · exact List.mem_cons_of_mem _ hx
      · exact hx
    rcases List.mem_cons.mp h with rfl | h
    · unfold fx_pcs
      rcases hi with ⟨k, e⟩ | ⟨k, e⟩ <;> (rw [e]; exact List.mem_cons_self)
    · exact sub (fx_pcs_in h hi)
