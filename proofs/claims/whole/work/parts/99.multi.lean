/-! ===== an array of arrays: eight rows of 121 numbers ===== -/
def km_f (h i : Nat) : Nat → Value := fun j => if j < i then .ref (h + 1 + j) else .null
/-- the outer row, then a row at a time, each written where it belongs -/
def km_st (T : State) (cA cC : ClassId) : Nat → State
  | 0 => T.pushCell (arrV cA 8 (km_f T.heap.size 0))
  | i + 1 => ((km_st T cA cC i).pushCell (arrV cC 121 (fun _ => .int 0))).setCell T.heap.size (arrV cA 8 (km_f T.heap.size (i + 1)))
theorem km_up (h i : Nat) : updV (km_f h i) i (.ref (h + 1 + i)) = km_f h (i + 1) := by
  funext j
  unfold updV km_f
  by_cases e : j = i
  · subst e
    rw [if_pos rfl, if_pos (by omega)]
  · rw [if_neg e]
    by_cases z : j < i
    · rw [if_pos z, if_pos (by omega)]
    · rw [if_neg z, if_neg (by omega)]
theorem km_facts (T : State) (cA cC : ClassId) : ∀ i, (km_st T cA cC i).heap.size = T.heap.size + 1 + i ∧ (km_st T cA cC i).heap[T.heap.size]? = some (arrV cA 8 (km_f T.heap.size i)) ∧ (∀ j, j < i → (km_st T cA cC i).heap[T.heap.size + 1 + j]? = some (arrV cC 121 (fun _ => .int 0))) ∧ (∀ q, q < T.heap.size → (km_st T cA cC i).heap[q]? = T.heap[q]?) ∧ (km_st T cA cC i).vm = T.vm ∧ (km_st T cA cC i).slotsUsed = T.slotsUsed + 8 + i * 121
  | 0 => ⟨by simp [km_st], State.heap_pushCell_size _ _, fun j h => absurd h (Nat.not_lt_zero j), fun q h => State.heap_pushCell_of_lt _ _ h, rfl, by simp [km_st, arrV_size]⟩
  | i + 1 => by
    obtain ⟨a, b, c, d, v, u⟩ := km_facts T cA cC i
    have hlt : T.heap.size < (km_st T cA cC i).heap.size := by omega
    have hb : ((km_st T cA cC i).pushCell (arrV cC 121 (fun _ => .int 0))).heap[T.heap.size]? = some (arrV cA 8 (km_f T.heap.size i)) := by rw [State.heap_pushCell_of_lt (h := hlt)]; exact b
    refine ⟨?_, State.heap_setCell_self hb, fun j hj => ?_, fun q hq => ?_, by show (km_st T cA cC i).vm = T.vm; exact v, ?_⟩
    · simp [km_st, State.setCell, a]; omega
    · show (((km_st T cA cC i).pushCell _).setCell T.heap.size _).heap[T.heap.size + 1 + j]? = _
      rw [State.heap_setCell_other (show T.heap.size ≠ T.heap.size + 1 + j by omega)]
      by_cases z : j < i
      · have h9 : T.heap.size + 1 + j < (km_st T cA cC i).heap.size := by omega
        rw [State.heap_pushCell_of_lt (h := h9)]; exact c j z
      · have e : T.heap.size + 1 + j = (km_st T cA cC i).heap.size := by omega
        rw [e]; exact State.heap_pushCell_size _ _
    · show (((km_st T cA cC i).pushCell _).setCell T.heap.size _).heap[q]? = _
      have h9 : q < (km_st T cA cC i).heap.size := by omega
      rw [State.heap_setCell_other (Nat.ne_of_gt hq), State.heap_pushCell_of_lt (h := h9)]
      exact d q hq
    · simp [km_st, u, arrV_size, Nat.succ_mul]; omega
theorem km_next (T : State) (cA cC : ClassId) (i : Nat) : ((km_st T cA cC i).pushCell (arrV cC 121 (fun _ => .int 0))).setCell T.heap.size ((arrV cA 8 (km_f T.heap.size i)).setSlot i (.ref (km_st T cA cC i).heap.size)) = km_st T cA cC (i + 1) := by
  rw [(km_facts T cA cC i).1, arrV_store, km_up]; rfl
theorem km_top (s : State) (f : JFrame) (cA cC : ClassId) : ∀ i, km_st (s.setTop f) cA cC i = (km_st s cA cC i).setTop f
  | 0 => rfl
  | i + 1 => by simp only [km_st, km_top s f cA cC i, State.heap_setTop, State.pushCell_setTop, State.setCell_setTop]
section KMW
variable {E : CtlPost} {e : Env} {d : Bool} {acts : List Action} {s : State}
theorem km_new {c comp : ClassId} {k : Class} {type : FieldType} {len : Nat} {init : Value} (hk : s.vm.classes[c]? = some k) (hkind : k.kind = .array comp type) (hl : len ≤ e.platform.arrayLengthLimit) (hb : len * componentBytes type ≤ e.platform.maxHeapBytes) (hfit : fits type init = true) {Q : Addr → Pre} (h1 : s.heap.size < e.platform.maxCells) (h2 : s.slotsUsed + len ≤ e.platform.maxSlots)
    (hq : ∀ acts', Q s.heap.size d acts' (s.pushCell (arrV c len (fun _ => init)))) : wp (Jvm.newArray c len init) Q E e d acts s := by
  have hfits : ∀ (i : Nat) (v : Value), (Array.replicate len init)[i]? = some v → s.fitsSlot c .none i v = true := by
    intro i v hv
    rw [Array.getElem?_replicate] at hv
    by_cases hi : i < len
    · rw [if_pos hi] at hv
      cases hv
      simp [State.fitsSlot, State.slotType?, hk, hkind, hfit]
    · rw [if_neg hi] at hv; cases hv
  have n1 : ¬ len > e.platform.arrayLengthLimit := Nat.not_lt.mpr hl
  have n2 : ¬ len * componentBytes type > e.platform.maxHeapBytes := Nat.not_lt.mpr hb
  simp only [Jvm.newArray, Jvm.arrayFits, wp_bind', W.ask, W.ite, n1, if_false, wp_pure', W.theClass, hk, hkind, n2, W.alloc, W.stop, Option.some.injEq, exists_eq_left', Array.size_replicate]
  rw [if_neg (by omega)]
  refine ⟨h1, h2, hfits, ?_⟩
  rw [arrV_new]
  exact hq _
theorem km_make {cA cC cc : ClassId} {kA kC : Class} (hkA : s.vm.classes[cA]? = some kA) (hkindA : kA.kind = .array cC (.array .int)) (hkC : s.vm.classes[cC]? = some kC) (hkindC : kC.kind = .array cc .int) (hlim : 1000 ≤ e.platform.arrayLengthLimit) (hmax : 1000 ≤ e.platform.maxHeapBytes) {Q : Addr → Pre} (h1 : s.heap.size + 9 ≤ e.platform.maxCells) (h2 : s.slotsUsed + 976 ≤ e.platform.maxSlots)
    (hq : ∀ d' acts', Q s.heap.size d' acts' (km_st s cA cC 8)) : wp (Op.multianewarray.make cA [8, 121]) Q E e d acts s := by
  have n8 : ¬ (8 : Int32) < 0 := by decide
  have n121 : ¬ (121 : Int32) < 0 := by decide
  have t8 : (8 : Int32).toNatClampNeg = 8 := by decide
  have t121 : (121 : Int32).toNatClampNeg = 121 := by decide
  have fnd : (([(121 : Int32)] : List Int32).find? (· < 0)) = none := by decide
  rw [Op.multianewarray.make]
  simp only [wp_bind', W.ite, n8, if_false, wp_pure', W.theClass, hkA, hkindA, Option.some.injEq, exists_eq_left', t8]
  refine km_new hkA hkindA (by omega) (by show 8 * 4 ≤ _; omega) rfl (by omega) (by omega) (fun acts' => ?_)
  simp only [fnd]
  rw [ite_self, wp_bind', Std.Legacy.Range.forIn_eq_forIn_range']
  have hsz : ([:8] : Std.Legacy.Range).size = 8 := by simp [Std.Legacy.Range.size]
  rw [hsz]
  show wp (forIn (List.range' 0 8 1) PUnit.unit _) _ E e d acts' _
  have e0 : s.pushCell (arrV cA 8 (fun _ => .null)) = km_st s cA cC 0 := by
    show _ = s.pushCell (arrV cA 8 (km_f s.heap.size 0))
    congr 2
  rw [e0]
  refine wp_forIn_inv (fun rest s' => ∃ i, i ≤ 8 ∧ rest = List.range' i (8 - i) ∧ s' = km_st s cA cC i) _ _ ⟨0, by omega, rfl, rfl⟩ ?_ ?_
  · rintro x rest s' d' acts2 Q' ⟨i, hi, hl, rfl⟩ hnext
    have hlt : i < 8 := by
      refine Nat.lt_of_not_le fun z => ?_
      rw [show 8 - i = 0 by omega] at hl
      cases hl
    rw [show 8 - i = (8 - (i + 1)) + 1 by omega, List.range'_succ] at hl
    cases hl
    obtain ⟨f1, f2, f3, f4, f5, f6⟩ := km_facts s cA cC x
    simp only [wp_bind']
    rw [Op.multianewarray.make]
    simp only [wp_bind', W.ite, n121, if_false, wp_pure', W.theClass, t121]
    refine ⟨kC, by rw [f5]; exact hkC, ?_⟩
    simp only [hkindC]
    refine km_new (by rw [f5]; exact hkC) hkindC (by omega) (by show 121 * 4 ≤ _; omega) rfl (by omega) (by omega) (fun acts3 => ?_)
    have hlt0 : s.heap.size < (km_st s cA cC x).heap.size := by omega
    simp only [wp_bind', W.writeLoc, wp_pure']
    refine ⟨arrV cA 8 (km_f s.heap.size x), by rw [State.heap_pushCell_of_lt (h := hlt0)]; exact f2, fun h => (by cases h), by rw [arrV_size]; exact hlt, ?_, ?_⟩
    · show State.fitsSlot _ cA .none x _ = true
      simp [State.fitsSlot, State.slotType?, f5, hkA, hkindA, fits]
    · refine hnext _ _ _ ⟨x + 1, by omega, rfl, ?_⟩
      exact km_next s cA cC x
  · rintro s' d' acts2 ⟨i, hi, hl, rfl⟩
    have e8 : i = 8 := by
      refine Nat.le_antisymm hi (Nat.le_of_not_lt fun z => ?_)
      rw [show 8 - i = (8 - (i + 1)) + 1 by omega, List.range'_succ] at hl
      cases hl
    subst e8
    simp only [wp_pure']
    exact hq _ _
end KMW
section KM
variable {p : Program} {l : Launch} {e : Env} {R : Room} {s : State} {m : MethodId} {args : Array Value} {below : List Frame} {meth : Method} {c : Code} {H : Heap} {locs : List Loc} {cells slots : Nat} {Q : State → Prop}
variable {cc : ByteArray} {pc : Nat} {ls : Array Slot} {rest : List Value} {D : va_G} {cy : Nat → ClassId} {B o : Nat} {H0 : Heap} {cs : List ke_C}
theorem km_stand {T : State} (X : Stand p l e R s m args below meth c T locs cells slots) (cA cC : ClassId) : ∀ i, Stand p l e R s m args below meth c (km_st T cA cC i) (locs ++ (List.range i).map fun j => ⟨T.heap.size, j⟩) (cells + 1 + i) (slots + 8 + i * 121)
  | 0 => by
    have h := X.pushed (arrV cA 8 (km_f T.heap.size 0))
    rw [arrV_size] at h
    simpa [km_st] using h
  | i + 1 => by
    have Xi := km_stand X cA cC i
    obtain ⟨f1, f2, -⟩ := km_facts T cA cC i
    have hlt0 : T.heap.size < (km_st T cA cC i).heap.size := by omega
    have hcell : ((km_st T cA cC i).pushCell (arrV cC 121 (fun _ => .int 0))).heap[T.heap.size]? = some (arrV cA 8 (km_f T.heap.size i)) := by rw [State.heap_pushCell_of_lt (h := hlt0)]; exact f2
    have h := (Xi.pushed (arrV cC 121 (fun _ => .int 0))).stored hcell i (.ref (km_st T cA cC i).heap.size)
    rw [km_next, arrV_size] at h
    have e2 : (locs ++ (List.range (i + 1)).map fun j => (⟨T.heap.size, j⟩ : Loc)) = (locs ++ (List.range i).map fun j => (⟨T.heap.size, j⟩ : Loc)) ++ [⟨T.heap.size, i⟩] := by simp [List.range_succ, List.append_assoc]
    have e3 : slots + 8 + (i + 1) * 121 = slots + 8 + i * 121 + 121 := by rw [Nat.succ_mul]; omega
    rw [e2, e3]
    exact h
set_option maxRecDepth 100000 in
theorem ke_multi {X0 index n : Nat} {i j : Int32} (hx : p.tables.exec = Jvm.exec) (hb : c.code = cc) (hown : s.vm.findClass (fx_cls X0) = some m.cls) (hclink : (Cond.classLink (fx_cls X0) index "[[I").before args s = true) (hK : ke_K D cy s) (h : ke_W D cy B H0 o cs H locs) (hi : i = 8) (hj : j = 121) (hn : cs.length = n) (hcells : cells + 9 ≤ R.cells) (hslots : slots + 976 ≤ R.slots) (hdg : decode cc pc = .ok (.multianewarray index 2, 4))
    (kk : ∀ (H1 : Heap) (locs1 : List Loc), ke_W D cy B H0 o (cs ++ ((2, 4, 8, (List.range 8).map (fun q => (1, o + n + 1 + q, 0))) :: List.replicate 8 (0, 0, 121, []))) H1 locs1 → W p l e R s m args below meth c H1 locs1 (cells + 9) (slots + 976) Q (F0 m (pc + 4) ls (.ref (B + (o + n)) :: rest))) : W p l e R s m args below meth c H locs cells slots Q (F0 m pc ls (.int j :: .int i :: rest)) := by
  intro T hT X
  subst hi
  subst hj
  subst hn
  subst hb
  subst hT
  have hpl : e.platform.magicAccessors = ({} : Platform).magicAccessors := by rw [X.admits.platform]
  obtain ⟨hK1, -, -, kA, hkA, hkindA⟩ := hK
  have hcA : s.vm.findClass ("[" ++ (FieldType.array .int).toString) = some (cy 4) := (hK1.2 4 _ rfl).2
  have eS : "[" ++ (FieldType.array .int).toString = "[[I" := by decide +kernel
  rw [eS] at hcA
  obtain ⟨-, kC, hkC, cc, hkindC⟩ := (hK1.2 0 _ rfl).1 0 (fun _ => .null)
  obtain ⟨c0, hfc0, hcl⟩ := Cond.classLink_spec hown hclink e.platform hpl
  cases hcA.symm.trans hfc0
  obtain ⟨hg₁, hwarm₁, hready₁⟩ := State.classEntry (e := e) X.warmed hcl
  generalize T.vm.noted m.cls index (.cls (cy 4)) = vm₁ at hg₁ hwarm₁ hready₁
  have hal : s.vm.Alike vm₁ := hwarm₁.alike
  obtain ⟨kA₁, hkA₁, heA⟩ := hal.2.2 _ _ hkA
  obtain ⟨kC₁, hkC₁, heC⟩ := hal.2.2 _ _ hkC
  have hkindA₁ : kA₁.kind = .array (cy 0) (.array .int) := by rw [heA]; exact hkindA
  have hkindC₁ : kC₁.kind = .array cc .int := by rw [heC]; exact hkindC
  have X₁ := X.noted hwarm₁
  obtain ⟨hr1, hr2⟩ := X.roomAbove hcells hslots
  have XF := km_stand X₁ (cy 4) (cy 0) 8
  obtain ⟨f1, f2, f3, f4, f5, f6⟩ := km_facts (T.setVm vm₁) (cy 4) (cy 0) 8
  have hh : (T.setVm vm₁).heap = T.heap := rfl
  rw [hh] at f1 f2 f3 f4 XF
  generalize hKs : km_st (T.setVm vm₁) (cy 4) (cy 0) 8 = KS at f1 f2 f3 f4 f5 f6 XF
  obtain ⟨hS, hz, hc⟩ := h
  have hW1 : ke_W D cy B H0 o (cs ++ ((2, 4, 8, (List.range 8).map (fun q => (1, o + cs.length + 1 + q, 0))) :: List.replicate 8 (0, 0, 121, []))) KS.heap (locs ++ (List.range 8).map fun j => ⟨T.heap.size, j⟩) := by
    refine ⟨⟨by have := hS.1; omega, fun q h1 h2 => (f4 q (Nat.lt_of_lt_of_le h1 hS.1)).trans (hS.2.1 q h1 h2), fun q hq => ?_⟩, ?_, fun j k hj => ?_⟩
    · rcases List.mem_append.mp hq with h9 | h9
      · exact hS.2.2 q h9
      · obtain ⟨j, -, rfl⟩ := List.mem_map.mp h9
        show B + o ≤ T.heap.size
        omega
    · rw [f1, List.length_append, List.length_cons, List.length_replicate]; omega
    · by_cases hl : j < cs.length
      · rw [List.getElem?_append_left hl] at hj
        have h9 := hc j k hj
        exact h9.kept (f4 _ h9.lt)
      · rw [List.getElem?_append_right (by omega)] at hj
        obtain ⟨d, hd⟩ : ∃ d, j = cs.length + d := ⟨j - cs.length, by omega⟩
        subst hd
        rw [Nat.add_sub_cancel_left] at hj
        cases d with
        | zero =>
          cases hj
          rw [show B + (o + (cs.length + 0)) = T.heap.size by omega]
          show KS.heap[T.heap.size]? = some (vp_cell (cy 4) (8, .inr (.inr (.inr (.inr (fun j => ke_r B (fx_nth ((List.range 8).map (fun q => (1, o + cs.length + 1 + q, (0 : Int)))) j (2, 0, 0))))))))
          rw [f2, vp_cell_q]
          congr 2
          funext q
          have hq8 : q < 8 ∨ 8 ≤ q := by omega
          unfold km_f
          rcases hq8 with h8 | h8
          · rw [if_pos h8]
            have : q = 0 ∨ q = 1 ∨ q = 2 ∨ q = 3 ∨ q = 4 ∨ q = 5 ∨ q = 6 ∨ q = 7 := by omega
            rcases this with rfl | rfl | rfl | rfl | rfl | rfl | rfl | rfl
            · exact congrArg Value.ref (show T.heap.size + 1 + 0 = B + (o + cs.length + 1 + 0) by omega)
            · exact congrArg Value.ref (show T.heap.size + 1 + 1 = B + (o + cs.length + 1 + 1) by omega)
            · exact congrArg Value.ref (show T.heap.size + 1 + 2 = B + (o + cs.length + 1 + 2) by omega)
            · exact congrArg Value.ref (show T.heap.size + 1 + 3 = B + (o + cs.length + 1 + 3) by omega)
            · exact congrArg Value.ref (show T.heap.size + 1 + 4 = B + (o + cs.length + 1 + 4) by omega)
            · exact congrArg Value.ref (show T.heap.size + 1 + 5 = B + (o + cs.length + 1 + 5) by omega)
            · exact congrArg Value.ref (show T.heap.size + 1 + 6 = B + (o + cs.length + 1 + 6) by omega)
            · exact congrArg Value.ref (show T.heap.size + 1 + 7 = B + (o + cs.length + 1 + 7) by omega)
          · rw [if_neg (by omega)]
            obtain ⟨r, rfl⟩ : ∃ r, q = r + 8 := ⟨q - 8, by omega⟩
            rfl
        | succ d =>
          rw [List.getElem?_cons_succ, List.getElem?_replicate] at hj
          by_cases h8 : d < 8
          · rw [if_pos h8] at hj
            cases hj
            rw [show B + (o + (cs.length + (d + 1))) = T.heap.size + 1 + d by omega]
            show KS.heap[T.heap.size + 1 + d]? = some (vp_cell (cy 0) (121, .inl (fun _ => 0)))
            rw [f3 d h8]; rfl
          · rw [if_neg h8] at hj; cases hj
  obtain ⟨t, a1, b1⟩ := kk _ _ hW1 _ rfl XF
  refine ⟨t, ?_, b1⟩
  have hl1 : 1000 ≤ e.platform.arrayLengthLimit := by rw [Launch.admits_arrayLengthLimit X.admits]; omega
  have hl2 : 1000 ≤ e.platform.maxHeapBytes := by rw [Launch.admits_maxHeapBytes X.admits]; omega
  jvm_step X.here [hx, hdg]
  simp only [Op.multianewarray.sem, wp_bind', W.resolveClassAt_links (State.method?_setTop (F0 m pc ls (.int 121 :: .int 8 :: rest)) X.here.top) hg₁]
  rw [W.popN, if_neg (by decide)]
  refine ⟨_, State.topJava?_setTop' (s := T.setVm vm₁) (F0 m pc ls (.int 121 :: .int 8 :: rest)) X.here.top, [.int 8, .int 121], rest, rfl, rfl, ?_⟩
  simp only [List.mapM_cons, List.mapM_nil, wp_bind', wp_pure']
  have eS2 : ((T.setTop (F0 m pc ls (.int 121 :: .int 8 :: rest))).setVm vm₁).setTop { F0 m pc ls (.int 121 :: .int 8 :: rest) with stack := rest } = (T.setVm vm₁).setTop { F0 m pc ls (.int 121 :: .int 8 :: rest) with stack := rest } := by
    show ((T.setVm vm₁).setTop _).setTop _ = _
    rw [State.setTop_setTop]
  refine km_make (kA := kA₁) (kC := kC₁) (cC := cy 0) (cc := cc) hkA₁ hkindA₁ hkC₁ hkindC₁ hl1 hl2 (by show T.heap.size + 9 ≤ _; omega) (by show T.slotsUsed + 976 ≤ _; omega) (fun d' acts' => ?_)
  rw [eS2, km_top, hKs]
  simp only [wp_bind', W.mark, W.pushRef, State.topJava?_setTop' _ XF.here.top, Option.some.injEq, exists_eq_left', State.setTop_setTop, State.heap_setTop]
  intro acts
  simp [jvm, XF.here.top]
  have e9 : T.heap.size = B + (o + cs.length) := hz
  rw [← e9] at a1
  exact a1
end KM
