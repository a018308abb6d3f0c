/-! ===== objects that come into being: cells at addresses told outright ===== -/
/-- a cell: what it is (0 numbers, 1 an object, 2 references, 3 longs), its array's kind or its number, its length, what it holds -/
abbrev ke_C : Type := Nat × Nat × Nat × List (Nat × Nat × Int)
def ke_v (B : Nat) (q : Nat × Nat × Int) : Value := cond (Nat.beq q.1 0) (.int (Int32.ofInt q.2.2)) (cond (Nat.beq q.1 1) (.ref (B + q.2.1)) .null)
def ke_r (B : Nat) (q : Nat × Nat × Int) : Option Nat := cond (Nat.beq q.1 1) (some (B + q.2.1)) none
def ke_e (cy : Nat → ClassId) (B : Nat) (k : ke_C) : va_E :=
  cond (Nat.beq k.1 0) (.inl (cy k.2.1, k.2.2.1, .inl (fun _ => 0)))
    (cond (Nat.beq k.1 1) (.inr (k.2.1, k.2.2.2.map (ke_v B)))
      (cond (Nat.beq k.1 2) (.inl (cy k.2.1, k.2.2.1, .inr (.inr (.inr (.inr (fun j => ke_r B (fx_nth k.2.2.2 j (2, 0, 0))))))))
        (.inl (cy k.2.1, k.2.2.1, .inr (.inl (fun _ => 0))))))
/-- cells from B + p on; what lies ahead of it is as it was -/
def ke_W (D : va_G) (cy : Nat → ClassId) (B : Nat) (H0 : Heap) (p : Nat) (cs : List ke_C) (H : Heap) (locs : List Loc) : Prop :=
  va_S (fun q => B + p ≤ q) H0 H locs ∧ H.size = B + (p + cs.length) ∧ ∀ (j : Nat) (k : ke_C), cs[j]? = some k → va_at D vwCl (B + (p + j), ke_e cy B k) H
def ke_nw : List Cond := [.methodLinkNest RX4 43 ⟨RX3, "<init>", "()V"⟩ RX6, .methodLinkNest RX0 15 ⟨RX3, "<init>", "()V"⟩ RX6, .methodLinkNest RX2 11 ⟨RX0, "<init>", "()V"⟩ RX6, .methodLinkNest RX6 28 ⟨RX0, "<init>", "()V"⟩ RX6, .methodLinkNest RX6 35 ⟨RX5, "<init>", "()V"⟩ RX6]
/-- what the tables say, for those that make objects -/
def ke_K (D : va_G) (cy : Nat → ClassId) (U : State) : Prop := va_K D vwCl (fx_tys cy) U ∧ (∀ w ∈ ke_nw, va_Nw w U) ∧ (va_AO "FactLines$Rule" U ∧ va_AO "FactLines$State" U) ∧ ∃ kA, U.vm.classes[cy 4]? = some kA ∧ kA.kind = .array (cy 0) (.array .int)
theorem ke_K.warm {D : va_G} {cy : Nat → ClassId} {s U : State} (hW : s.WarmedH U.vm) (h : ke_K D cy s) : ke_K D cy U := by
  obtain ⟨h1, h2, ⟨h3, h4⟩, kA, h5, h6⟩ := h
  have hv := hW.alike
  refine ⟨va_K.moved hv h1, fun w hw => ?_, ⟨va_AO.moved hv h3, va_AO.moved hv h4⟩, ?_⟩
  · have := h2 w hw
    simp only [ke_nw, List.mem_cons, List.not_mem_nil, or_false] at hw
    rcases hw with rfl | rfl | rfl | rfl | rfl
    all_goals exact va_Nw.warmM hW this
  · obtain ⟨k', hk', he⟩ := hv.2.2 _ _ h5
    exact ⟨k', hk', by rw [he]; exact h6⟩
/-- what a constructor starts from, and comes to -/
def ke_Pc (D : va_G) (cy : Nat → ClassId) (B p : Nat) (z : ke_C) (As : List Value) : Array Value → State → Prop := va_Pc (.ref (B + p) :: As) (fun U => U.heap.size = B + (p + 1) ∧ va_at D vwCl (B + p, ke_e cy B z) U.heap ∧ ke_K D cy U)
def ke_Qc (D : va_G) (cy : Nat → ClassId) (B p : Nat) (cs : List ke_C) : Array Value → State → Outcome → State → Prop := va_Qv (fun (_ : Unit) => True) (fun _ t => t.heap.size = B + (p + cs.length) ∧ ∀ (j : Nat) (k : ke_C), cs[j]? = some k → va_at D vwCl (B + (p + j), ke_e cy B k) t.heap) (fun q => B + p ≤ q)
theorem ke_blind {D : va_G} {cy : Nat → ClassId} {B p : Nat} {z : ke_C} {As : List Value} : FrameBlind (ke_Pc D cy B p z As) := fun a U g mk h => ⟨h.1, h.2.1, h.2.2.1, h.2.2.2.warm (U := U.calling g mk a) (State.WarmedH.refl U)⟩
section KE
variable {p : Program} {l : Launch} {e : Env} {R : Room} {s : State} {m : MethodId} {args : Array Value} {below : List Frame} {meth : Method} {c : Code} {H : Heap} {locs : List Loc} {cells slots : Nat} {Q : State → Prop}
variable {cc : ByteArray} {pc : Nat} {ls : Array Slot} {rest : List Value} {D : va_G} {cy : Nat → ClassId} {B o : Nat} {H0 : Heap} {cs : List ke_C}
theorem ke_W.push {H1 : Heap} {k : ke_C} (h : ke_W D cy B H0 o cs H locs) (z1 : H1.size = H.size + 1) (o1 : ∀ q, q < H.size → H1[q]? = H[q]?) (hk : va_at D vwCl (H.size, ke_e cy B k) H1) : ke_W D cy B H0 o (cs ++ [k]) H1 locs := by
  obtain ⟨hS, hz, hc⟩ := h
  refine ⟨⟨Nat.le_trans hS.1 (by omega), fun x h1 h2 => (o1 x (Nat.lt_of_lt_of_le h1 hS.1)).trans (hS.2.1 x h1 h2), hS.2.2⟩, by simp; omega, fun j k' hj => ?_⟩
  by_cases hl : j < cs.length
  · rw [List.getElem?_append_left hl] at hj
    have h9 := hc j k' hj
    exact h9.kept (o1 _ h9.lt)
  · rw [List.getElem?_append_right (by omega)] at hj
    have h1 : j - cs.length < 1 := (List.getElem?_eq_some_iff.mp hj).1
    rw [show j - cs.length = 0 by omega] at hj
    cases hj
    rw [show B + (o + j) = H.size by omega]
    exact hk
theorem ke_W.set {H1 : Heap} {k k0 : ke_C} {i x : Nat} (h : ke_W D cy B H0 o cs H locs) (hi : cs[i]? = some k0) (z1 : H1.size = H.size) (o1 : ∀ q, q ≠ B + (o + i) → H1[q]? = H[q]?) (hk : va_at D vwCl (B + (o + i), ke_e cy B k) H1) : ke_W D cy B H0 o (cs.set i k) H1 (locs ++ [⟨B + (o + i), x⟩]) := by
  obtain ⟨hS, hz, hc⟩ := h
  refine ⟨hS.put z1 o1 (Nat.add_le_add_left (Nat.le_add_right o i) B), by rw [List.length_set]; omega, fun j k' hj => ?_⟩
  by_cases e : i = j
  · subst e
    have hl : i < cs.length := (List.getElem?_eq_some_iff.mp hi).1
    rw [List.getElem?_set_self hl] at hj
    cases hj
    exact hk
  · rw [List.getElem?_set_ne e] at hj
    exact (hc j k' hj).kept (o1 _ (by show B + (o + j) ≠ B + (o + i); omega))
/-- new: the object's fields are as types have them -/
theorem ke_new {X0 X index : Nat} (hx : p.tables.exec = Jvm.exec) (hb : c.code = cc) (hts : ∀ w ∈ fx_T0, w.before args s = true) (hX : X < 8) {zs : List (Nat × Nat × Int)} (hown : s.vm.findClass (fx_cls X0) = some m.cls) (hcl : (Cond.classLink (fx_cls X0) index (fx_cls X)).before args s = true) (hinst : (Cond.instantiable (fx_cls X) (fx_nth fx_nfs X 0)).before args s = true) (hini : (Cond.initialized (fx_cls X)).before args s = true)
    (hK : ke_K D cy s) (h : ke_W D cy B H0 o cs H locs) (ty : Nat → FieldType) (hty : ∀ k, k < fx_nth fx_nfs X 0 → parseFieldDescriptor (fx_TX X k).2.2.1 = some (ty k)) (hfs : ∀ j, j < fx_nth fx_nfs X 0 → defaultValue (ty j) = vp_V (zs.map (ke_v B)) j) {n : Nat} (hn : cs.length = n) (hcells : cells + 1 ≤ R.cells) (hslots : slots + fx_nth fx_nfs X 0 ≤ R.slots) (hdg : decode cc pc = .ok (.new index, 3))
    (kk : ∀ H1 : Heap, ke_W D cy B H0 o (cs ++ [(1, X, 0, zs)]) H1 locs → W p l e R s m args below meth c H1 locs (cells + 1) (slots + fx_nth fx_nfs X 0) Q (F0 m (pc + 3) ls (.ref (B + (o + n)) :: rest))) : W p l e R s m args below meth c H locs cells slots Q (F0 m pc ls rest) := by
  have hKn := hK.1.1 X _ (fx_vw X hX)
  subst hn
  refine W.newcK hx hb hown hcl hinst hini rfl hdg hcells hslots hKn.2.1 rfl fun H1 kC hkC e1 z1 o1 => ?_
  have k9 := kk H1 (h.push z1 o1 ⟨_, fx_vw X hX, (u_born ty hts (fx_lay X hX) hKn hkC e1 hty).to hfs⟩)
  rw [← h.2.1] at k9
  exact k9
theorem ke_newa {atype : ArrayType} {t N : Nat} {i : Int32} (hx : p.tables.exec = Jvm.exec) (hb : c.code = cc) (harr : (Cond.arrayClass (newarray.typeOf atype)).before args s = true) (hcy : s.vm.findClass ("[" ++ (newarray.typeOf atype).toString) = some (cy t)) (hdf : defaultValue (newarray.typeOf atype) = .int 0)
    (h : ke_W D cy B H0 o cs H locs) (h0 : ¬ i < 0) (hN : i.toNatClampNeg = N) (hbytes : N * componentBytes (newarray.typeOf atype) ≤ 536870912) {n : Nat} (hn : cs.length = n) (hcells : cells + 1 ≤ R.cells) (hslots : slots + N ≤ R.slots) (hdg : decode cc pc = .ok (.newarray atype, 2))
    (kk : ∀ H1 : Heap, ke_W D cy B H0 o (cs ++ [(0, t, N, [])]) H1 locs → W p l e R s m args below meth c H1 locs (cells + 1) (slots + N) Q (F0 m (pc + 2) ls (.ref (B + (o + n)) :: rest))) : W p l e R s m args below meth c H locs cells slots Q (F0 m pc ls (.int i :: rest)) := by
  subst hn
  refine va_newaK hx hb harr rfl hdg rfl h0 hN hbytes hcells hslots rfl fun H1 cA e1 z1 o1 hAr hNm => ?_
  cases hcy.symm.trans hNm
  have k9 := kk H1 (h.push z1 o1 (by
    show H1[H.size]? = some (vp_cell (cy t) (N, .inl (fun _ => 0)))
    rw [e1, hdf]; rfl))
  rw [← h.2.1] at k9
  exact k9
theorem ke_newl {N : Nat} {i : Int32} (hx : p.tables.exec = Jvm.exec) (hb : c.code = cc) (harr : (Cond.arrayClass (newarray.typeOf .long)).before args s = true) (hcy : s.vm.findClass ("[" ++ (newarray.typeOf .long).toString) = some (cy 6))
    (h : ke_W D cy B H0 o cs H locs) (h0 : ¬ i < 0) (hN : i.toNatClampNeg = N) (hbytes : N * componentBytes (newarray.typeOf .long) ≤ 536870912) {n : Nat} (hn : cs.length = n) (hcells : cells + 1 ≤ R.cells) (hslots : slots + N ≤ R.slots) (hdg : decode cc pc = .ok (.newarray .long, 2))
    (kk : ∀ H1 : Heap, ke_W D cy B H0 o (cs ++ [(3, 6, N, [])]) H1 locs → W p l e R s m args below meth c H1 locs (cells + 1) (slots + N) Q (F0 m (pc + 2) ls (.ref (B + (o + n)) :: rest))) : W p l e R s m args below meth c H locs cells slots Q (F0 m pc ls (.int i :: rest)) := by
  subst hn
  refine va_newaK hx hb harr rfl hdg rfl h0 hN hbytes hcells hslots rfl fun H1 cA e1 z1 o1 hAr hNm => ?_
  cases hcy.symm.trans hNm
  have k9 := kk H1 (h.push z1 o1 (by
    show H1[H.size]? = some (vp_cell (cy 6) (N, .inr (.inl (fun _ => 0))))
    rw [e1]; rfl))
  rw [← h.2.1] at k9
  exact k9
theorem ke_newq {C : String} {X0 index t N : Nat} {i : Int32} (hx : p.tables.exec = Jvm.exec) (hb : c.code = cc) (hown : s.vm.findClass (fx_cls X0) = some m.cls) (hclink : (Cond.classLink (fx_cls X0) index C).before args s = true) (hover : va_AO C s) (hcy : s.vm.findClass ("[" ++ (FieldType.object C).toString) = some (cy t))
    (h : ke_W D cy B H0 o cs H locs) (h0 : ¬ i < 0) (hN : i.toNatClampNeg = N) (hbytes : N * 4 ≤ 536870912) {n : Nat} (hn : cs.length = n) (hcells : cells + 1 ≤ R.cells) (hslots : slots + N ≤ R.slots) (hdg : decode cc pc = .ok (.anewarray index, 3))
    (kk : ∀ H1 : Heap, ke_W D cy B H0 o (cs ++ [(2, t, N, List.replicate N (2, 0, 0))]) H1 locs → W p l e R s m args below meth c H1 locs (cells + 1) (slots + N) Q (F0 m (pc + 3) ls (.ref (B + (o + n)) :: rest))) : W p l e R s m args below meth c H locs cells slots Q (F0 m pc ls (.int i :: rest)) := by
  subst hN
  subst hn
  refine W.anew hx hb hown hclink (va_AO.use hover) rfl hdg rfl h0 hbytes hcells hslots fun cA kA comp f1 f2 f3 f4 => ?_
  cases hcy.symm.trans f1
  generalize hH1 : H.push ({ cls := cy t, slots := Array.replicate i.toNatClampNeg .null, vm := .none } : Cell) = H1
  have z1 : H1.size = H.size + 1 := by rw [← hH1, Array.size_push]
  have e1 : H1[H.size]? = some (arrV (cy t) i.toNatClampNeg (fun _ => .null)) := by rw [← hH1, Array.getElem?_push_size, ← arrV_new]
  have o1 : ∀ q : Nat, q < H.size → H1[q]? = H[q]? := fun q hq => by rw [← hH1, Array.getElem?_push, if_neg (Nat.ne_of_lt hq)]
  have hrep : ∀ (N j : Nat), fx_nth (List.replicate N ((2 : Nat), (0 : Nat), (0 : Int))) j (2, 0, 0) = (2, 0, 0) := fun N => by
    induction N with
    | zero => intro j; rfl
    | succ N ih =>
      intro j
      cases j with
      | zero => rfl
      | succ j => exact ih j
  have k9 := kk H1 (h.push z1 o1 (by
    show H1[H.size]? = some (vp_cell (cy t) (i.toNatClampNeg, .inr (.inr (.inr (.inr (fun j => ke_r B (fx_nth (List.replicate i.toNatClampNeg ((2 : Nat), (0 : Nat), (0 : Int))) j (2, 0, 0))))))))
    rw [e1, vp_cell_q]
    congr 2
    funext j
    rw [hrep]; rfl))
  rw [← h.2.1] at k9
  exact k9
/-- putfield of an object that has come -/
theorem ke_put {X index i k : Nat} {fs : List (Nat × Nat × Int)} {v : Nat × Nat × Int} {ty : FieldType} (hx : p.tables.exec = Jvm.exec) (hb : c.code = cc) (hts : ∀ w ∈ fx_T0, w.before args s = true) (hX : X < 8) (hown : s.vm.findClass (fx_cls X) = some m.cls) (hin2 : meth.name = "<init>" ∨ (fx_TX X k).2.2.2 = false) (hK : ke_K D cy s) (h : ke_W D cy B H0 o cs H locs)
    (hi : cs[i]? = some (1, X, 0, fs)) (hk : k < fx_nth fx_nfs X 0) (hl : k < fs.length) (hlink : (Cond.fieldLink (fx_cls X) index (fx_cls X) (fx_TX X k).2.1 (fx_TX X k).2.2.1).before args s = true) (hd : parseFieldDescriptor (fx_TX X k).2.2.1 = some ty) (hn : narrow ty (ke_v B v) = ke_v B v) (hfit : fits ty (ke_v B v) = true) {cs' : List ke_C} (hcs : cs.set i (1, X, 0, fs.set k v) = cs') (hdg : decode cc pc = .ok (.putfield index, 3))
    (kk : ∀ (H1 : Heap) (locs1 : List Loc), ke_W D cy B H0 o cs' H1 locs1 → W p l e R s m args below meth c H1 locs1 cells slots Q (F0 m (pc + 3) ls rest)) : W p l e R s m args below meth c H locs cells slots Q (F0 m pc ls (ke_v B v :: .ref (B + (o + i)) :: rest)) := by
  subst hcs
  obtain ⟨ty0, hty⟩ := fx_ty X hX
  have hlay := fx_lay X hX
  have hap := va_apart (own := fx_cls X) hts hlay ty0 hty (fx_nm X hX) hK.1 (fx_vw X hX)
  obtain ⟨r, h1, cell, q1, q2, q3, q4⟩ := h.2.2 i _ hi
  have hr : r = (fx_cls X, fx_TX X, fx_nth fx_nfs X 0) := Option.some.inj (h1.symm.trans (fx_vw X hX))
  subst hr
  obtain ⟨hS, hfc, kC, hkC, hkind⟩ := hK.1.1 X _ (fx_vw X hX)
  obtain ⟨cf, kf, fi, f, hif, hsl⟩ := hS k hk
  have hlw := hts _ (hlay _ (u_in_lay hk))
  unfold u_lay at hlw
  have hst := (u_facts hfc hkC (u_lays hts hlay hk) hif).1
  have ho1 := fx_own1 X hX k hk
  have hif' : s.fieldFound? (fx_cls X) (fx_TX X k).2.1 (fx_TX X k).2.2.1 = some (cf, kf, fi, f) := by rw [← ho1]; exact hif
  have hvk : (fs.map (ke_v B)).set k (ke_v B v) = (fs.set k v).map (ke_v B) := by rw [List.map_set]
  have go : ∀ H' : Heap, H'[B + (o + i)]? = some (cell.setSlot f.slot (ke_v B v)) → H'.size = H.size → (∀ q, q ≠ B + (o + i) → H'[q]? = H[q]?) → W p l e R s m args below meth c H' (locs ++ [⟨B + (o + i), f.slot⟩]) cells slots Q (F0 m (pc + 3) ls rest) := by
    intro H' e1 e2 e3
    rw [hsl] at e1
    refine kk H' _ (h.set hi e2 e3 ⟨_, fx_vw X hX, ?_⟩)
    show t_OB (B + (o + i)) (D.1 X) _ (D.2 X) H' (vp_V ((fs.set k v).map (ke_v B)))
    rw [← hvk]
    exact t_OB.to (V := updV (vp_V (fs.map (ke_v B))) k (ke_v B v)) ⟨_, e1, q2, q3, t_set q4 hap hk _⟩ (fun j _ => vp_updV_set (by rw [List.length_map]; exact hl) _ j)
  by_cases hfin : (fx_TX X k).2.2.2 = true
  · rw [if_pos hfin] at hlw
    have hcf : m.cls = cf := by
      obtain ⟨_, _, c', _, _, _, -, -, hf', -, -, -, hown2, -⟩ := Cond.laysFinal_spec hlw
      have e1 : c' = cf := by have := hif.symm.trans hf'; simp at this; exact this.1.symm
      rw [ho1] at hown2
      rw [← e1]; exact Option.some.inj (hown.symm.trans hown2)
    have hnm : meth.name = "<init>" := hin2.elim id (fun z => by rw [z] at hfin; cases hfin)
    have h6 := u_fits hfc hkC hkind (Or.inr hlw) hif hd hn hfit
    exact W.putFinK hx hb hown hlink hif' hst hcf hnm (by rw [q2]; exact h6) q1 q3 (by rw [hsl]; exact k2_hasslot (q4 k hk)) rfl rfl hdg go
  · rw [if_neg hfin] at hlw
    have h6 := u_store hfc hkC hkind hlw hif hd hn hfit
    exact W.putK hx hb (f := f) ⟨hown, hlink, ⟨_, _, _, hif'⟩, hst⟩ (by rw [q2]; exact h6) q1 q3 (by rw [hsl]; exact k2_hasslot (q4 k hk)) rfl rfl hdg go
theorem ke_get {X index i k : Nat} {fs : List (Nat × Nat × Int)} {v : Nat × Nat × Int} (hx : p.tables.exec = Jvm.exec) (hb : c.code = cc) (hts : ∀ w ∈ fx_T0, w.before args s = true) (hX : X < 8) (hown : s.vm.findClass (fx_cls X) = some m.cls) (hK : ke_K D cy s) (h : ke_W D cy B H0 o cs H locs)
    (hi : cs[i]? = some (1, X, 0, fs)) (hk : k < fx_nth fx_nfs X 0) (hv : fs[k]? = some v) (hlink : (Cond.fieldLink (fx_cls X) index (fx_cls X) (fx_TX X k).2.1 (fx_TX X k).2.2.1).before args s = true) (hdg : decode cc pc = .ok (.getfield index, 3))
    (kk : W p l e R s m args below meth c H locs cells slots Q (F0 m (pc + 3) ls (ke_v B v :: rest))) : W p l e R s m args below meth c H locs cells slots Q (F0 m pc ls (.ref (B + (o + i)) :: rest)) := by
  obtain ⟨r, h1, cell, q1, q2, q3, q4⟩ := h.2.2 i _ hi
  have hr : r = (fx_cls X, fx_TX X, fx_nth fx_nfs X 0) := Option.some.inj (h1.symm.trans (fx_vw X hX))
  subst hr
  obtain ⟨hS, hfc, kC, hkC, hkind⟩ := hK.1.1 X _ (fx_vw X hX)
  obtain ⟨cf, kf, fi, f, hif, hsl⟩ := hS k hk
  have hif' : s.fieldFound? (fx_cls X) (fx_TX X k).2.1 (fx_TX X k).2.2.1 = some (cf, kf, fi, f) := by rw [← fx_own1 X hX k hk]; exact hif
  refine W.getf hx hb hown hlink hif' (u_facts hfc hkC (u_lays hts (fx_lay X hX) hk) hif).1 q1 (by rw [q3]; exact fun h => by cases h) (v := ke_v B v) ?_ rfl rfl hdg kk
  rw [hsl, q4 k hk]
  simp [vp_V, List.getElem?_map, hv]
/-- aastore: an object that has come, into an array that has come -/
theorem ke_ast {X t N i i2 a : Nat} {C : String} {vals : List (Nat × Nat × Int)} {fs : List (Nat × Nat × Int)} {j : Int32} (hx : p.tables.exec = Jvm.exec) (hb : c.code = cc) (hX : X < 8) (hC : fx_cls X = C) (hK : ke_K D cy s) (h : ke_W D cy B H0 o cs H locs) (hi : cs[i]? = some (2, t, N, vals)) (ht : (fx_tys cy)[a]? = some (cy t, .object C)) (hi2 : cs[i2]? = some (1, X, 0, fs)) (h0 : ¬ j < 0) (hj : j.toNatClampNeg < N) (hlen : vals.length = N)
    {cs' : List ke_C} (hcs : cs.set i (2, t, N, vals.set j.toNatClampNeg (1, o + i2, 0)) = cs') (hdg : decode cc pc = .ok (.aastore, 1))
    (kk : ∀ (H1 : Heap) (locs1 : List Loc), ke_W D cy B H0 o cs' H1 locs1 → W p l e R s m args below meth c H1 locs1 cells slots Q (F0 m (pc + 1) ls rest)) : W p l e R s m args below meth c H locs cells slots Q (F0 m pc ls (.ref (B + (o + i2)) :: .int j :: .ref (B + (o + i)) :: rest)) := by
  subst hcs
  obtain ⟨r', hr', cellV, g1, g2, g3, -⟩ := h.2.2 i2 _ hi2
  have hcls := (hK.1.1 X _ (fx_vw X hX)).2
  obtain ⟨kA, comp, k1, k2, k3, -⟩ := (hK.1.2 a _ ht).2
  have hcomp : comp = D.1 X := Option.some.inj (k3.symm.trans (by rw [← hC]; exact hcls.1))
  subst hcomp
  obtain ⟨kC, hkC, -⟩ := hcls.2
  have hA : H[B + (o + i)]? = some (vp_cell (cy t) (N, .inr (.inr (.inr (.inr (fun j => ke_r B (fx_nth vals j (2, 0, 0)))))))) := h.2.2 i _ hi
  rw [vp_cell_q] at hA
  refine W.aast hx hb hA (fun q h => by cases h) (fun h => by cases h) k1 k2 rfl hkC ⟨h0, by show _ < (arrV _ _ _).slots.size; rw [arrV_size]; exact hj⟩ g1 (fun q h => by rw [g3] at h; cases h) (by rw [g2]; exact hkC) (by rw [g2]; exact va_assign hcls) rfl rfl hdg fun H1 e1 z oq => ?_
  refine kk H1 _ (h.set hi z oq ?_)
  show H1[B + (o + i)]? = some (vp_cell (cy t) (N, .inr (.inr (.inr (.inr (fun j' => ke_r B (fx_nth (vals.set j.toNatClampNeg (1, o + i2, 0)) j' (2, 0, 0))))))))
  rw [e1, vp_cell_q, arrV_store]
  congr 2
  funext q
  have hset : ∀ (L : List (Nat × Nat × Int)) (a b : Nat) (x : Nat × Nat × Int), a < L.length → fx_nth (L.set a x) b (2, 0, 0) = if b = a then x else fx_nth L b (2, 0, 0) := by
    intro L
    induction L with
    | nil => intro a b x h; simp at h
    | cons y L ih =>
      intro a b x h
      cases a with
      | zero => cases b with
        | zero => rfl
        | succ b => simp [fx_nth]
      | succ a => cases b with
        | zero => simp [fx_nth]
        | succ b =>
          have := ih a b x (by simpa using h)
          simp only [List.set, fx_nth, this, Nat.add_right_cancel_iff]
  rw [hset _ _ _ _ (by omega)]
  by_cases hq : q = j.toNatClampNeg
  · subst hq
    simp [updV, ke_r, va_rf]
  · simp [updV, hq]
/-- a constructor is called -/
theorem ke_call {cs' : List ke_C} {z : ke_C} {n mc ms : Nat} {a : Array Value} {st0 : List Value} (h : ke_W D cy B H0 o (cs ++ [z]) H locs) (hn : cs.length = n) (hr : va_Run p l e R s m args below meth c H locs cells slots mc ms (F0 m pc ls st0) rest (ke_Qc D cy B (o + n) cs' a) (fun q => B + (o + n) ≤ q))
    (kk : ∀ (H1 : Heap) (locs1 : List Loc), ke_W D cy B H0 o (cs ++ cs') H1 locs1 → W p l e R s m args below meth c H1 locs1 (cells + mc) (slots + ms) Q (F0 m (pc + 3) ls rest)) : W p l e R s m args below meth c H locs cells slots Q (F0 m pc ls st0) := by
  subst hn
  refine va_callv hr h.1 (fun q _ h9 => Nat.le_trans (Nat.add_le_add_left (Nat.le_add_right _ _) B) h9) (fun q h9 => Nat.le_trans (Nat.add_le_add_left (Nat.le_add_right _ _) B) h9) (fun u t H1 locs1 ht hvm hw hB hz1 hk1 hS1 => kk H1 locs1 ⟨hS1, ?_, fun j k hj => ?_⟩)
  · rw [← ht, hB.1, List.length_append]; omega
  · by_cases hl : j < cs.length
    · rw [List.getElem?_append_left hl] at hj
      have h9 := h.2.2 j k (by rw [List.getElem?_append_left hl]; exact hj)
      exact h9.kept (hk1 _ h9.lt (by show ¬ B + (o + cs.length) ≤ B + (o + j); omega))
    · rw [List.getElem?_append_right (by omega)] at hj
      have h9 := hB.2 _ k hj
      rw [ht, show B + (o + cs.length + (j - cs.length)) = B + (o + j) by omega] at h9
      exact h9
theorem ke_pre {z : ke_C} {n : Nat} {As : List Value} (hK : ke_K D cy s) (h : ke_W D cy B H0 o (cs ++ [z]) H locs) (hn : cs.length = n) : PreS s H (ke_Pc D cy B (o + n) z As) (.ref (B + (o + n)) :: As) := by
  subst hn
  refine ⟨ke_blind, fun U hU hW => ⟨rfl, ?_, ?_, hK.warm hW⟩⟩
  · rw [hU, h.2.1]; simp [Nat.add_assoc]
  · rw [hU]
    have := h.2.2 cs.length z (by simp)
    exact this
/-- from the entry, and at the end -/
theorem ke_start {z : ke_C} (h1 : H.size = B + (o + 1)) (h2 : va_at D vwCl (B + o, ke_e cy B z) H) : ke_W D cy B H o [z] H [] := ⟨va_S.rf, h1, fun j k hj => by
  have h9 : j < 1 := (List.getElem?_eq_some_iff.mp hj).1
  rw [show j = 0 by omega] at hj ⊢
  cases hj
  exact h2⟩
theorem ke_end {t : State} (h : ke_W D cy B s.heap o cs H locs) (ht : t.heap = H) : ke_Qc D cy B o cs args s (.returned none) t := ⟨⟨(), rfl, trivial, by rw [ht]; exact h.2.1, fun j k hj => by rw [ht]; exact h.2.2 j k hj⟩, h.1.F ht⟩
end KE
