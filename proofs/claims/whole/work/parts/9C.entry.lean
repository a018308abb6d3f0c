/-! ===== what holds at the law's entry (places printed by program) ===== -/
noncomputable def zs_ws : List Cond := [.instantiable RX0 4, .instantiable RX1 11, .instantiable RX2 10, .instantiable RX3 6, .instantiable RX4 11, .instantiable RX5 6, .instantiable RX6 15, .instantiable RX7 30, .arrayClass .int, .arrayClass .boolean, .arrayClass .long, .arrayOver (.object RX3), .arrayOver (.object RX4), .arrayOver (.array .int), .methodLinkNest RX4 43 ⟨RX3, "<init>", "()V"⟩ RX6, .methodLinkNest RX0 15 ⟨RX3, "<init>", "()V"⟩ RX6, .methodLinkNest RX2 11 ⟨RX0, "<init>", "()V"⟩ RX6, .methodLinkNest RX6 28 ⟨RX0, "<init>", "()V"⟩ RX6, .methodLinkNest RX6 35 ⟨RX5, "<init>", "()V"⟩ RX6, .declares ⟨"java/lang/RuntimeException", "<init>", "(Ljava/lang/String;)V"⟩, .declares ⟨"java/lang/Exception", "<init>", "(Ljava/lang/String;)V"⟩, .declares ⟨"java/lang/Throwable", "<init>", "(Ljava/lang/String;)V"⟩, .laysStatic "java/lang/String" "COMPACT_STRINGS" "Z", .laysStatic "jdk/internal/util/Preconditions" "SIOOBE_FORMATTER" "Ljava/util/function/BiFunction;", .laysStatic "java/lang/Throwable" "UNASSIGNED_STACK" "[Ljava/lang/StackTraceElement;", .laysStatic "java/lang/Throwable" "SUPPRESSED_SENTINEL" "Ljava/util/List;", .initialized "java/lang/String", .initialized "jdk/internal/util/Preconditions", .initialized "java/lang/Throwable"]
set_option maxRecDepth 100000 in
theorem zs_in : ∀ w ∈ zs_ws, w ∈ lw_tbl := fx_mem (f := fun w : Cond => w) [(1, 126), (1, 226), (1, 184), (1, 38), (1, 31), (1, 153), (1, 23), (6, 9), (1, 69), (1, 70), (8, 90), (1, 37), (1, 124), (1, 232), (1, 39), (1, 132), (1, 190), (1, 127), (1, 154), (3, 208), (3, 210), (3, 212), (3, 18), (3, 34), (3, 231), (3, 233), (1, 9), (1, 11), (1, 13)] rfl
theorem zs_at {w : Cond} (i : Nat) (h : zs_ws[i]? = some w) : w ∈ lw_tbl := zs_in w (List.mem_of_getElem? h)
def zs_F : List Cond := flatC (Cond.and given_1 narrow_1)
theorem zs_mem {α : Type} {f : α → Cond} {l : List α} (ks : List Nat) (h : l.map f = ks.filterMap (fun k => zs_F[k]?)) : ∀ a ∈ l, f a ∈ zs_F := by
  intro a ha
  have h1 : f a ∈ l.map f := List.mem_map.mpr ⟨a, ha, rfl⟩
  rw [h] at h1
  obtain ⟨k, -, hk⟩ := List.mem_filterMap.mp h1
  exact List.mem_of_getElem? hk
def zs_sp (i : Nat) : Nat := fx_nth [59, 65, 67, 69, 71, 73, 75, 77, 79, 81, 83, 85, 87, 89, 91, 93, 95] i 0
def zs_s7 (i : Nat) : Nat := fx_nth [244, 249, 254, 259, 264, 266, 271, 276, 190, 199, 201, 203, 205, 207, 226, 234, 221] i 0
def zs_tm (i : Nat) : Term := .string RX5 (zs_sp i)
def zs_t7 (i : Nat) : Term := .string RX7 (zs_s7 i)
noncomputable def zs_f (q : Nat × Nat × Nat) : Cond := match q.1 with
  | 0 => .exactly (zs_tm q.2.1) "java/lang/String"
  | 1 => .eq (.field (zs_tm q.2.1) "java/lang/String" "coder" "B") (.int 0)
  | 2 => .arrayOf (.field (zs_tm q.2.1) "java/lang/String" "value" "[B") .byte
  | 3 => .eq (.length (.field (zs_tm q.2.1) "java/lang/String" "value" "[B")) (.int (Int32.ofNat (fx_len0.getD q.2.1 0)))
  | 4 => .eq (.elem (.field (zs_tm q.2.1) "java/lang/String" "value" "[B") (.int (Int32.ofNat q.2.2))) (.int ((fx_byt0.getD q.2.1 []).getD q.2.2 0))
  | 5 => .eq (zs_tm q.2.1) (zs_t7 q.2.1)
  | _ => .exactly (zs_t7 q.2.1) "java/lang/String"
def zs_ix : List (Nat × Nat × Nat) := [(0, 0, 0), (1, 0, 0), (2, 0, 0), (3, 0, 0), (4, 0, 0), (4, 0, 1), (4, 0, 2), (4, 0, 3), (4, 0, 4), (4, 0, 5), (5, 0, 0), (6, 0, 0), (0, 1, 0), (1, 1, 0), (2, 1, 0), (3, 1, 0), (4, 1, 0), (4, 1, 1), (4, 1, 2), (4, 1, 3), (5, 1, 0), (6, 1, 0), (0, 2, 0), (1, 2, 0), (2, 2, 0), (3, 2, 0), (4, 2, 0), (4, 2, 1), (4, 2, 2), (4, 2, 3), (5, 2, 0), (6, 2, 0), (0, 3, 0), (1, 3, 0), (2, 3, 0), (3, 3, 0), (4, 3, 0), (4, 3, 1), (4, 3, 2), (4, 3, 3), (5, 3, 0), (6, 3, 0), (0, 4, 0), (1, 4, 0), (2, 4, 0), (3, 4, 0), (4, 4, 0), (4, 4, 1), (4, 4, 2), (4, 4, 3), (5, 4, 0), (6, 4, 0), (0, 5, 0), (1, 5, 0), (2, 5, 0), (3, 5, 0), (4, 5, 0), (4, 5, 1), (4, 5, 2), (4, 5, 3), (5, 5, 0), (6, 5, 0), (0, 6, 0), (1, 6, 0), (2, 6, 0), (3, 6, 0), (4, 6, 0), (4, 6, 1), (4, 6, 2), (5, 6, 0), (6, 6, 0), (0, 7, 0), (1, 7, 0), (2, 7, 0), (3, 7, 0), (4, 7, 0), (4, 7, 1), (4, 7, 2), (4, 7, 3), (5, 7, 0), (6, 7, 0), (0, 8, 0), (1, 8, 0), (2, 8, 0), (3, 8, 0), (4, 8, 0), (4, 8, 1), (4, 8, 2), (4, 8, 3), (4, 8, 4), (5, 8, 0), (6, 8, 0), (0, 9, 0), (1, 9, 0), (2, 9, 0), (3, 9, 0), (4, 9, 0), (4, 9, 1), (4, 9, 2), (5, 9, 0), (6, 9, 0), (0, 10, 0), (1, 10, 0), (2, 10, 0), (3, 10, 0), (4, 10, 0), (4, 10, 1), (4, 10, 2), (5, 10, 0), (6, 10, 0), (0, 11, 0), (1, 11, 0), (2, 11, 0), (3, 11, 0), (4, 11, 0), (4, 11, 1), (4, 11, 2), (4, 11, 3), (5, 11, 0), (6, 11, 0), (0, 12, 0), (1, 12, 0), (2, 12, 0), (3, 12, 0), (4, 12, 0), (4, 12, 1), (4, 12, 2), (4, 12, 3), (4, 12, 4), (5, 12, 0), (6, 12, 0), (0, 13, 0), (1, 13, 0), (2, 13, 0), (3, 13, 0), (4, 13, 0), (4, 13, 1), (4, 13, 2), (4, 13, 3), (4, 13, 4), (4, 13, 5), (5, 13, 0), (6, 13, 0), (0, 14, 0), (1, 14, 0), (2, 14, 0), (3, 14, 0), (4, 14, 0), (4, 14, 1), (5, 14, 0), (6, 14, 0), (0, 15, 0), (1, 15, 0), (2, 15, 0), (3, 15, 0), (4, 15, 0), (4, 15, 1), (5, 15, 0), (6, 15, 0), (0, 16, 0), (1, 16, 0), (2, 16, 0), (3, 16, 0), (4, 16, 0), (4, 16, 1), (4, 16, 2), (5, 16, 0), (6, 16, 0)]
set_option maxRecDepth 100000 in
theorem zs_f_in : ∀ q ∈ zs_ix, zs_f q ∈ zs_F := zs_mem [55, 56, 57, 58, 59, 60, 61, 62, 63, 64, 470, 460, 65, 66, 67, 68, 69, 70, 71, 72, 479, 471, 73, 74, 75, 76, 77, 78, 79, 80, 488, 480, 81, 82, 83, 84, 85, 86, 87, 88, 497, 489, 89, 90, 91, 92, 93, 94, 95, 96, 506, 498, 97, 98, 99, 100, 101, 102, 103, 104, 515, 507, 105, 106, 107, 108, 109, 110, 111, 523, 516, 112, 113, 114, 115, 116, 117, 118, 119, 539, 531, 120, 121, 122, 123, 124, 125, 126, 127, 128, 564, 555, 129, 130, 131, 132, 133, 134, 135, 572, 565, 136, 137, 138, 139, 140, 141, 142, 580, 573, 143, 144, 145, 146, 147, 148, 149, 150, 589, 581, 151, 152, 153, 154, 155, 156, 157, 158, 159, 599, 590, 160, 161, 162, 163, 164, 165, 166, 167, 168, 169, 610, 600, 170, 171, 172, 173, 174, 175, 554, 548, 176, 177, 178, 179, 180, 181, 530, 524, 182, 183, 184, 185, 186, 187, 188, 547, 540] rfl
set_option maxRecDepth 100000 in
theorem zs_th : ∀ th ∈ fx_ths, (.exactly (.string th.1 th.2.2.1) "java/lang/String" : Cond) ∈ zs_F := zs_mem (f := fun th : String × Nat × Nat × Nat × Nat × String => (.exactly (.string th.1 th.2.2.1) "java/lang/String" : Cond)) [189, 280, 389, 437, 254, 304, 410, 364, 210, 329, 232] rfl
set_option maxRecDepth 100000 in
theorem zs_thw : ∀ th ∈ fx_ths, (.stringRef th.1 th.2.2.1 th.2.2.2.2.2 : Cond) ∈ lw_tbl := fx_mem (f := fun th : String × Nat × Nat × Nat × Nat × String => (.stringRef th.1 th.2.2.1 th.2.2.2.2.2 : Cond)) [(4, 6), (4, 148), (5, 83), (5, 113), (4, 92), (4, 159), (5, 101), (5, 67), (4, 44), (4, 184), (4, 63)] rfl
def zs_cp : List (Nat × Nat) := [(0, 1), (0, 2), (0, 3), (1, 0), (1, 2), (1, 3), (2, 0), (2, 1), (2, 3), (3, 0), (3, 1), (3, 2)]
set_option maxRecDepth 100000 in
theorem zs_cp_in : ∀ q ∈ zs_cp, (.not (.castable (fx_ex q.1) (fx_ex q.2)) : Cond) ∈ zs_F := zs_mem (f := fun q : Nat × Nat => (.not (.castable (fx_ex q.1) (fx_ex q.2)) : Cond)) [30, 41, 52, 19, 42, 53, 20, 31, 54, 21, 32, 43] rfl
noncomputable def zs_ms : List Cond := [.eq (.static "java/lang/String" "COMPACT_STRINGS" "Z") (.int 1), .isRef (.static "jdk/internal/util/Preconditions" "SIOOBE_FORMATTER" "Ljava/util/function/BiFunction;"), .isRef (.static "java/lang/Throwable" "UNASSIGNED_STACK" "[Ljava/lang/StackTraceElement;"), .isRef (.static "java/lang/Throwable" "SUPPRESSED_SENTINEL" "Ljava/util/List;")]
set_option maxRecDepth 100000 in
theorem zs_ms_in : ∀ w ∈ zs_ms, w ∈ zs_F := zs_mem (f := fun w : Cond => w) [4, 5, 9, 10] rfl
theorem zs_mt {w : Cond} (i : Nat) (h : zs_ms[i]? = some w) : w ∈ zs_F := zs_ms_in w (List.mem_of_getElem? h)
theorem zs_inst : ∀ X, X < 8 → (.instantiable (fx_cls X) (fx_nth fx_nfs X 0) : Cond) ∈ lw_tbl
  | 0, _ => zs_at 0 rfl
  | 1, _ => zs_at 1 rfl
  | 2, _ => zs_at 2 rfl
  | 3, _ => zs_at 3 rfl
  | 4, _ => zs_at 4 rfl
  | 5, _ => zs_at 5 rfl
  | 6, _ => zs_at 6 rfl
  | 7, _ => zs_at 7 rfl
  | _ + 8, h => absurd h (by omega)
def zs_has (l : List (Nat × Nat × Nat)) (a b c : Nat) : Bool := l.any (fun q => Nat.beq q.1 a && (Nat.beq q.2.1 b && Nat.beq q.2.2 c))
theorem zs_any {l : List (Nat × Nat × Nat)} {a b c : Nat} (h : zs_has l a b c = true) : (a, b, c) ∈ l := by
  obtain ⟨⟨x, y, z⟩, h1, h2⟩ := List.any_eq_true.mp h
  simp only [Bool.and_eq_true] at h2
  have e1 := Nat.eq_of_beq_eq_true h2.1
  have e2 := Nat.eq_of_beq_eq_true h2.2.1
  have e3 := Nat.eq_of_beq_eq_true h2.2.2
  subst e1
  subst e2
  subst e3
  exact h1
theorem zs_ix_ck : ∀ i, i < 17 → (zs_has zs_ix 0 i 0 = true ∧ zs_has zs_ix 1 i 0 = true ∧ zs_has zs_ix 2 i 0 = true ∧ zs_has zs_ix 3 i 0 = true ∧ zs_has zs_ix 5 i 0 = true ∧ zs_has zs_ix 6 i 0 = true) ∧ ∀ j, j < fx_len0.getD i 0 → zs_has zs_ix 4 i j = true := by decide +kernel
theorem zs_ix_in (i : Nat) (hi : i < 17) : ((0, i, 0) ∈ zs_ix ∧ (1, i, 0) ∈ zs_ix ∧ (2, i, 0) ∈ zs_ix ∧ (3, i, 0) ∈ zs_ix ∧ (5, i, 0) ∈ zs_ix ∧ (6, i, 0) ∈ zs_ix) ∧ ∀ j, j < fx_len0.getD i 0 → (4, i, j) ∈ zs_ix := by
  obtain ⟨⟨a, b, c, d, e, f⟩, g⟩ := zs_ix_ck i hi
  exact ⟨⟨zs_any a, zs_any b, zs_any c, zs_any d, zs_any e, zs_any f⟩, fun j hj => zs_any (g j hj)⟩
theorem zs_len : ∀ i, i < 17 → fx_len0.getD i 0 < 100 := by decide +kernel
theorem zs_apart : ∀ i, i < 17 → ∀ j, j < 17 → fx_len0.getD i 0 = fx_len0.getD j 0 → (∀ k, k < fx_len0.getD i 0 → (fx_byt0.getD i []).getD k 0 = (fx_byt0.getD j []).getD k 0) → i = j := by decide +kernel
theorem zs_swl : ∀ q ∈ fx_swl, (q.1 = 5 ∧ q.2.1 = zs_sp q.2.2 ∧ q.2.2 < 17) ∨ (q.1 = 7 ∧ q.2.1 = zs_s7 q.2.2 ∧ q.2.2 < 17) := by decide +kernel
section ZS
variable {A : Array Value} {s : State}
theorem zs_known (hts0 : ∀ w ∈ fx_T0, w.before A s = true) (hts : ∀ w ∈ lw_tbl, w.before A s = true) : ∃ D : va_G, ∀ (c : Nat) (q : vw_C), vwCl[c]? = some q → u_Kn s q.1 q.2.1 q.2.2 (D.1 c) (D.2 c) := by
  have h : ∀ X : Nat, ∃ q : ClassId × (Nat → Nat), X < 8 → u_Kn s (fx_cls X) (fx_TX X) (fx_nth fx_nfs X 0) q.1 q.2 := fun X => by
    by_cases hX : X < 8
    · obtain ⟨a, b, h⟩ := u_known hts0 (fx_lay X hX) (hts _ (zs_inst X hX))
      exact ⟨(a, b), fun _ => h⟩
    · obtain ⟨a, b, h⟩ := u_known hts0 (fx_lay 0 (by decide)) (hts _ (zs_inst 0 (by decide)))
      exact ⟨(a, b), fun z => absurd z hX⟩
  obtain ⟨f, hf⟩ := Classical.axiomOfChoice h
  refine ⟨(fun c => (f c).1, fun c => (f c).2), fun c q hq => ?_⟩
  have hc : c < 8 := (List.getElem?_eq_some_iff.mp hq).1
  rw [fx_vw c hc] at hq
  cases hq
  exact hf c hc
theorem zs_K (hts0 : ∀ w ∈ fx_T0, w.before A s = true) (hts : ∀ w ∈ lw_tbl, w.before A s = true) : ∃ (D : va_G) (cy : Nat → ClassId), ke_K D cy s := by
  obtain ⟨D, hD⟩ := zs_known hts0 hts
  obtain ⟨c0, k0, p0, a0, b0, d0⟩ := Cond.arrayClass_spec (hts _ (zs_at 8 rfl))
  obtain ⟨c1, k1, p1, a1, b1, d1⟩ := Cond.arrayClass_spec (hts _ (zs_at 9 rfl))
  obtain ⟨c6, k6, p6, a6, b6, d6⟩ := Cond.arrayClass_spec (hts _ (zs_at 10 rfl))
  have h2 : (Cond.arrayOver (.object "FactLines$Rule")).before A s = true := hts _ (zs_at 11 rfl)
  have h3 : (Cond.arrayOver (.object "FactLines$State")).before A s = true := hts _ (zs_at 12 rfl)
  obtain ⟨p2, c2, k2, e2, -, b2, d2, a2⟩ := Cond.arrayOver_spec h2
  obtain ⟨p3, c3, k3, e3, -, b3, d3, a3⟩ := Cond.arrayOver_spec h3
  obtain ⟨p4, c4, k4, e4, -, b4, d4, a4⟩ := arrayOverA_spec (hts _ (zs_at 13 rfl))
  have e5 : (FieldType.array .int).toString = "[" ++ FieldType.int.toString := by decide +kernel
  rw [e5] at e4
  have e : c0 = p4 := Option.some.inj (a0.symm.trans e4)
  refine ⟨D, fun i => fx_nth [c0, c1, c2, c3, c4, c4, c6] i c0, ⟨hD, fun k q hk => ?_⟩, fun w hw => ?_, ⟨va_AO.of h2, va_AO.of h3⟩, k4, b4, by show k4.kind = Kind.array c0 (.array .int); rw [e]; exact d4⟩
  · match k, hk with
    | 0, hk => cases hk; exact ⟨fun n z => ⟨fun k h => (by cases h), k0, b0, p0, d0⟩, a0⟩
    | 1, hk => cases hk; exact ⟨fun n z => ⟨fun k h => (by cases h), k1, b1, p1, d1⟩, a1⟩
    | 2, hk => cases hk; exact ⟨fun n z => ⟨fun k h => (by cases h), k2, b2, p2, d2⟩, k2, p2, b2, d2, e2, a2⟩
    | 3, hk => cases hk; exact ⟨fun n z => ⟨fun k h => (by cases h), k3, b3, p3, d3⟩, k3, p3, b3, d3, e3, a3⟩
    | 4, hk => cases hk; exact ⟨fun n z => ⟨fun k h => (by cases h), k4, b4, p4, d4⟩, a4⟩
    | 5, hk => cases hk; exact ⟨fun n z => ⟨fun k h => (by cases h), k6, b6, p6, d6⟩, a6⟩
    | k + 6, hk => simp [fx_tys] at hk
  · simp only [ke_nw, List.mem_cons, List.not_mem_nil, or_false] at hw
    rcases hw with rfl | rfl | rfl | rfl | rfl
    · exact hts _ (zs_at 14 rfl)
    · exact hts _ (zs_at 15 rfl)
    · exact hts _ (zs_at 16 rfl)
    · exact hts _ (zs_at 17 rfl)
    · exact hts _ (zs_at 18 rfl)
theorem zs_OF2 {o n d : String} {a q1 q2 : Nat} {Z : Nat → Prop} {H : Heap} (h1 : va_OF o n d (.ref q1) a Z s H) (h2 : va_OF o n d (.ref q2) a Z s H) : q1 = q2 := by
  obtain ⟨cf, k, i, f, cell, x1, x2, x3, x4, x5, x6⟩ := h1
  obtain ⟨cf', k', i', f', cell', y1, y2, y3, y4, y5, y6⟩ := h2
  have e1 := x1.symm.trans y1
  have e2 : f = f' := by
    have := Option.some.inj e1
    simp only [Prod.mk.injEq] at this
    exact this.2.2.2
  subst e2
  have e3 : cell = cell' := Option.some.inj (x3.symm.trans y3)
  subst e3
  have e4 := Option.some.inj (x5.symm.trans y5)
  cases e4
  rfl
theorem zs_ofN {a b : Nat} (ha : a < 100) (hb : b < 100) (h : Int32.ofNat a = Int32.ofNat b) : a = b := by
  rw [jc_ofN a ha, jc_ofN b hb] at h
  have h1 := congrArg Int32.toInt h
  rw [fx_toI ⟨by omega, by omega⟩, fx_toI ⟨by omega, by omega⟩] at h1
  omega
/-- the texts -/
theorem zs_str {Z : Nat → Prop} (hF : ∀ w ∈ zs_F, w.before A s = true) (hA : ∀ a : Nat, a < s.heap.size → ¬ Z a) : ∃ adK adV : Nat → Nat, vk_S 17 fx_len0 fx_byt0 adK adV Z s s.heap ∧ ∀ i : Nat, i < 17 → (zs_tm i).eval A s none [] s = some (.ref (adK i)) := by
  have hw : ∀ q ∈ zs_ix, (zs_f q).before A s = true := fun q hq => hF _ (zs_f_in q hq)
  have h0 : ∀ i : Nat, ∃ q : Nat × Nat, i < 17 → (zs_tm i).eval A s none [] s = some (.ref q.1) ∧ va_O "java/lang/String" q.1 Z s s.heap ∧ va_OF "java/lang/String" "coder" "B" (.int 0) q.1 Z s s.heap ∧ va_OF "java/lang/String" "value" "[B" (.ref q.2) q.1 Z s s.heap ∧ va_T .byte q.2 (fx_len0.getD i 0) (fun j => .int ((fx_byt0.getD i []).getD j 0)) Z s s.heap := by
    intro i
    by_cases hi : i < 17
    · obtain ⟨⟨g0, g1, g2, g3, -, -⟩, g4⟩ := zs_ix_in i hi
      obtain ⟨a, c, cA, kA, q1, q2, q3, q4, q5, q6, -⟩ := Cond.exactly_spec (args := A) (first := s) (o := none) (s := s) (idx := []) (t := zs_tm i) (cls := "java/lang/String") (hw _ g0)
      obtain ⟨t, ht, hT⟩ := va_Tof (f := fun j => .int ((fx_byt0.getD i []).getD j 0)) (A := Z) (Nat.lt_of_lt_of_le (zs_len i hi) (by decide)) (hw _ g2) (va_eqt (hw _ g3)) (fun j hj => va_eqt (hw _ (g4 j hj))) hA
      exact ⟨(a, t), fun _ => ⟨q1, ⟨cA, q3, q5, by rw [q6]; exact q2, hA a (Array.getElem?_eq_some_iff.mp q3).1⟩, vk_OFof q1 (va_eqt (hw _ g1)) hA, vk_OFof q1 ht hA, hT⟩⟩
    · exact ⟨(0, 0), fun h => absurd h hi⟩
  obtain ⟨ad, had⟩ := Classical.axiomOfChoice h0
  refine ⟨fun i => (ad i).1, fun i => (ad i).2, ⟨fun i hi => (had i hi).2, fun i j hi hj e => ?_⟩, fun i hi => (had i hi).1⟩
  obtain ⟨-, -, -, i1, i2⟩ := had i hi
  obtain ⟨-, -, -, j1, j2⟩ := had j hj
  have e : (ad i).1 = (ad j).1 := e
  rw [e] at i1
  have e2 := zs_OF2 i1 j1
  rw [e2] at i2
  obtain ⟨cell, x1, -, -, -, x4, x5, -⟩ := i2
  obtain ⟨cell', y1, -, -, -, y4, y5, -⟩ := j2
  have e3 : cell = cell' := Option.some.inj (x1.symm.trans y1)
  subst e3
  have e4 := zs_ofN (zs_len i hi) (zs_len j hj) (x4.symm.trans y4)
  refine zs_apart i hi j hj e4 (fun k hk => ?_)
  have e5 := Option.some.inj ((x5 k hk).symm.trans (y5 k (by omega)))
  exact Value.int.inj e5
theorem zs_eq2 {t u : Term} {a c : Nat} (h : (Cond.eq t u).before A s = true) (ht : t.eval A s none [] s = some (.ref a)) (hu : u.eval A s none [] s = some (.ref c)) : c = a := by
  simp [Cond.before, Cond.holds, Cond.value, ht, hu] at h
  exact h.symm
theorem zs_ex : ∀ E ∈ fx_exn, ∃ i, i < 4 ∧ E = fx_ex i := by
  intro E h
  simp only [fx_exn, List.mem_cons, List.not_mem_nil, or_false] at h
  rcases h with rfl | rfl | rfl | rfl
  · exact ⟨0, by decide, rfl⟩
  · exact ⟨1, by decide, rfl⟩
  · exact ⟨2, by decide, rfl⟩
  · exact ⟨3, by decide, rfl⟩
theorem zs_cp_ck : ∀ i, i < 4 → ∀ j, j < 4 → i ≠ j → zs_cp.any (fun q => Nat.beq q.1 i && Nat.beq q.2 j) = true := by decide +kernel
theorem zs_cp_all (i : Nat) (hi : i < 4) (j : Nat) (hj : j < 4) (h : i ≠ j) : (i, j) ∈ zs_cp := by
  obtain ⟨⟨x, y⟩, h1, h2⟩ := List.any_eq_true.mp (zs_cp_ck i hi j hj h)
  simp only [Bool.and_eq_true] at h2
  have e1 := Nat.eq_of_beq_eq_true h2.1
  have e2 := Nat.eq_of_beq_eq_true h2.2
  subst e1
  subst e2
  exact h1
/-- all that stays, at the entry -/
theorem zs_Zf {D : va_G} {cy : Nat → ClassId} {b L : Nat} {xs : Nat → Int32} (hts : ∀ w ∈ lw_tbl, w.before A s = true) (hF : ∀ w ∈ zs_F, w.before A s = true) (hK : ke_K D cy s) (hX : va_X b L xs s s.heap) (hbl : b < s.heap.size) : ∃ str : Nat → Nat, ∀ ad : Nat → Nat → Nat, (∀ i, ad 62 i = str i) → ad 9 0 = b → fx_Zf ad cy D L xs (fun q => s.heap.size ≤ q) s s.heap := by
  have hA : ∀ a : Nat, a < s.heap.size → ¬ (fun q => s.heap.size ≤ q) a := fun a h => Nat.not_le.mpr h
  have hw : ∀ q ∈ zs_ix, (zs_f q).before A s = true := fun q hq => hF _ (zs_f_in q hq)
  obtain ⟨adK, adV, hS, hE⟩ := zs_str (Z := fun q => s.heap.size ≤ q) hF hA
  refine ⟨adK, fun ad h62 h9 => ?_⟩
  have e62 : ad 62 = adK := funext h62
  refine ⟨hK.1, fun q hq => ?_, vx_Zqof (hts _ (zs_at 24 rfl)) (hts _ (zs_at 28 rfl)) (hF _ (zs_mt 2 rfl)) hA, vx_Zqof (hts _ (zs_at 25 rfl)) (hts _ (zs_at 28 rfl)) (hF _ (zs_mt 3 rfl)) hA, ⟨adV, by rw [e62]; exact hS⟩, ⟨fun th hth => ?_, fun y hy => ?_⟩, fun q hq => hts _ (fx_nwl_in q hq), fun E hE => hts _ (fx_cast E hE), fun E hE F hF' hne => ?_, va_Zof (hts _ (zs_at 22 rfl)) (hts _ (zs_at 26 rfl)) (va_eqt (hF _ (zs_mt 0 rfl))) hA, va_Zqof (hts _ (zs_at 23 rfl)) (hts _ (zs_at 27 rfl)) (hF _ (zs_mt 1 rfl)) hA, by rw [h9]; exact hX, by rw [h9]; exact hbl, by rw [h9]; exact hA b hbl⟩
  · rw [e62]
    refine vk_R.of (hts _ (fx_swl_in q hq)) ?_
    obtain ⟨c, k, i⟩ := q
    rcases zs_swl _ hq with ⟨h1, h2, h3⟩ | ⟨h1, h2, h3⟩
    · simp only at h1 h2 h3
      subst h1
      subst h2
      exact hE i h3
    · simp only at h1 h2 h3
      subst h1
      subst h2
      obtain ⟨⟨-, -, -, -, g5, g6⟩, -⟩ := zs_ix_in i h3
      obtain ⟨a, cc, cA, kA, q1, -⟩ := Cond.exactly_spec (args := A) (first := s) (o := none) (s := s) (idx := []) (t := zs_t7 i) (cls := "java/lang/String") (hw _ g6)
      have e := zs_eq2 (hw _ g5) (hE i h3) q1
      rw [e] at q1
      exact q1
  · obtain ⟨a, cc, cA, kA, q1, -⟩ := Cond.exactly_spec (args := A) (first := s) (o := none) (s := s) (idx := []) (t := .string th.1 th.2.2.1) (cls := "java/lang/String") (hF _ (zs_th th hth))
    exact ⟨a, vk_R.of (hts _ (zs_thw th hth)) q1⟩
  · simp only [fx_dcl, List.mem_cons, List.not_mem_nil, or_false] at hy
    rcases hy with rfl | rfl | rfl
    · exact hts _ (zs_at 19 rfl)
    · exact hts _ (zs_at 20 rfl)
    · exact hts _ (zs_at 21 rfl)
  · obtain ⟨i, hi, rfl⟩ := zs_ex E hE
    obtain ⟨j, hj, rfl⟩ := zs_ex F hF'
    have hij : i ≠ j := fun z => hne (by rw [z])
    exact va_Nc.of (hF _ (zs_cp_in _ (zs_cp_all i hi j hj hij)))
end ZS
