/-! ===== String.length and charAt, over the machine (its words printed by program) ===== -/
noncomputable def jc_ws : List Cond := [.code yJ0_coder_7d493 cJ0_coder_7d493 1 (some .byte), .code yJ0_isLatin1_aae02 cJ0_isLatin1_aae02 1 (some .boolean), .code yJ0_checkIndex_df160 cJ0_checkIndex_df160 2 none, .code yJ1_charAt_3b067 cJ1_charAt_3b067 2 (some .char), .code yJ3_checkIndex_8e157 cJ3_checkIndex_8e157 3 (some .int), .methodLink RJ0 335 yJ0_coder_7d493, .instanceMethod yJ0_coder_7d493, .selects RJ0 yJ0_coder_7d493 yJ0_coder_7d493, .methodLink RJ0 492 yJ0_isLatin1_aae02, .instanceMethod yJ0_isLatin1_aae02, .selects RJ0 yJ0_isLatin1_aae02 yJ0_isLatin1_aae02, .methodLink RJ0 495 yJ1_charAt_3b067, .static yJ1_charAt_3b067, .methodLink RJ1 9 yJ0_checkIndex_df160, .static yJ0_checkIndex_df160, .methodLink RJ0 1059 yJ3_checkIndex_8e157, .static yJ3_checkIndex_8e157, .initialized RJ0, .initialized RJ1, .initialized RJ3, .fieldLink RJ0 9 "java/lang/String" "value" "[B", .fieldLink RJ0 38 "java/lang/String" "COMPACT_STRINGS" "Z", .fieldLink RJ0 15 "java/lang/String" "coder" "B", .fieldLink RJ0 1053 "jdk/internal/util/Preconditions" "SIOOBE_FORMATTER" "Ljava/util/function/BiFunction;"]
theorem jc_in : ∀ w ∈ jc_ws, w ∈ lw_tbl := fx_mem (f := fun w : Cond => w) [(3, 16), (3, 26), (3, 32), (3, 29), (3, 37), (3, 13), (3, 14), (3, 15), (3, 23), (3, 24), (3, 25), (3, 27), (3, 28), (3, 30), (3, 31), (3, 35), (3, 36), (1, 9), (1, 10), (1, 11), (8, 106), (3, 17), (8, 107), (3, 33)] rfl
theorem jc_good : ∀ w ∈ jc_ws, goodWord w = true := by decide +kernel
theorem jc_at {w : Cond} (i : Nat) (h : jc_ws[i]? = some w) : w ∈ fx_T0 := fx_T0_in (jc_in w (List.mem_of_getElem? h)) (jc_good w (List.mem_of_getElem? h))
theorem dJ0_length_8abf5_0 : decode cJ0_length_8abf5 0 = .ok (.aload_n 0, 1) := by decide +kernel
theorem dJ0_length_8abf5_1 : decode cJ0_length_8abf5 1 = .ok (.getfield 9, 3) := by decide +kernel
theorem dJ0_length_8abf5_4 : decode cJ0_length_8abf5 4 = .ok (.arraylength, 1) := by decide +kernel
theorem dJ0_length_8abf5_5 : decode cJ0_length_8abf5 5 = .ok (.aload_n 0, 1) := by decide +kernel
theorem dJ0_length_8abf5_6 : decode cJ0_length_8abf5 6 = .ok (.invokevirtual 335, 3) := by decide +kernel
theorem dJ0_length_8abf5_9 : decode cJ0_length_8abf5 9 = .ok (.ishr, 1) := by decide +kernel
theorem dJ0_length_8abf5_10 : decode cJ0_length_8abf5 10 = .ok (.ireturn, 1) := by decide +kernel
theorem dJ0_charAt_5068e_0 : decode cJ0_charAt_5068e 0 = .ok (.aload_n 0, 1) := by decide +kernel
theorem dJ0_charAt_5068e_1 : decode cJ0_charAt_5068e 1 = .ok (.invokevirtual 492, 3) := by decide +kernel
theorem dJ0_charAt_5068e_4 : decode cJ0_charAt_5068e 4 = .ok (.ifCond .eq 12, 3) := by decide +kernel
theorem dJ0_charAt_5068e_7 : decode cJ0_charAt_5068e 7 = .ok (.aload_n 0, 1) := by decide +kernel
theorem dJ0_charAt_5068e_8 : decode cJ0_charAt_5068e 8 = .ok (.getfield 9, 3) := by decide +kernel
theorem dJ0_charAt_5068e_11 : decode cJ0_charAt_5068e 11 = .ok (.iload_n 1, 1) := by decide +kernel
theorem dJ0_charAt_5068e_12 : decode cJ0_charAt_5068e 12 = .ok (.invokestatic 495, 3) := by decide +kernel
theorem dJ0_charAt_5068e_15 : decode cJ0_charAt_5068e 15 = .ok (.ireturn, 1) := by decide +kernel
theorem dJ0_charAt_5068e_16 : decode cJ0_charAt_5068e 16 = .ok (.aload_n 0, 1) := by decide +kernel
theorem dJ0_charAt_5068e_17 : decode cJ0_charAt_5068e 17 = .ok (.getfield 9, 3) := by decide +kernel
theorem dJ0_charAt_5068e_20 : decode cJ0_charAt_5068e 20 = .ok (.iload_n 1, 1) := by decide +kernel
theorem dJ0_charAt_5068e_21 : decode cJ0_charAt_5068e 21 = .ok (.invokestatic 498, 3) := by decide +kernel
theorem dJ0_charAt_5068e_24 : decode cJ0_charAt_5068e 24 = .ok (.ireturn, 1) := by decide +kernel
theorem dJ0_coder_7d493_0 : decode cJ0_coder_7d493 0 = .ok (.getstatic 38, 3) := by decide +kernel
theorem dJ0_coder_7d493_3 : decode cJ0_coder_7d493 3 = .ok (.ifCond .eq 10, 3) := by decide +kernel
theorem dJ0_coder_7d493_6 : decode cJ0_coder_7d493 6 = .ok (.aload_n 0, 1) := by decide +kernel
theorem dJ0_coder_7d493_7 : decode cJ0_coder_7d493 7 = .ok (.getfield 15, 3) := by decide +kernel
theorem dJ0_coder_7d493_10 : decode cJ0_coder_7d493 10 = .ok (.goto 4, 3) := by decide +kernel
theorem dJ0_coder_7d493_13 : decode cJ0_coder_7d493 13 = .ok (.iconst 1, 1) := by decide +kernel
theorem dJ0_coder_7d493_14 : decode cJ0_coder_7d493 14 = .ok (.ireturn, 1) := by decide +kernel
theorem dJ0_isLatin1_aae02_0 : decode cJ0_isLatin1_aae02 0 = .ok (.getstatic 38, 3) := by decide +kernel
theorem dJ0_isLatin1_aae02_3 : decode cJ0_isLatin1_aae02 3 = .ok (.ifCond .eq 14, 3) := by decide +kernel
theorem dJ0_isLatin1_aae02_6 : decode cJ0_isLatin1_aae02 6 = .ok (.aload_n 0, 1) := by decide +kernel
theorem dJ0_isLatin1_aae02_7 : decode cJ0_isLatin1_aae02 7 = .ok (.getfield 15, 3) := by decide +kernel
theorem dJ0_isLatin1_aae02_10 : decode cJ0_isLatin1_aae02 10 = .ok (.ifCond .ne 7, 3) := by decide +kernel
theorem dJ0_isLatin1_aae02_13 : decode cJ0_isLatin1_aae02 13 = .ok (.iconst 1, 1) := by decide +kernel
theorem dJ0_isLatin1_aae02_14 : decode cJ0_isLatin1_aae02 14 = .ok (.goto 4, 3) := by decide +kernel
theorem dJ0_isLatin1_aae02_17 : decode cJ0_isLatin1_aae02 17 = .ok (.iconst 0, 1) := by decide +kernel
theorem dJ0_isLatin1_aae02_18 : decode cJ0_isLatin1_aae02 18 = .ok (.ireturn, 1) := by decide +kernel
theorem dJ0_checkIndex_df160_0 : decode cJ0_checkIndex_df160 0 = .ok (.iload_n 0, 1) := by decide +kernel
theorem dJ0_checkIndex_df160_1 : decode cJ0_checkIndex_df160 1 = .ok (.iload_n 1, 1) := by decide +kernel
theorem dJ0_checkIndex_df160_2 : decode cJ0_checkIndex_df160 2 = .ok (.getstatic 1053, 3) := by decide +kernel
theorem dJ0_checkIndex_df160_5 : decode cJ0_checkIndex_df160 5 = .ok (.invokestatic 1059, 3) := by decide +kernel
theorem dJ0_checkIndex_df160_8 : decode cJ0_checkIndex_df160 8 = .ok (.pop, 1) := by decide +kernel
theorem dJ0_checkIndex_df160_9 : decode cJ0_checkIndex_df160 9 = .ok (.return_, 1) := by decide +kernel
theorem dJ1_charAt_3b067_0 : decode cJ1_charAt_3b067 0 = .ok (.iload_n 1, 1) := by decide +kernel
theorem dJ1_charAt_3b067_1 : decode cJ1_charAt_3b067 1 = .ok (.aload_n 0, 1) := by decide +kernel
theorem dJ1_charAt_3b067_2 : decode cJ1_charAt_3b067 2 = .ok (.arraylength, 1) := by decide +kernel
theorem dJ1_charAt_3b067_3 : decode cJ1_charAt_3b067 3 = .ok (.invokestatic 9, 3) := by decide +kernel
theorem dJ1_charAt_3b067_6 : decode cJ1_charAt_3b067 6 = .ok (.aload_n 0, 1) := by decide +kernel
theorem dJ1_charAt_3b067_7 : decode cJ1_charAt_3b067 7 = .ok (.iload_n 1, 1) := by decide +kernel
theorem dJ1_charAt_3b067_8 : decode cJ1_charAt_3b067 8 = .ok (.baload, 1) := by decide +kernel
theorem dJ1_charAt_3b067_9 : decode cJ1_charAt_3b067 9 = .ok (.sipush 255, 3) := by decide +kernel
theorem dJ1_charAt_3b067_12 : decode cJ1_charAt_3b067 12 = .ok (.iand, 1) := by decide +kernel
theorem dJ1_charAt_3b067_13 : decode cJ1_charAt_3b067 13 = .ok (.i2c, 1) := by decide +kernel
theorem dJ1_charAt_3b067_14 : decode cJ1_charAt_3b067 14 = .ok (.ireturn, 1) := by decide +kernel
theorem dJ3_checkIndex_8e157_0 : decode cJ3_checkIndex_8e157 0 = .ok (.iload_n 0, 1) := by decide +kernel
theorem dJ3_checkIndex_8e157_1 : decode cJ3_checkIndex_8e157 1 = .ok (.ifCond .lt 8, 3) := by decide +kernel
theorem dJ3_checkIndex_8e157_4 : decode cJ3_checkIndex_8e157 4 = .ok (.iload_n 0, 1) := by decide +kernel
theorem dJ3_checkIndex_8e157_5 : decode cJ3_checkIndex_8e157 5 = .ok (.iload_n 1, 1) := by decide +kernel
theorem dJ3_checkIndex_8e157_6 : decode cJ3_checkIndex_8e157 6 = .ok (.if_icmp .lt 10, 3) := by decide +kernel
theorem dJ3_checkIndex_8e157_9 : decode cJ3_checkIndex_8e157 9 = .ok (.aload_n 2, 1) := by decide +kernel
theorem dJ3_checkIndex_8e157_10 : decode cJ3_checkIndex_8e157 10 = .ok (.iload_n 0, 1) := by decide +kernel
theorem dJ3_checkIndex_8e157_11 : decode cJ3_checkIndex_8e157 11 = .ok (.iload_n 1, 1) := by decide +kernel
theorem dJ3_checkIndex_8e157_12 : decode cJ3_checkIndex_8e157 12 = .ok (.invokestatic 95, 3) := by decide +kernel
theorem dJ3_checkIndex_8e157_15 : decode cJ3_checkIndex_8e157 15 = .ok (.athrow, 1) := by decide +kernel
theorem dJ3_checkIndex_8e157_16 : decode cJ3_checkIndex_8e157 16 = .ok (.iload_n 0, 1) := by decide +kernel
theorem dJ3_checkIndex_8e157_17 : decode cJ3_checkIndex_8e157 17 = .ok (.ireturn, 1) := by decide +kernel
theorem jc_gV {own C : String} {idx : Nat} {y : MethodName} {cd : Cond} (h1 : Cond.methodLink own idx y ∈ fx_T0) (h2 : Cond.instanceMethod y ∈ fx_T0) (h3 : Cond.selects C y y ∈ fx_T0) (h4 : Cond.initialized C ∈ fx_T0) (h5 : cd ∈ fx_T0) : GoodIn fx_T0 (wsV own idx C y (cd :: fx_T0)) := by
  intro w hw
  refine fx_T0_good w ?_
  unfold wsV at hw
  simp only [List.mem_append, List.mem_cons, List.not_mem_nil, or_false] at hw
  rcases hw with (rfl | rfl | rfl | rfl) | rfl | hw
  · exact h1
  · exact h2
  · exact h3
  · exact h4
  · exact h5
  · exact hw
theorem jc_gS {own : String} {idx : Nat} {y : MethodName} {cd : Cond} (h1 : Cond.methodLink own idx y ∈ fx_T0) (h2 : Cond.static y ∈ fx_T0) (h3 : Cond.initialized y.cls ∈ fx_T0) (h5 : cd ∈ fx_T0) : GoodIn fx_T0 (va_wsS own idx y (cd :: fx_T0)) := by
  intro w hw
  refine fx_T0_good w ?_
  unfold va_wsS at hw
  simp only [List.mem_append, List.mem_cons, List.not_mem_nil, or_false] at hw
  rcases hw with (rfl | rfl | rfl) | rfl | hw
  · exact h1
  · exact h2
  · exact h3
  · exact h5
  · exact hw
theorem jc_nth {α β : Type} (f : α → β) (d : α) : ∀ (l : List α) (n : Nat), (l.map f).getD n (f d) = f (fx_nth l n d)
  | [], n => by simp [fx_nth]
  | a :: l, 0 => by simp [fx_nth]
  | a :: l, n + 1 => by
    have := jc_nth f d l n
    simpa [fx_nth] using this
theorem jc_len (i : Nat) : fx_len0.getD i 0 = (fx_nth fx_tx i []).length := jc_nth List.length [] fx_tx i
theorem jc_byt (i k : Nat) : (fx_byt0.getD i []).getD k 0 = Int32.ofInt (fx_nth (fx_nth fx_tx i []) k 0) := by
  have h1 : fx_byt0.getD i [] = (fx_nth fx_tx i []).map Int32.ofInt := jc_nth (fun l : List Int => l.map Int32.ofInt) [] fx_tx i
  rw [h1]
  exact jc_nth Int32.ofInt 0 _ k
theorem jc_ofN : ∀ n : Nat, n < 100 → Int32.ofNat n = Int32.ofInt (n : Int) := by decide +kernel
theorem jc_ch : ∀ n : Nat, n < 256 → ((Int32.ofInt (n : Int) &&& 255).toUInt32 % 65536).toInt32 = Int32.ofInt (n : Int) ∧ narrow .char (.int (Int32.ofInt (n : Int))) = .int (Int32.ofInt (n : Int)) := by decide +kernel
section JC
variable (l : Launch) (sz : Nat)
/-- the index is in its bounds: it comes back -/
theorem jc_J3 (i n : Int32) (f : Value) (hf : f = .null ∨ ∃ t, f = .ref t) (h0 : ¬ i < 0) (h1 : i < n) : Met l yJ3_checkIndex_8e157 (.code yJ3_checkIndex_8e157 cJ3_checkIndex_8e157 3 (some .int) :: fx_T0) ({ frames := 0, cells := 0, slots := 0, locals := 0 }) (va_Pc [.int i, .int n, f] (fun U => U.heap.size = sz)) (va_Qi (fun (r : Int32) (_ : Unit) => r = i) (fun _ _ => True) (fun q => sz ≤ q)) 0 0 (fun q => sz ≤ q) := by
  refine Met.ofW (cc := cJ3_checkIndex_8e157) (maxL := 3) (ret := some .int) (by decide) rfl ?_
  intro p e s m args below meth c s₁ B hml hv
  obtain ⟨rfl, hsz⟩ := hv
  have hx := B.exec
  have hb := B.bytes
  have hr := B.returns
  have hlocks := B.notSynchronized
  subst hsz
  have hS : va_S (fun q => s.heap.size ≤ q) s.heap s.heap [] := va_S.rf
  have core : ∀ ls : Array Slot, lv_has ls 3 [(0, .int i), (1, .int n)] → ∀ aa : Array Value, W p l e (headSpec (.code yJ3_checkIndex_8e157 cJ3_checkIndex_8e157 3 (some .int) :: fx_T0) ({ frames := 0, cells := 0, slots := 0, locals := 0 } : Room)).room s m aa below meth c s.heap [] 0 0 (MQ below (va_Qi (fun (r : Int32) (_ : Unit) => r = i) (fun _ _ => True) (fun q => s.heap.size ≤ q)) aa s 0 0 (fun q => s.heap.size ≤ q)) (F0 m 0 ls []) := by
    intro ls hl aa
    refine lv_iload_n hx hb dJ3_checkIndex_8e157_0 rfl (lv_at hl 0 rfl) ?_
    refine lv_if_lt (tgt := 9) hx hb dJ3_checkIndex_8e157_1 (by decide) (fun h => absurd h h0) (fun _ => ?_)
    refine lv_iload_n hx hb dJ3_checkIndex_8e157_4 rfl (lv_at hl 0 rfl) ?_
    refine lv_iload_n hx hb dJ3_checkIndex_8e157_5 rfl (lv_at hl 1 rfl) ?_
    refine lv_icmp_lt (tgt := 16) hx hb dJ3_checkIndex_8e157_6 (by decide) (fun _ => ?_) (fun h => absurd h1 h)
    refine lv_iload_n hx hb dJ3_checkIndex_8e157_16 rfl (lv_at hl 0 rfl) ?_
    exact W.iret (v := i) hx hb hr (fun t ht hW => ⟨⟨i, (), rfl, rfl, trivial⟩, hS.F ht⟩) hS.2.2 dJ3_checkIndex_8e157_17
  rw [lg_entry_eq]
  rcases hf with rfl | ⟨t, rfl⟩
  · have hl := lv_entry ([.int i, .int n, .null]) (n := 3) (Nat.le_of_ble_eq_true rfl)
    generalize (lg_sl ([.int i, .int n, .null]) ++ List.replicate (3 - (lg_sl ([.int i, .int n, .null])).length) Slot.unset).toArray = ls at hl ⊢
    have hl : lv_has ls 3 [(0, .int i), (1, .int n), (2, .null)] := hl
    exact core ls (lv_sub hl [0, 1] rfl) _
  · have hl := lv_entry ([.int i, .int n, .ref t]) (n := 3) (Nat.le_of_ble_eq_true rfl)
    generalize (lg_sl ([.int i, .int n, .ref t]) ++ List.replicate (3 - (lg_sl ([.int i, .int n, .ref t])).length) Slot.unset).toArray = ls at hl ⊢
    have hl : lv_has ls 3 [(0, .int i), (1, .int n), (2, .ref t)] := hl
    exact core ls (lv_sub hl [0, 1] rfl) _
theorem jc_J0c (i n : Int32) (h0 : ¬ i < 0) (h1 : i < n) : Met l yJ0_checkIndex_df160 (.code yJ0_checkIndex_df160 cJ0_checkIndex_df160 2 none :: fx_T0) ({ frames := 1, cells := 0, slots := 0, locals := 22 }) (va_Pc [.int i, .int n] (fun U => U.heap.size = sz ∧ va_Zq "jdk/internal/util/Preconditions" "SIOOBE_FORMATTER" "Ljava/util/function/BiFunction;" (fun q => sz ≤ q) U U.heap)) (va_Qv (fun (_ : Unit) => True) (fun _ _ => True) (fun q => sz ≤ q)) 0 0 (fun q => sz ≤ q) := by
  refine Met.ofW (cc := cJ0_checkIndex_df160) (maxL := 2) (ret := none) (by decide) rfl ?_
  intro p e s m args below meth c s₁ B hml hv
  obtain ⟨rfl, hsz, hZ⟩ := hv
  have hx := B.exec
  have hb := B.bytes
  have hr := B.returns
  have hlocks := B.notSynchronized
  have hts0 := atoms_spec (ws := .code yJ0_checkIndex_df160 cJ0_checkIndex_df160 2 none :: fx_T0) B.pre
  have hts : ∀ w ∈ fx_T0, w.before #[.int i, .int n] s = true := fun w h => hts0 w (List.mem_cons_of_mem _ h)
  have hown : s.vm.findClass RJ0 = some m.cls := findClass_of_methodNamed B.named
  subst hsz
  have hS : va_S (fun q => s.heap.size ≤ q) s.heap s.heap [] := va_S.rf
  have hl := lv_entry ([.int i, .int n]) (n := 2) (Nat.le_of_ble_eq_true rfl)
  rw [lg_entry_eq]
  generalize (lg_sl ([.int i, .int n]) ++ List.replicate (2 - (lg_sl ([.int i, .int n])).length) Slot.unset).toArray = ls at hl ⊢
  have hl : lv_has ls 2 [(0, .int i), (1, .int n)] := hl
  refine lv_iload_n hx hb dJ0_checkIndex_df160_0 rfl (lv_at hl 0 rfl) ?_
  refine lv_iload_n hx hb dJ0_checkIndex_df160_1 rfl (lv_at hl 1 rfl) ?_
  have fin : ∀ f : Value, (f = .null ∨ ∃ t, f = .ref t) → va_Z "jdk/internal/util/Preconditions" "SIOOBE_FORMATTER" "Ljava/util/function/BiFunction;" f (fun q => s.heap.size ≤ q) s s.heap → W p l e (headSpec (.code yJ0_checkIndex_df160 cJ0_checkIndex_df160 2 none :: fx_T0) ({ frames := 1, cells := 0, slots := 0, locals := 22 } : Room)).room s m #[.int i, .int n] below meth c s.heap [] 0 0 (MQ below (va_Qv (fun (_ : Unit) => True) (fun _ _ => True) (fun q => s.heap.size ≤ q)) #[.int i, .int n] s 0 0 (fun q => s.heap.size ≤ q)) (F0 m 2 ls [.int n, .int i]) := by
    intro f hf hZ
    refine va_gets hx hb hZ hS hown (hts _ (jc_at 23 rfl)) (fun _ h9 => h9) dJ0_checkIndex_df160_2 ?_
    refine va_calli (va_runS (As := [.int i, .int n, f]) (rest := []) ⟨hx, hb, hml, hown, hts⟩ (jc_J3 l s.heap.size i n f hf h0 h1) (va_cwS 3 hts (jc_gS (jc_at 15 rfl) (jc_at 16 rfl) (jc_at 19 rfl) (jc_at 4 rfl)) rfl rfl rfl (by decide +kernel) ⟨Nat.le_of_ble_eq_true rfl, Nat.le_of_ble_eq_true rfl⟩) ⟨fun a U g mk q => ⟨q.1, q.2⟩, fun U hU hW => ⟨rfl, by show U.heap.size = s.heap.size; rw [hU]⟩⟩ rfl rfl hl.1 rfl (lv_room (Nat.le_of_ble_eq_true rfl)) dJ0_checkIndex_df160_5 ⟨Nat.zero_le _, Nat.zero_le _⟩) hS (fun q _ h => h) (fun q h => h) (fun r u t H1 locs1 ht hvm hw hB hz1 hk1 hS1 => ?_)
    refine lv_pop hx hb dJ0_checkIndex_df160_8 rfl ?_
    exact W.vret hx hb hr (fun t ht hW => ⟨⟨(), rfl, trivial, trivial⟩, hS1.F ht⟩) hS1.2.2 dJ0_checkIndex_df160_9
  rcases hZ with hZ | ⟨t, hZ⟩
  · exact fin _ (Or.inl rfl) hZ
  · exact fin _ (Or.inr ⟨t, rfl⟩) hZ
theorem jc_J1 (t N : Nat) (f : Nat → Value) (i b v : Int32) (h0 : ¬ i < 0) (h1 : i < Int32.ofNat N) (hin : vp_in i N) (hf : f i.toNatClampNeg = .int b) (hv1 : ((b &&& 255).toUInt32 % 65536).toInt32 = v) (hv2 : narrow .char (.int v) = .int v) : Met l yJ1_charAt_3b067 (.code yJ1_charAt_3b067 cJ1_charAt_3b067 2 (some .char) :: fx_T0) ({ frames := 2, cells := 0, slots := 0, locals := 43 }) (va_Pc [.ref t, .int i] (fun U => U.heap.size = sz ∧ va_T .byte t N f (fun q => sz ≤ q) U U.heap ∧ va_Zq "jdk/internal/util/Preconditions" "SIOOBE_FORMATTER" "Ljava/util/function/BiFunction;" (fun q => sz ≤ q) U U.heap)) (va_Qi (fun (r : Int32) (_ : Unit) => r = v) (fun _ _ => True) (fun q => sz ≤ q)) 0 0 (fun q => sz ≤ q) := by
  refine Met.ofW (cc := cJ1_charAt_3b067) (maxL := 2) (ret := some .char) (by decide) rfl ?_
  intro p e s m args below meth c s₁ B hml hv
  obtain ⟨rfl, hsz, hT, hZ⟩ := hv
  have hx := B.exec
  have hb := B.bytes
  have hr := B.returns
  have hlocks := B.notSynchronized
  have hts0 := atoms_spec (ws := .code yJ1_charAt_3b067 cJ1_charAt_3b067 2 (some .char) :: fx_T0) B.pre
  have hts : ∀ w ∈ fx_T0, w.before #[.ref t, .int i] s = true := fun w h => hts0 w (List.mem_cons_of_mem _ h)
  have hown : s.vm.findClass RJ1 = some m.cls := findClass_of_methodNamed B.named
  subst hsz
  have hS : va_S (fun q => s.heap.size ≤ q) s.heap s.heap [] := va_S.rf
  have hl := lv_entry ([.ref t, .int i]) (n := 2) (Nat.le_of_ble_eq_true rfl)
  rw [lg_entry_eq]
  generalize (lg_sl ([.ref t, .int i]) ++ List.replicate (2 - (lg_sl ([.ref t, .int i])).length) Slot.unset).toArray = ls at hl ⊢
  have hl : lv_has ls 2 [(0, .ref t), (1, .int i)] := hl
  refine lv_iload_n hx hb dJ1_charAt_3b067_0 rfl (lv_at hl 1 rfl) ?_
  refine lv_aload_n hx hb dJ1_charAt_3b067_1 rfl (lv_at hl 0 rfl) ?_
  refine va_tlen hx hb hT hS rfl dJ1_charAt_3b067_2 ?_
  refine va_callv (va_runS (As := [.int i, .int (Int32.ofNat N)]) (rest := []) ⟨hx, hb, hml, hown, hts⟩ (jc_J0c l s.heap.size i (Int32.ofNat N) h0 h1) (va_cwS 2 hts (jc_gS (jc_at 13 rfl) (jc_at 14 rfl) (jc_at 17 rfl) (jc_at 2 rfl)) rfl rfl rfl (by decide +kernel) ⟨Nat.le_of_ble_eq_true rfl, Nat.le_of_ble_eq_true rfl⟩) ⟨fun a U g mk q => ⟨q.1, q.2.1, va_Zq.moved (u := U) (U := U.calling g mk a) (Vm.Alike.refl U.vm) q.2.2⟩, fun U hU hW => ⟨rfl, by rw [hU], by rw [hU]; exact va_Zq.moved hW.alike hZ⟩⟩ rfl rfl hl.1 rfl (lv_room (Nat.le_of_ble_eq_true rfl)) dJ1_charAt_3b067_3 ⟨Nat.zero_le _, Nat.zero_le _⟩) hS (fun q _ h => h) (fun q h => h) (fun u t1 H1 locs1 ht hvm hw hB hz1 hk1 hS1 => ?_)
  refine lv_aload_n hx hb dJ1_charAt_3b067_6 rfl (lv_at hl 0 rfl) ?_
  refine lv_iload_n hx hb dJ1_charAt_3b067_7 rfl (lv_at hl 1 rfl) ?_
  refine va_tb hx hb hT hS1 hin hf dJ1_charAt_3b067_8 ?_
  refine lv_sipush (v := 255) hx hb dJ1_charAt_3b067_9 (by decide) ?_
  refine lv_iand hx hb dJ1_charAt_3b067_12 ?_
  refine lv_i2c hx hb dJ1_charAt_3b067_13 hv1 ?_
  exact W.zret (v := v) (ty := .char) hx hb hr hv2 (fun t ht hW => ⟨⟨v, (), rfl, rfl, trivial⟩, hS1.F ht⟩) hS1.2.2 dJ1_charAt_3b067_14
theorem jc_lat (q0 : Nat) : Met l yJ0_isLatin1_aae02 (.code yJ0_isLatin1_aae02 cJ0_isLatin1_aae02 1 (some .boolean) :: fx_T0) ({ frames := 0, cells := 0, slots := 0, locals := 0 }) (va_Pc [.ref q0] (fun U => U.heap.size = sz ∧ va_OF "java/lang/String" "coder" "B" (.int 0) q0 (fun q => sz ≤ q) U U.heap ∧ va_Z "java/lang/String" "COMPACT_STRINGS" "Z" (.int 1) (fun q => sz ≤ q) U U.heap)) (va_Qi (fun (r : Int32) (_ : Unit) => r = 1) (fun _ _ => True) (fun q => sz ≤ q)) 0 0 (fun q => sz ≤ q) := by
  refine Met.ofW (cc := cJ0_isLatin1_aae02) (maxL := 1) (ret := some .boolean) (by decide) rfl ?_
  intro p e s m args below meth c s₁ B hml hv
  obtain ⟨rfl, hsz, hC, hZ⟩ := hv
  have hx := B.exec
  have hb := B.bytes
  have hr := B.returns
  have hlocks := B.notSynchronized
  have hts0 := atoms_spec (ws := .code yJ0_isLatin1_aae02 cJ0_isLatin1_aae02 1 (some .boolean) :: fx_T0) B.pre
  have hts : ∀ w ∈ fx_T0, w.before #[.ref q0] s = true := fun w h => hts0 w (List.mem_cons_of_mem _ h)
  have hown : s.vm.findClass RJ0 = some m.cls := findClass_of_methodNamed B.named
  subst hsz
  have hS : va_S (fun q => s.heap.size ≤ q) s.heap s.heap [] := va_S.rf
  have hl := lv_entry ([.ref q0]) (n := 1) (Nat.le_of_ble_eq_true rfl)
  rw [lg_entry_eq]
  generalize (lg_sl ([.ref q0]) ++ List.replicate (1 - (lg_sl ([.ref q0])).length) Slot.unset).toArray = ls at hl ⊢
  have hl : lv_has ls 1 [(0, .ref q0)] := hl
  refine va_gets hx hb hZ hS hown (hts _ (jc_at 21 rfl)) (fun _ h9 => h9) dJ0_isLatin1_aae02_0 ?_
  refine lv_if_eq (tgt := 17) hx hb dJ0_isLatin1_aae02_3 (by decide) (fun h => absurd h (by decide)) (fun _ => ?_)
  refine lv_aload_n hx hb dJ0_isLatin1_aae02_6 rfl (lv_at hl 0 rfl) ?_
  refine vk_getf hx hb hC hS hown (hts _ (jc_at 22 rfl)) (fun _ h9 => h9) dJ0_isLatin1_aae02_7 ?_
  refine lv_if_ne (tgt := 17) hx hb dJ0_isLatin1_aae02_10 (by decide) (fun h => absurd rfl h) (fun _ => ?_)
  refine lv_iconst (v := 1) hx hb dJ0_isLatin1_aae02_13 (by decide) ?_
  refine lv_goto (tgt := 18) hx hb dJ0_isLatin1_aae02_14 (by decide) ?_
  exact W.zret (v := 1) (ty := .boolean) hx hb hr (by decide) (fun t ht hW => ⟨⟨1, (), rfl, rfl, trivial⟩, hS.F ht⟩) hS.2.2 dJ0_isLatin1_aae02_18
theorem jc_cod (q0 : Nat) : Met l yJ0_coder_7d493 (.code yJ0_coder_7d493 cJ0_coder_7d493 1 (some .byte) :: fx_T0) ({ frames := 0, cells := 0, slots := 0, locals := 0 }) (va_Pc [.ref q0] (fun U => U.heap.size = sz ∧ va_OF "java/lang/String" "coder" "B" (.int 0) q0 (fun q => sz ≤ q) U U.heap ∧ va_Z "java/lang/String" "COMPACT_STRINGS" "Z" (.int 1) (fun q => sz ≤ q) U U.heap)) (va_Qi (fun (r : Int32) (_ : Unit) => r = 0) (fun _ _ => True) (fun q => sz ≤ q)) 0 0 (fun q => sz ≤ q) := by
  refine Met.ofW (cc := cJ0_coder_7d493) (maxL := 1) (ret := some .byte) (by decide) rfl ?_
  intro p e s m args below meth c s₁ B hml hv
  obtain ⟨rfl, hsz, hC, hZ⟩ := hv
  have hx := B.exec
  have hb := B.bytes
  have hr := B.returns
  have hlocks := B.notSynchronized
  have hts0 := atoms_spec (ws := .code yJ0_coder_7d493 cJ0_coder_7d493 1 (some .byte) :: fx_T0) B.pre
  have hts : ∀ w ∈ fx_T0, w.before #[.ref q0] s = true := fun w h => hts0 w (List.mem_cons_of_mem _ h)
  have hown : s.vm.findClass RJ0 = some m.cls := findClass_of_methodNamed B.named
  subst hsz
  have hS : va_S (fun q => s.heap.size ≤ q) s.heap s.heap [] := va_S.rf
  have hl := lv_entry ([.ref q0]) (n := 1) (Nat.le_of_ble_eq_true rfl)
  rw [lg_entry_eq]
  generalize (lg_sl ([.ref q0]) ++ List.replicate (1 - (lg_sl ([.ref q0])).length) Slot.unset).toArray = ls at hl ⊢
  have hl : lv_has ls 1 [(0, .ref q0)] := hl
  refine va_gets hx hb hZ hS hown (hts _ (jc_at 21 rfl)) (fun _ h9 => h9) dJ0_coder_7d493_0 ?_
  refine lv_if_eq (tgt := 13) hx hb dJ0_coder_7d493_3 (by decide) (fun h => absurd h (by decide)) (fun _ => ?_)
  refine lv_aload_n hx hb dJ0_coder_7d493_6 rfl (lv_at hl 0 rfl) ?_
  refine vk_getf hx hb hC hS hown (hts _ (jc_at 22 rfl)) (fun _ h9 => h9) dJ0_coder_7d493_7 ?_
  refine lv_goto (tgt := 14) hx hb dJ0_coder_7d493_10 (by decide) ?_
  exact W.zret (v := 0) (ty := .byte) hx hb hr (by decide) (fun t ht hW => ⟨⟨0, (), rfl, rfl, trivial⟩, hS.F ht⟩) hS.2.2 dJ0_coder_7d493_14
end JC
theorem jc_pri (l : Launch) : fx_Pri l := by
  intro mj as σ v hmj hpr h62 hoS hno ad cy D Ls xs sz hap hsc
  have hAz : ∀ q, sz ≤ q → fx_Az ad sz q := fun q h => Or.inr h
  rcases hmj with rfl | rfl
  · -- length
    obtain ⟨x, rfl, rfl⟩ : ∃ x, as = [(62, x)] ∧ v = (0, ((fx_nth fx_tx x.toNat []).length : Int)) := by
      unfold fx_prim at hpr
      split at hpr
      · rename_i K i
        have hK : K = 62 := h62
        subst hK
        exact ⟨i, rfl, (Option.some.inj hpr).symm⟩
      · have hpr : (none : Option fx_V) = some v := hpr
        cases hpr
      · exact absurd hpr (by simp)
    have hx := fx_o1_ref (hoS (62, x) (by simp)) (by omega)
    have hx17 : x.toNat < 17 := by have : fx_cnt 62 = 17 := rfl; omega
    have hlen := (fx_tx_at x.toNat).1
    show vx_Met l yJ0_length_8abf5 (.code yJ0_length_8abf5 cJ0_length_8abf5 1 (some .int) :: fx_T0) ({ frames := 4, cells := 0, slots := 0, locals := 40 }) _ _ _ 0 0 _
    refine vx_ofW (cc := cJ0_length_8abf5) (maxL := 1) (ret := some .int) (by decide) rfl ?_
    intro p e s m args below meth c s₁ B hml hout hv
    obtain ⟨ha, hsz, hP, hZ⟩ := hv
    have ha : args = #[Value.ref (ad 62 x.toNat)] := ha
    subst ha
    have hx := B.exec
    have hb := B.bytes
    have hr := B.returns
    have hlocks := B.notSynchronized
    have hts0 := atoms_spec (ws := .code yJ0_length_8abf5 cJ0_length_8abf5 1 (some .int) :: fx_T0) B.pre
    have hts : ∀ w ∈ fx_T0, w.before #[Value.ref (ad 62 x.toNat)] s = true := fun w h => hts0 w (List.mem_cons_of_mem _ h)
    have hown : s.vm.findClass RJ0 = some m.cls := findClass_of_methodNamed B.named
    subst hsz
    obtain ⟨-, -, -, -, ⟨adV, hstr⟩, -, -, -, -, hcomp, hform, -⟩ := hZ
    obtain ⟨o1, o2, o3, o4⟩ := hstr.1 x.toNat hx17
    rw [jc_len] at o4
    have hS : va_S (fx_Az ad s.heap.size) s.heap s.heap [] := va_S.rf
    have hl := lv_entry ([.ref (ad 62 x.toNat)]) (n := 1) (Nat.le_of_ble_eq_true rfl)
    rw [lg_entry_eq]
    generalize (lg_sl ([.ref (ad 62 x.toNat)]) ++ List.replicate (1 - (lg_sl ([.ref (ad 62 x.toNat)])).length) Slot.unset).toArray = ls at hl ⊢
    have hl : lv_has ls 1 [(0, .ref (ad 62 x.toNat))] := hl
    refine vx_ret ?_
    refine lv_aload_n hx hb dJ0_length_8abf5_0 rfl (lv_at hl 0 rfl) ?_
    refine vk_getf hx hb o3 hS hown (hts _ (jc_at 20 rfl)) (fun _ h9 => h9) dJ0_length_8abf5_1 ?_
    refine va_tlen hx hb o4 hS (jc_ofN _ hlen) dJ0_length_8abf5_4 ?_
    refine lv_aload_n hx hb dJ0_length_8abf5_5 rfl (lv_at hl 0 rfl) ?_
    refine va_calli (va_runV (As := []) (rest := [.int (Int32.ofInt ((fx_nth fx_tx x.toNat []).length : Int))]) ⟨hx, hb, hml, hown, hts⟩ (jc_cod l s.heap.size (ad 62 x.toNat)) (cwV 0 hts (jc_gV (jc_at 5 rfl) (jc_at 6 rfl) (jc_at 7 rfl) (jc_at 17 rfl) (jc_at 0 rfl)) rfl rfl rfl (by decide +kernel) ⟨Nat.le_of_ble_eq_true rfl, Nat.le_of_ble_eq_true rfl⟩) ⟨fun a U g mk q => ⟨q.1, q.2.1, va_OF.moved (u := U) (U := U.calling g mk a) (Vm.Alike.refl U.vm) q.2.2.1, va_Z.moved (u := U) (U := U.calling g mk a) (Vm.Alike.refl U.vm) q.2.2.2⟩, vk_recv hstr hx17 hS, fun U hU hW => ⟨rfl, by rw [hU], by rw [hU]; exact (va_OF.moved hW.alike o2).narrow hAz, by rw [hU]; exact (va_Z.moved hW.alike hcomp).narrow hAz⟩⟩ rfl rfl hl.1 rfl (lv_room (Nat.le_of_ble_eq_true rfl)) dJ0_length_8abf5_6 ⟨Nat.zero_le _, Nat.zero_le _⟩) hS (fun q _ h => hAz q h) (fun q h => hAz q h) (fun r u t H1 locs1 ht hvm hw hB hz1 hk1 hS1 => ?_)
    subst hw
    refine lv_ishr hx hb dJ0_length_8abf5_9 ?_
    have e0 : Int32.ofInt ((fx_nth fx_tx x.toNat []).length : Int) >>> ((0 : Int32) &&& 31) = Int32.ofInt ((fx_nth fx_tx x.toNat []).length : Int) := by
      rw [show ((0 : Int32) &&& 31) = 0 by decide]; exact Int32.shiftRight_zero
    rw [e0]
    exact W.iret (v := Int32.ofInt ((fx_nth fx_tx x.toNat []).length : Int)) hx hb hr (fun t ht hW => ⟨rfl, (show (0 : Nat) ≠ 5 by decide), by rw [ht]; exact hP.kept (fun k q hk => hk1 q.1 (hP k q hk).lt (fun z => Nat.not_le.mpr (hP k q hk).lt z)), hS1.F ht⟩) hS1.2.2 dJ0_length_8abf5_10
  · -- charAt
    obtain ⟨x, k, rfl, hk, rfl⟩ : ∃ x k, as = [(62, x), (0, k)] ∧ (0 ≤ k ∧ k < ((fx_nth fx_tx x.toNat []).length : Int)) ∧ v = (0, fx_nth (fx_nth fx_tx x.toNat []) k.toNat 0) := by
      unfold fx_prim at hpr
      split at hpr
      · have hpr : (none : Option fx_V) = some v := hpr
        cases hpr
      · rename_i K i k
        have hK : K = 62 := h62
        subst hK
        have hpr : (if 0 ≤ k ∧ k < ((fx_nth fx_tx i.toNat []).length : Int) then some ((0 : Nat), fx_nth (fx_nth fx_tx i.toNat []) k.toNat 0) else none) = some v := hpr
        by_cases z : 0 ≤ k ∧ k < ((fx_nth fx_tx i.toNat []).length : Int)
        · rw [if_pos z] at hpr
          exact ⟨i, k, rfl, z, (Option.some.inj hpr).symm⟩
        · rw [if_neg z] at hpr; exact absurd hpr (by simp)
      · exact absurd hpr (by simp)
    have hx := fx_o1_ref (hoS (62, x) (by simp)) (by omega)
    have hx17 : x.toNat < 17 := by have : fx_cnt 62 = 17 := rfl; omega
    obtain ⟨hlen, hbyt⟩ := fx_tx_at x.toNat
    have hb0 := hbyt _ (fx_nth_in (0 : Int) (show k.toNat < (fx_nth fx_tx x.toNat []).length by omega))
    obtain ⟨n, hn⟩ : ∃ n : Nat, fx_nth (fx_nth fx_tx x.toNat []) k.toNat 0 = (n : Int) := ⟨_, (Int.toNat_of_nonneg hb0.1).symm⟩
    obtain ⟨hc1, hc2⟩ := jc_ch n (by omega)
    obtain ⟨hi1, hi2⟩ := fx_ix (j := k) (n := (fx_nth fx_tx x.toNat []).length) hk.1 hk.2 (by omega)
    have hge : ¬ Int32.ofInt k < 0 := fun z => by
      have := (fx_ltI (x := k) (y := 0) ⟨by omega, by omega⟩ ⟨by omega, by omega⟩).mp z
      omega
    have hlt : Int32.ofInt k < Int32.ofNat (fx_nth fx_tx x.toNat []).length := by
      rw [jc_ofN _ hlen]
      exact (fx_ltI ⟨by omega, by omega⟩ ⟨by omega, by omega⟩).mpr hk.2
    show vx_Met l yJ0_charAt_5068e (.code yJ0_charAt_5068e cJ0_charAt_5068e 2 (some .char) :: fx_T0) ({ frames := 6, cells := 0, slots := 0, locals := 120 }) _ _ _ 0 0 _
    refine vx_ofW (cc := cJ0_charAt_5068e) (maxL := 2) (ret := some .char) (by decide) rfl ?_
    intro p e s m args below meth c s₁ B hml hout hv
    obtain ⟨ha, hsz, hP, hZ⟩ := hv
    have ha : args = #[Value.ref (ad 62 x.toNat), .int (Int32.ofInt k)] := ha
    subst ha
    have hx := B.exec
    have hb := B.bytes
    have hr := B.returns
    have hlocks := B.notSynchronized
    have hts0 := atoms_spec (ws := .code yJ0_charAt_5068e cJ0_charAt_5068e 2 (some .char) :: fx_T0) B.pre
    have hts : ∀ w ∈ fx_T0, w.before #[Value.ref (ad 62 x.toNat), .int (Int32.ofInt k)] s = true := fun w h => hts0 w (List.mem_cons_of_mem _ h)
    have hown : s.vm.findClass RJ0 = some m.cls := findClass_of_methodNamed B.named
    subst hsz
    obtain ⟨-, -, -, -, ⟨adV, hstr⟩, -, -, -, -, hcomp, hform, -⟩ := hZ
    obtain ⟨o1, o2, o3, o4⟩ := hstr.1 x.toNat hx17
    rw [jc_len] at o4
    have hS : va_S (fx_Az ad s.heap.size) s.heap s.heap [] := va_S.rf
    have hl := lv_entry ([.ref (ad 62 x.toNat), .int (Int32.ofInt k)]) (n := 2) (Nat.le_of_ble_eq_true rfl)
    rw [lg_entry_eq]
    generalize (lg_sl ([.ref (ad 62 x.toNat), .int (Int32.ofInt k)]) ++ List.replicate (2 - (lg_sl ([.ref (ad 62 x.toNat), .int (Int32.ofInt k)])).length) Slot.unset).toArray = ls at hl ⊢
    have hl : lv_has ls 2 [(0, .ref (ad 62 x.toNat)), (1, .int (Int32.ofInt k))] := hl
    refine vx_ret ?_
    refine lv_aload_n hx hb dJ0_charAt_5068e_0 rfl (lv_at hl 0 rfl) ?_
    refine va_calli (va_runV (As := []) (rest := []) ⟨hx, hb, hml, hown, hts⟩ (jc_lat l s.heap.size (ad 62 x.toNat)) (cwV 0 hts (jc_gV (jc_at 8 rfl) (jc_at 9 rfl) (jc_at 10 rfl) (jc_at 17 rfl) (jc_at 1 rfl)) rfl rfl rfl (by decide +kernel) ⟨Nat.le_of_ble_eq_true rfl, Nat.le_of_ble_eq_true rfl⟩) ⟨fun a U g mk q => ⟨q.1, q.2.1, va_OF.moved (u := U) (U := U.calling g mk a) (Vm.Alike.refl U.vm) q.2.2.1, va_Z.moved (u := U) (U := U.calling g mk a) (Vm.Alike.refl U.vm) q.2.2.2⟩, vk_recv hstr hx17 hS, fun U hU hW => ⟨rfl, by rw [hU], by rw [hU]; exact (va_OF.moved hW.alike o2).narrow hAz, by rw [hU]; exact (va_Z.moved hW.alike hcomp).narrow hAz⟩⟩ rfl rfl hl.1 rfl (lv_room (Nat.le_of_ble_eq_true rfl)) dJ0_charAt_5068e_1 ⟨Nat.zero_le _, Nat.zero_le _⟩) hS (fun q _ h => hAz q h) (fun q h => hAz q h) (fun r u t H1 locs1 ht hvm hw hB hz1 hk1 hS1 => ?_)
    subst hw
    refine lv_if_eq (tgt := 16) hx hb dJ0_charAt_5068e_4 (by decide) (fun h => absurd h (by decide)) (fun _ => ?_)
    refine lv_aload_n hx hb dJ0_charAt_5068e_7 rfl (lv_at hl 0 rfl) ?_
    refine vk_getf hx hb o3 hS1 hown (hts _ (jc_at 20 rfl)) (fun _ h9 => h9) dJ0_charAt_5068e_8 ?_
    refine lv_iload_n hx hb dJ0_charAt_5068e_11 rfl (lv_at hl 1 rfl) ?_
    have hk1' : ∀ q : Nat, q < s.heap.size → H1[q]? = s.heap[q]? := fun q h => hk1 q h (fun z => Nat.not_le.mpr h z)
    have hA1 : ∀ q, H1.size ≤ q → fx_Az ad s.heap.size q := fun q h => hAz q (Nat.le_trans hz1 h)
    have o4' := (o4.kept (H1 := H1) (fun a h _ => hk1' a h)).narrow hA1
    have hform' := (hform.kept (H1 := H1) (fun a h _ => hk1' a h)).narrow hA1
    refine va_calli (va_runS (As := [.ref (adV x.toNat), .int (Int32.ofInt k)]) (rest := []) ⟨hx, hb, hml, hown, hts⟩ (jc_J1 l H1.size (adV x.toNat) (fx_nth fx_tx x.toNat []).length (fun j => .int ((fx_byt0.getD x.toNat []).getD j 0)) (Int32.ofInt k) (Int32.ofInt (n : Int)) (Int32.ofInt (n : Int)) hge hlt hi1 (by rw [hi2, jc_byt, hn]) hc1 hc2) (va_cwS 2 hts (jc_gS (jc_at 11 rfl) (jc_at 12 rfl) (jc_at 18 rfl) (jc_at 3 rfl)) rfl rfl rfl (by decide +kernel) ⟨Nat.le_of_ble_eq_true rfl, Nat.le_of_ble_eq_true rfl⟩) ⟨fun a U g mk q => ⟨q.1, q.2.1, va_T.moved (u := U) (U := U.calling g mk a) (Vm.Alike.refl U.vm) q.2.2.1, va_Zq.moved (u := U) (U := U.calling g mk a) (Vm.Alike.refl U.vm) q.2.2.2⟩, fun U hU hW => ⟨rfl, by rw [hU], by rw [hU]; exact va_T.moved hW.alike o4', by rw [hU]; exact va_Zq.moved hW.alike hform'⟩⟩ rfl rfl hl.1 rfl (lv_room (Nat.le_of_ble_eq_true rfl)) dJ0_charAt_5068e_12 ⟨Nat.zero_le _, Nat.zero_le _⟩) hS1 (fun q _ h => hA1 q h) (fun q h => hA1 q h) (fun r u t H2 locs2 ht2 hvm2 hw hB2 hz2 hk2 hS2 => ?_)
    subst hw
    have hk2' : ∀ q : Nat, q < s.heap.size → H2[q]? = s.heap[q]? := fun q h => (hk2 q (Nat.lt_of_lt_of_le h hz1) (fun z => Nat.not_le.mpr (Nat.lt_of_lt_of_le h hz1) z)).trans (hk1' q h)
    rw [hn]
    exact W.zret (v := Int32.ofInt (n : Int)) (ty := .char) hx hb hr hc2 (fun t ht hW => ⟨rfl, (show (0 : Nat) ≠ 5 by decide), by rw [ht]; exact hP.kept (fun k q hk => hk2' q.1 (hP k q hk).lt), hS2.F ht⟩) hS2.2.2 dJ0_charAt_5068e_15
