noncomputable def fx_pws : List Cond := [.code yJ0_length_8abf5 cJ0_length_8abf5 1 (some .int), .code yJ0_charAt_5068e cJ0_charAt_5068e 2 (some .char), .instanceMethod yJ0_length_8abf5, .selects RJ0 yJ0_length_8abf5 yJ0_length_8abf5, .instanceMethod yJ0_charAt_5068e, .selects RJ0 yJ0_charAt_5068e yJ0_charAt_5068e, .initialized RJ0]
theorem fx_pws_in : ∀ w ∈ fx_pws, w ∈ lw_tbl := fx_mem (f := fun w : Cond => w) [(3, 12), (3, 22), (3, 10), (3, 11), (3, 20), (3, 21), (1, 9)] rfl
theorem fx_pw (i : Nat) (h : i < 7) : fx_nth fx_pws i (.initialized "") ∈ lw_tbl := fx_pws_in _ (fx_nth_in _ h)
def fx_Az (ad : Nat → Nat → Nat) (sz : Nat) : Nat → Prop := fun q => (∃ r ∈ fx_all, ad r.1 r.2 = q) ∨ sz ≤ q
noncomputable def fx_len0 : List Nat := fx_tx.map List.length
noncomputable def fx_byt0 : List (List Int32) := fx_tx.map (fun l => l.map Int32.ofInt)
/-- what stays as it is: the tables, the texts, the statics, the script -/
def fx_dcl : List MethodName := [⟨"java/lang/RuntimeException", "<init>", "(Ljava/lang/String;)V"⟩, ⟨"java/lang/Exception", "<init>", "(Ljava/lang/String;)V"⟩, ⟨"java/lang/Throwable", "<init>", "(Ljava/lang/String;)V"⟩]
def fx_Zf (ad : Nat → Nat → Nat) (cy : Nat → ClassId) (D : va_G) (Ls : Nat) (xs : Nat → Int32) (A : Nat → Prop) (U : State) (H : Heap) : Prop :=
  va_K D vwCl (fx_tys cy) U ∧ fx_Tx ad U ∧ vx_Zq Bundle.tN "UNASSIGNED_STACK" Bundle.steD A U H ∧ vx_Zq Bundle.tN "SUPPRESSED_SENTINEL" Bundle.listD A U H ∧
  (∃ adV, vk_S 17 fx_len0 fx_byt0 (ad 62) adV A U H) ∧ ((∀ th ∈ fx_ths, ∃ sa, vk_R th.1 th.2.2.1 th.2.2.2.2.2 sa U) ∧ ∀ y ∈ fx_dcl, va_Nw (.declares y) U) ∧ (∀ q ∈ fx_nwl, va_Nw (fx_nword q) U) ∧ (∀ E ∈ fx_exn, va_Nw (.castable E E) U) ∧
  (∀ E ∈ fx_exn, ∀ F ∈ fx_exn, E ≠ F → va_Nc E F U) ∧ va_Z "java/lang/String" "COMPACT_STRINGS" "Z" (.int 1) A U H ∧ va_Zq "jdk/internal/util/Preconditions" "SIOOBE_FORMATTER" "Ljava/util/function/BiFunction;" A U H ∧
  va_X (ad 9 0) Ls xs U H ∧ ad 9 0 < H.size ∧ ¬ A (ad 9 0)
theorem fx_nwl_1 {q : Nat × Nat × Nat} (h : q ∈ fx_nwl) : q = (1, 141, 147) := by simpa [fx_nwl] using h
theorem fx_Zf.warm {ad : Nat → Nat → Nat} {cy : Nat → ClassId} {D : va_G} {Ls : Nat} {xs : Nat → Int32} {A : Nat → Prop} {s U : State} {H : Heap} (hW : s.WarmedH U.vm) (h : fx_Zf ad cy D Ls xs A s H) : fx_Zf ad cy D Ls xs A U H := by
  obtain ⟨h1, h2, h3, h4, ⟨adV, h5⟩, h6, h7, h8, h9, h10, h11, h12, h13, h14⟩ := h
  have hv := hW.alike
  refine ⟨va_K.moved hv h1, fun q hq => (h2 q hq).warm hW, vx_Zq.moved hv h3, vx_Zq.moved hv h4, ⟨adV, vk_S.moved hv h5⟩, ⟨fun th hth => ?_, fun y hy => va_Nw.warmD hW (h6.2 y hy)⟩, fun q hq => ?_, fun E hE => va_Nw.warmC hW (h8 E hE), fun E hE F hF hne => va_Nc.moved hv (h9 E hE F hF hne), va_Z.moved hv h10, va_Zq.moved hv h11, va_X.moved hv h12, h13, h14⟩
  · obtain ⟨sa, h⟩ := h6.1 th hth
    exact ⟨sa, h.warm hW⟩
  · obtain rfl := fx_nwl_1 hq
    exact va_Nw.warmM hW (h7 _ hq)
theorem fx_Zf.kept {ad : Nat → Nat → Nat} {cy : Nat → ClassId} {D : va_G} {Ls : Nat} {xs : Nat → Int32} {A : Nat → Prop} {s : State} {H H1 : Heap} (h : fx_Zf ad cy D Ls xs A s H) (hz : H.size ≤ H1.size) (hq : ∀ a : Nat, a < H.size → ¬ A a → H1[a]? = H[a]?) : fx_Zf ad cy D Ls xs A s H1 := by
  obtain ⟨h1, h2, h3, h4, ⟨adV, h5⟩, h6, h7, h8, h9, h10, h11, h12, h13, h14⟩ := h
  exact ⟨h1, h2, h3.kept hq, h4.kept hq, ⟨adV, h5.kept hq⟩, h6, h7, h8, h9, h10.kept hq, h11.kept hq, h12.kept (hq _ h13 h14), by omega, h14⟩
theorem fx_Zf.narrow {ad : Nat → Nat → Nat} {cy : Nat → ClassId} {D : va_G} {Ls : Nat} {xs : Nat → Int32} {A B : Nat → Prop} {s : State} {H : Heap} (h : fx_Zf ad cy D Ls xs A s H) (hAB : ∀ q, B q → A q) : fx_Zf ad cy D Ls xs B s H := by
  obtain ⟨h1, h2, h3, h4, ⟨adV, h5⟩, h6, h7, h8, h9, h10, h11, h12, h13, h14⟩ := h
  exact ⟨h1, h2, h3.narrow hAB, h4.narrow hAB, ⟨adV, h5.narrow hAB⟩, h6, h7, h8, h9, h10.narrow hAB, h11.narrow hAB, h12, h13, fun z => h14 (hAB _ z)⟩
noncomputable def fx_rv (ad : Nat → Nat → Nat) (v : fx_V) : Option Value := cond (Nat.beq v.1 4) none (some (fx_cv ad v))
noncomputable def fx_en (v : fx_V) : String := fx_nth fx_exn v.2.toNat ""
def fx_Pc (ad : Nat → Nat → Nat) (cy : Nat → ClassId) (D : va_G) (Ls : Nat) (xs : Nat → Int32) (sz : Nat) (as : List fx_V) (σ : fx_S) : Array Value → State → Prop := fun a U =>
  a = (as.map (fx_cv ad)).toArray ∧ U.heap.size = sz ∧ va_P D vwCl (fx_W ad cy σ) U.heap ∧ fx_Zf ad cy D Ls xs (fx_Az ad sz) U U.heap
noncomputable def fx_Qc (ad : Nat → Nat → Nat) (cy : Nat → ClassId) (D : va_G) (sz : Nat) (v : fx_V) (σ' : fx_S) : Array Value → State → Outcome → State → Prop := fun _ st o t =>
  o = .returned (fx_rv ad v) ∧ v.1 ≠ 5 ∧ va_P D vwCl (fx_W ad cy σ') t.heap ∧ va_F (fx_Az ad sz) st t
noncomputable def fx_Xc (ad : Nat → Nat → Nat) (cy : Nat → ClassId) (D : va_G) (sz : Nat) (v : fx_V) (σ' : fx_S) : String → State → State → Prop := fun E st t =>
  E = fx_en v ∧ v.1 = 5 ∧ va_P D vwCl (fx_W ad cy σ') t.heap ∧ va_F (fx_Az ad sz) st t
/-- a method's own word -/
noncomputable def fx_cd (mj : Nat) : Cond := cond (Nat.blt mj 261) (fx_cword (fx_m mj)) (cond (Nat.beq mj 500) (.code yJ0_length_8abf5 cJ0_length_8abf5 1 (some .int)) (cond (Nat.beq mj 501) (.code yJ0_charAt_5068e cJ0_charAt_5068e 2 (some .char)) (fx_hword (fx_m mj, fx_nth fx_hhs (mj - 261) []))))
noncomputable def fx_ws (mj : Nat) : List Cond := fx_cd mj :: fx_T0
def fx_rm (mj k : Nat) : Room := { frames := fx_lev mj + 3, cells := k, slots := 6 * k, locals := 40 * fx_lev mj }
/-- a contract: what a run says of the machine -/
def fx_Cn (l : Launch) (mj : Nat) (as : List fx_V) (σ : fx_S) (v : fx_V) (σ' : fx_S) (k : Nat) : Prop :=
  ∀ (ad : Nat → Nat → Nat) (cy : Nat → ClassId) (D : va_G) (Ls : Nat) (xs : Nat → Int32) (sz : Nat), fx_ap ad → fx_scr Ls xs σ →
    vx_Met l (fx_yn mj) (fx_ws mj) (fx_rm mj k) (fx_Pc ad cy D Ls xs sz as σ) (fx_Qc ad cy D sz v σ') (fx_Xc ad cy D sz v σ') k (6 * k) (fx_Az ad sz)
def fx_Con (l : Launch) (n : Nat) : Prop := ∀ (mj : Nat) (as : List fx_V) (σ : fx_S) (v : fx_V) (σ' : fx_S) (k : Nat), 2 ≤ mj → mj < 293 → fx_run n mj (0, fx_pad (fx_m mj).2.2.1 as, [], σ) = some (v, σ', k) → as.length ≤ (fx_m mj).2.2.1 → fx_oS as → (∀ w ∈ as, w.1 ≠ 1) → fx_rgS σ → fx_Cn l mj as σ v σ' k
def fx_Pri (l : Launch) : Prop := ∀ (mj : Nat) (as : List fx_V) (σ : fx_S) (v : fx_V), mj = 500 ∨ mj = 501 → fx_prim mj as = some v → (fx_nth as 0 (3, 0)).1 = 62 → fx_oS as → (∀ w ∈ as, w.1 ≠ 1) → fx_Cn l mj as σ v σ 0
theorem fx_blind {ad : Nat → Nat → Nat} {cy : Nat → ClassId} {D : va_G} {Ls : Nat} {xs : Nat → Int32} {sz : Nat} {as : List fx_V} {σ : fx_S} : FrameBlind (fx_Pc ad cy D Ls xs sz as σ) := fun a U g mk h => ⟨h.1, h.2.1, h.2.2.1, (h.2.2.2.warm (U := U.calling g mk a) (State.WarmedH.refl U))⟩
section FXC
variable {p : Program} {l : Launch} {e : Env} {R : Room} {s : State} {m : MethodId} {args : Array Value} {below : List Frame} {meth : Method} {c : Code} {H : Heap} {locs : List Loc} {cells slots : Nat} {Q : State → Prop}
variable {pc : Nat} {ls : Array Slot} {rest st0 : List Value} {a : Array Value} {mc ms sz : Nat} {ad : Nat → Nat → Nat} {cy : Nat → ClassId} {D : va_G} {v : fx_V} {σ' : fx_S} {A : Nat → Prop}
theorem fx_callW (hr : vx_Run p l e R s m args below meth c H locs cells slots mc ms (F0 m pc ls st0) rest (fx_Qc ad cy D sz v σ' a) (fx_Xc ad cy D sz v σ') (fx_Az ad sz)) (hSS : va_S A s.heap H locs) (hA : ∀ q, fx_Az ad sz q → A q)
    (kx : v.1 = 5 → ∀ (ce : Cell) (q9 : Addr) (H1 : Heap) (locs1 : List Loc), va_P D vwCl (fx_W ad cy σ') H1 → va_S A s.heap H1 locs1 → H1[q9]? = some ce → ce.vm = .none → s.vm.findClass (fx_en v) = some ce.cls → vx_W p l e R s m args below meth c H1 locs1 (cells + mc) (slots + ms) Q (F0 m pc ls rest) q9)
    (kk : v.1 ≠ 5 → ∀ (H1 : Heap) (locs1 : List Loc), va_P D vwCl (fx_W ad cy σ') H1 → va_S A s.heap H1 locs1 → W p l e R s m args below meth c H1 locs1 (cells + mc) (slots + ms) Q (F0 m (pc + 3) ls ((fx_rv ad v).toList ++ rest))) : W p l e R s m args below meth c H locs cells slots Q (F0 m pc ls st0) := by
  intro T hT X
  rcases hr T hT X with ⟨w, st₀, t, T', L, h0, X', hL, e1, e2, ⟨hv, h5, hP, hF⟩, st⟩ | ⟨q, st₀, t, T', L, E, ce, h0, X', hL, e1, e2, ⟨hE, h5, hP, hF⟩, hce, hcv, hcl, st⟩
  · cases hv
    obtain ⟨k1, k2, k3⟩ := vx_keep h0 e1 hSS (fun q _ h => hA q h) (fun q h => hA q h) hL hF
    obtain ⟨t2, a1, b1⟩ := kk h5 T'.heap (locs ++ L) (by rw [e1]; exact hP) k3 T' rfl X'
    exact ⟨t2, st t2 a1, b1⟩
  · obtain ⟨k1, k2, k3⟩ := vx_keep h0 e1 hSS (fun q _ h => hA q h) (fun q h => hA q h) hL hF
    obtain ⟨t2, a1, b1⟩ := kx h5 ce q T'.heap (locs ++ L) (by rw [e1]; exact hP) k3 (by rw [e1]; exact hce) hcv (by rw [← hE]; exact hcl) T' rfl X'
    exact ⟨t2, st.trans a1, b1⟩
end FXC
set_option maxRecDepth 100000 in
theorem fx_msA_len : fx_msA.length = 261 := rfl
set_option maxRecDepth 100000 in
theorem fx_msL_len : fx_msL.length = 33 := rfl
theorem fx_m_in {mj : Nat} (h : mj < 261) : fx_m mj ∈ fx_msA := by
  have h1 : fx_ms[mj]? = some (fx_m mj) := fx_nth_get fx_ms mj _ (by rw [fx_ms_cut, List.length_append, fx_msA_len, fx_msL_len]; omega)
  rw [fx_ms_cut, List.getElem?_append_left (by rw [fx_msA_len]; exact h)] at h1
  exact List.mem_of_getElem? h1
theorem fx_hhs_len : fx_hhs.length = 32 := rfl
theorem fx_zip_get {α β : Type} {l1 : List α} {l2 : List β} {i : Nat} {a : α} {b : β} (h1 : l1[i]? = some a) (h2 : l2[i]? = some b) : (a, b) ∈ l1.zip l2 := List.mem_of_getElem? (i := i) (List.getElem?_zip_eq_some.mpr ⟨h1, h2⟩)
theorem fx_m_inL {mj : Nat} (h0 : 261 ≤ mj) (h : mj < 293) : (fx_m mj, fx_nth fx_hhs (mj - 261) []) ∈ fx_msL.zip fx_hhs := by
  have h1 : fx_ms[mj]? = some (fx_m mj) := fx_nth_get fx_ms mj _ (by rw [fx_ms_cut, List.length_append, fx_msA_len, fx_msL_len]; omega)
  rw [fx_ms_cut, List.getElem?_append_right (by rw [fx_msA_len]; exact h0), fx_msA_len] at h1
  have h2 : fx_hhs[mj - 261]? = some (fx_nth fx_hhs (mj - 261) []) := fx_nth_get _ _ _ (by rw [fx_hhs_len]; omega)
  exact fx_zip_get h1 h2
theorem fx_mw_good (q : Nat × Nat × Nat) : goodWord (fx_mword q) = true := rfl
theorem fx_cd_in {mj : Nat} (h : mj < 293 ∨ mj = 500 ∨ mj = 501) : fx_cd mj ∈ fx_T0 := by
  rcases h with h | rfl | rfl
  · unfold fx_cd
    by_cases h1 : mj < 261
    · rw [show Nat.blt mj 261 = true from Nat.ble_eq_true_of_le h1]
      exact fx_T0_in (fx_cw _ (fx_m_in h1)) rfl
    · rw [fx_bltF (by omega), fx_bF (a := mj) (b := 500) (by omega), fx_bF (a := mj) (b := 501) (by omega)]
      exact fx_T0_in (fx_hw _ (fx_m_inL (by omega) h)) rfl
  · exact fx_T0_in (fx_pw 0 (by decide)) rfl
  · exact fx_T0_in (fx_pw 1 (by decide)) rfl
theorem fx_ws_good {mj : Nat} (h : mj < 293 ∨ mj = 500 ∨ mj = 501) : GoodIn fx_T0 (fx_ws mj) := fun w hw => by
  rcases List.mem_cons.mp hw with rfl | hw
  · exact fx_T0_good _ (fx_cd_in h)
  · exact fx_T0_good _ hw
