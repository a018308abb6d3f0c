/-! THE CLAIM OUT OF ONE WALK OF THE LAW'S BODY. Your part is whole_start (and what it stands on); all else here is the same for every law, but numbers. -/
def R_law : String := "FactLinesLaw"
def lw_P (b : Addr) (xs : List Int32) (args : Array Value) (s : State) : Prop := args = #[.ref b] ∧ s.IntsAt b xs ∧ xs.length ≤ 3072 ∧ (Jvm.Cond.and given_1 narrow_1).before args s = true
def lw_Q (_ : Array Value) (s : State) (o : Outcome) (t : State) : Prop := o = .returned (some (.int 1)) ∧ Framed s o t [] 601024 7293034
def lw_Z (below : List Frame) (a : Array Value) (s : State) : State → Prop := fun t => ∃ o, t.status = .running ∧ Ended t below o ∧ lw_Q a s o t
/-- the law's own end, with 1 on the stack, nothing written that was there before, its room as the claim has it -/
theorem lw_ret {p : Program} {l : Launch} {e : Env} {s : State} {m : MethodId} {below : List Frame} {meth : Method} {c : Code} {b : Nat} (hx : p.tables.exec = Jvm.exec) (hb : c.code = code) (hr : meth.sig.returnType = ret) (hlocks : meth.locks = false) {pc : Nat} {H : Heap} {ls : Array Slot} (hdg : decode code pc = .ok (.ireturn, 1)) : W p l e room_1 s m #[Value.ref b] below meth c H [] 601024 7293034 (lw_Z below #[Value.ref b] s) (F0 m pc ls [.int 1]) := by
  intro T hT X
  obtain ⟨fs, hret, hrun, hended, hW, hframe⟩ := X.leave (v := some (.int 1)) (hlocks := hlocks) (fun h => by rw [hr] at h; cases h)
  have hmeth' : T.vm.method? m = some meth := X.method'
  refine ⟨T.setFrames fs, ?_, .returned (some (.int 1)), hrun, hended, rfl, ⟨_, rfl⟩, hW, hframe⟩
  jvm_step X.here [X.here.top, hx, hb, hdg, hmeth', hr, ret, narrow_b1]
  (try refine ⟨rfl, ?_⟩); (try refine ⟨rfl, ?_⟩)
  first | (intro acts; rw [hret _ acts rfl rfl rfl]) | rw [hret _ _ rfl rfl rfl]
  exact Steps.refl _
/-- what holds at the law's entry: the machine, the code, the tables' words (any of lw_tbl by 'hts w (by decide +kernel)'), the script of L ints xs at the cell b, what the Statement gives of the start (any of its parts by flat_of_before) -/
def lw_At (p : Program) (s : State) (m : MethodId) (meth : Method) (c : Code) (b L : Nat) (xs : Nat → Int32) : Prop :=
  p.tables.exec = Jvm.exec ∧ c.code = code ∧ meth.sig.returnType = ret ∧ c.maxLocals = 7 ∧ s.vm.findClass R_law = some m.cls ∧ (∀ w ∈ lw_tbl, w.before #[Value.ref b] s = true) ∧ va_X b L xs s s.heap ∧ b < s.heap.size ∧ meth.locks = false ∧ (Jvm.Cond.and given_1 narrow_1).before #[Value.ref b] s = true
theorem dL_law_0 : decode cL_law 0 = .ok (.new 8, 3) := by decide +kernel
theorem dL_law_3 : decode cL_law 3 = .ok (.dup, 1) := by decide +kernel
theorem dL_law_4 : decode cL_law 4 = .ok (.invokespecial 121, 3) := by decide +kernel
theorem dL_law_7 : decode cL_law 7 = .ok (.astore_n 1, 1) := by decide +kernel
theorem dL_law_8 : decode cL_law 8 = .ok (.new 122, 3) := by decide +kernel
theorem dL_law_11 : decode cL_law 11 = .ok (.dup, 1) := by decide +kernel
theorem dL_law_12 : decode cL_law 12 = .ok (.invokespecial 124, 3) := by decide +kernel
theorem dL_law_15 : decode cL_law 15 = .ok (.astore_n 2, 1) := by decide +kernel
theorem dL_law_16 : decode cL_law 16 = .ok (.iconst 1, 1) := by decide +kernel
theorem dL_law_17 : decode cL_law 17 = .ok (.newarray .long, 2) := by decide +kernel
theorem dL_law_19 : decode cL_law 19 = .ok (.astore_n 3, 1) := by decide +kernel
theorem zt_oL : fx_oL [(9, 0), (10, 0), (46, 0), (61, 0), (3, 0), (3, 0), (3, 0)] := by
  intro v hv
  simp only [List.mem_cons, List.not_mem_nil, or_false] at hv
  rcases hv with rfl | rfl | rfl | rfl | rfl | rfl | rfl
  · exact Or.inl ⟨by decide, Or.inr ⟨by decide, by decide +kernel⟩⟩
  · exact Or.inl ⟨by decide, Or.inr ⟨by decide, by decide +kernel⟩⟩
  · exact Or.inl ⟨by decide, Or.inr ⟨by decide, by decide +kernel⟩⟩
  · exact Or.inl ⟨by decide, Or.inr ⟨by decide, by decide +kernel⟩⟩
  · exact Or.inr rfl
  · exact Or.inr rfl
  · exact Or.inr rfl
set_option maxHeartbeats 4000000 in
set_option maxRecDepth 100000 in
/-- from the entry, for every script of at most 3072 ints, the law comes to its end with true -/
theorem whole_start {p : Program} {e : Env} {s : State} {m : MethodId} {below : List Frame} {meth : Method} {c : Code} (l : Launch) (hflags : l.flags = flags0) {b L : Nat} {xs : Nat → Int32} (hL : L ≤ 3072) (C0 : lw_At p s m meth c b L xs) : W p l e room_1 s m #[Value.ref b] below meth c s.heap [] 0 0 (lw_Z below #[Value.ref b] s) (entryFrame m ([Value.ref b] : List Value).toArray 7) := by
  obtain ⟨hx, hb, hr, hml, hown, hts, hX, hbl, hlocks, hgv⟩ := id C0
  have hst : l.stackTraces = false := by simp [Launch.stackTraces, hflags, flags0]
  have hts0 : ∀ w ∈ fx_T0, w.before #[Value.ref b] s = true := fun w h => hts w (List.mem_filter.mp h).1
  have hF : ∀ w ∈ zs_F, w.before #[Value.ref b] s = true := flat_of_before _ hgv
  obtain ⟨D, cy, hK⟩ := zs_K hts0 hts
  obtain ⟨str, hZ⟩ := zs_Zf hts hF hK hX hbl
  have hb2 : c.code = cL_law := hb
  have hl := lv_entry ([.ref b]) (n := 7) (Nat.le_of_ble_eq_true rfl)
  rw [lg_entry_eq]
  generalize (lg_sl ([.ref b]) ++ List.replicate (7 - (lg_sl ([.ref b])).length) Slot.unset).toArray = ls at hl ⊢
  have hl : lv_has ls 7 [(0, .ref b)] := hl
  have h : ke_W D cy s.heap.size s.heap 0 [] s.heap [] := ⟨va_S.rf, rfl, fun j k hj => by simp at hj⟩
  refine ke_new (X0 := 10) (X := 6) (index := 8) (zs := kc_z6) (n := 0) hx hb2 hts0 (by decide) hown (hts0 _ (kc_at 111 rfl)) (hts0 _ (kc_at 112 rfl)) (hts0 _ (kc_at 113 rfl)) hK h tyX6 tyX6_ok (kc_z6_ok _) rfl (Nat.le_of_ble_eq_true rfl) (Nat.le_of_ble_eq_true rfl) dL_law_0 (fun H1 h => ?_)
  refine lv_dup hx hb2 dL_law_3 rfl ?_
  refine ke_call (cs' := kc_L6 0) (z := (1, 6, 0, kc_z6)) (n := 0) h rfl (va_runI (As := []) (rest := [.ref (s.heap.size + (0 + 0))]) ⟨hx, hb2, hml, hown, hts0⟩ (kc_X6 l D cy s.heap.size) ⟨callB_of 0 hts0 (kc_g (kc_at 115 rfl)) rfl rfl rfl (hts0 _ (kc_at 113 rfl)) (hts0 _ (kc_at 114 rfl)) (by decide +kernel) ⟨Nat.le_of_ble_eq_true rfl, Nat.le_of_ble_eq_true rfl⟩, rfl, hts0 _ (kc_at 116 rfl)⟩ (ke_pre hK h rfl) rfl rfl hl.1 rfl (lv_room (Nat.le_of_ble_eq_true rfl)) dL_law_4 ⟨Nat.le_of_ble_eq_true rfl, Nat.le_of_ble_eq_true rfl⟩) (fun H1 locs1 h => ?_)
  refine lv_astore_n (i := 1) (lv' := [(1, .ref (s.heap.size + (0 + 0))), (0, .ref b)]) hx hb2 dL_law_7 rfl hl (by decide) rfl (fun ls hl => ?_)
  refine ke_new (X0 := 10) (X := 7) (index := 122) (zs := kc_z7) (n := 532) hx hb2 hts0 (by decide) hown (hts0 _ (kc_at 117 rfl)) (hts0 _ (kc_at 118 rfl)) (hts0 _ (kc_at 110 rfl)) hK h tyX7 tyX7_ok (kc_z7_ok _) (by decide +kernel) (Nat.le_of_ble_eq_true rfl) (Nat.le_of_ble_eq_true rfl) dL_law_8 (fun H1 h => ?_)
  refine lv_dup hx hb2 dL_law_11 rfl ?_
  refine ke_call (cs' := kc_L7 (0 + 532)) (z := (1, 7, 0, kc_z7)) (n := 532) h (by decide +kernel) (va_runI (As := []) (rest := [.ref (s.heap.size + (0 + 532))]) ⟨hx, hb2, hml, hown, hts0⟩ (kc_X7 l D cy s.heap.size (0 + 532)) ⟨callB_of 0 hts0 (kc_g (kc_at 120 rfl)) rfl rfl rfl (hts0 _ (kc_at 110 rfl)) (hts0 _ (kc_at 119 rfl)) (by decide +kernel) ⟨Nat.le_of_ble_eq_true rfl, Nat.le_of_ble_eq_true rfl⟩, rfl, hts0 _ (kc_at 121 rfl)⟩ (ke_pre hK h (by decide +kernel)) rfl rfl hl.1 rfl (lv_room (Nat.le_of_ble_eq_true rfl)) dL_law_12 ⟨Nat.le_of_ble_eq_true rfl, Nat.le_of_ble_eq_true rfl⟩) (fun H1 locs1 h => ?_)
  refine lv_astore_n (i := 2) (lv' := [(2, .ref (s.heap.size + (0 + 532))), (1, .ref (s.heap.size + (0 + 0))), (0, .ref b)]) hx hb2 dL_law_15 rfl hl (by decide) rfl (fun ls hl => ?_)
  refine lv_iconst (v := 1) hx hb2 dL_law_16 (by decide) ?_
  refine ke_newl (N := 1) (n := 548) hx hb2 (hts0 _ (kc_at 122 rfl)) (hK.1.2 5 _ rfl).2 h (by decide) (by decide) (by decide) (by decide +kernel) (Nat.le_of_ble_eq_true rfl) (Nat.le_of_ble_eq_true rfl) dL_law_17 (fun H1 h => ?_)
  refine lv_astore_n (i := 3) (lv' := [(3, .ref (s.heap.size + (0 + 548))), (2, .ref (s.heap.size + (0 + 532))), (1, .ref (s.heap.size + (0 + 0))), (0, .ref b)]) hx hb2 dL_law_19 rfl hl (by decide) rfl (fun ls hl => ?_)
  refine W.widen (k := 549) (n := 36163) (Nat.le_of_ble_eq_true rfl) (Nat.le_of_ble_eq_true rfl) ?_
  have h : ke_W D cy s.heap.size s.heap 0 ky_all H1 locs1 := h
  have hl9 : 0 ≤ ky_s L xs 9 0 (-1) ∧ ky_s L xs 9 0 (-1) ≤ 3072 := by
    show (0 : Int) ≤ (L : Int) ∧ (L : Int) ≤ 3072
    omega
  obtain ⟨n, v, σ', k, hrun, hv⟩ := fs_law1 (w4 := (3, 0)) (w5 := (3, 0)) (w6 := (3, 0)) (ky_Rr (L := L) (xs := xs)) hl9
  have hk := fk_law hl9 zt_oL (ky_rg hL) hrun
  have hlv : lv_has ls (fx_m 293).2.2.1 (fx_la (ky_ad s.heap.size b str) 0 [(9, 0), (10, 0), (46, 0), (61, 0), (3, 0), (3, 0), (3, 0)]) := lv_sub hl [3, 2, 1, 0] rfl
  have hZf := hZ (ky_ad s.heap.size b str) (fun i => rfl) rfl
  refine (fx_sound l hst (fx_ns l hst) (jc_pri l) n).1 p e room_1 s m #[Value.ref b] below meth c (lw_Z below #[Value.ref b] s) 293 (ky_ad s.heap.size b str) cy D L xs (fun q => s.heap.size ≤ q) 20 _ [] (ky_s L xs) v σ' k H1 locs1 ls 549 36163 ⟨hx, hb2, hml, hown, hts0⟩ (by decide) (fun _ z => absurd z (by decide)) (ky_ap _ _ _) (fun r hr => ?_) (fun q hq => hq) hZf (Nat.le_of_ble_eq_true rfl) (Nat.le_of_ble_eq_true rfl) hrun zt_oL (fun _ z => by cases z) (ky_rg hL) ky_scr hlv (ky_P h) ?_ ?_ ?_ ?_ ?_ ?_
  · obtain ⟨r1, r2⟩ := ky_K r hr
    show s.heap.size ≤ ky_ad s.heap.size b str r.1 r.2
    rw [ky_adE _ r1 r2]
    exact Nat.le_add_right _ _
  · exact ⟨h.1.1, fun q h1 h2 => h.1.2.1 q h1 h2, fun q hq => h.1.2.2 q hq⟩
  · show 549 + k ≤ 601024
    omega
  · show 36163 + 6 * k ≤ 7293034
    omega
  · intro pc1 ls1 H2 locs2 ri c2 s2 ec es hd hrok hP2 hS2
    subst hv
    rcases hrok with ⟨rfl, -⟩ | ⟨-, z, -⟩ | ⟨-, z, -⟩
    · refine va_forget (fun q hq => hS2.2.2 q hq) ?_
      refine W.widen (k := 601024) (n := 7293034) (by omega) (by omega) ?_
      exact lw_ret hx hb hr hlocks hd
    · cases z
    · exact absurd z (by decide)
  · intro h5
    subst hv
    exact absurd h5 (by decide)
  · intro h5
    subst hv
    exact absurd h5 (by decide)
set_option maxHeartbeats 4000000 in
theorem lw_walk (l : Launch) (hflags : l.flags = flags0) (b : Addr) (xs : List Int32) : MetFree l x (headSpec (Jvm.Cond.code x code maxLocals ret :: tables_1) room_1) (lw_P b xs) (fun _ _ _ _ _ => True) lw_Q := by
  refine MetFree.of_bodyS (code := code) (maxLocals := maxLocals) (ret := ret) (by decide) ?_ ?_
  · intro args s m h hn
    obtain ⟨meth, c, h1, h2, h3, h4, h5, h6, -, -⟩ := Cond.code_spec hn (atoms_spec (ws := Jvm.Cond.code x code maxLocals ret :: tables_1) h _ List.mem_cons_self)
    exact ⟨meth, c, h1, h2, h3, h4, h5, h6⟩
  · intro p e s m args below meth c s₁ B hml0 hP _
    obtain ⟨rfl, hx, hbd, hgv⟩ := hP
    obtain ⟨scr, harrAt, hlist, hof, hsmall⟩ := hx
    obtain ⟨hcb, hkn, -, -⟩ := State.arrayAt?_spec harrAt
    have hown : s.vm.findClass R_law = some m.cls := findClass_of_methodNamed B.named
    have hts0 : ∀ c ∈ (Jvm.Cond.code x code maxLocals ret :: tables_1), c.before #[Value.ref b] s = true := atoms_spec (ws := Jvm.Cond.code x code maxLocals ret :: tables_1) B.pre
    have hts : ∀ w ∈ lw_tbl, w.before #[Value.ref b] s = true := k2_hts_sels lw_privs (fun w hw => hts0 w (List.mem_cons_of_mem _ hw)) lw_privs_ok
    have hml : c.maxLocals = 7 := B.maxLocals_eq (hts0 _ List.mem_cons_self)
    have X₀ : Stand p l e room_1 s m #[Value.ref b] below meth c s₁ [] 0 0 := Stand.of_body B
    have hh0 : s₁.heap = s.heap := by rw [B.state]; rfl
    have hsz : scr.slots.size = xs.length := by rw [← Array.length_toList, hlist, List.length_map]
    have hval : ∀ j : Nat, j < xs.length → scr.slots[j]? = some (.int (xs.getD j 0)) := fun j hj => by
      rw [← Array.getElem?_toList, hlist]
      simp [hj]
    have hbl : b < s.heap.size := (Array.getElem?_eq_some_iff.mp hcb).1
    have hX : va_X b xs.length (fun j => xs.getD j 0) s s.heap := ⟨scr, hcb, hof, hkn, hsz, hval⟩
    have K : W p l e room_1 s m #[Value.ref b] below meth c s₁.heap [] 0 0 (lw_Z below #[Value.ref b] s) (entryFrame m ([Value.ref b] : List Value).toArray 7) := by
      rw [hh0]
      exact whole_start l hflags hbd ⟨B.exec, B.bytes, B.returns, hml, hown, hts, hX, hbl, B.notSynchronized, hgv⟩
    obtain ⟨t, a1, o, b1, b2, b3⟩ := K s₁ rfl X₀
    exact ⟨t, o, a1, b1, b2, b3⟩
theorem lw_pre_spec {args : Array Value} {s : State} (h : (Jvm.Cond.and given_1 narrow_1).before args s = true) (hr : rest_1_c.before args s = true) : ∃ (b : Addr) (xs : List Int32), lw_P b xs args s := by
  have hs := flat_of_before _ h
  have hq := flat_of_before _ hr
  have hc : (Cond.count 1).before args s = true := hs _ (by decide +kernel)
  have harr : (Cond.arrayOf (.arg 0) .int).before args s = true := hs _ (by decide +kernel)
  have hle : (Cond.le (.length (.arg 0)) (.int 3072)).before args s = true := hs _ (by decide +kernel)
  have hlen : (Cond.isInt (.length (.arg 0))).before args s = true := hq _ (by decide +kernel)
  have hall : (Cond.all (.arg 0) (.isInt (.elem (.arg 0) (.index 0)))).before args s = true := hq _ (by decide +kernel)
  obtain ⟨b, xs, hb, hx⟩ := State.ints_of_pre rfl harr hlen hall
  have hsm : xs.length < 2 ^ 31 := hx.choose_spec.2.2.2
  have hev : (Term.length (.arg 0)).eval args s none [] s = some (.int xs.length.toInt32) := hx.length_eval hb
  have hv := Cond.le_ints hev (show (Term.int 3072).eval args s none [] s = some (.int 3072) from rfl)
  have hd : xs.length.toInt32 ≤ 3072 := by
    simpa [Cond.before, Cond.holds, hv] using hle
  have hN : xs.length ≤ 3072 := (Int32.ofNat_le_ofNat hsm (by decide)).mp (show Int32.ofNat xs.length ≤ Int32.ofNat 3072 from hd)
  exact ⟨b, xs, Cond.one_arg hc (show args[0]? = some (.ref b) from hb), hx, hN, h⟩
theorem lw_comes (l : Launch) (hflags : l.flags = flags0) : Comes l x (Jvm.Cond.code x code maxLocals ret :: tables_1) room_1 (fun tb e args s => Calls_1 tb e args s ∧ rest_1 tb e args s ∧ Pre_1 tb e args s)
    (fun _ _ args s o t => lw_Q args s o t) := by
  intro p e ha hc hk s m args below hf hfit hheap happ hpre
  obtain ⟨b, xs, hP⟩ := lw_pre_spec hpre.2.2 hpre.2.1
  obtain ⟨k, o, h1, h2, h3, hQ⟩ := lw_walk l hflags b xs p e ha hc hk s m args below hf ((Spec.applies_iff_loose hf).mp happ).1 hP trivial
  exact ⟨k, o, h1, h2, h3, hQ⟩
theorem lw_frame {s t : State} {o : Outcome} {args : Array Value} (h : Framed s o t [] 601024 7293034) :
    Framed s o t (fieldLocs frame_1_writes args s ++ arrayLocs frame_1_arrays args s ++ staticLocs frame_1_statics s) 601024 7293034 := h
theorem lw_limb (L : Cond) (hL : ∀ (args : Array Value) (s t : State), L.after args s (.returned (some (.int 1))) t = true) :
    ArmFor flags0 classFile x code maxLocals ret World_1 tables_1 room_1 Calls_1 rest_1 Pre_1
      (fun tb e a s o t => postC L tb e a s o t ∧ Framed s o t (fieldLocs frame_1_writes a s ++ arrayLocs frame_1_arrays a s ++ staticLocs frame_1_statics s) 601024 7293034) := by
  intro l hflags _ _ p e ha hc hk s m args below hf hfit hheap happ hpre
  obtain ⟨k, o, h1, h2, h3, rfl, hF⟩ := lw_comes l hflags p e ha hc hk s m args below hf hfit hheap happ hpre
  exact ⟨k, _, h1, h2, h3, hL args s _, lw_frame hF⟩
theorem i_vc : Claimed_1_1 ∧ Claimed_1_2 := ⟨lw_limb limb_1_1 (fun args s t => by simp [limb_1_1, Cond.after, Cond.holds, Cond.value]), lw_limb limb_1_2 (fun args s t => Cond.after_iff.mpr (by
  first | (rw [show limb_1_2 = Cond.eq .result (.int 1) from rfl, Cond.eq_ints (x := 1) (y := 1) rfl rfl]; simp; done) | (simp [limb_1_2, Cond.value, Term.eval]; done)))⟩
