noncomputable def fx_tk (ic : Nat) (X : String) : Bool := Bundle.fit X && fx_sup.all Bundle.fit && ((Bundle.ownAtoms RX6 ic X fx_sup).filter fx_nb).all (fun w => goodWord w || decide (w ∈ fx_dcl.map Cond.declares)) && (vx_atS RX6 ic X fx_sup).all (fun w => (fx_nb w || decide (w = .castable X X)) && vx_ot w)
set_option maxRecDepth 100000 in
theorem fx_tk0 : fx_tk 92 "java/lang/IllegalArgumentException" = true := by decide +kernel
set_option maxRecDepth 100000 in
theorem fx_tk1 : fx_tk 153 "java/lang/IllegalStateException" = true := by decide +kernel
set_option maxRecDepth 100000 in
theorem fx_tk2 : fx_tk 330 "java/lang/IndexOutOfBoundsException" = true := by decide +kernel
theorem fx_ths_in : ∀ th ∈ fx_ths, th.1 = RX6 ∧ ((th.2.1, th.2.2.2.1, th.2.2.2.2.1) = (88, 92, 0) ∨ (th.2.1, th.2.2.2.1, th.2.2.2.2.1) = (149, 153, 1) ∨ (th.2.1, th.2.2.2.1, th.2.2.2.2.1) = (326, 330, 2) ∨ (th.2.1, th.2.2.2.1, th.2.2.2.2.1) = (339, 343, 3)) := by decide +kernel
section FXT
variable {p : Program} {l : Launch} {e : Env} {R : Room} {s : State} {m : MethodId} {args : Array Value} {below : List Frame} {meth : Method} {c : Code} {H : Heap} {locs : List Loc}
variable {mj k sz c2 s2 pc : Nat} {v : fx_V} {σ' : fx_S} {ls : Array Slot} {D : va_G} {ad : Nat → Nat → Nat} {cy : Nat → ClassId} {Ls : Nat} {xs : Nat → Int32}
theorem fx_atall {ic : Nat} {X : String} {A : Nat → Prop} (htk : fx_tk ic X = true) (hts : ∀ w ∈ fx_T0, w.before args s = true) (hZ : fx_Zf ad cy D Ls xs A s s.heap) (hX : X ∈ fx_exn) (hta : ∀ w ∈ (Bundle.ownAtoms RX6 ic X fx_sup).filter fx_nb, w ∈ lw_tbl) : ∀ w ∈ vx_atS RX6 ic X fx_sup, w.before args s = true := by
  unfold fx_tk at htk
  simp only [Bool.and_eq_true, List.all_eq_true, Bool.or_eq_true, decide_eq_true_eq] at htk
  obtain ⟨⟨⟨h1, h2⟩, h3⟩, h4⟩ := htk
  intro w hw
  rcases (h4 w hw).1 with h | rfl
  · have hin : w ∈ (Bundle.ownAtoms RX6 ic X fx_sup).filter fx_nb := List.mem_filter.mpr ⟨(List.mem_filter.mp hw).1, h⟩
    rcases h3 w hin with g | g
    · exact hts w (fx_T0_in (hta w hin) g)
    · obtain ⟨y, hy, rfl⟩ := List.mem_map.mp g
      exact va_Nw.use rfl (hZ.2.2.2.2.2.1.2 y hy)
  · exact va_Nw.use rfl (hZ.2.2.2.2.2.2.2.1 X hX)
theorem fx_thrG {ik is ic ev : Nat} {tx X : String} (hXe : fx_nth fx_exn ev "" = X) (hev : ev < 4) (htk : fx_tk ic X = true) (hta : ∀ w ∈ (Bundle.ownAtoms RX6 ic X fx_sup).filter fx_nb, w ∈ lw_tbl) (htl : ∀ w ∈ ([.classLink RX6 ik X, .initialized X] : List Cond), w ∈ lw_tbl)
    (hx : p.tables.exec = Jvm.exec) (hl : l.stackTraces = false) (hml : c.maxLocals = (fx_m mj).2.2.1) (hown : s.vm.findClass RX6 = some m.cls) (hts : ∀ w ∈ fx_T0, w.before args s = true) (hout : ∀ x ∈ c.exceptionTable.toList, False) (hlocks : meth.locks = false) (hsz : sz = s.heap.size)
    (hRf : 9 ≤ R.frames) (hRl : 240 ≤ R.locals) (hRc : c2 + 1 ≤ R.cells) (hRs : s2 + 6 ≤ R.slots) (hc : c2 + 1 = 0 + k) (hs : s2 + 6 = 0 + 6 * k) (hZ : fx_Zf ad cy D Ls xs (fx_Az ad sz) s s.heap) (htx : ∃ sa, vk_R RX6 is tx sa s)
    (hb : c.code = (fx_m mj).2.1) (d0 : decode (fx_m mj).2.1 pc = .ok (.new ik, 3)) (d3 : decode (fx_m mj).2.1 (pc + 3) = .ok (.dup, 1))
    (hd : (decode (fx_m mj).2.1 (pc + 4) = .ok (.ldc is, 2) ∧ decode (fx_m mj).2.1 (pc + 6) = .ok (.invokespecial ic, 3) ∧ decode (fx_m mj).2.1 (pc + 9) = .ok (.athrow, 1)) ∨ (decode (fx_m mj).2.1 (pc + 4) = .ok (.ldc_w is, 3) ∧ decode (fx_m mj).2.1 (pc + 7) = .ok (.invokespecial ic, 3) ∧ decode (fx_m mj).2.1 (pc + 10) = .ok (.athrow, 1)))
    (hls : ls.size = (fx_m mj).2.2.1) (hv : v = (5, (ev : Int))) (hP : va_P D vwCl (fx_W ad cy σ') H) (hSS : va_S (fx_Az ad sz) s.heap H locs) :
    W p l e R s m args below meth c H locs c2 s2 (vx_MQ below (fx_Qc ad cy D sz v σ') (fx_Xc ad cy D sz v σ') args s k (6 * k) (fx_Az ad sz)) (F0 m pc ls []) := by
  obtain ⟨sa, htx⟩ := htx
  have hXin : X ∈ fx_exn := by rw [← hXe]; exact fx_nth_in _ (by rw [fx_exn_len]; exact hev)
  have hat := fx_atall htk hts hZ hXin hta
  have htk' := htk
  unfold fx_tk at htk'
  simp only [Bool.and_eq_true, List.all_eq_true, Bool.or_eq_true, decide_eq_true_eq] at htk'
  obtain ⟨⟨⟨h1, h2⟩, h3⟩, h4⟩ := htk'
  have hgood : ∀ w ∈ Cond.classLink RX6 ik X :: Cond.initialized X :: vx_atS RX6 ic X fx_sup, vx_ot w = true := by
    intro w hw
    rcases List.mem_cons.mp hw with rfl | hw
    · rfl
    · rcases List.mem_cons.mp hw with rfl | hw
      · rfl
      · exact (h4 w hw).2
  have hk := hts _ (fx_T0_in (htl _ List.mem_cons_self) rfl)
  have hini := hts _ (fx_T0_in (htl _ (List.mem_cons_of_mem _ List.mem_cons_self)) rfl)
  have post : ∀ t : State, s.vm.Alike t.vm → H.size ≤ t.heap.size → (∀ q : Nat, q < H.size → t.heap[q]? = H[q]?) → fx_Xc ad cy D sz v σ' X s t := by
    intro t _ hz hq
    refine ⟨?_, by rw [hv], hP.kept (fun kk q hk => hq _ (hP kk q hk).lt), Nat.le_trans hSS.1 hz, fun q h1 h2 => ?_⟩
    · unfold fx_en
      rw [hv]
      exact hXe.symm
    · rw [hq q (Nat.lt_of_lt_of_le h1 hSS.1)]
      exact hSS.2.1 q h1 h2
  have hsup : fx_sup.length = 2 := rfl
  rcases hd with ⟨e1, e2, e3⟩ | ⟨e1, e2, e3⟩
  · exact vx_throwS hx hb hl hown h1 h2 hk hini htx hat hgood hZ.2.2.1 hZ.2.2.2.1 hSS (by rw [hls, hml]) d0 d3 e1 e2 e3 (fun x hx => (hout x hx).elim) (by rw [hsup]; omega) (by rw [hsup]; simp only [List.map_nil, List.sum_nil]; omega) hRc hRs hlocks post hSS.2.2 (by omega) (by omega)
  · exact vx_throwSW hx hb hl hown h1 h2 hk hini htx hat hgood hZ.2.2.1 hZ.2.2.2.1 hSS (by rw [hls, hml]) d0 d3 e1 e2 e3 (fun x hx => (hout x hx).elim) (by rw [hsup]; omega) (by rw [hsup]; simp only [List.map_nil, List.sum_nil]; omega) hRc hRs hlocks post hSS.2.2 (by omega) (by omega)
end FXT
/-- the fourth: its constructor hands on by another place -/
def fx_NS (l : Launch) : Prop := ∀ (p : Program) (e : Env) (R : Room) (s : State) (m : MethodId) (args : Array Value) (below : List Frame) (meth : Method) (c : Code) (H : Heap) (locs : List Loc) (mj k sz c2 s2 pc : Nat) (v : fx_V) (σ' : fx_S) (ls : Array Slot) (D : va_G) (ad : Nat → Nat → Nat) (cy : Nat → ClassId) (Ls : Nat) (xs : Nat → Int32) (is : Nat) (tx : String),
    p.tables.exec = Jvm.exec → c.maxLocals = (fx_m mj).2.2.1 → s.vm.findClass RX6 = some m.cls → (∀ w ∈ fx_T0, w.before args s = true) → (∀ x ∈ c.exceptionTable.toList, False) → meth.locks = false → sz = s.heap.size →
    9 ≤ R.frames → 240 ≤ R.locals → c2 + 1 ≤ R.cells → s2 + 6 ≤ R.slots → c2 + 1 = 0 + k → s2 + 6 = 0 + 6 * k → fx_Zf ad cy D Ls xs (fx_Az ad sz) s s.heap → (∃ sa, vk_R RX6 is tx sa s) →
    c.code = (fx_m mj).2.1 → decode (fx_m mj).2.1 pc = .ok (.new 339, 3) → decode (fx_m mj).2.1 (pc + 3) = .ok (.dup, 1) →
    ((decode (fx_m mj).2.1 (pc + 4) = .ok (.ldc is, 2) ∧ decode (fx_m mj).2.1 (pc + 6) = .ok (.invokespecial 343, 3) ∧ decode (fx_m mj).2.1 (pc + 9) = .ok (.athrow, 1)) ∨ (decode (fx_m mj).2.1 (pc + 4) = .ok (.ldc_w is, 3) ∧ decode (fx_m mj).2.1 (pc + 7) = .ok (.invokespecial 343, 3) ∧ decode (fx_m mj).2.1 (pc + 10) = .ok (.athrow, 1))) →
    ls.size = (fx_m mj).2.2.1 → v = (5, 3) → va_P D vwCl (fx_W ad cy σ') H → va_S (fx_Az ad sz) s.heap H locs →
    W p l e R s m args below meth c H locs c2 s2 (vx_MQ below (fx_Qc ad cy D sz v σ') (fx_Xc ad cy D sz v σ') args s k (6 * k) (fx_Az ad sz)) (F0 m pc ls [])
set_option maxHeartbeats 1000000 in
theorem fx_conB (l : Launch) (hst : l.stackTraces = false) (hNS : fx_NS l) (n : Nat) (hB : fx_Body l n) : fx_Con l n := by
  intro mj as σ v σ' k hm2 hmj hrun hlen hasS hasN hσ ad cy D Ls xs sz hap hsc
  obtain ⟨d1, d2, d3, d4, d5, d6⟩ := fx_dk_at (mj := mj) (by omega)
  have ey : fx_yn mj = (fx_m mj).1 := by
    unfold fx_yn
    rw [fx_bF (a := mj) (b := 500) (by omega), fx_bF (a := mj) (b := 501) (by omega)]; rfl
  have how : fx_cls (fx_own mj) = (fx_m mj).1.cls := by
    have := List.all_eq_true.mp fx_ow_ok mj (List.mem_range.mpr (by omega))
    unfold fx_ow at this
    exact of_decide_eq_true this
  have hpl : plainName (fx_yn mj).cls = true := by rw [ey]; exact d1 hm2
  -- the body, from what a body's start gives
  have main : ∀ (p : Program) (e : Env) (s : State) (m : MethodId) (args : Array Value) (below : List Frame) (meth : Method) (c : Code), p.tables.exec = Jvm.exec → c.code = (fx_m mj).2.1 → meth.sig.returnType = (fx_m mj).2.2.2.1 → c.maxLocals = (fx_m mj).2.2.1 → s.vm.findClass (fx_yn mj).cls = some m.cls → (∀ w ∈ fx_T0, w.before args s = true) → meth.locks = false →
      (261 ≤ mj → c.exceptionTable.toList = tableOf (fx_nth fx_hhs (mj - 261) [])) → (mj < 261 → ∀ x ∈ c.exceptionTable.toList, False) → fx_Pc ad cy D Ls xs sz as σ args s →
      W p l e (headSpec (fx_ws mj) (fx_rm mj k)).room s m args below meth c s.heap [] 0 0 (vx_MQ below (fx_Qc ad cy D sz v σ') (fx_Xc ad cy D sz v σ') args s k (6 * k) (fx_Az ad sz)) (entryFrame m args (fx_m mj).2.2.1) := by
    intro p e s m args below meth c hx hb hr hml hown hts hlocks htab hnot hv
    obtain ⟨rfl, hsz, hP, hZ⟩ := hv
    have hsz := hsz.symm
    have hl := lv_entry (as.map (fx_cv ad)) (n := (fx_m mj).2.2.1) (by rw [fx_sl_len ad as hasN]; exact hlen)
    rw [lg_entry_eq]
    generalize (lg_sl (as.map (fx_cv ad)) ++ List.replicate ((fx_m mj).2.2.1 - (lg_sl (as.map (fx_cv ad))).length) Slot.unset).toArray = ls at hl ⊢
    have hl : lv_has ls (fx_m mj).2.2.1 (fx_la ad 0 (fx_pad (fx_m mj).2.2.1 as)) := ⟨hl.1, hl.2.1, fun q hq => hl.2.2 q (fx_args_la ad as _ 0 hasN q hq)⟩
    have hF : fx_Fr p s m (as.map (fx_cv ad)).toArray c mj := ⟨hx, hb, hml, by rw [how, ← ey]; exact hown, hts⟩
    refine hB p e (fx_rm mj k) s m _ below meth c _ mj ad cy D Ls xs (fx_Az ad sz) 0 _ [] σ v σ' k s.heap [] ls 0 0 hF (by omega) (fun h _ => htab h) hap (fun r hr => Or.inl ⟨r, hr, rfl⟩) (fun q hq => Or.inr (by omega)) hZ (Nat.le_refl _) (Nat.le_refl _) hrun (fx_pad_ok _ hasS hasN) (fun _ h => by cases h) hσ hsc hl hP va_S.rf (by show 0 + k ≤ k; omega) (by show 0 + 6 * k ≤ 6 * k; omega) ?_ ?_ ?_
    · intro pc1 ls1 H1 locs1 ri c2 s2 q1 q2 hd hok hP1 hS1
      exact fx_rets hx hb hr hlocks hsz q1 q2 hd hok hP1 hS1
    · intro h5 v0 v4 hno pc1 ls1 H1 locs1 rest ce q9 c2 s2 q1 q2 hP1 hS1 hce hcv hcl
      have post : ∀ t : State, t.heap = H1 → s.vm.Alike t.vm → fx_Xc ad cy D sz v σ' (fx_en v) s t := fun t ht _ => ⟨rfl, h5, by rw [ht]; exact hP1, hS1.F ht⟩
      by_cases h6 : mj < 261
      · exact vx_out (fun x hx => (hnot h6 x hx).elim) hlocks hce hcv hcl post hS1.2.2 (by omega) (by omega)
      · have hck := List.all_eq_true.mp fx_hk_ok (mj - 261) (List.mem_range.mpr (by omega))
        unfold fx_hk at hck
        rw [show mj - 261 + 261 = mj by omega] at hck
        have hno' : fx_hf v.2 (fx_nth fx_hds (mj - 261) []) = none := by
          unfold fx_hd at hno
          rw [show Nat.ble 261 mj = true from Nat.ble_eq_true_of_le (by omega), cond_true] at hno
          exact hno
        have hownL : s.vm.findClass RL = some m.cls := by
          rw [ey, fx_msL_cls _ (List.of_mem_zip (fx_m_inL (mj := mj) (by omega) hmj)).1] at hown
          exact hown
        refine vx_outP hownL hlocks (fun z hz => Or.inr ?_) hce hcv hcl post hS1.2.2 (by omega) (by omega)
        rw [htab (by omega)] at hz
        obtain ⟨e', g1, g2, g3, g4⟩ := fx_passP hck hno' z hz
        exact ⟨g1, _, hts _ (fx_T0_in (fx_kw _ g3) rfl), hZ.2.2.2.2.2.2.2.2.1 _ (fx_nth_in _ (by rw [fx_exn_len]; omega)) _ (fx_nth_in _ (by rw [fx_exn_len]; omega)) (fx_exn_ne (by omega) g2 (by omega))⟩
    · intro h5 pc1 ls1 H1 locs1 ik q c2 s2 q1 q2 hd hck hdn hv hls hP1 hS1
      simp only [fx_ckI, Bool.and_eq_true, decide_eq_true_eq] at hck
      obtain ⟨⟨⟨⟨k1, k2⟩, k3⟩, k4⟩, k5⟩ := hck
      have k1 := Nat.le_of_ble_eq_true k1
      have k2 := fx_beq k2
      have hin := fx_nth_in (l := fx_ths) (n := q.2.2.1) ("", 0, 0, 0, 0, "") (fx_blt k3)
      obtain ⟨t1, t2⟩ := fx_ths_in _ hin
      have htx := hZ.2.2.2.2.2.1.1 _ hin
      unfold fx_dcN at hdn
      simp only [Bool.and_eq_true, decide_eq_true_eq] at hdn
      generalize fx_nth fx_ths q.2.2.1 ("", 0, 0, 0, 0, "") = th at *
      obtain ⟨a1, a2, a3, a4, a5, a6⟩ := th
      simp only at t1 t2 k4 k5 htx hdn
      subst t1
      subst k4
      have hown6 : s.vm.findClass RX6 = some m.cls := by
        have := hF.2.2.2.1
        rw [k2] at this
        exact this
      have h261 : mj < 261 := by
        refine Nat.not_le.mp fun z => ?_
        have : ∀ j, j < 33 → fx_own (j + 261) = 10 := by decide +kernel
        have h10 := this (mj - 261) (by omega)
        rw [show mj - 261 + 261 = mj by omega] at h10
        omega
      have hrm : (headSpec (fx_ws mj) (fx_rm mj k)).room = fx_rm mj k := rfl
      have dn : decode (fx_m mj).2.1 (pc1 + 3) = .ok (.dup, 1) ∧ ((decode (fx_m mj).2.1 (pc1 + 4) = .ok (.ldc a3, 2) ∧ decode (fx_m mj).2.1 (pc1 + 6) = .ok (.invokespecial a4, 3) ∧ decode (fx_m mj).2.1 (pc1 + 9) = .ok (.athrow, 1)) ∨ (decode (fx_m mj).2.1 (pc1 + 4) = .ok (.ldc_w a3, 3) ∧ decode (fx_m mj).2.1 (pc1 + 7) = .ok (.invokespecial a4, 3) ∧ decode (fx_m mj).2.1 (pc1 + 10) = .ok (.athrow, 1))) := by
        refine ⟨hdn.1, ?_⟩
        have h2 := hdn.2
        cases hb2 : Nat.beq q.2.1 2 with
        | true =>
          rw [hb2, cond_true] at h2
          simp only [Bool.and_eq_true, decide_eq_true_eq] at h2
          exact Or.inl ⟨h2.1.1, h2.1.2, h2.2⟩
        | false =>
          rw [hb2, cond_false] at h2
          simp only [Bool.and_eq_true, decide_eq_true_eq] at h2
          exact Or.inr ⟨h2.1.1, h2.1.2, h2.2⟩
      have hRf : 9 ≤ (fx_rm mj k).frames := by show 9 ≤ fx_lev mj + 3; omega
      have hRl : 240 ≤ (fx_rm mj k).locals := by show 240 ≤ 40 * fx_lev mj; omega
      have hRc : c2 + 1 ≤ (fx_rm mj k).cells := by show c2 + 1 ≤ k; omega
      have hRs : s2 + 6 ≤ (fx_rm mj k).slots := by show s2 + 6 ≤ 6 * k; omega
      rw [← k5] at hv
      rcases t2 with t2 | t2 | t2 | t2 <;> simp only [Prod.mk.injEq] at t2 <;> obtain ⟨rfl, rfl, rfl⟩ := t2
      · exact fx_thrG rfl (by decide) fx_tk0 fx_ta0 fx_tl0 hx hst hml hown6 hts (hnot h261) hlocks hsz hRf hRl hRc hRs q1 q2 hZ htx hb hd dn.1 dn.2 hls hv hP1 hS1
      · exact fx_thrG rfl (by decide) fx_tk1 fx_ta1 fx_tl1 hx hst hml hown6 hts (hnot h261) hlocks hsz hRf hRl hRc hRs q1 q2 hZ htx hb hd dn.1 dn.2 hls hv hP1 hS1
      · exact fx_thrG rfl (by decide) fx_tk2 fx_ta2 fx_tl2 hx hst hml hown6 hts (hnot h261) hlocks hsz hRf hRl hRc hRs q1 q2 hZ htx hb hd dn.1 dn.2 hls hv hP1 hS1
      · exact hNS p e _ s m _ below meth c H1 locs1 mj k sz c2 s2 pc1 v σ' ls1 D ad cy Ls xs a3 a6 hx hml hown6 hts (hnot h261) hlocks hsz hRf hRl hRc hRs q1 q2 hZ htx hb hd dn.1 dn.2 hls hv hP1 hS1
  by_cases h6 : mj < 261
  · have hcw : fx_ws mj = Cond.code (fx_yn mj) (fx_m mj).2.1 (fx_m mj).2.2.1 (fx_m mj).2.2.2.1 :: fx_T0 := by
      unfold fx_ws fx_cd
      rw [show Nat.blt mj 261 = true from Nat.ble_eq_true_of_le h6, ey]; rfl
    refine vx_ofW (cc := (fx_m mj).2.1) (maxL := (fx_m mj).2.2.1) (ret := (fx_m mj).2.2.2.1) hpl hcw ?_
    intro p e s m args below meth c s₁ B hml hout hv
    exact main p e s m args below meth c B.exec B.bytes B.returns hml (findClass_of_methodNamed B.named) (fun w hw => atoms_spec (ws := fx_ws mj) B.pre w (List.mem_cons_of_mem _ hw)) B.notSynchronized (fun h => by omega) (fun _ => hout) hv
  · have hcw : fx_ws mj = Cond.codeWith (fx_yn mj) (fx_m mj).2.1 (fx_m mj).2.2.1 (fx_m mj).2.2.2.1 (fx_nth fx_hhs (mj - 261) []) :: fx_T0 := by
      unfold fx_ws fx_cd
      rw [fx_bltF (by omega), fx_bF (a := mj) (b := 500) (by omega), fx_bF (a := mj) (b := 501) (by omega), ey]
      simp only [cond_false, fx_hword]
    refine vx_ofWH (cc := (fx_m mj).2.1) (maxL := (fx_m mj).2.2.1) (ret := (fx_m mj).2.2.2.1) hpl hcw ?_
    intro p e s m args below meth c s₁ B hml hv
    have hts := atoms_spec (ws := fx_ws mj) B.pre
    exact main p e s m args below meth c B.exec B.bytes B.returns hml (findClass_of_methodNamed B.named) (fun w hw => hts w (List.mem_cons_of_mem _ hw)) B.notSynchronized (fun _ => vx_table (x := fx_yn mj) B (hts _ (by rw [hcw]; exact List.mem_cons_self))) (fun h => absurd h h6) hv
