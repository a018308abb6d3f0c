noncomputable def fx_ow (mj : Nat) : Bool := decide (fx_cls (fx_own mj) = (fx_m mj).1.cls)
set_option maxRecDepth 100000 in
theorem fx_ow_ok : (List.range 294).all fx_ow = true := by decide +kernel
theorem fx_args_la (ad : Nat → Nat → Nat) : ∀ (as : List fx_V) (n k : Nat), (∀ v ∈ as, v.1 ≠ 1) → ∀ q ∈ fx_la ad k (fx_pad n as), q ∈ lv_args k (as.map (fx_cv ad))
  | _, 0, _, _, q, hq => by cases hq
  | [], n + 1, k, h, q, hq => fx_args_la ad [] n (k + 1) (fun _ h => by cases h) q hq
  | v :: as, n + 1, k, h, q, hq => by
    have ih := fx_args_la ad as n (k + 1) (fun w hw => h w (List.mem_cons_of_mem _ hw)) q
    have e1 : lv_args k ((v :: as).map (fx_cv ad)) = (k, fx_cv ad v) :: lv_args (k + 1) (as.map (fx_cv ad)) := by
      show (k, fx_cv ad v) :: lv_args (if (fx_cv ad v).category = 2 then k + 2 else k + 1) (as.map (fx_cv ad)) = _
      rw [fx_cat ad (h v List.mem_cons_self)]
      rfl
    rw [e1]
    have e2 : fx_la ad k (fx_pad (n + 1) (v :: as)) = cond (Nat.beq v.1 3) (fx_la ad (k + 1) (fx_pad n as)) ((k, fx_cv ad v) :: fx_la ad (k + 1) (fx_pad n as)) := rfl
    rw [e2] at hq
    cases hb : Nat.beq v.1 3 with
    | true =>
      rw [hb] at hq
      exact List.mem_cons_of_mem _ (ih hq)
    | false =>
      rw [hb] at hq
      rcases List.mem_cons.mp hq with rfl | hq
      · exact List.mem_cons_self
      · exact List.mem_cons_of_mem _ (ih hq)
theorem fx_sl_len (ad : Nat → Nat → Nat) : ∀ (as : List fx_V), (∀ v ∈ as, v.1 ≠ 1) → (lg_sl (as.map (fx_cv ad))).length = as.length
  | [], _ => rfl
  | v :: as, h => by
    have ih := fx_sl_len ad as (fun w hw => h w (List.mem_cons_of_mem _ hw))
    unfold lg_sl at ih ⊢
    rw [List.map_cons, List.flatMap_cons, List.length_append, ih, fx_cat ad (h v List.mem_cons_self)]
    simp
    omega
theorem fx_passP {cc : ByteArray} {mL : Nat} {pcs : List Nat} {ev : Int} : ∀ {hs : List (Int × Nat × Nat × Nat)} {hh : List (Nat × Nat × Nat × Nat)}, fx_hk1 cc mL pcs hs hh = true → fx_hf ev hs = none → ∀ z ∈ tableOf hh, ∃ e' : Nat, z.catchType ≠ 0 ∧ e' < 4 ∧ (z.catchType, e') ∈ fx_kll ∧ (e' : Int) ≠ ev
  | [], [], _, _, _, hz => by cases hz
  | [], _ :: _, h, _, _, _ => by cases h
  | _ :: _, [], h, _, _, _ => by cases h
  | q :: l, r :: t, h, h2, z, hz => by
    simp only [fx_hk1, Bool.and_eq_true, decide_eq_true_eq, List.all_eq_true, Bool.not_eq_true'] at h
    obtain ⟨⟨⟨⟨⟨⟨⟨⟨c1, c2⟩, c3⟩, c4⟩, c5⟩, c6⟩, c7⟩, c8⟩, c9⟩ := h
    have c5' : r.2.2.2 ≠ 0 := fun z => by rw [z] at c5; cases c5
    unfold fx_hf at h2
    by_cases e : q.1 = ev
    · rw [if_pos e] at h2
      cases h2
    · rw [if_neg e] at h2
      rcases List.mem_cons.mp hz with rfl | hz
      · exact ⟨q.1.toNat, c5', by omega, c3, by omega⟩
      · exact fx_passP c9 h2 z hz
section FXR
variable {p : Program} {l : Launch} {e : Env} {R : Room} {s : State} {m : MethodId} {args : Array Value} {below : List Frame} {meth : Method} {c : Code} {H : Heap} {locs : List Loc}
variable {mj k sz c2 s2 pc : Nat} {v : fx_V} {σ' : fx_S} {ls : Array Slot} {D : va_G} {ad : Nat → Nat → Nat} {cy : Nat → ClassId}
/-- a method's end -/
theorem fx_rets (hx : p.tables.exec = Jvm.exec) (hb : c.code = (fx_m mj).2.1) (hr : meth.sig.returnType = (fx_m mj).2.2.2.1) (hlocks : meth.locks = false) (hsz : sz = s.heap.size) (hc : c2 = 0 + k) (hs : s2 = 0 + 6 * k)
    {ri : Instr} (hd : decode (fx_m mj).2.1 pc = .ok (ri, 1)) (hok : fx_rok (fx_m mj) ri v) (hP : va_P D vwCl (fx_W ad cy σ') H) (hSS : va_S (fx_Az ad sz) s.heap H locs) :
    W p l e R s m args below meth c H locs c2 s2 (vx_MQ below (fx_Qc ad cy D sz v σ') (fx_Xc ad cy D sz v σ') args s k (6 * k) (fx_Az ad sz)) (F0 m pc ls (fx_rv ad v).toList) := by
  obtain rfl : c2 = k := by omega
  obtain rfl : s2 = 6 * c2 := by omega
  refine vx_ret ?_
  have post : v.1 ≠ 5 → ∀ t : State, t.heap = H → s.WarmedH t.vm → fx_Qc ad cy D sz v σ' args s (.returned (fx_rv ad v)) t := fun h5 t ht hW => ⟨rfl, h5, by rw [ht]; exact hP, hSS.F ht⟩
  rcases hok with ⟨rfl, hv, t, ht, hbit⟩ | ⟨rfl, rfl, hck⟩ | ⟨rfl, h9, hck⟩
  · obtain ⟨v1, x⟩ := v
    simp only at hv
    subst hv
    unfold fx_ckR at ht
    split at ht
    · next er =>
      rw [er] at hr
      exact W.iret hx hb hr (post (by simp)) hSS.2.2 hd hlocks
    · next er =>
      rw [er] at hr
      have ht := fx_beq ht
      exact W.zret hx hb hr (fx_narB (by rcases hbit with z | z; omega; exact z)).2.1 (post (by simp)) hSS.2.2 hd hlocks
    · cases ht
  · unfold fx_ckV at hck
    split at hck
    · next er =>
      rw [er] at hr
      exact W.vret hx hb hr (post (by simp)) hSS.2.2 hd hlocks
    · cases hck
  · have e4 : Nat.beq v.1 4 = false := fx_bF (by omega)
    have e1 : fx_rv ad v = some (.ref (ad v.1 v.2.toNat)) := by
      unfold fx_rv
      rw [e4, cond_false, fx_cvo ad v.2 (show 2 ≤ v.1 by omega)]
    have post := post (by omega)
    rw [e1] at post ⊢
    unfold fx_ckA at hck
    split at hck
    · next er =>
      rw [er] at hr
      exact W.aret hx hb hr (Or.inl ⟨_, rfl⟩) (Or.inr ⟨_, rfl⟩) post hSS.2.2 hd hlocks
    · next er =>
      rw [er] at hr
      exact W.aret hx hb hr (Or.inr ⟨_, rfl⟩) (Or.inr ⟨_, rfl⟩) post hSS.2.2 hd hlocks
    · cases hck
end FXR
