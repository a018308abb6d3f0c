section FXSIM
variable {p : Program} {l : Launch} {e : Env} {R : Room} {s : State} {m : MethodId} {args : Array Value} {below : List Frame} {meth : Method} {c : Code} {H : Heap} {locs : List Loc} {cells slots : Nat} {Q : State → Prop}
variable {mi pc : Nat} {L st : List fx_V} {σ : fx_S} {ls : Array Slot} {D : va_G} {ad : Nat → Nat → Nat} {cy : Nat → ClassId} {Ls : Nat} {xs : Nat → Int32} {A : Nat → Prop}
set_option maxHeartbeats 8000000 in
theorem fx_sim (hF : fx_Fr p s m args c mi) (hm : mi < 294) (hap : fx_ap ad) (hA : ∀ r ∈ fx_all, A (ad r.1 r.2)) (hK : va_K D vwCl (fx_tys cy) s) (hTx : fx_Tx ad s) (hX : va_X (ad 9 0) Ls xs s s.heap) (hbl : ad 9 0 < s.heap.size) (hbA : ¬ A (ad 9 0))
    {T : fx_T} (hstep : fx_step (fx_code mi) fx_rk pc L st σ = some (.inl T)) (hL : fx_oL L) (hS : fx_oS st) (hσ : fx_rgS σ) (hsc : fx_scr Ls xs σ) (hl : lv_has ls (fx_m mi).2.2.1 (fx_la ad 0 L)) (hP : va_P D vwCl (fx_W ad cy σ) H) (hSS : va_S A s.heap H locs)
    (k : ∀ (H1 : Heap) (locs1 : List Loc) (ls1 : Array Slot), lv_has ls1 (fx_m mi).2.2.1 (fx_la ad 0 T.2.1) → va_P D vwCl (fx_W ad cy T.2.2.2) H1 → va_S A s.heap H1 locs1 → W p l e R s m args below meth c H1 locs1 cells slots Q (F0 m T.1 ls1 (T.2.2.1.map (fx_cv ad)))) :
    W p l e R s m args below meth c H locs cells slots Q (F0 m pc ls (st.map (fx_cv ad))) := by
  obtain ⟨len, ins, q, sw, hck, hlen, hd, -, h⟩ := fx_ent hm hstep
  clear hstep
  obtain ⟨hx, hb, hml, hown, hts⟩ := hF
  have hDD : ∀ σ : fx_S, va_D A (fx_W ad cy σ) := fun σ => (fx_WD hap).weaken (fun k q _ hq => by obtain ⟨r, h1, h2⟩ := hq; rw [← h2]; exact hA r h1)
  have go : ∀ {pc' : Nat} {L' st' : List fx_V} {σ' : fx_S}, fx_go pc' L' st' σ' = some (.inl T) → T = (pc', L', st', σ') := fun h => Sum.inl.inj (fx_go_inv h)
  have len_ : fx_isw ins = false → len = fx_il ins := fun z => by
    rw [z, Bool.false_or] at hlen
    exact fx_beq hlen
  have hget : ∀ {K : Nat} {i : Int}, 10 ≤ K → K < 62 → 0 ≤ i → i < fx_cnt K → ∃ (n k : Nat), i = (n : Int) ∧ fx_all[k]? = some (K, n) ∧ (fx_W ad cy σ)[k]? = some (ad K n, fx_Er ad cy (σ K n) K n) := by
    intro K i h1 h2 h3 h4
    obtain ⟨n, rfl⟩ : ∃ n : Nat, i = (n : Int) := ⟨i.toNat, by omega⟩
    obtain ⟨k, g1, g2⟩ := fx_W_get ad cy σ (fx_in h1 h2 h4)
    exact ⟨n, k, rfl, g1, g2⟩
  have ref10 : ∀ {K : Nat} {i : Int}, fx_o1 (K, i) → (fx_form K < 7) → K ≠ 0 → K ≠ 1 → 10 ≤ K ∧ K < 62 ∧ 0 ≤ i ∧ i < fx_cnt K := by
    intro K i ho hf k0 k1
    obtain ⟨a1, a2, a3, a4⟩ := fx_o1_ref ho (by omega)
    refine ⟨?_, ?_, a3, a4⟩
    · refine Nat.not_lt.mp fun z => ?_
      have ek : K = 9 := by omega
      rw [ek] at hf; exact absurd hf (by decide)
    · refine Nat.not_le.mp fun z => ?_
      have ek : K = 62 := by omega
      rw [ek] at hf; exact absurd hf (by decide)
  have num_ : ∀ {f K : Nat}, fx_form K = f → f ≠ 9 → K ≠ 0 ∧ K ≠ 1 := fun h1 h2 => ⟨fun z => by subst z; exact h2 h1.symm, fun z => by subst z; exact h2 h1.symm⟩
  unfold fx_exe at h
  split at h
  -- iconst
  · next n =>
    rw [len_ rfl] at hd
    simp only [fx_ckI, Bool.and_eq_true, decide_eq_true_eq] at hck
    obtain rfl := go h
    exact lv_iconst hx hb hd (by rw [hck.1]) (k _ _ _ hl hP hSS)
  -- lconst
  · next n =>
    rw [len_ rfl] at hd
    simp only [fx_ckI, decide_eq_true_eq] at hck
    obtain rfl := go h
    refine lv_lconst hx hb hd (v := Int64.ofInt q.2.2.2.1) ?_ (k _ _ _ hl hP hSS)
    rw [← hck]
    rfl
  -- i2l
  · rw [len_ rfl] at hd
    have h0 := fx_p1_inv h
    clear h
    obtain ⟨x, st', rfl, h⟩ := h0
    obtain rfl := go h
    exact lv_i2l hx hb hd (fx_i2l (fx_o1_num (fx_oS_head hS))) (k _ _ _ hl hP hSS)
  -- lcmp
  · rw [len_ rfl] at hd
    have h0 := fx_pl_inv h
    clear h
    obtain ⟨y, st', rfl, h⟩ := h0
    have h0 := fx_pl_inv h
    clear h
    obtain ⟨x, st'', rfl, h⟩ := h0
    obtain rfl := go h
    refine W.lcmp hx hb hd ?_
    rw [fx_lcmp (fx_o1_lng (fx_oS_head (fx_oS_tail hS))) (fx_o1_lng (fx_oS_head hS))]
    exact k _ _ _ hl hP hSS
  -- laload
  · rw [len_ rfl] at hd
    have h0 := fx_p1_inv h
    clear h
    obtain ⟨j, st', rfl, h⟩ := h0
    have h0 := fx_po_inv h
    clear h
    obtain ⟨K, i, st'', rfl, h⟩ := h0
    have h0 := fx_arr_inv h
    clear h
    obtain ⟨h1, h2, h⟩ := h0
    obtain rfl := go h
    obtain ⟨n0, n1⟩ := num_ h1 (by decide)
    obtain ⟨a1, a2, a3, a4⟩ := ref10 (fx_oS_head (fx_oS_tail hS)) (by omega) n0 n1
    obtain ⟨n, kk, rfl, g1, g2⟩ := hget a1 a2 a3 a4
    rw [fx_Er6 h1] at g2
    have hlen' := fx_len_ok (K := K) (by omega)
    obtain ⟨i1, i2⟩ := fx_ix h2.1 h2.2 hlen'
    have kk9 := k _ _ _ hl hP hSS
    have e1 : fx_cv ad (K, (n : Int)) = .ref (ad K n) := by rw [fx_cvo ad _ (by omega)]; rfl
    show W p l e R s m args below meth c H locs cells slots Q (F0 m pc ls (.int (Int32.ofInt j) :: fx_cv ad (K, (n : Int)) :: st''.map (fx_cv ad)))
    rw [e1]
    refine va_lald hx hb hK hP kk 5 g2 rfl i1 hd ?_
    rw [i2]
    have e2 : ((j.toNat : Nat) : Int) = j := by omega
    rw [e2]
    exact kk9
  -- lastore
  · rw [len_ rfl] at hd
    have h0 := fx_pl_inv h
    clear h
    obtain ⟨v, st0, rfl, h⟩ := h0
    have h0 := fx_p1_inv h
    clear h
    obtain ⟨j, st', rfl, h⟩ := h0
    have h0 := fx_po_inv h
    clear h
    obtain ⟨K, i, st'', rfl, h⟩ := h0
    have h0 := fx_arr_inv h
    clear h
    obtain ⟨h1, h2, h⟩ := h0
    obtain rfl := go h
    obtain ⟨n0, n1⟩ := num_ h1 (by decide)
    obtain ⟨a1, a2, a3, a4⟩ := ref10 (fx_oS_head (fx_oS_tail (fx_oS_tail hS))) (by omega) n0 n1
    obtain ⟨n, kk, rfl, g1, g2⟩ := hget a1 a2 a3 a4
    rw [fx_Er6 h1] at g2
    have hlen' := fx_len_ok (K := K) (by omega)
    obtain ⟨i1, i2⟩ := fx_ix h2.1 h2.2 hlen'
    have e1 : fx_cv ad (K, (n : Int)) = .ref (ad K n) := by rw [fx_cvo ad _ (by omega)]; rfl
    show W p l e R s m args below meth c H locs cells slots Q (F0 m pc ls (.long (Int64.ofInt v) :: .int (Int32.ofInt j) :: fx_cv ad (K, (n : Int)) :: st''.map (fx_cv ad)))
    rw [e1]
    refine va_last hx hb hK hP (hDD σ) hSS kk 5 g2 rfl i1 hd (fun H1 locs1 hP1 hD1 hS1 => ?_)
    refine k H1 locs1 ls hl ?_ hS1
    rw [← fx_W_set hap (j := j) (v := v) g1 (e := .inl (cy 6, (fx_kt K).2.1, .inr (.inl (vp_updL (fun j : Nat => Int64.ofInt (σ K (n : Int) j)) (Int32.ofInt j).toNatClampNeg (Int64.ofInt v))))) ?_]
    · exact hP1
    · rw [fx_updL (ρ := σ K (n : Int)) h2.1 h2.2 hlen', fx_Er6 h1]
      congr 5
      funext j'
      rw [fx_up_same]
  -- bipush
  · next n =>
    rw [len_ rfl] at hd
    simp only [fx_ckI, Bool.and_eq_true, decide_eq_true_eq] at hck
    obtain rfl := go h
    exact lv_bipush hx hb hd hck.1 (k _ _ _ hl hP hSS)
  -- sipush
  · next n =>
    rw [len_ rfl] at hd
    simp only [fx_ckI, Bool.and_eq_true, decide_eq_true_eq] at hck
    obtain rfl := go h
    exact lv_sipush hx hb hd hck.1 (k _ _ _ hl hP hSS)
  -- ldc
  · next i =>
    rw [len_ rfl] at hd
    simp only [fx_ckI, Bool.and_eq_true, decide_eq_true_eq] at hck
    obtain ⟨⟨⟨c1, c2⟩, c3⟩, c4⟩ := hck
    obtain rfl := go h
    have c1 := fx_beq c1
    have hz := hTx _ c4
    have kk9 := k _ _ _ hl hP hSS
    have e1 : fx_cv ad (q.1, q.2.2.2.1) = .ref (ad 62 q.2.2.2.1.toNat) := by rw [fx_cvo ad _ (by omega), c1]
    have kk9 : W p l e R s m args below meth c H locs cells slots Q (F0 m (pc + 2) ls (fx_cv ad (q.1, q.2.2.2.1) :: st.map (fx_cv ad))) := kk9
    rw [e1] at kk9
    exact va_ldcS hx hb hown hz hd kk9
  -- ldc_w
  · next i =>
    rw [len_ rfl] at hd
    simp only [fx_ckI, Bool.and_eq_true, decide_eq_true_eq] at hck
    obtain ⟨⟨⟨c1, c2⟩, c3⟩, c4⟩ := hck
    obtain rfl := go h
    have c1 := fx_beq c1
    have hz := hTx _ c4
    have kk9 := k _ _ _ hl hP hSS
    have e1 : fx_cv ad (q.1, q.2.2.2.1) = .ref (ad 62 q.2.2.2.1.toNat) := by rw [fx_cvo ad _ (by omega), c1]
    have kk9 : W p l e R s m args below meth c H locs cells slots Q (F0 m (pc + 3) ls (fx_cv ad (q.1, q.2.2.2.1) :: st.map (fx_cv ad))) := kk9
    rw [e1] at kk9
    intro T hT X
    obtain ⟨t, a1, b1⟩ := kk9 T hT X
    exact ⟨t, X.ldcStringW hx hown hz.1 hz.2 (g := F0 m pc ls (st.map (fx_cv ad))) rfl (by rw [hb]; exact hd) t a1, b1⟩
  -- iload_n
  · next n =>
    rw [len_ rfl] at hd
    obtain ⟨K, x, eL, hK9, hR⟩ := fx_load_inv h
    obtain rfl := Sum.inl.inj hR
    rcases hK9 with ⟨rfl, -⟩ | ⟨-, h9⟩
    · exact lv_iload_n hx hb hd rfl (fx_la_at hl eL (by simp)) (k _ _ _ hl hP hSS)
    · cases h9
  -- iload
  · next n =>
    rw [len_ rfl] at hd
    obtain ⟨K, x, eL, hK9, hR⟩ := fx_load_inv h
    obtain rfl := Sum.inl.inj hR
    rcases hK9 with ⟨rfl, -⟩ | ⟨-, h9⟩
    · exact lv_iload hx hb hd (fx_la_at hl eL (by simp)) (k _ _ _ hl hP hSS)
    · cases h9
  -- aload_n
  · next n =>
    rw [len_ rfl] at hd
    obtain ⟨K, x, eL, hK9, hR⟩ := fx_load_inv h
    obtain rfl := Sum.inl.inj hR
    rcases hK9 with ⟨-, h9⟩ | ⟨h9, -⟩
    · cases h9
    · have kk9 : W p l e R s m args below meth c H locs cells slots Q (F0 m (pc + 1) ls (fx_cv ad (K, x) :: st.map (fx_cv ad))) := k _ _ _ hl hP hSS
      have hh := fx_la_at hl eL (by simp only; omega)
      rw [fx_cvo ad _ (by omega)] at kk9 hh
      exact lv_aload_n hx hb hd rfl hh kk9
  -- aload
  · next n =>
    rw [len_ rfl] at hd
    obtain ⟨K, x, eL, hK9, hR⟩ := fx_load_inv h
    obtain rfl := Sum.inl.inj hR
    rcases hK9 with ⟨-, h9⟩ | ⟨h9, -⟩
    · cases h9
    · have kk9 : W p l e R s m args below meth c H locs cells slots Q (F0 m (pc + 2) ls (fx_cv ad (K, x) :: st.map (fx_cv ad))) := k _ _ _ hl hP hSS
      have hh := fx_la_at hl eL (by simp only; omega)
      rw [fx_cvo ad _ (by omega)] at kk9 hh
      exact lv_aload hx hb hd hh kk9
  -- istore_n
  · next n =>
    rw [len_ rfl] at hd
    simp only [fx_ckI] at hck
    have h0 := fx_p1_inv h
    clear h
    obtain ⟨x, st', rfl, h⟩ := h0
    obtain rfl := go h
    exact lv_istore_n hx hb hd rfl hl (fx_blt hck) rfl (fun ls' hl' => k _ _ _ (fx_la_set (v := (0, x)) hL hl') hP hSS)
  -- istore
  · next n =>
    rw [len_ rfl] at hd
    simp only [fx_ckI] at hck
    have h0 := fx_p1_inv h
    clear h
    obtain ⟨x, st', rfl, h⟩ := h0
    obtain rfl := go h
    exact lv_istore hx hb hd hl (fx_blt hck) rfl (fun ls' hl' => k _ _ _ (fx_la_set (v := (0, x)) hL hl') hP hSS)
  -- astore_n
  · next n =>
    rw [len_ rfl] at hd
    simp only [fx_ckI] at hck
    have h0 := fx_po_inv h
    clear h
    obtain ⟨K, x, st', rfl, h⟩ := h0
    have h0 := fx_cond_inv h
    clear h
    obtain ⟨h9, h⟩ := h0
    have h9 := fx_blt h9
    obtain rfl := go h
    show W p l e R s m args below meth c H locs cells slots Q (F0 m pc ls (fx_cv ad (K, x) :: st'.map (fx_cv ad)))
    have e1 : fx_cv ad (K, x) = .ref (ad K x.toNat) := fx_cvo ad _ (by omega)
    rw [e1]
    exact lv_astore_n hx hb hd rfl hl (fx_blt hck) rfl (fun ls' hl' => k _ _ _ (fx_la_set (v := (K, x)) hL (by rw [e1]; exact hl')) hP hSS)
  -- astore
  · next n =>
    rw [len_ rfl] at hd
    simp only [fx_ckI] at hck
    have h0 := fx_po_inv h
    clear h
    obtain ⟨K, x, st', rfl, h⟩ := h0
    have h0 := fx_cond_inv h
    clear h
    obtain ⟨h9, h⟩ := h0
    have h9 := fx_blt h9
    obtain rfl := go h
    show W p l e R s m args below meth c H locs cells slots Q (F0 m pc ls (fx_cv ad (K, x) :: st'.map (fx_cv ad)))
    have e1 : fx_cv ad (K, x) = .ref (ad K x.toNat) := fx_cvo ad _ (by omega)
    rw [e1]
    exact lv_astore hx hb hd hl (fx_blt hck) rfl (fun ls' hl' => k _ _ _ (fx_la_set (v := (K, x)) hL (by rw [e1]; exact hl')) hP hSS)
  -- iinc
  · next i n =>
    rw [len_ rfl] at hd
    simp only [fx_ckI] at hck
    have h0 := fx_num_inv h
    clear h
    obtain ⟨x, eL, h⟩ := h0
    obtain rfl := go h
    obtain ⟨kx, hkx⟩ := List.getElem?_of_mem ((fx_la_mem ad L 0 (i, fx_cv ad (0, x))).mpr ⟨i, (0, x), fx_nth_L eL (by simp), by simp, by simp⟩)
    exact lv_iinc hx hb hd hl hkx (v := Int32.ofInt (fx_add x n)) (by unfold fx_add; rw [fx_ofI]) (fx_blt hck) rfl (fun ls' hl' => k _ _ _ (fx_la_set (v := (0, fx_add x n)) hL hl') hP hSS)
  -- iadd
  · rw [len_ rfl] at hd
    have h0 := fx_p2_inv h
    clear h
    obtain ⟨x, y, st', rfl, h⟩ := h0
    obtain rfl := go h
    refine lv_iadd hx hb hd ?_
    have e1 : Int32.ofInt x + Int32.ofInt y = Int32.ofInt (fx_add x y) := by unfold fx_add; rw [fx_ofI]
    rw [e1]
    exact k _ _ _ hl hP hSS
  -- isub
  · rw [len_ rfl] at hd
    have h0 := fx_p2_inv h
    clear h
    obtain ⟨x, y, st', rfl, h⟩ := h0
    obtain rfl := go h
    refine lv_isub hx hb hd ?_
    have e1 : Int32.ofInt x - Int32.ofInt y = Int32.ofInt (fx_sub x y) := by unfold fx_sub; rw [fx_ofI]
    rw [e1]
    exact k _ _ _ hl hP hSS
  -- imul
  · rw [len_ rfl] at hd
    have h0 := fx_p2_inv h
    clear h
    obtain ⟨x, y, st', rfl, h⟩ := h0
    obtain rfl := go h
    refine lv_imul hx hb hd ?_
    have e1 : Int32.ofInt x * Int32.ofInt y = Int32.ofInt (fx_mul x y) := by unfold fx_mul; rw [fx_ofI]
    rw [e1]
    exact k _ _ _ hl hP hSS
  -- idiv
  · rw [len_ rfl] at hd
    have h0 := fx_p2_inv h
    clear h
    obtain ⟨x, y, st', rfl, h⟩ := h0
    have h0 := fx_itn_inv h
    clear h
    obtain ⟨h0, h⟩ := h0
    obtain rfl := go h
    refine lv_idiv hx hb hd (fun z => h0 ((fx_eqI (fx_o1_num (fx_oS_head hS)) fx_rg0).mp z)) ?_
    have e1 : Int32.ofInt x / Int32.ofInt y = Int32.ofInt (fx_div x y) := by unfold fx_div; rw [fx_ofI]
    rw [e1]
    exact k _ _ _ hl hP hSS
  -- irem
  · rw [len_ rfl] at hd
    have h0 := fx_p2_inv h
    clear h
    obtain ⟨x, y, st', rfl, h⟩ := h0
    have h0 := fx_itn_inv h
    clear h
    obtain ⟨h0, h⟩ := h0
    obtain rfl := go h
    refine lv_irem hx hb hd (fun z => h0 ((fx_eqI (fx_o1_num (fx_oS_head hS)) fx_rg0).mp z)) ?_
    have e1 : Int32.ofInt x - Int32.ofInt x / Int32.ofInt y * Int32.ofInt y = Int32.ofInt (fx_rem x y) := by unfold fx_rem; rw [fx_ofI]
    rw [e1]
    exact k _ _ _ hl hP hSS
  -- iand
  · rw [len_ rfl] at hd
    have h0 := fx_p2_inv h
    clear h
    obtain ⟨x, y, st', rfl, h⟩ := h0
    obtain rfl := go h
    refine lv_iand hx hb hd ?_
    have e1 : Int32.ofInt x &&& Int32.ofInt y = Int32.ofInt (fx_and x y) := by unfold fx_and; rw [fx_ofI]
    rw [e1]
    exact k _ _ _ hl hP hSS
  -- ior
  · rw [len_ rfl] at hd
    have h0 := fx_p2_inv h
    clear h
    obtain ⟨x, y, st', rfl, h⟩ := h0
    obtain rfl := go h
    refine lv_ior hx hb hd ?_
    have e1 : Int32.ofInt x ||| Int32.ofInt y = Int32.ofInt (fx_or x y) := by unfold fx_or; rw [fx_ofI]
    rw [e1]
    exact k _ _ _ hl hP hSS
  -- ishl
  · rw [len_ rfl] at hd
    have h0 := fx_p2_inv h
    clear h
    obtain ⟨x, y, st', rfl, h⟩ := h0
    obtain rfl := go h
    refine lv_ishl hx hb hd ?_
    have e1 : Int32.ofInt x <<< (Int32.ofInt y &&& 31) = Int32.ofInt (fx_shl x y) := by unfold fx_shl; rw [fx_ofI]
    rw [e1]
    exact k _ _ _ hl hP hSS
  -- iushr
  · rw [len_ rfl] at hd
    have h0 := fx_p2_inv h
    clear h
    obtain ⟨x, y, st', rfl, h⟩ := h0
    obtain rfl := go h
    exact lv_iushr hx hb hd (v := Int32.ofInt (fx_ushr x y)) (by unfold fx_ushr; rw [fx_ofI]) (k _ _ _ hl hP hSS)
  -- dup
  · rw [len_ rfl] at hd
    have h0 := fx_po_inv h
    clear h
    obtain ⟨K, x, st', rfl, h⟩ := h0
    have h0 := fx_conn_inv h
    clear h
    obtain ⟨h0, h⟩ := h0
    obtain rfl := go h
    exact lv_dup hx hb hd (fx_cat ad (v := (K, x)) (fun z => by rw [show K = 1 from z] at h0; cases h0)) (k _ _ _ hl hP hSS)
  -- dup2
  · rw [len_ rfl] at hd
    have h0 := fx_po_inv h
    clear h
    obtain ⟨K, x, st', rfl, h⟩ := h0
    have h0 := fx_po_inv h
    clear h
    obtain ⟨K', x', st'', rfl, h⟩ := h0
    have h0 := fx_conn_inv h
    clear h
    obtain ⟨h0, h⟩ := h0
    obtain rfl := go h
    rw [Bool.or_eq_false_iff] at h0
    exact lv_dup2_11 hx hb hd (fx_cat ad (v := (K, x)) (fun z => by rw [show K = 1 from z] at h0; cases h0.1)) (fx_cat ad (v := (K', x')) (fun z => by rw [show K' = 1 from z] at h0; cases h0.2)) (k _ _ _ hl hP hSS)
  -- pop
  · rw [len_ rfl] at hd
    have h0 := fx_po_inv h
    clear h
    obtain ⟨K, x, st', rfl, h⟩ := h0
    have h0 := fx_conn_inv h
    clear h
    obtain ⟨h0, h⟩ := h0
    obtain rfl := go h
    exact lv_pop hx hb hd (fx_cat ad (v := (K, x)) (fun z => by rw [show K = 1 from z] at h0; cases h0)) (k _ _ _ hl hP hSS)
  -- getfield
  · next idx =>
    rw [len_ rfl] at hd
    simp only [fx_ckI, Bool.and_eq_true, decide_eq_true_eq] at hck
    obtain ⟨⟨⟨c1, c2⟩, c3⟩, c4⟩ := hck
    have h0 := fx_po_inv h
    clear h
    obtain ⟨K, i, st', rfl, h⟩ := h0
    have h0 := fx_cond_inv h
    clear h
    obtain ⟨h1, h⟩ := h0
    obtain rfl := fx_beq h1
    have c1 := fx_beq c1
    have c3 := fx_blt c3
    obtain ⟨n0, n1⟩ := num_ c1 (by decide)
    obtain ⟨a1, a2, a3, a4⟩ := ref10 (fx_oS_head hS) (by omega) n0 n1
    obtain ⟨n, kk, rfl, g1, g2⟩ := hget a1 a2 a3 a4
    rw [fx_Er5 c1] at g2
    have hkc := fx_kc_ok q.2.1 (by omega)
    unfold fx_kc at hkc
    rw [c1, show Nat.beq 5 5 = true from rfl] at hkc
    simp only [cond_true, Bool.and_eq_true] at hkc
    obtain ⟨⟨⟨⟨-, k2⟩, k3⟩, -⟩, -⟩ := hkc
    have k2 := fx_beq k2
    have k3 := fx_blt k3
    have hv : ((List.range (fx_fl q.2.1).length).map (fx_fv ad (σ q.2.1 n) q.2.1 n))[q.2.2.1]? = some (fx_fv ad (σ q.2.1 n) q.2.1 n q.2.2.1) := by
      rw [List.getElem?_map, List.getElem?_range c3]; rfl
    have hlk := hts _ (fx_T0_in (fx_fwl_in _ c2) rfl)
    show W p l e R s m args below meth c H locs cells slots Q (F0 m pc ls (fx_cv ad (q.2.1, (n : Int)) :: st'.map (fx_cv ad)))
    have e1 : fx_cv ad (q.2.1, (n : Int)) = .ref (ad q.2.1 n) := by rw [fx_cvo ad _ (by omega)]; rfl
    rw [e1]
    refine va_get (D := D) (ci := (fx_kt q.2.1).2.1) (v := fx_fv ad (σ q.2.1 n) q.2.1 n q.2.2.1) (C := fx_cls (fx_kt q.2.1).2.1) (T := fx_TX (fx_kt q.2.1).2.1) (N := fx_nth fx_nfs (fx_kt q.2.1).2.1 0) hx hb hts (fx_lay _ k3) hown hK hP kk g2 (fx_vw _ k3) q.2.2.1 (by show _ < fx_nth [4, 11, 10, 6, 11, 6, 15, 30] _ 0; rw [k2]; exact c3) hlk (fun x hxx => by rw [fx_own1 _ k3 _ (by show _ < fx_nth [4, 11, 10, 6, 11, 6, 15, 30] _ 0; rw [k2]; exact c3)] at hxx; exact hxx) hv hd ?_
    unfold fx_fv
    rw [c4]
    by_cases ez : q.1 = 0
    · rw [fx_bT ez] at h
      obtain rfl := go h
      rw [show Nat.beq (q.1, cond (Nat.beq q.1 0) 0 q.2.2.2.1, cond (Nat.beq q.1 0) 0 q.2.2.2.2).1 0 = true from fx_bT ez]
      exact k _ _ _ hl hP hSS
    · rw [fx_bF ez] at h
      obtain rfl := go h
      rw [show Nat.beq (q.1, cond (Nat.beq q.1 0) 0 q.2.2.2.1, cond (Nat.beq q.1 0) 0 q.2.2.2.2).1 0 = false from fx_bF ez]
      have kk9 : W p l e R s m args below meth c H locs cells slots Q (F0 m (pc + 3) ls (fx_cv ad (q.1, q.2.2.2.1 * (n : Int) + q.2.2.2.2) :: st'.map (fx_cv ad))) := k _ _ _ hl hP hSS
      have e6 : (fx_nth (fx_fl q.2.1) q.2.2.1 (0, 0, 0)).1 ≠ 0 := by rw [c4]; exact ez
      have h8 := fx_fl_ok (K := q.2.1) (p := q.2.2.1) (by omega) c1 c3 e6 a3 a4
      have h9 := fx_cnt_in (K := q.1) (by rw [c4] at h8; have := h8.1; have := h8.2; simp only at *; omega)
      rw [fx_cvo ad _ (by omega)] at kk9
      unfold fx_rf
      simp only [cond_false, Int.add_zero]
      exact kk9
  -- putfield
  · next idx =>
    rw [len_ rfl] at hd
    simp only [fx_ckI, Bool.and_eq_true, decide_eq_true_eq] at hck
    obtain ⟨⟨⟨⟨c1, c2⟩, c3⟩, c4⟩, c5⟩ := hck
    have h0 := fx_p1_inv h
    clear h
    obtain ⟨v, st1, rfl, h⟩ := h0
    have h0 := fx_po_inv h
    clear h
    obtain ⟨K, i, st', rfl, h⟩ := h0
    have h0 := fx_cond_inv h
    clear h
    obtain ⟨h1, h⟩ := h0
    obtain rfl := fx_beq h1
    have c1 := fx_beq c1
    have c3 := fx_blt c3
    have c4 := fx_beq c4
    obtain ⟨n0, n1⟩ := num_ c1 (by decide)
    obtain ⟨a1, a2, a3, a4⟩ := ref10 (fx_oS_head (fx_oS_tail hS)) (by omega) n0 n1
    obtain ⟨n, kk, rfl, g1, g2⟩ := hget a1 a2 a3 a4
    rw [fx_Er5 c1] at g2
    have hkc := fx_kc_ok q.2.1 (by omega)
    unfold fx_kc at hkc
    rw [c1, show Nat.beq 5 5 = true from rfl] at hkc
    simp only [cond_true, Bool.and_eq_true] at hkc
    obtain ⟨⟨⟨⟨-, k2⟩, k3⟩, -⟩, -⟩ := hkc
    have k2 := fx_beq k2
    have k3 := fx_blt k3
    have hlt : q.2.2.1 < fx_nth fx_nfs (fx_kt q.2.1).2.1 0 := by show _ < fx_nth [4, 11, 10, 6, 11, 6, 15, 30] _ 0; rw [k2]; exact c3
    have hlk := hts _ (fx_T0_in (fx_fwl_in _ c2) rfl)
    obtain ⟨w1, w2⟩ := fx_pw_ok _ c5
    obtain ⟨ty0, hty⟩ := fx_ty _ k3
    have c4' : (fx_nth (fx_fl q.2.1) q.2.2.1 (0, 0, 0)).1 = 0 := by
      have e1 := fx_nth_get (fx_fl q.2.1) q.2.2.1 (1, 0, 0) c3
      have e2 := fx_nth_of (d := (0, 0, 0)) e1
      rw [e2]; exact c4
    show W p l e R s m args below meth c H locs cells slots Q (F0 m pc ls (.int (Int32.ofInt v) :: fx_cv ad (q.2.1, (n : Int)) :: st'.map (fx_cv ad)))
    have e1 : fx_cv ad (q.2.1, (n : Int)) = .ref (ad q.2.1 n) := by rw [fx_cvo ad _ (by omega)]; rfl
    rw [e1]
    have fin : ∀ (H1 : Heap) (locs1 : List Loc), T = (pc + 3, L, st', fx_up σ q.2.1 n q.2.2.1 v) → va_P D vwCl ((fx_W ad cy σ).set kk (ad q.2.1 n, .inr ((fx_kt q.2.1).2.1, ((List.range (fx_fl q.2.1).length).map (fx_fv ad (σ q.2.1 n) q.2.1 n)).set q.2.2.1 (.int (Int32.ofInt v))))) H1 → va_S A s.heap H1 locs1 → W p l e R s m args below meth c H1 locs1 cells slots Q (F0 m (pc + 3) ls (st'.map (fx_cv ad))) := by
      intro H1 locs1 hT hP1 hS1
      subst hT
      refine k H1 locs1 ls hl ?_ hS1
      rw [← fx_W_set hap (j := (q.2.2.1 : Int)) (v := v) g1 (fx_fv_set c1 c3 c4')]
      exact hP1
    by_cases ez : q.1 = 0
    · rw [fx_bT ez] at h w2
      exact va_put (D := D) (ci := (fx_kt q.2.1).2.1) (v := .int (Int32.ofInt v)) (ty := .int) (C := fx_cls (fx_kt q.2.1).2.1) (T := fx_TX (fx_kt q.2.1).2.1) (N := fx_nth fx_nfs (fx_kt q.2.1).2.1 0) hx hb hts (fx_lay _ k3) ty0 hty (fx_nm _ k3) hown hK hP (hDD σ) hSS kk g2 (fx_vw _ k3) q.2.2.1 hlt hlk (fun x hxx => by rw [fx_own1 _ k3 _ hlt] at hxx; exact hxx) w1 w2 rfl rfl (by simpa using c3) hd (fun H1 locs1 hP1 hD1 hS1 => fin H1 locs1 (go h) hP1 hS1)
    · rw [fx_bF ez] at h w2
      have h0 := fx_ite_inv h
      clear h
      obtain ⟨hv, h⟩ := h0
      obtain ⟨-, b2, b3⟩ := fx_narB hv
      exact va_put (D := D) (ci := (fx_kt q.2.1).2.1) (v := .int (Int32.ofInt v)) (ty := .boolean) (C := fx_cls (fx_kt q.2.1).2.1) (T := fx_TX (fx_kt q.2.1).2.1) (N := fx_nth fx_nfs (fx_kt q.2.1).2.1 0) hx hb hts (fx_lay _ k3) ty0 hty (fx_nm _ k3) hown hK hP (hDD σ) hSS kk g2 (fx_vw _ k3) q.2.2.1 hlt hlk (fun x hxx => by rw [fx_own1 _ k3 _ hlt] at hxx; exact hxx) w1 w2 b2 b3 (by simpa using c3) hd (fun H1 locs1 hP1 hD1 hS1 => fin H1 locs1 (go h) hP1 hS1)
  -- iaload
  · rw [len_ rfl] at hd
    have h0 := fx_p1_inv h
    clear h
    obtain ⟨j, st', rfl, h⟩ := h0
    have h0 := fx_po_inv h
    clear h
    obtain ⟨K, i, st'', rfl, h⟩ := h0
    by_cases ez : K = 9
    · rw [fx_bT ez] at h
      have h0 := fx_ite_inv h
      clear h
      obtain ⟨h2, h⟩ := h0
      obtain rfl := go h
      subst ez
      obtain ⟨-, -, a3, a4⟩ := fx_o1_ref (fx_oS_head (fx_oS_tail hS)) (by omega)
      have e0 : i = 0 := by have : fx_cnt 9 = 1 := rfl; omega
      subst e0
      rw [hsc.1] at h2
      obtain ⟨i1, i2⟩ : vp_in (Int32.ofInt j) Ls ∧ (Int32.ofInt j).toNatClampNeg = j.toNat := by
        obtain ⟨scr, -, -, -, z4, -⟩ := hX
        have hr := fx_o1_num (fx_oS_head hS)
        refine ⟨vp_in_iff.mpr (by rw [fx_toI hr]; exact h2), ?_⟩
        unfold Int32.toNatClampNeg
        rw [fx_toI hr]
      show W p l e R s m args below meth c H locs cells slots Q (F0 m pc ls (.int (Int32.ofInt j) :: .ref (ad 9 0) :: st''.map (fx_cv ad)))
      refine va_sld hx hb hX hbl hbA hSS i1 hd ?_
      rw [i2]
      have e2 : ((j.toNat : Nat) : Int) = j := by omega
      have e3 := hsc.2 j.toNat (by omega)
      rw [e2] at e3
      have kk9 : W p l e R s m args below meth c H locs cells slots Q (F0 m (pc + 1) ls (.int (Int32.ofInt (σ 9 0 j)) :: st''.map (fx_cv ad))) := k _ _ _ hl hP hSS
      rw [e3, fx_ofI] at kk9
      exact kk9
    · rw [fx_bF ez] at h
      have h0 := fx_arr_inv h
      clear h
      obtain ⟨h1, h2, h⟩ := h0
      obtain rfl := go h
      obtain ⟨n0, n1⟩ := num_ h1 (by decide)
      obtain ⟨a1, a2, a3, a4⟩ := ref10 (fx_oS_head (fx_oS_tail hS)) (by omega) n0 n1
      obtain ⟨n, kk, rfl, g1, g2⟩ := hget a1 a2 a3 a4
      rw [fx_Er01 (by omega), h1] at g2
      have hlen' := fx_len_ok (K := K) (by omega)
      obtain ⟨i1, i2⟩ := fx_ix h2.1 h2.2 hlen'
      have kk9 := k _ _ _ hl hP hSS
      have e1 : fx_cv ad (K, (n : Int)) = .ref (ad K n) := by rw [fx_cvo ad _ (by omega)]; rfl
      show W p l e R s m args below meth c H locs cells slots Q (F0 m pc ls (.int (Int32.ofInt j) :: fx_cv ad (K, (n : Int)) :: st''.map (fx_cv ad)))
      rw [e1]
      refine va_iald hx hb hK hP kk 0 g2 rfl i1 hd ?_
      rw [i2]
      have e2 : ((j.toNat : Nat) : Int) = j := by omega
      rw [e2]
      exact kk9
  -- baload
  · rw [len_ rfl] at hd
    have h0 := fx_p1_inv h
    clear h
    obtain ⟨j, st', rfl, h⟩ := h0
    have h0 := fx_po_inv h
    clear h
    obtain ⟨K, i, st'', rfl, h⟩ := h0
    have h0 := fx_arr_inv h
    clear h
    obtain ⟨h1, h2, h⟩ := h0
    obtain rfl := go h
    obtain ⟨n0, n1⟩ := num_ h1 (by decide)
    obtain ⟨a1, a2, a3, a4⟩ := ref10 (fx_oS_head (fx_oS_tail hS)) (by omega) n0 n1
    obtain ⟨n, kk, rfl, g1, g2⟩ := hget a1 a2 a3 a4
    rw [fx_Er01 (by omega), h1] at g2
    have hlen' := fx_len_ok (K := K) (by omega)
    obtain ⟨i1, i2⟩ := fx_ix h2.1 h2.2 hlen'
    have kk9 := k _ _ _ hl hP hSS
    have e1 : fx_cv ad (K, (n : Int)) = .ref (ad K n) := by rw [fx_cvo ad _ (by omega)]; rfl
    show W p l e R s m args below meth c H locs cells slots Q (F0 m pc ls (.int (Int32.ofInt j) :: fx_cv ad (K, (n : Int)) :: st''.map (fx_cv ad)))
    rw [e1]
    refine va_zald hx hb hK hP kk 1 g2 rfl i1 hd ?_
    rw [i2]
    have e2 : ((j.toNat : Nat) : Int) = j := by omega
    rw [e2]
    exact kk9
  -- aaload
  · rw [len_ rfl] at hd
    have h0 := fx_p1_inv h
    clear h
    obtain ⟨j, st', rfl, h⟩ := h0
    have h0 := fx_po_inv h
    clear h
    obtain ⟨K, i, st'', rfl, h⟩ := h0
    have h0 := fx_cond_inv h
    clear h
    obtain ⟨h1, h⟩ := h0
    simp only [Bool.and_eq_true] at h1
    have f1 := fx_blt h1.1
    have f2 := fx_blt h1.2
    have h0 := fx_ite_inv h
    clear h
    obtain ⟨h2, h⟩ := h0
    obtain rfl := go h
    obtain ⟨n0, n1⟩ : K ≠ 0 ∧ K ≠ 1 := ⟨fun z => by subst z; exact absurd f2 (by decide), fun z => by subst z; exact absurd f2 (by decide)⟩
    obtain ⟨a1, a2, a3, a4⟩ := ref10 (fx_oS_head (fx_oS_tail hS)) (by omega) n0 n1
    obtain ⟨n, kk, rfl, g1, g2⟩ := hget a1 a2 a3 a4
    have h8 := fx_el_ok (K := K) (by omega) f1 f2 a3 a4 h2.1 h2.2
    have h9 := fx_cnt_in (K := (fx_nth (fx_fl K) 0 (0, 0, 0)).1) (by omega)
    rw [fx_Er24 f1 f2] at g2
    have hlen' := fx_len_ok (K := K) (by omega)
    obtain ⟨i1, i2⟩ := fx_ix h2.1 h2.2 hlen'
    have kk9 : W p l e R s m args below meth c H locs cells slots Q (F0 m (pc + 1) ls (fx_cv ad ((fx_nth (fx_fl K) 0 (0, 0, 0)).1, (fx_nth (fx_fl K) 0 (0, 0, 0)).2.1 * (n : Int) + (fx_nth (fx_fl K) 0 (0, 0, 0)).2.2 + j) :: st''.map (fx_cv ad))) := k _ _ _ hl hP hSS
    rw [fx_cvo ad _ (by omega)] at kk9
    have e1 : fx_cv ad (K, (n : Int)) = .ref (ad K n) := by rw [fx_cvo ad _ (by omega)]; rfl
    show W p l e R s m args below meth c H locs cells slots Q (F0 m pc ls (.int (Int32.ofInt j) :: fx_cv ad (K, (n : Int)) :: st''.map (fx_cv ad)))
    rw [e1]
    have e2 : ((j.toNat : Nat) : Int) = j := by omega
    have hlt : (Int32.ofInt j).toNatClampNeg < (fx_kt K).2.1 := Nat.not_le.mp fun q => i1 (Or.inr q)
    obtain ⟨ty, t0, hty, htr⟩ : ∃ (ty : FieldType) (t0 : Nat), (fx_tys cy)[t0]? = some (cy (fx_form K), ty) ∧ ty.isReference = true := by
      rcases (by omega : fx_form K = 2 ∨ fx_form K = 3 ∨ fx_form K = 4) with z | z | z
      · exact ⟨_, 2, by rw [z]; rfl, rfl⟩
      · exact ⟨_, 3, by rw [z]; rfl, rfl⟩
      · exact ⟨_, 4, by rw [z]; rfl, rfl⟩
    refine W.aald (v := .ref (ad (fx_nth (fx_fl K) 0 (0, 0, 0)).1 ((fx_nth (fx_fl K) 0 (0, 0, 0)).2.1 * (n : Int) + (fx_nth (fx_fl K) 0 (0, 0, 0)).2.2 + j).toNat)) (ty := ty) hx hb (hP kk _ g2) ((hK.2 t0 _ hty).1 _ (fun j => va_rf (some (fx_rf ad (fx_nth (fx_fl K) 0 (0, 0, 0)) n j)))) htr (fun q => by cases q) (by show ¬ (_ < 0 ∨ (arrV _ _ _).slots.size ≤ _); rw [arrV_size]; exact i1) (by show (arrV _ _ _).slots[_]? = _; rw [arrV_read _ _ hlt, i2]; show some (va_rf (some (fx_rf ad _ n (j.toNat : Nat)))) = _; unfold fx_rf; rw [e2]; rfl) rfl rfl hd kk9
  -- iastore
  · rw [len_ rfl] at hd
    have h0 := fx_p2_inv h
    clear h
    obtain ⟨j, v, st', rfl, h⟩ := h0
    have h0 := fx_po_inv h
    clear h
    obtain ⟨K, i, st'', rfl, h⟩ := h0
    have h0 := fx_arr_inv h
    clear h
    obtain ⟨h1, h2, h⟩ := h0
    obtain rfl := go h
    obtain ⟨n0, n1⟩ := num_ h1 (by decide)
    obtain ⟨a1, a2, a3, a4⟩ := ref10 (fx_oS_head (fx_oS_tail (fx_oS_tail hS))) (by omega) n0 n1
    obtain ⟨n, kk, rfl, g1, g2⟩ := hget a1 a2 a3 a4
    rw [fx_Er01 (by omega), h1] at g2
    have hlen' := fx_len_ok (K := K) (by omega)
    obtain ⟨i1, i2⟩ := fx_ix h2.1 h2.2 hlen'
    have e1 : fx_cv ad (K, (n : Int)) = .ref (ad K n) := by rw [fx_cvo ad _ (by omega)]; rfl
    show W p l e R s m args below meth c H locs cells slots Q (F0 m pc ls (.int (Int32.ofInt v) :: .int (Int32.ofInt j) :: fx_cv ad (K, (n : Int)) :: st''.map (fx_cv ad)))
    rw [e1]
    refine va_iast hx hb hK hP (hDD σ) hSS kk 0 g2 rfl i1 hd (fun H1 locs1 hP1 hD1 hS1 => ?_)
    refine k H1 locs1 ls hl ?_ hS1
    rw [← fx_W_set hap (j := j) (v := v) g1 (e := .inl (cy 0, (fx_kt K).2.1, .inl (upd (fun j : Nat => Int32.ofInt (σ K (n : Int) j)) (Int32.ofInt j).toNatClampNeg (Int32.ofInt v)))) ?_]
    · exact hP1
    · rw [fx_updI (ρ := σ K (n : Int)) h2.1 h2.2 hlen', fx_Er01 (by omega), h1]
      congr 4
      funext j'
      rw [fx_up_same]
  -- bastore
  · rw [len_ rfl] at hd
    have h0 := fx_p2_inv h
    clear h
    obtain ⟨j, v, st', rfl, h⟩ := h0
    have h0 := fx_po_inv h
    clear h
    obtain ⟨K, i, st'', rfl, h⟩ := h0
    have h0 := fx_arr_inv h
    clear h
    obtain ⟨h1, h2, h⟩ := h0
    have h0 := fx_ite_inv h
    clear h
    obtain ⟨hv, h⟩ := h0
    obtain rfl := go h
    obtain ⟨n0, n1⟩ := num_ h1 (by decide)
    obtain ⟨a1, a2, a3, a4⟩ := ref10 (fx_oS_head (fx_oS_tail (fx_oS_tail hS))) (by omega) n0 n1
    obtain ⟨n, kk, rfl, g1, g2⟩ := hget a1 a2 a3 a4
    rw [fx_Er01 (by omega), h1] at g2
    have hlen' := fx_len_ok (K := K) (by omega)
    obtain ⟨i1, i2⟩ := fx_ix h2.1 h2.2 hlen'
    have e1 : fx_cv ad (K, (n : Int)) = .ref (ad K n) := by rw [fx_cvo ad _ (by omega)]; rfl
    show W p l e R s m args below meth c H locs cells slots Q (F0 m pc ls (.int (Int32.ofInt v) :: .int (Int32.ofInt j) :: fx_cv ad (K, (n : Int)) :: st''.map (fx_cv ad)))
    rw [e1]
    refine va_zast hx hb hK hP (hDD σ) hSS kk 1 g2 rfl i1 hd (fun H1 locs1 hP1 hD1 hS1 => ?_)
    rw [(fx_narB hv).1] at hP1
    refine k H1 locs1 ls hl ?_ hS1
    rw [← fx_W_set hap (j := j) (v := v) g1 (e := .inl (cy 1, (fx_kt K).2.1, .inl (upd (fun j : Nat => Int32.ofInt (σ K (n : Int) j)) (Int32.ofInt j).toNatClampNeg (Int32.ofInt v)))) ?_]
    · exact hP1
    · rw [fx_updI (ρ := σ K (n : Int)) h2.1 h2.2 hlen', fx_Er01 (by omega), h1]
      congr 4
      funext j'
      rw [fx_up_same]
  -- arraylength
  · rw [len_ rfl] at hd
    have h0 := fx_po_inv h
    clear h
    obtain ⟨K, i, st'', rfl, h⟩ := h0
    by_cases ez : K = 9
    · rw [fx_bT ez] at h
      obtain rfl := go h
      subst ez
      obtain ⟨-, -, a3, a4⟩ := fx_o1_ref (fx_oS_head hS) (by omega)
      have e0 : i = 0 := by have : fx_cnt 9 = 1 := rfl; omega
      subst e0
      show W p l e R s m args below meth c H locs cells slots Q (F0 m pc ls (.ref (ad 9 0) :: st''.map (fx_cv ad)))
      refine va_slen hx hb hX hbl hbA hSS hd ?_
      have kk9 : W p l e R s m args below meth c H locs cells slots Q (F0 m (pc + 1) ls (.int (Int32.ofInt (σ 9 0 (-1))) :: st''.map (fx_cv ad))) := k _ _ _ hl hP hSS
      rw [hsc.1] at kk9
      exact kk9
    · rw [fx_bF ez] at h
      have h0 := fx_cond_inv h
      clear h
      obtain ⟨h1, h⟩ := h0
      have h1 := fx_blt h1
      obtain rfl := go h
      obtain ⟨n0, n1⟩ : K ≠ 0 ∧ K ≠ 1 := ⟨fun z => by subst z; exact absurd h1 (by decide), fun z => by subst z; exact absurd h1 (by decide)⟩
      obtain ⟨a1, a2, a3, a4⟩ := ref10 (fx_oS_head hS) (by omega) n0 n1
      obtain ⟨n, kk, rfl, g1, g2⟩ := hget a1 a2 a3 a4
      rw [fx_Er01 h1] at g2
      have e1 : fx_cv ad (K, (n : Int)) = .ref (ad K n) := by rw [fx_cvo ad _ (by omega)]; rfl
      show W p l e R s m args below meth c H locs cells slots Q (F0 m pc ls (fx_cv ad (K, (n : Int)) :: st''.map (fx_cv ad)))
      rw [e1]
      obtain ⟨ty, t0, hty⟩ : ∃ (ty : FieldType) (t0 : Nat), (fx_tys cy)[t0]? = some (cy (fx_form K), ty) := by
        rcases (by omega : fx_form K = 0 ∨ fx_form K = 1) with z | z
        · exact ⟨_, 0, by rw [z]; rfl⟩
        · exact ⟨_, 1, by rw [z]; rfl⟩
      exact va_alen hx hb hK hP kk t0 g2 hty (v := Int32.ofInt (fx_len K)) rfl hd (k _ _ _ hl hP hSS)
  -- ifCond
  · next cc off =>
    rw [len_ rfl] at hd
    simp only [fx_ckI, decide_eq_true_eq] at hck
    have h0 := fx_p1_inv h
    clear h
    obtain ⟨x, st', rfl, h⟩ := h0
    have rx := fx_o1_num (fx_oS_head hS)
    have eq0 : (Int32.ofInt x = 0) ↔ x = 0 := fx_eqI rx fx_rg0
    have lt0 : (Int32.ofInt x < 0) ↔ x < 0 := fx_ltI rx fx_rg0
    have gt0 : (0 < Int32.ofInt x) ↔ 0 < x := fx_ltI fx_rg0 rx
    have ge0 : (0 ≤ Int32.ofInt x) ↔ 0 ≤ x := fx_leI fx_rg0 rx
    have le0 : (Int32.ofInt x ≤ 0) ↔ x ≤ 0 := fx_leI rx fx_rg0
    unfold fx_br at h
    cases cc <;> simp only at h
    · exact lv_if_eq hx hb hd hck (fun z => by rw [if_pos (eq0.mp z)] at h; obtain rfl := go h; exact k _ _ _ hl hP hSS) (fun z => by rw [if_neg (fun y => z (eq0.mpr y))] at h; obtain rfl := go h; exact k _ _ _ hl hP hSS)
    · exact lv_if_ne hx hb hd hck (fun z => by rw [if_neg (fun y => z (eq0.mpr y))] at h; obtain rfl := go h; exact k _ _ _ hl hP hSS) (fun z => by rw [if_pos (eq0.mp z)] at h; obtain rfl := go h; exact k _ _ _ hl hP hSS)
    · exact lv_if_lt hx hb hd hck (fun z => by rw [if_pos (lt0.mp z)] at h; obtain rfl := go h; exact k _ _ _ hl hP hSS) (fun z => by rw [if_neg (fun y => z (lt0.mpr y))] at h; obtain rfl := go h; exact k _ _ _ hl hP hSS)
    · exact lv_if_ge hx hb hd hck (fun z => by have z := ge0.mp z; rw [if_neg (by omega)] at h; obtain rfl := go h; exact k _ _ _ hl hP hSS) (fun z => by rw [if_pos (by have : ¬ 0 ≤ x := fun y => z (ge0.mpr y); omega)] at h; obtain rfl := go h; exact k _ _ _ hl hP hSS)
    · exact lv_if_gt hx hb hd hck (fun z => by have z := gt0.mp z; rw [if_pos z] at h; obtain rfl := go h; exact k _ _ _ hl hP hSS) (fun z => by rw [if_neg (fun y => z (gt0.mpr y))] at h; obtain rfl := go h; exact k _ _ _ hl hP hSS)
    · exact lv_if_le hx hb hd hck (fun z => by have z := le0.mp z; rw [if_neg (by omega)] at h; obtain rfl := go h; exact k _ _ _ hl hP hSS) (fun z => by rw [if_pos (by have : ¬ x ≤ 0 := fun y => z (le0.mpr y); omega)] at h; obtain rfl := go h; exact k _ _ _ hl hP hSS)
  -- if_icmp
  · next cc off =>
    rw [len_ rfl] at hd
    simp only [fx_ckI, decide_eq_true_eq] at hck
    have h0 := fx_p2_inv h
    clear h
    obtain ⟨x, y, st', rfl, h⟩ := h0
    have ry := fx_o1_num (fx_oS_head hS)
    have rx := fx_o1_num (fx_oS_head (fx_oS_tail hS))
    have eq0 : (Int32.ofInt x = Int32.ofInt y) ↔ x = y := fx_eqI rx ry
    have lt0 : (Int32.ofInt x < Int32.ofInt y) ↔ x < y := fx_ltI rx ry
    have gt0 : (Int32.ofInt y < Int32.ofInt x) ↔ y < x := fx_ltI ry rx
    have ge0 : (Int32.ofInt y ≤ Int32.ofInt x) ↔ y ≤ x := fx_leI ry rx
    have le0 : (Int32.ofInt x ≤ Int32.ofInt y) ↔ x ≤ y := fx_leI rx ry
    unfold fx_br at h
    cases cc <;> simp only at h
    · exact lv_icmp_eq hx hb hd hck (fun z => by rw [if_pos (eq0.mp z)] at h; obtain rfl := go h; exact k _ _ _ hl hP hSS) (fun z => by rw [if_neg (fun y => z (eq0.mpr y))] at h; obtain rfl := go h; exact k _ _ _ hl hP hSS)
    · exact lv_icmp_ne hx hb hd hck (fun z => by rw [if_neg (fun y => z (eq0.mpr y))] at h; obtain rfl := go h; exact k _ _ _ hl hP hSS) (fun z => by rw [if_pos (eq0.mp z)] at h; obtain rfl := go h; exact k _ _ _ hl hP hSS)
    · exact lv_icmp_lt hx hb hd hck (fun z => by rw [if_pos (lt0.mp z)] at h; obtain rfl := go h; exact k _ _ _ hl hP hSS) (fun z => by rw [if_neg (fun y => z (lt0.mpr y))] at h; obtain rfl := go h; exact k _ _ _ hl hP hSS)
    · exact lv_icmp_ge hx hb hd hck (fun z => by have z := ge0.mp z; rw [if_neg (by omega)] at h; obtain rfl := go h; exact k _ _ _ hl hP hSS) (fun z => by rw [if_pos (by have : ¬ y ≤ x := fun w => z (ge0.mpr w); omega)] at h; obtain rfl := go h; exact k _ _ _ hl hP hSS)
    · exact lv_icmp_gt hx hb hd hck (fun z => by have z := gt0.mp z; rw [if_pos z] at h; obtain rfl := go h; exact k _ _ _ hl hP hSS) (fun z => by rw [if_neg (fun y => z (gt0.mpr y))] at h; obtain rfl := go h; exact k _ _ _ hl hP hSS)
    · exact lv_icmp_le hx hb hd hck (fun z => by have z := le0.mp z; rw [if_neg (by omega)] at h; obtain rfl := go h; exact k _ _ _ hl hP hSS) (fun z => by rw [if_pos (by have : ¬ x ≤ y := fun w => z (le0.mpr w); omega)] at h; obtain rfl := go h; exact k _ _ _ hl hP hSS)
  -- goto
  · rw [len_ rfl] at hd
    simp only [fx_ckI, decide_eq_true_eq] at hck
    obtain rfl := go h
    exact lv_goto hx hb hd hck (k _ _ _ hl hP hSS)
  -- tableswitch
  · next d lo hi offs =>
    simp only [fx_ckI, Bool.and_eq_true, decide_eq_true_eq] at hck
    obtain ⟨⟨c1, c2⟩, c3⟩ := hck
    have h0 := fx_p1_inv h
    clear h
    obtain ⟨x, st', rfl, h⟩ := h0
    obtain rfl := go h
    have rx := fx_o1_num (fx_oS_head hS)
    rcases fx_swt_ok x c2 with ⟨h1, h2⟩ | ⟨off, h1, h2, h3⟩
    · refine lv_tableOut hx hb hd (by rw [fx_toI rx]; omega) (tgt := q.1) c1 ?_
      have kk9 := k _ _ _ hl hP hSS
      simp only [h2] at kk9
      exact kk9
    · refine lv_tableIn hx hb hd (by rw [fx_toI rx]; omega) (by rw [fx_toI rx]; omega) (off := off) (tgt := fx_sel x sw q.1) (by rw [fx_toI rx, ← Array.getElem?_toList]; exact h2) (h3 _) (k _ _ _ hl hP hSS)
  -- lookupswitch
  · next d ps =>
    simp only [fx_ckI, Bool.and_eq_true, decide_eq_true_eq] at hck
    obtain ⟨⟨c1, c2⟩, c3⟩ := hck
    have h0 := fx_p1_inv h
    clear h
    obtain ⟨x, st', rfl, h⟩ := h0
    obtain rfl := go h
    have rx := fx_o1_num (fx_oS_head hS)
    exact lv_lookup hx hb hd c3 (off := Op.lookupswitch.offset ps.toList d x) (by rw [fx_toI rx]) (tgt := fx_sel x sw q.1) (fx_swl_ok x c1 c2) (k _ _ _ hl hP hSS)
  · have h0 := fx_p1_inv h
    clear h
    obtain ⟨x, st', rfl, h⟩ := h0
    have h0 := fx_end_inv h
    clear h
    obtain ⟨-, h⟩ := h0
    cases hq : Nat.beq q.1 0 with
    | true => rw [hq] at h; cases h
    | false =>
      rw [hq] at h
      have h0 := fx_ite_inv h
      clear h
      obtain ⟨-, h⟩ := h0
      cases h
  · have h0 := fx_end_inv h
    clear h
    obtain ⟨-, h⟩ := h0
    cases h
  · have h0 := fx_po_inv h
    clear h
    obtain ⟨K, x, st', rfl, h⟩ := h0
    have h0 := fx_end_inv h
    clear h
    obtain ⟨-, h⟩ := h0
    have h0 := fx_cond_inv h
    clear h
    obtain ⟨-, h⟩ := h0
    cases h
  · have h0 := fx_end_inv h
    clear h
    obtain ⟨-, h⟩ := h0
    cases h
  · have h0 := fx_cond_inv h
    clear h
    obtain ⟨-, h⟩ := h0
    have := (fx_inv_inv h).2.2.2
    cases this
  · have h0 := fx_cond_inv h
    clear h
    obtain ⟨-, h⟩ := h0
    have := (fx_inv_inv h).2.2.2
    cases this
  · cases h
end FXSIM
