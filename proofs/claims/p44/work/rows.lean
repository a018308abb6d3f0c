section
/-! The printed statement is empty: its premise asks of the class file that the law's own entry has no exception table (the word `.code`), and the class file has one of fourteen rows. No launch meets the premise. -/
theorem em_code : classFile.hasCode x code maxLocals ret = false := by decide +kernel
theorem em_mem (ts : List Cond) (room : Room) : (x, code, maxLocals, ret) ∈ (headSpec (Cond.code x code maxLocals ret :: ts) room).pre.codes ++ (headSpec (Cond.code x code maxLocals ret :: ts) room).post.codes := by
  refine List.mem_append.mpr (Or.inl ?_)
  show (x, code, maxLocals, ret) ∈ (Cond.code x code maxLocals ret).codes ++ (allAtoms ts).codes
  exact List.mem_append.mpr (Or.inl (List.mem_singleton.mpr rfl))
/-- no launch meets the statement's premise -/
theorem em_no (l : Launch) (ts : List Cond) (room : Room) : ¬ Lists l classFile x code maxLocals ret ts room := by
  rintro ⟨-, hf, hl, -⟩
  have h := hl.1 _ (em_mem ts room)
  rw [hf] at h
  rw [Option.any_some, em_code] at h
  cases h
/-- so the same premises give the contrary too: that the law ends in a state of which False holds -/
theorem em_false : ArmFor flags0 classFile x code maxLocals ret World_1 tables_1 room_1 Calls_1 rest_1 Pre_1 (fun _ _ _ _ _ _ => False) := fun l _ h _ => absurd h (em_no l _ _)
/-- the table that the file has for it: fourteen rows -/
theorem em_rows : (match textOf? x.name, textOf? x.desc with | some n, some d => (classFile.handlers? n d).map List.length | _, _ => none) = some 14 := by decide +kernel
end
section
/-! True, and empty: nothing is said of the law or of the class here; the premises are never met (em_no). -/
theorem i_vc : Claimed_1_1 ∧ Claimed_1_2 := ⟨fun l _ h _ => absurd h (em_no l _ _), fun l _ h _ => absurd h (em_no l _ _)⟩
end
