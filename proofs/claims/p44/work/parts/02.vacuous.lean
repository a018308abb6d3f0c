/-! True, and empty: nothing is said of the law or of the class here; the premises are never met (em_no). -/
theorem i_vc : Claimed_1_1 ∧ Claimed_1_2 := ⟨fun l _ h _ => absurd h (em_no l _ _), fun l _ h _ => absurd h (em_no l _ _)⟩
