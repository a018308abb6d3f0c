theorem fx_body0 (l : Launch) : fx_Body l 0 := by
  intro p e R s m args below meth c Q mi ad cy D Ls xs A pc L st σ v σ' k H locs ls cells slots hF hm hTab hap hA1 hA2 hZ hRf hRl hrun
  cases hrun
/-- what the interpreter runs, the machine runs -/
theorem fx_sound (l : Launch) (hst : l.stackTraces = false) (hNS : fx_NS l) (hpri : fx_Pri l) : ∀ n, fx_Body l n ∧ fx_Con l n
  | 0 => ⟨fx_body0 l, fx_conB l hst hNS 0 (fx_body0 l)⟩
  | n + 1 => by
    obtain ⟨h1, h2⟩ := fx_sound l hst hNS hpri n
    have h3 := fx_bodyS l hpri n h2 h1
    exact ⟨h3, fx_conB l hst hNS (n + 1) h3⟩
