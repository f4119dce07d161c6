/-- the law's printed function, from the start's heap on, for every script of at most 320 ints -/
theorem law_pure : ∀ sp : Nat × (Nat → Int32), sp.1 ≤ 320 → ∃ h2, fL_law sp hI = some (true, h2) := sorry
