/-! the pure claim: the shallow law comes to its end -/
theorem law_true : ∀ X : List Int32, X.length ≤ 3072 → ∃ M, f_L_law (300, 17000) X Mem0 = some M := sorry
