/-! Lines in context: the model's. -/
abbrev cLn (q i : Nat) : Prop := cQ q i ∨ q = 530 ∨ (q = 480 ∧ (i = 64 ∨ i = 0))
