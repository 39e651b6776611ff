/-! The model's levels and keys. -/
abbrev cWg (q i : Nat) : Prop := q = 509 ∨ (q = 480 ∧ i = 36)
abbrev cKy (q i : Nat) : Prop := q = 510 ∨ (q = 480 ∧ i = 38)
abbrev cOt (q i : Nat) : Prop := q = 511 ∨ (q = 480 ∧ i = 40)
