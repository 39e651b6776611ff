/-! The model's elements: codes of gaps, what is added. -/
abbrev cEl (q i : Nat) : Prop := q = 504 ∨ q = 505 ∨ q = 506 ∨ q = 507 ∨ (q = 480 ∧ i = 32)
abbrev cGr (q i : Nat) : Prop := q = 508 ∨ (q = 480 ∧ i = 34)
