/-! The model's numbers and items. -/
abbrev cEG (q i : Nat) : Prop := cEl q i ∨ cGr q i
