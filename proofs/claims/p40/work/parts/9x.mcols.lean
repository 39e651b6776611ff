/-! Columns: the model's. -/
abbrev cCn (q i : Nat) : Prop := cOd q i ∨ cGp q i
theorem cCn_in {q i : Nat} (g : cCn q i) : q = 489 ∨ (504 ≤ q ∧ q ≤ 511) ∨ q = 522 ∨ q = 525 ∨ (q = 480 ∧ (i = 13 ∨ i = 32 ∨ i = 34 ∨ i = 36 ∨ i = 38 ∨ i = 40 ∨ i = 53 ∨ i = 57)) := by
  rcases g with (g | g) | g
  · have := cQ_nin g; omega
  · omega
  · omega
