/-! Indexes asked: the model's. -/
abbrev cCz (q i : Nat) : Prop := cCn q i ∨ (q = 480 ∧ i = 0)
theorem cCz_in {q i : Nat} (g : cCz q i) : q = 489 ∨ (504 ≤ q ∧ q ≤ 511) ∨ q = 522 ∨ q = 525 ∨ (q = 480 ∧ (i = 13 ∨ i = 32 ∨ i = 34 ∨ i = 36 ∨ i = 38 ∨ i = 40 ∨ i = 53 ∨ i = 57 ∨ i = 0)) := by
  rcases g with g | g
  · have := cCn_in g; omega
  · omega
