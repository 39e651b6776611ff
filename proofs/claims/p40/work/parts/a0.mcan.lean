/-! The model: can a rule be told? -/
theorem hasSg_iff {x y : Int} (h : 0 < x) : hasSg x y ↔ ∃ j : Nat, (j : Int) < sgIn x ∧ sgAt x j + 1 = y := by
  have h3 := sgIn_le3 x
  constructor
  · rintro (⟨h1, h2⟩ | ⟨h1, h2⟩ | ⟨h1, h2⟩)
    · exact ⟨0, h1, h2⟩
    · exact ⟨1, h1, h2⟩
    · exact ⟨2, h1, h2⟩
  · rintro ⟨j, h1, h2⟩
    rcases (show j = 0 ∨ j = 1 ∨ j = 2 by omega) with rfl | rfl | rfl
    · exact Or.inl ⟨h1, h2⟩
    · exact Or.inr (Or.inl ⟨h1, h2⟩)
    · exact Or.inr (Or.inr ⟨h1, h2⟩)
