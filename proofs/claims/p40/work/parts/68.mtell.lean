/-! The model's tailorings: weights, a rule told. -/
def tellD (D : TD) (how an it : Int) : TD := ((tellL D.1 D.2.1 how an it).1, (tellL D.1 D.2.1 how an it).2, rrem D.2.2.1 (rplace D.2.2.1 it) ++ (if how = 7 then [it] else []), rrem D.2.2.2 (rplace D.2.2.1 it) ++ (if how = 7 then [an] else []))
theorem bhF_le (lvs : List Int) (lv : Int) : ∀ (d p : Nat), p ≤ bhF lvs lv d p ∧ bhF lvs lv d p ≤ p + d
  | 0, p => ⟨Nat.le_refl _, Nat.le_refl _⟩
  | d + 1, p => by
    unfold bhF
    have := bhF_le lvs lv d (p + 1)
    split <;> omega
theorem ahF_le (lvs : List Int) (lv : Int) : ∀ (p : Nat), ahF lvs lv p ≤ p
  | 0 => Nat.le_refl _
  | p + 1 => by
    unfold ahF
    have := ahF_le lvs lv p
    split <;> omega
