/-! Pins: where a page moves, of both sides. -/
def lastLe (x : Int) : Int → Int → List Int → Int
  | _, r, [] => r
  | i, r, a :: as => lastLe x (i + 1) (if a ≤ x then i else r) as
def okPins (A B : List Int) : Prop := A.length = B.length ∧ A.length ≤ 6 ∧ (∀ j, j < A.length → (1 ≤ A.getD j 0 ∧ A.getD j 0 ≤ 999) ∧ 1 ≤ B.getD j 0 ∧ B.getD j 0 ≤ 999) ∧ ∀ j, j + 1 < A.length → A.getD j 0 < A.getD (j + 1) 0 ∧ B.getD j 0 < B.getD (j + 1) 0
def mvF (A B : List Int) (x : Int) : Int :=
  if lastLe x 0 (-1) A = -1 ∨ A.getD (A.length - 1) 0 < x then -1
  else if lastLe x 0 (-1) A = (A.length : Int) - 1 then B.getD (lastLe x 0 (-1) A).toNat 0
  else B.getD (lastLe x 0 (-1) A).toNat 0 + (x - A.getD (lastLe x 0 (-1) A).toNat 0) * (B.getD ((lastLe x 0 (-1) A).toNat + 1) 0 - B.getD (lastLe x 0 (-1) A).toNat 0) / (A.getD ((lastLe x 0 (-1) A).toNat + 1) 0 - A.getD (lastLe x 0 (-1) A).toNat 0)
