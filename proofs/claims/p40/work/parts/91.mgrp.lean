/-! The model's groups. -/
def gnum (g : Gp) : Int := 1000000 * g.1 + 1000 * g.2.1 + g.2.2
abbrev cGp (q i : Nat) : Prop := q = 525 ∨ (q = 480 ∧ i = 57)
