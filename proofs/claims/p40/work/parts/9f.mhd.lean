/-! Headings told: how many levels have them. -/
def hdC (f : Nat → Int) : Nat → Nat → Int
  | 0, _ => 0
  | d + 1, i => (if f i = 0 then 0 else 1) + hdC f d (i + 1)
def hdU (hd : Nat → Int) (l : Nat) (y : Int) : Nat → Int := fun i => if i = l then y else hd i
