/-! Locators move: pure. -/
def mvC (A B : List Int) (c : Int) : Int := 1000 * (c / 1000) + mvF A B (c % 1000)
def mvS (A B : List Int) (acc : List Int) (c : Int) : List Int := if mvF A B (c % 1000) = -1 ∨ mvC A B c ∈ acc then acc else acc ++ [mvC A B c]
def mvL (A B l : List Int) : List Int := l.foldl (mvS A B) []
