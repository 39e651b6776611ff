/-! The class Tailoring: rules copied, a rule told. -/
section TELL
variable {Ls N N1 N2 k pc n n' nn b c t u a q : Nat} {L L0 : mLs} {st r as : List mV} {h h' : mH} {σ σ' σ'' : Sg} {post : tP} {x y z x' y' i i' s v m w : Int} {xs ys : List Int} {e : mE} {C : Nat → Nat → Prop} {B M : Int → Int} {R : Nat → Prop}
/-- the rows of a tailoring -/
abbrev rT (t a : Nat) : Prop := t < a ∧ a < t + 20
end TELL
