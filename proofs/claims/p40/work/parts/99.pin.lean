/-! Pins: the model's telling of one, and the edition. -/
section PINM
variable {Ls N k pc n n' nn b c t a q kd w d p X T : Nat} {L0 : mLs} {st r as : List mV} {h h' : mH} {σ σ' σ'' : Sg} {post : tP} {x y z x' y' i i' s v m u lv : Int} {xs ys ss L M P A B : List Int} {e : mE} {C : Nat → Nat → Prop} {R : Nat → Prop} {tx : List (List Int)} {en : List EnT}
/-- the last pin's numbers, or none -/
def lastP (A : List Int) : Int := if A.length = 0 then 0 else A.getD (A.length - 1) 0
end PINM
