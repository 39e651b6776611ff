/-! The model's finds. -/
section MFINDS
variable {Ls N k pc n n' nn b c t a q T kd w d : Nat} {L L0 : mLs} {st r as : List mV} {h h' : mH} {σ σ' σ'' : Sg} {post : tP} {x y z x' y' i i' s v m u lv : Int} {xs ys its lvs sv sg ss g ws ks js wh : List Int} {e : mE} {C : Nat → Nat → Prop} {D : TD} {els : List El} {o : Nat → Int} {ee : El}
theorem tr_top (hx : x = y) (K : Tr Ls N k pc L (mI y :: r) σ post) : Tr Ls N k pc L (mI x :: r) σ post := by rw [hx]; exact K
end MFINDS
