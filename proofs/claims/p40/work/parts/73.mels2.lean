/-! The model's elements of a row of signs, found. -/
def opM (T : Nat) (σ : Sg) (o : Nat → Int) : Prop := ∀ j, j < 3 → σ.2 503 (3 * T + j) = o j ∧ (o j = 0 ∨ o j = 1)
section MELS2
variable {Ls N k pc n n' nn b c t a q T kd w : Nat} {L L0 : mLs} {st r as : List mV} {h h' : mH} {σ σ' σ'' : Sg} {post : tP} {x y z x' y' i i' s v m u : Int} {xs ys its lvs sv sg ss g : List Int} {e : mE} {C : Nat → Nat → Prop} {D : TD} {els : List El} {o : Nat → Int}
theorem opM.el (h : opM T σ o) (ho : only C σ σ') (hC : ∀ i, ¬ C 503 i) : opM T σ' o := fun j hj => by
  rw [ho.2 _ _ (hC _)]
  exact h j hj
end MELS2
