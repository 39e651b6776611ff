/-! The model's tailorings: lists that change. -/
section MLIST
variable {Ls N k pc n n' nn b c t a q T kd w : Nat} {L L0 : mLs} {st r as : List mV} {h h' : mH} {σ σ' σ'' : Sg} {post : tP} {x y z x' y' i i' s v m : Int} {xs ys : List Int} {e : mE} {C : Nat → Nat → Prop}
theorem setF_get (σ : Sg) (q i : Nat) (x : Int) (p j : Nat) : (setF σ q i x).2 p j = if p = q ∧ j = i then x else σ.2 p j := by
  show mup σ.2 q i x p j = _
  unfold mup
  by_cases h1 : p = q
  · by_cases h2 : j = i
    · rw [if_pos h1, if_pos h2, if_pos ⟨h1, h2⟩]
    · rw [if_pos h1, if_neg h2, if_neg (fun g => h2 g.2)]
  · rw [if_neg h1, if_neg (fun g => h1 g.1)]
theorem setF_same (σ : Sg) (q i : Nat) (x : Int) : (setF σ q i x).2 q i = x := by rw [setF_get, if_pos ⟨rfl, rfl⟩]
theorem setF_ne {p j : Nat} (σ : Sg) (x : Int) (h : ¬ (p = q ∧ j = a)) : (setF σ q a x).2 p j = σ.2 p j := by rw [setF_get, if_neg h]
theorem rplace_nat (xs : List Int) (x : Int) : (rplace xs x = -1 ∧ x ∉ xs) ∨ ∃ p : Nat, rplace xs x = (p : Int) ∧ p < xs.length ∧ x ∈ xs := by
  rcases rplace_or xs x with g | ⟨g1, g2, g3⟩
  · exact Or.inl g
  · exact Or.inr ⟨(rplace xs x).toNat, by omega, by omega, g3⟩
theorem rget_nat {p : Nat} (hp : p < xs.length) : rget xs (p : Int) = xs.getD p 0 := by
  unfold rget
  rw [if_pos (by omega), Int.toNat_natCast]
theorem rrem_nat {p : Nat} (hp : p < xs.length) : rrem xs (p : Int) = xs.eraseIdx p := by
  unfold rrem
  rw [if_pos (by omega), Int.toNat_natCast]
end MLIST
