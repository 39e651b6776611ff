/-! The model: can a rule be told? (2) -/
theorem canSort_iff {its sg : List Int} {it an : Int} (h : 0 < an) : canSort its sg it an ↔ 1 < sgIn an ∧ (∀ j : Nat, (j : Int) < sgIn an → okA its an it j) ∧ ¬ oneOf sg it := by
  have h3 := sgIn_le3 an
  constructor
  · rintro ⟨h1, h2, h4, h5, h6⟩
    refine ⟨h5, fun j hj => ?_, h6⟩
    rcases (show j = 0 ∨ j = 1 ∨ j = 2 by omega) with rfl | rfl | rfl
    · exact h1 hj
    · exact h2 hj
    · exact h4 hj
  · rintro ⟨h1, h2, h4⟩
    exact ⟨fun g => h2 0 g, fun g => h2 1 g, fun g => h2 2 g, h1, h4⟩
section MCAN2
variable {Ls N k pc n n' nn b c t a q T kd w : Nat} {L L0 : mLs} {st r as : List mV} {h h' : mH} {σ σ' σ'' : Sg} {post : tP} {x y z x' y' i i' s v m how an it : Int} {xs ys its lvs sv sg hs is ans : List Int} {e : mE} {C : Nat → Nat → Prop} {D : TD}
abbrev okCo1 (x : Int) : Prop := x = -1 ∨ okCd x
end MCAN2
