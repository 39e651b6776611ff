/-! All rules of a tailoring told in another one. -/
abbrev RuT : Type := List (Int × Int × Int)
abbrev rHs (R : RuT) : List Int := R.map (fun r => r.1)
abbrev rAs (R : RuT) : List Int := R.map (fun r => r.2.1)
abbrev rIs (R : RuT) : List Int := R.map (fun r => r.2.2)
def okRu (D : TD) (R : RuT) : Prop := R.length ≤ 12 ∧ D.1.length ≤ 36 + R.length ∧ D.2.2.1.length ≤ R.length ∧ ∀ r ∈ R, (0 ≤ r.1 ∧ r.1 ≤ 7) ∧ okCd r.2.1 ∧ okCd r.2.2
theorem okRu_tell {D : TD} {R : RuT} (hD : okTD D) (hR : okRu D R) {how an it : Int} (hh : 0 ≤ how ∧ how ≤ 7) (hq : canTellQ D.1 D.2.2.2 R.length how an it) (han : okCd an) (hit : okCd it) : D.1.length < 48 ∧ D.2.2.1.length < 12 ∧ R.length < 12 ∧ okTD (tellD D how an it) ∧ okRu (tellD D how an it) (R ++ [(how, an, it)]) := by
  have q1 := hq.1
  have h1 : R.length < 12 := by omega
  have h2 : D.1.length < 48 := by have := hR.2.1; omega
  have h3 : D.2.2.1.length < 12 := by have := hR.2.2.1; omega
  have ha : how ≠ 7 → an ∈ itL D.1 it := fun g => (rrem_mem hD.2.2.2.1 it an).mpr ⟨hq.2.2.2.2.2 g, hq.2.2.1⟩
  have t := tell_ok hD hh h2 ha
  refine ⟨h2, h3, h1, okTD_tell hD hh hq han hit h2 h3, ?_, ?_, ?_, ?_⟩
  · rw [List.length_append, List.length_singleton]; omega
  · show (tellL D.1 D.2.1 how an it).1.length ≤ 36 + _
    rw [List.length_append, List.length_singleton]
    have := hR.2.1
    omega
  · show (rrem D.2.2.1 (rplace D.2.2.1 it) ++ (if how = 7 then [it] else [])).length ≤ _
    rw [List.length_append, List.length_append, List.length_singleton, rrem_len]
    have := hR.2.2.1
    split <;> split <;> simp only [List.length_singleton, List.length_nil] <;> omega
  · intro r hr
    rcases List.mem_append.mp hr with g | g
    · exact hR.2.2.2 r g
    · rw [List.mem_singleton.mp g]
      exact ⟨hh, han, hit⟩
/-- the rows of rules on the class's side -/
def cRl (t : Nat) (σ : Sg) (R : RuT) : Prop := σ.1 (t + 15) = rHs R ∧ σ.1 (t + 17) = rAs R ∧ σ.1 (t + 19) = rIs R
