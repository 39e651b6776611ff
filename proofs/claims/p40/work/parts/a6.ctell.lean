/-! The class: rules told, over what a tailoring is. -/
section CTELL
variable {Ls N k pc n n' nn b c t u a q T F kd w : Nat} {L L0 : mLs} {st r as : List mV} {h h' : mH} {σ σ' σ'' : Sg} {post : tP} {x y z x' y' i i' s v m how it an : Int} {xs ys its lvs sv sg hs is ans : List Int} {e : mE} {C : Nat → Nat → Prop} {D : TD} {R RF : RuT} {Rr : Nat → Prop}
theorem s_120D (ht : isT t) (hD : tlC t σ D) (hD2 : okTD D) (hR : cRl t σ R) (hok : okRu D R) (hh : 0 ≤ how ∧ how ≤ 7) (hq : canTellQ D.1 D.2.2.2 R.length how an it) (han : okCd an) (hit : okCd it)
    (K : ∀ σ', tlC t σ' (tellD D how an it) → cRl t σ' (R ++ [(how, an, it)]) → chg (rT t) noC σ σ' → post (.inl none) σ') :
    Tr Ls N 120 0 [some (mP (some t)), some (mI how), some (mI an), some (mI it)] [] σ post := by
  obtain ⟨w1, w2, w3, w4, w5⟩ := okRu_tell hD2 hok hh hq han hit
  obtain ⟨d1, d2, d3, d4, d5, d6, d7⟩ := id hD
  obtain ⟨r1, r2, r3⟩ := id hR
  have ha : how ≠ 7 → an ∈ itL D.1 it := fun g => (rrem_mem hD2.2.2.2.1 it an).mpr ⟨hq.2.2.2.2.2 g, hq.2.2.1⟩
  have t5 := tell_ok hD2 hh w1 ha
  have hitl : (itL D.1 it).length ≤ D.1.length := by
    unfold itL
    rw [rrem_len]
    split <;> omega
  have hsl := hD2.2.2.2.2.2.1.1
  have e1 : (rrem D.2.2.1 (rplace D.2.2.1 it)).length ≤ D.2.2.1.length := by rw [rrem_len]; split <;> omega
  have e2 : (rrem D.2.2.2 (rplace D.2.2.1 it)).length ≤ D.2.2.2.length := by rw [rrem_len]; split <;> omega
  refine s_120 ht hh (by omega) (by omega) (by rw [d1, d2]; exact hD2.1) (by rw [d1]; exact ha) (by rw [d1]; omega) (by rw [r1, List.length_map]; exact w3) (by rw [r2, List.length_map]; exact w3) (by rw [r3, List.length_map]; exact w3) (by rw [d6]; omega) (by rw [d6, d7]; omega) (by rw [d1, d2]; exact t5.1) (fun σ' g => ?_)
  obtain ⟨g0, g1, g2, g3, g4, g5, g6, g7, g8, g9, g10⟩ := g
  rw [d1, d2] at g1 g2
  rw [d6] at g3
  rw [d6, d7] at g4
  refine K σ' ⟨g1, g2, ?_, ?_, ?_, g3, g4⟩ ⟨?_, ?_, ?_⟩ g0.chg
  · rw [g8, g2]; rfl
  · rw [g9, g2]; rfl
  · rw [g10, g2]; rfl
  · rw [g5, r1]; simp
  · rw [g6, r2]; simp
  · rw [g7, r3]; simp
end CTELL
