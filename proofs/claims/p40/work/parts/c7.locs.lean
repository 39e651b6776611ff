/-! Locators and references told: both sides. -/
section LOCS
variable {Ls N k pc n a : Nat} {L : mLs} {σ σ' σ1 σ2 : Sg} {post : tP} {i x y z v : Int} {B M : Int → Int} {ds an dA : List Int} {R : Nat → Prop} {C : Nat → Nat → Prop} {ws rs PA PB : List Int} {tx : List (List Int)} {D3 : Nat → TD} {o3 : Nat → Nat → Int} {R3 : Nat → RuT} {hd : Nat → Int} {en : List EnT} {bf : Nat → List Nat} {rd : Nat → List Int} {hh ww : Int} {X : Nat}
theorem okSt.enSet (hok : okSt B M ds an tx D3 o3 R3 hd en bf ws rs rd PA PB hh ww) (ha : a < en.length) {w : EnT} (hw : enT w = enT (en.getD a enD) ∧ enP w = enP (en.getD a enD) ∧ enS w = enS (en.getD a enD) ∧ enK w = enK (en.getD a enD) ∧ enA w = enA (en.getD a enD)) (h1 : (enX w = -1 ∨ (0 ≤ enX w ∧ enX w < (en.length : Int))) ∧ enO w < 2 ^ en.length) (h2 : okLoc (enL w) (enM w)) : okSt B M ds an tx D3 o3 R3 hd (en.set a w) bf ws rs rd PA PB hh ww := by
  have hs := smE_set ha hw
  have hr : okRf (en.set a w) := okRf_set hok.rfs h1
  exact ⟨hok.1, hok.2.1, hok.2.2.1, hok.2.2.2.1, hok.rus, okEn_same hok.ens hs hr, okLoc_set hok.lcs h2, hr, fun Y hY => by rw [ordE_same hs]; exact hok.bfs Y hY, hok.cos, hok.pns, hok.hws⟩
theorem cG4.same {en' : List EnT} (h : cG4 σ tx en D3 o3 R3 bf) (hs : smE en en') : cG4 σ tx en' D3 o3 R3 bf := ⟨h.1.same hs, h.2⟩
end LOCS
