/-! Signs, composed signs, texts, anchors: both sides. -/
section DRAFT
variable {Ls N k pc n : Nat} {σ σ' σ1 σ2 : Sg} {i x y z v : Int} {B M : Int → Int} {ds an : List Int} {R : Nat → Prop} {C : Nat → Nat → Prop} {ws rs PA PB : List Int} {tx : List (List Int)} {D3 : Nat → TD} {o3 : Nat → Nat → Int} {R3 : Nat → RuT} {hd : Nat → Int} {en : List EnT} {bf : Nat → List Nat} {rd : Nat → List Int} {hh ww : Int}
theorem cG1.dr (h : cG1 σ B M) (hd : σ.1 6 = ds) (hB : okBM B M) : cDr σ ds (apA B M ds) := by
  obtain ⟨⟨h1, h2⟩, -⟩ := h
  unfold cDr
  rw [h1, h2]
  exact ⟨hd, hB.2.2.1, hB.2.2.2.1, rfl⟩
end DRAFT
