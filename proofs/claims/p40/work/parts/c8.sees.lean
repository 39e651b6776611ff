/-! References told: both sides. -/
section SEES
variable {Ls N k pc n a : Nat} {L : mLs} {σ σ' σ1 σ2 : Sg} {post : tP} {i x y z v : Int} {B M : Int → Int} {ds an dA : List Int} {R : Nat → Prop} {C : Nat → Nat → Prop} {ws rs PA PB : List Int} {tx : List (List Int)} {D3 : Nat → TD} {o3 : Nat → Nat → Int} {R3 : Nat → RuT} {hd : Nat → Int} {en : List EnT} {bf : Nat → List Nat} {rd : Nat → List Int} {hh ww : Int} {X : Nat}
/-- an entry's references told anew, by both -/
theorem seeC (hok : okSt B M ds an tx D3 o3 R3 hd en bf ws rs rd PA PB hh ww) (hc : cAll σ B M ds an tx D3 o3 R3 hd en bf ws rs rd PA PB hh ww) (ha : a < en.length) {q9 : Nat} (hq : q9 = 7 ∨ q9 = 8) {w : EnT} (hw : w = (enT (en.getD a enD), enP (en.getD a enD), enS (en.getD a enD), enK (en.getD a enD), enA (en.getD a enD), enX w, enO w, enL (en.getD a enD), enM (en.getD a enD))) (h7 : (setF σ (360 + 5 * a) q9 v).2 (360 + 5 * a) 7 = enX w) (h8 : (setF σ (360 + 5 * a) q9 v).2 (360 + 5 * a) 8 = (enO w : Int)) : cAll (setF σ (360 + 5 * a) q9 v) B M ds an tx D3 o3 R3 hd (en.set a w) bf ws rs rd PA PB hh ww := by
  obtain ⟨hl, he⟩ := hok.lens
  obtain ⟨c1, c2, cT, c4, cH, cE, cC, c8, c9⟩ := id hc
  have hch : chg noR (fun q j => q = (360 + 5 * a) ∧ j = q9) σ (setF σ (360 + 5 * a) q9 v) := chg.setF chg.rf ⟨rfl, rfl⟩
  obtain ⟨q1, q2, q3⟩ := cE.2.1 a ha
  obtain ⟨q4, q5, q6, q7, q8⟩ := cE.2.2 a (by omega)
  have e1 : enT w = enT (en.getD a enD) := by rw [hw]
  have e2 : enP w = enP (en.getD a enD) := by rw [hw]
  have e3 : enS w = enS (en.getD a enD) := by rw [hw]
  have e4 : enK w = enK (en.getD a enD) := by rw [hw]
  have e5 : enA w = enA (en.getD a enD) := by rw [hw]
  have e6 : enL w = enL (en.getD a enD) := by rw [hw]
  have hs : smE en (en.set a w) := smE_set ha ⟨e1, e2, e3, e4, e5⟩
  have k1 : cEn (setF σ (360 + 5 * a) q9 v) (en.set a w) := cE.set ha he (hch.2 _ _ (by omega)) (fun j hj e => ⟨fun t => hch.2 _ _ (by omega), rfl⟩) (by rw [e1]; exact (hch.2 _ _ (by omega)).trans q1) (by rw [e2]; exact (hch.2 _ _ (by omega)).trans q2) (by rw [e3]; exact (hch.2 _ _ (by omega)).trans q3) (by rw [e4]; exact (hch.2 _ _ (by omega)).trans q4) (by rw [e5]; exact (hch.2 _ _ (by omega)).trans q5) h7 h8 (by rw [e6]; exact q8)
  exact hc.ens hl hch (fun r g => g.elim) (fun q j g => by omega) k1 ((c4.of hch (fun r g => g.elim) (fun q j g => by omega)).same hs) ((hch.1 104 (fun g => g.elim)).trans c8.1) ((hch.1 106 (fun g => g.elim)).trans c8.2)
end SEES
