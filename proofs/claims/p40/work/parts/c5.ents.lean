/-! Entries and options told: both sides. -/
section ENTS
variable {Ls N k pc n : Nat} {σ σ' σ1 σ2 : Sg} {i x y z v : Int} {B M : Int → Int} {ds an dA : List Int} {R : Nat → Prop} {C : Nat → Nat → Prop} {ws rs PA PB : List Int} {tx : List (List Int)} {D3 : Nat → TD} {o3 : Nat → Nat → Int} {R3 : Nat → RuT} {hd : Nat → Int} {en : List EnT} {bf : Nat → List Nat} {rd : Nat → List Int} {hh ww : Int} {X : Nat} {D' : TD} {o' : Nat → Int} {R' : RuT}
theorem bf_ge {en' : List EnT} {tx' : List (List Int)} (hok : okSt B M ds an tx D3 o3 R3 hd en bf ws rs rd PA PB hh ww) (hE' : okEn tx' en') (h : ∀ Y e, e < en.length → inE en Y e = true → e < en'.length ∧ inE en' Y e = true) : ∀ Y, Y < 3 → (bf Y).length ≤ (ordE tx' en' (D3 Y) (o3 Y) Y).length ∧ ∀ e ∈ bf Y, e < 24 := fun Y hY => ⟨Nat.le_trans (hok.bfs Y hY).1 (ordE_le hok.ens hE' (h Y)), (hok.bfs Y hY).2⟩
theorem inE_snoc {w : EnT} {Y e : Nat} (he : e < en.length) (h : inE en Y e = true) : e < (en ++ [w]).length ∧ inE (en ++ [w]) Y e = true := by
  refine ⟨by rw [List.length_append]; omega, ?_⟩
  unfold inE at h ⊢
  rw [en_snoc, if_neg (by omega)]
  exact h
theorem inE_set {w : EnT} {a Y e : Nat} (ha : a < en.length) (hw : enS w = enS (en.getD a enD)) (he : e < en.length) (h : inE en Y e = true) : e < (en.set a w).length ∧ inE (en.set a w) Y e = true := by
  refine ⟨by rw [List.length_set]; exact he, ?_⟩
  unfold inE at h ⊢
  rw [en_set ha]
  by_cases c : e = a
  · rw [if_pos c, hw, ← c]
    exact h
  · rw [if_neg c]
    exact h
theorem enD_mem {a : Nat} (h : a < en.length) : en.getD a enD ∈ en := by
  rcases getD_en en a with g | g
  · exact g.2
  · omega
theorem teC_1 {q j : Nat} (g : teC q j) : (273 ≤ q ∧ q ≤ 358) → j = 3 ∧ (q = 295 ∨ q = 324 ∨ q = 353) := by omega
theorem teC_2 {q j : Nat} (g : teC q j) : scC q j ∨ (q = 2 ∧ j = 9) ∨ (360 ≤ q ∧ q ≤ 475) ∨ (j = 3 ∧ (q = 295 ∨ q = 324 ∨ q = 353)) := by omega
end ENTS
