/-! Rules, tailorings adopted, options: both sides. -/
section RULE
variable {Ls N k pc n : Nat} {σ σ' σ1 σ2 : Sg} {i x y z v : Int} {B M : Int → Int} {ds an dA : List Int} {R : Nat → Prop} {C : Nat → Nat → Prop} {ws rs PA PB : List Int} {tx : List (List Int)} {D3 : Nat → TD} {o3 : Nat → Nat → Int} {R3 : Nat → RuT} {hd : Nat → Int} {en : List EnT} {bf : Nat → List Nat} {rd : Nat → List Int} {hh ww : Int} {X : Nat} {D' : TD} {o' : Nat → Int} {R' : RuT}
/-- a tailoring told anew, its order kept for what moved -/
theorem okSt.tl (hok : okSt B M ds an tx D3 o3 R3 hd en bf ws rs rd PA PB hh ww) (hX : X < 3) (hd2 : ds = [] ∨ True) (hr : okRu D' R') : okSt B M ds an tx (upf D3 X D') (upf o3 X o') (upf R3 X R') hd en (upf bf X (ordE tx en (D3 X) (o3 X) X)) ws rs rd PA PB hh ww := by
  refine ⟨hok.1, hok.2.1, hok.2.2.1, hok.2.2.2.1, fun Y hY => ?_, hok.ens, hok.lcs, hok.rfs, fun Y hY => ?_, hok.cos, hok.pns, hok.hws⟩
  · by_cases e : Y = X
    · rw [e, upf_same, upf_same]
      exact hr
    · rw [upf_ne _ _ e, upf_ne _ _ e]
      exact hok.rus Y hY
  · by_cases e : Y = X
    · rw [e, upf_same, upf_same, upf_same]
      refine ⟨ordE_le0 hok.ens, fun b hb => ?_⟩
      have := ordE_sub hok.ens X hb
      have := hok.lens.2
      omega
    · rw [upf_ne _ _ e, upf_ne _ _ e, upf_ne _ _ e]
      exact hok.bfs Y hY
theorem okSt.noDs (hok : okSt B M ds an tx D3 o3 R3 hd en bf ws rs rd PA PB hh ww) : okSt B M [] [] tx D3 o3 R3 hd en bf ws rs rd PA PB hh ww := ⟨hok.1, ⟨Nat.zero_le _, fun s hs => (List.not_mem_nil hs).elim⟩, ⟨Nat.zero_le _, fun s hs => (List.not_mem_nil hs).elim⟩, hok.2.2.2⟩
theorem upf_id {α : Type} (f : Nat → α) (X : Nat) : upf f X (f X) = f := by
  funext i
  unfold upf
  split
  · rename_i e
    rw [e]
  · rfl
end RULE
