/-! One thing of the state told anew, on both sides. -/
def upf {α : Type} (f : Nat → α) (X : Nat) (v : α) : Nat → α := fun i => if i = X then v else f i
theorem upf_same {α : Type} (f : Nat → α) (X : Nat) (v : α) : upf f X v X = v := if_pos rfl
theorem upf_ne {α : Type} (f : Nat → α) {X Y : Nat} (v : α) (h : Y ≠ X) : upf f X v Y = f Y := if_neg h
section UPD
variable {σ σ' σ1 σ2 : Sg} {R : Nat → Prop} {C : Nat → Nat → Prop} {B M B' M' : Int → Int} {ds an ds' an' ws rs PA PB PA' PB' ws' rs' t : List Int} {tx tx' : List (List Int)} {D3 D3' : Nat → TD} {o3 o3' : Nat → Nat → Int} {R3 R3' : Nat → RuT} {hd hd' : Nat → Int} {en en' : List EnT} {bf bf' : Nat → List Nat} {rd rd' : Nat → List Int} {hh ww hh' ww' v : Int} {X : Nat} {D' : TD} {o' : Nat → Int} {R' : RuT} {b' : List Nat}
/-- the class's, all but one tailoring or the drafts -/
theorem cAll.tl (h : cAll σ B M ds an tx D3 o3 R3 hd en bf ws rs rd PA PB hh ww) (hl : tx.length ≤ 30) (he : en.length ≤ 24) (hc : chg R C σ σ') (hR : ∀ a, R a → scR a ∨ a = 6 ∨ a = 8 ∨ (273 ≤ a ∧ a ≤ 358)) (hC : ∀ q i, C q i → scC q i ∨ (273 ≤ q ∧ q ≤ 358)) (h6 : σ'.1 6 = ds') (h8 : σ'.1 8 = an') (h4 : cG4 σ' tx en D3' o3' R3' bf') : cAll σ' B M ds' an' tx D3' o3' R3' hd en bf' ws rs rd PA PB hh ww := by
  obtain ⟨h1, -, h3, -, h5, h6', h7, ⟨h8', h8b⟩, h9, h9b⟩ := h
  unfold scR at hR
  unfold scC at hC
  refine ⟨h1.of hc (fun q i g g2 => by have := hC q i g; omega), ⟨h6, h8⟩, h3.of hc hl (fun a g g2 => by have := hR a g; omega) (fun g => by have := hC _ _ g; omega), h4, h5.of hc (fun i g => by have := hC _ _ g; omega), h6'.of hc he (fun a g g2 => by have := hR a g; omega) (fun g => by have := hC _ _ g; omega) (fun q i g g2 => by have := hC q i g; omega), h7.of hc (fun a g g2 => by have := hR a g; omega), ⟨?_, ?_⟩, ?_, ?_⟩
  · rw [hc.1 _ (fun g => by have := hR _ g; omega)]
    exact h8'
  · rw [hc.1 _ (fun g => by have := hR _ g; omega)]
    exact h8b
  · rw [hc.2 _ _ (fun g => by have := hC _ _ g; omega)]
    exact h9
  · rw [hc.2 _ _ (fun g => by have := hC _ _ g; omega)]
    exact h9b
theorem cAll.dfs (h : cAll σ B M ds an tx D3 o3 R3 hd en bf ws rs rd PA PB hh ww) (hl : tx.length ≤ 30) (he : en.length ≤ 24) (hc : chg R C σ σ') (hR : ∀ a, R a → scR a ∨ a = 6 ∨ a = 8) (hC : ∀ q i, C q i → scC q i) (h6 : σ'.1 6 = ds') (h8 : σ'.1 8 = an') : cAll σ' B M ds' an' tx D3 o3 R3 hd en bf ws rs rd PA PB hh ww := by
  refine h.tl hl he hc (fun a g => (hR a g).elim Or.inl (fun c => c.elim (fun c => Or.inr (Or.inl c)) (fun c => Or.inr (Or.inr (Or.inl c))))) (fun q i g => Or.inl (hC q i g)) h6 h8 (h.2.2.2.1.of hc (fun a g g2 => ?_) (fun q i g g2 => ?_))
  · have := hR a g
    unfold scR at this
    omega
  · have := hC q i g
    unfold scC at this
    omega
theorem cAll.txs (h : cAll σ B M ds an tx D3 o3 R3 hd en bf ws rs rd PA PB hh ww) (hE : okEn tx en) (hc : chg R C σ σ') (hR : ∀ a, R a → scR a ∨ a = 6 ∨ (153 ≤ a ∧ a ≤ 269 ∧ a % 4 = 1)) (hC : ∀ q i, C q i → scC q i ∨ (q = 2 ∧ i = 4)) (h6 : σ'.1 6 = ds') (hT : cTx σ' (tx ++ [t])) : cAll σ' B M ds' an (tx ++ [t]) D3 o3 R3 hd en bf ws rs rd PA PB hh ww := by
  obtain ⟨h1, ⟨-, h2⟩, -, h4, h5, h6', h7, ⟨h8', h8b⟩, h9, h9b⟩ := h
  unfold scR at hR
  unfold scC at hC
  have h4' := h4.of hc (fun a g g2 => by have := hR a g; omega) (fun q i g g2 => by have := hC q i g; omega)
  refine ⟨h1.of hc (fun q i g g2 => by have := hC q i g; omega), ⟨h6, ?_⟩, hT, ⟨h4'.1.txs hE, h4'.2⟩, h5.of hc (fun i g => by have := hC _ _ g; omega), h6'.of hc hE.1 (fun a g g2 => by have := hR a g; omega) (fun g => by have := hC _ _ g; omega) (fun q i g g2 => by have := hC q i g; omega), h7.of hc (fun a g g2 => by have := hR a g; omega), ⟨?_, ?_⟩, ?_, ?_⟩
  · rw [hc.1 _ (fun g => by have := hR _ g; omega)]
    exact h2
  · rw [hc.1 _ (fun g => by have := hR _ g; omega)]
    exact h8'
  · rw [hc.1 _ (fun g => by have := hR _ g; omega)]
    exact h8b
  · rw [hc.2 _ _ (fun g => by have := hC _ _ g; omega)]
    exact h9
  · rw [hc.2 _ _ (fun g => by have := hC _ _ g; omega)]
    exact h9b
theorem cAll.ens (h : cAll σ B M ds an tx D3 o3 R3 hd en bf ws rs rd PA PB hh ww) (hl : tx.length ≤ 30) (hc : chg R C σ σ') (hR : ∀ a, R a → scR a ∨ a = 104 ∨ a = 106 ∨ (361 ≤ a ∧ a ≤ 476 ∧ a % 5 = 1)) (hC : ∀ q i, C q i → scC q i ∨ (q = 2 ∧ i = 9) ∨ (360 ≤ q ∧ q ≤ 475) ∨ (i = 3 ∧ (q = 295 ∨ q = 324 ∨ q = 353))) (hE : cEn σ' en') (h4 : cG4 σ' tx en' D3 o3 R3 bf) (h8 : σ'.1 104 = PA') (h8b : σ'.1 106 = PB') : cAll σ' B M ds an tx D3 o3 R3 hd en' bf ws rs rd PA' PB' hh ww := by
  obtain ⟨h1, ⟨h2, h2b⟩, h3, -, h5, -, h7, -, h9, h9b⟩ := h
  unfold scR at hR
  unfold scC at hC
  refine ⟨h1.of hc (fun q i g g2 => by have := hC q i g; omega), ⟨?_, ?_⟩, h3.of hc hl (fun a g g2 => by have := hR a g; omega) (fun g => by have := hC _ _ g; omega), h4, h5.of hc (fun i g => by have := hC _ _ g; omega), hE, h7.of hc (fun a g g2 => by have := hR a g; omega), ⟨h8, h8b⟩, ?_, ?_⟩
  · rw [hc.1 _ (fun g => by have := hR _ g; omega)]
    exact h2
  · rw [hc.1 _ (fun g => by have := hR _ g; omega)]
    exact h2b
  · rw [hc.2 _ _ (fun g => by have := hC _ _ g; omega)]
    exact h9
  · rw [hc.2 _ _ (fun g => by have := hC _ _ g; omega)]
    exact h9b
/-- bases and marks, headings, words, pins, sides -/
theorem cAll.mix (h : cAll σ B M ds an tx D3 o3 R3 hd en bf ws rs rd PA PB hh ww) (hl : tx.length ≤ 30) (he : en.length ≤ 24) (hc : chg R C σ σ') (hR : ∀ a, R a → scR a ∨ (38 ≤ a ∧ a ≤ 106)) (hC : ∀ q i, C q i → scC q i ∨ (3 ≤ q ∧ q ≤ 5) ∨ q = 34 ∨ (q = 2 ∧ (i = 13 ∨ i = 14))) (h1 : cG1 σ' B' M') (h5 : cHd σ' hd') (h7 : cCo σ' ws' rs' rd') (h8 : σ'.1 104 = PA' ∧ σ'.1 106 = PB') (h9 : σ'.2 2 13 = ww' ∧ σ'.2 2 14 = hh') : cAll σ' B' M' ds an tx D3 o3 R3 hd' en bf ws' rs' rd' PA' PB' hh' ww' := by
  obtain ⟨-, ⟨h2, h2b⟩, h3, h4, -, h6, -⟩ := h
  unfold scR at hR
  unfold scC at hC
  refine ⟨h1, ⟨?_, ?_⟩, h3.of hc hl (fun a g g2 => by have := hR a g; omega) (fun g => by have := hC _ _ g; omega), h4.of hc (fun a g g2 => by have := hR a g; omega) (fun q i g g2 => by have := hC q i g; omega), h5, h6.of hc he (fun a g g2 => by have := hR a g; omega) (fun g => by have := hC _ _ g; omega) (fun q i g g2 => by have := hC q i g; omega), h7, h8, h9⟩
  · rw [hc.1 _ (fun g => by have := hR _ g; omega)]
    exact h2
  · rw [hc.1 _ (fun g => by have := hR _ g; omega)]
    exact h2b
theorem cG4.upX (h : cG4 σ tx en D3 o3 R3 bf) (hX : X < 3) (hc : chg R C σ σ') (hR : ∀ a, R a → (273 ≤ a ∧ a ≤ 358) → rT (273 + 29 * X) a ∨ a = (295 + 29 * X) + 1 ∨ a = (295 + 29 * X) + 3 ∨ a = (295 + 29 * X) + 5) (hC : ∀ q i, C q i → (273 ≤ q ∧ q ≤ 358) → q = (295 + 29 * X) ∨ q = (273 + 29 * X) + 21) (k1 : okTD D') (k2 : tlC (273 + 29 * X) σ' D') (k3 : opC (273 + 29 * X) σ' o') (k4 : cRl (273 + 29 * X) σ' R') (k5 : σ'.1 ((295 + 29 * X) + 5) = ci b') (k6 : σ'.2 (295 + 29 * X) 3 = 0) : cG4 σ' tx en (upf D3 X D') (upf o3 X o') (upf R3 X R') (upf bf X b') := by
  obtain ⟨h1, h2, h3⟩ := h
  refine ⟨fun Y hY => ?_, fun Y hY => ?_, fun Y hY => ?_⟩
  · by_cases e : Y = X
    · rw [e, upf_same, upf_same]
      exact ⟨k1, k2, k3, Or.inl k6⟩
    · rw [upf_ne _ _ e, upf_ne _ _ e]
      obtain ⟨y1, y2, y3, y4⟩ := h1 Y hY
      refine ⟨y1, y2.of hc (fun a g g2 => ?_), y3.of hc (fun j g => ?_), ?_⟩
      · have := hR a g (by omega)
        omega
      · have := hC _ _ g (by omega)
        omega
      · have e1 : σ'.2 (295 + 29 * Y) 3 = σ.2 (295 + 29 * Y) 3 := hc.2 _ _ (fun g => by
          have := hC _ _ g (by omega)
          omega)
        have e2 : σ'.1 ((295 + 29 * Y) + 1) = σ.1 ((295 + 29 * Y) + 1) := hc.1 _ (fun g => by
          have := hR _ g (by omega)
          omega)
        have e3 : σ'.1 ((295 + 29 * Y) + 3) = σ.1 ((295 + 29 * Y) + 3) := hc.1 _ (fun g => by
          have := hR _ g (by omega)
          omega)
        unfold cOrd at y4 ⊢
        rw [e1, e2, e3]
        exact y4
  · by_cases e : Y = X
    · rw [e, upf_same]
      exact k4
    · rw [upf_ne _ _ e]
      refine (h2 Y hY).of hc (fun a g g2 => ?_)
      have := hR a g (by omega)
      omega
  · by_cases e : Y = X
    · rw [e, upf_same]
      exact k5
    · rw [upf_ne _ _ e, hc.1 _ (fun g => by
        have := hR _ g (by omega)
        omega)]
      exact h3 Y hY
theorem cAll.out (h : cAll σ B M ds an tx D3 o3 R3 hd en bf ws rs rd PA PB hh ww) (hl : tx.length ≤ 30) (he : en.length ≤ 24) : cAll (setF σ 533 0 v) B M ds an tx D3 o3 R3 hd en bf ws rs rd PA PB hh ww := by
  have ho : only (fun q i => q = 533) σ (setF σ 533 0 v) := by
    have k1 : only (fun q i => q = 533) σ (setF σ 533 0 v) := only.setF only.rf rfl
    exact k1
  exact h.ofm hl he ho (fun q i g => by omega)
theorem opM.other {Y : Nat} {o : Nat → Int} (h : opM Y σ o) (ho : only C σ σ') (hC : ∀ i, 3 * Y ≤ i → i < 3 * Y + 3 → ¬ C 503 i) : opM Y σ' o := fun j hj => ⟨(ho.2 _ _ (hC _ (by omega) (by omega))).trans (h j hj).1, (h j hj).2⟩
end UPD
