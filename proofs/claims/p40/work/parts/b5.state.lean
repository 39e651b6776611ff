/-! What both sides keep; what stays when one of them moves. -/
def cG1 (σ : Sg) (B M : Int → Int) : Prop := cBM σ B M ∧ σ.2 3 2 = (cnB B 8 : Int)
def cG4 (σ : Sg) (tx : List (List Int)) (en : List EnT) (D3 : Nat → TD) (o3 : Nat → Nat → Int) (R3 : Nat → RuT) (bf : Nat → List Nat) : Prop := cX3 σ tx en D3 o3 ∧ (∀ X, X < 3 → cRl (273 + 29 * X) σ (R3 X)) ∧ ∀ X, X < 3 → σ.1 ((295 + 29 * X) + 5) = ci (bf X)
def cAll (σ : Sg) (B M : Int → Int) (ds an : List Int) (tx : List (List Int)) (D3 : Nat → TD) (o3 : Nat → Nat → Int) (R3 : Nat → RuT) (hd : Nat → Int) (en : List EnT) (bf : Nat → List Nat) (ws rs : List Int) (rd : Nat → List Int) (PA PB : List Int) (hh ww : Int) : Prop := cG1 σ B M ∧ (σ.1 6 = ds ∧ σ.1 8 = an) ∧ cTx σ tx ∧ cG4 σ tx en D3 o3 R3 bf ∧ cHd σ hd ∧ cEn σ en ∧ cCo σ ws rs rd ∧ (σ.1 104 = PA ∧ σ.1 106 = PB) ∧ σ.2 2 13 = ww ∧ σ.2 2 14 = hh
def okSt (B M : Int → Int) (ds an : List Int) (tx : List (List Int)) (D3 : Nat → TD) (o3 : Nat → Nat → Int) (R3 : Nat → RuT) (hd : Nat → Int) (en : List EnT) (bf : Nat → List Nat) (ws rs : List Int) (rd : Nat → List Int) (PA PB : List Int) (hh ww : Int) : Prop := okBM B M ∧ (ds.length ≤ 10 ∧ ∀ s ∈ ds, okS B s) ∧ (an.length ≤ 30 ∧ okA40 an) ∧ okTx tx ∧ (∀ X, X < 3 → okRu (D3 X) (R3 X)) ∧ okEn tx en ∧ (∀ e ∈ en, okLoc (enL e) (enM e)) ∧ okRf en ∧ (∀ X, X < 3 → (bf X).length ≤ (ordE tx en (D3 X) (o3 X) X).length ∧ ∀ e ∈ bf X, e < 24) ∧ okCo tx.length ws rs rd ∧ okPins PA PB ∧ (4 ≤ hh ∧ hh ≤ 40) ∧ 4 ≤ ww ∧ ww ≤ 40
/-- rows and numbers of the class that are scratch -/
def scR (a : Nat) : Prop := ¬ (a = 6 ∨ a = 8 ∨ (38 ≤ a ∧ a ≤ 106) ∨ (153 ≤ a ∧ a ≤ 269 ∧ a % 4 = 1) ∨ (273 ≤ a ∧ a ≤ 358) ∨ (361 ≤ a ∧ a ≤ 476 ∧ a % 5 = 1))
def scC (q i : Nat) : Prop := ¬ ((q = 2 ∧ (i = 4 ∨ i = 9 ∨ i = 13 ∨ i = 14)) ∨ (3 ≤ q ∧ q ≤ 5) ∨ q = 34 ∨ (273 ≤ q ∧ q ≤ 358) ∨ (360 ≤ q ∧ q ≤ 475) ∨ 480 ≤ q)
/-- numbers of the model that are scratch -/
def scM (q i : Nat) : Prop := q = 489 ∨ (504 ≤ q ∧ q ≤ 511) ∨ q = 522 ∨ q = 525 ∨ q = 530 ∨ (q = 480 ∧ ¬ (i = 4 ∨ i = 6 ∨ i = 11 ∨ i = 51 ∨ i = 60 ∨ i = 67 ∨ i = 68 ∨ i = 69))
section STATE
variable {σ σ' : Sg} {R : Nat → Prop} {C : Nat → Nat → Prop} {B M : Int → Int} {ds an ws rs PA PB : List Int} {tx tx' : List (List Int)} {D3 : Nat → TD} {o3 : Nat → Nat → Int} {R3 : Nat → RuT} {hd : Nat → Int} {en en' : List EnT} {bf : Nat → List Nat} {rd : Nat → List Int} {hh ww : Int} {X : Nat}
theorem cG1.of (h : cG1 σ B M) (hc : chg R C σ σ') (hC : ∀ q i, C q i → ¬ (3 ≤ q ∧ q ≤ 5)) : cG1 σ' B M := by
  obtain ⟨⟨h1, h2⟩, h3⟩ := h
  refine ⟨⟨?_, ?_⟩, ?_⟩
  · rw [← h1]
    funext s
    unfold bOf
    rw [hc.2 4 _ (fun g => hC _ _ g (by omega))]
  · rw [← h2]
    funext s
    unfold kOf
    rw [hc.2 5 _ (fun g => hC _ _ g (by omega))]
  · rw [hc.2 3 2 (fun g => hC _ _ g (by omega))]
    exact h3
theorem cG4.of (h : cG4 σ tx en D3 o3 R3 bf) (hc : chg R C σ σ') (hR : ∀ a, R a → ¬ (273 ≤ a ∧ a ≤ 358)) (hC : ∀ q i, C q i → ¬ (273 ≤ q ∧ q ≤ 358)) : cG4 σ' tx en D3 o3 R3 bf := by
  obtain ⟨h1, h2, h3⟩ := h
  refine ⟨h1.of hc hR hC, fun X hX => (h2 X hX).of hc (fun a g g2 => hR a g (by omega)), fun X hX => ?_⟩
  rw [hc.1 _ (fun g => hR _ g (by omega))]
  exact h3 X hX
/-- orders put anew -/
theorem cG4.zero (h : cG4 σ tx en D3 o3 R3 bf) (hc : chg R C σ σ') (hR : ∀ a, R a → ¬ (273 ≤ a ∧ a ≤ 358)) (hC : ∀ q i, C q i → (273 ≤ q ∧ q ≤ 358) → i = 3 ∧ (q = 295 ∨ q = 324 ∨ q = 353)) (h0 : ∀ X, X < 3 → σ'.2 (295 + 29 * X) 3 = 0) : cG4 σ' tx' en' D3 o3 R3 bf := by
  obtain ⟨h1, h2, h3⟩ := h
  refine ⟨fun X hX => ?_, fun X hX => (h2 X hX).of hc (fun a g g2 => hR a g (by omega)), fun X hX => ?_⟩
  · obtain ⟨k1, k2, k3, k4⟩ := h1 X hX
    refine ⟨k1, k2.of hc (fun a g g2 => hR a g (by omega)), k3.of hc (fun j g => ?_), Or.inl (h0 X hX)⟩
    have := hC _ _ g (by omega)
    omega
  · rw [hc.1 _ (fun g => hR _ g (by omega))]
    exact h3 X hX
/-- one order put anew -/
theorem cG4.ord (h : cG4 σ tx en D3 o3 R3 bf) (hX : X < 3) (hc : chg R C σ σ') (hR : ∀ a, R a → (273 ≤ a ∧ a ≤ 358) → a = (295 + 29 * X) + 1 ∨ a = (295 + 29 * X) + 3) (hC : ∀ q i, C q i → (273 ≤ q ∧ q ≤ 358) → i = 3 ∧ q = (295 + 29 * X)) (hO : cOrd σ' X tx en (D3 X) (o3 X)) : cG4 σ' tx en D3 o3 R3 bf := by
  obtain ⟨h1, h2, h3⟩ := h
  refine ⟨fun Y hY => ?_, fun Y hY => (h2 Y hY).of hc (fun a g g2 => ?_), fun Y hY => ?_⟩
  · obtain ⟨k1, k2, k3, k4⟩ := h1 Y hY
    refine ⟨k1, k2.of hc (fun a g g2 => ?_), k3.of hc (fun j g => ?_), ?_⟩
    · have := hR a g (by omega)
      omega
    · have := hC _ _ g (by omega)
      omega
    · by_cases e : Y = X
      · rw [e]
        exact hO
      · have e1 : σ'.2 (295 + 29 * Y) 3 = σ.2 (295 + 29 * Y) 3 := hc.2 _ _ (fun g => by
          have := hC _ _ g (by omega)
          omega)
        have e2 : σ'.1 ((295 + 29 * Y) + 1) = σ.1 ((295 + 29 * Y) + 1) := hc.1 _ (fun g => by
          have := hR _ g (by omega)
          omega)
        have e3 : σ'.1 ((295 + 29 * Y) + 3) = σ.1 ((295 + 29 * Y) + 3) := hc.1 _ (fun g => by
          have := hR _ g (by omega)
          omega)
        unfold cOrd at k4 ⊢
        rw [e1, e2, e3]
        exact k4
  · have := hR a g (by omega)
    omega
  · rw [hc.1 _ (fun g => by
      have := hR _ g (by omega)
      omega)]
    exact h3 Y hY
theorem cAll.of (h : cAll σ B M ds an tx D3 o3 R3 hd en bf ws rs rd PA PB hh ww) (hl : tx.length ≤ 30) (he : en.length ≤ 24) (hc : chg R C σ σ') (hR : ∀ a, R a → scR a) (hC : ∀ q i, C q i → scC q i) : cAll σ' B M ds an tx D3 o3 R3 hd en bf ws rs rd PA PB hh ww := by
  obtain ⟨h1, ⟨h2, h2b⟩, h3, h4, h5, h6, h7, ⟨h8, h8b⟩, h9, h9b⟩ := h
  unfold scR at hR
  unfold scC at hC
  refine ⟨h1.of hc (fun q i g g2 => hC q i g (by omega)), ⟨?_, ?_⟩, h3.of hc hl (fun a g g2 => hR a g (by omega)) (fun g => hC _ _ g (by omega)), h4.of hc (fun a g g2 => hR a g (by omega)) (fun q i g g2 => hC q i g (by omega)), h5.of hc (fun i g => hC _ _ g (by omega)), h6.of hc he (fun a g g2 => hR a g (by omega)) (fun g => hC _ _ g (by omega)) (fun q i g g2 => hC q i g (by omega)), h7.of hc (fun a g g2 => hR a g (by omega)), ⟨?_, ?_⟩, ?_, ?_⟩
  · rw [hc.1 _ (fun g => hR _ g (by omega))]
    exact h2
  · rw [hc.1 _ (fun g => hR _ g (by omega))]
    exact h2b
  · rw [hc.1 _ (fun g => hR _ g (by omega))]
    exact h8
  · rw [hc.1 _ (fun g => hR _ g (by omega))]
    exact h8b
  · rw [hc.2 _ _ (fun g => hC _ _ g (by omega))]
    exact h9
  · rw [hc.2 _ _ (fun g => hC _ _ g (by omega))]
    exact h9b
/-- the model's steps leave the class's alone -/
theorem cAll.ofm (h : cAll σ B M ds an tx D3 o3 R3 hd en bf ws rs rd PA PB hh ww) (hl : tx.length ≤ 30) (he : en.length ≤ 24) (ho : only C σ σ') (hC : ∀ q i, C q i → 480 ≤ q) : cAll σ' B M ds an tx D3 o3 R3 hd en bf ws rs rd PA PB hh ww := by
  obtain ⟨h1, ⟨h2, h2b⟩, h3, h4, h5, h6, h7, ⟨h8, h8b⟩, h9, h9b⟩ := h
  have hc : chg noR C σ σ' := ⟨fun a _ => by rw [ho.1], ho.2⟩
  refine ⟨h1.of hc (fun q i g g2 => by have := hC q i g; omega), ⟨?_, ?_⟩, h3.of hc hl (fun a g => g.elim) (fun g => by have := hC _ _ g; omega), h4.of hc (fun a g => g.elim) (fun q i g g2 => by have := hC q i g; omega), h5.of hc (fun i g => by have := hC _ _ g; omega), h6.of hc he (fun a g => g.elim) (fun g => by have := hC _ _ g; omega) (fun q i g g2 => by have := hC q i g; omega), h7.of hc (fun a g => g.elim), ⟨?_, ?_⟩, ?_, ?_⟩
  · rw [ho.1]
    exact h2
  · rw [ho.1]
    exact h2b
  · rw [ho.1]
    exact h8
  · rw [ho.1]
    exact h8b
  · rw [hc.2 _ _ (fun g => by have := hC _ _ g; omega)]
    exact h9
  · rw [hc.2 _ _ (fun g => by have := hC _ _ g; omega)]
    exact h9b
end STATE
