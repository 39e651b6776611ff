/-! Entries told, both sides. -/
abbrev enNew (t : Nat) (p : Int) (s : Nat) : EnT := (t, p, s, 0, 0, -1, 0, [], [])
theorem en_snoc {en : List EnT} {w : EnT} (i : Nat) : (en ++ [w]).getD i enD = if i = en.length then w else en.getD i enD := by
  rw [List.getD_eq_getElem?_getD, List.getD_eq_getElem?_getD]
  by_cases g : i = en.length
  · rw [if_pos g, g]
    simp
  · rw [if_neg g]
    by_cases g2 : i < en.length
    · rw [List.getElem?_append_left g2]
    · rw [List.getElem?_eq_none (by rw [List.length_append, List.length_singleton]; omega), List.getElem?_eq_none (by omega)]
theorem en_out {en : List EnT} {i : Nat} (h : en.length ≤ i) : en.getD i enD = enD := by
  rw [List.getD_eq_getElem?_getD, List.getElem?_eq_none h]
  rfl
section ENTR
variable {Ls N k pc n n' nn b c t a q kd w d p X T : Nat} {L0 : mLs} {st r as : List mV} {h h' : mH} {σ σ' σ'' : Sg} {post : tP} {x y z x' y' i i' s v m u lv : Int} {xs ys ss L M A B : List Int} {e : mE} {C : Nat → Nat → Prop} {R : Nat → Prop} {tx : List (List Int)} {en : List EnT} {wE : EnT}
theorem cEn.snoc {tt ss0 : Nat} {pp : Int} (h : cEn σ en) (hl : en.length < 24) (hn : σ'.2 2 9 = (en.length : Int) + 1) (h2 : ∀ j, j < 24 → (j ≠ en.length → ∀ i, σ'.2 (360 + 5 * j) i = σ.2 (360 + 5 * j) i) ∧ (∀ i, 3 ≤ i → σ'.2 (360 + 5 * j) i = σ.2 (360 + 5 * j) i) ∧ σ'.1 ((360 + 5 * j) + 1) = σ.1 ((360 + 5 * j) + 1))
    (h0 : σ'.2 (360 + 5 * en.length) 0 = (tt : Int)) (h1 : σ'.2 (360 + 5 * en.length) 1 = pp) (h3 : σ'.2 (360 + 5 * en.length) 2 = (ss0 : Int)) : cEn σ' (en ++ [enNew tt pp ss0]) := by
  refine ⟨by rw [hn, List.length_append, List.length_singleton]; rfl, fun i hi => ?_, fun i hi => ?_⟩
  · rw [List.length_append, List.length_singleton] at hi
    rw [en_snoc]
    by_cases g : i = en.length
    · rw [if_pos g, g]
      exact ⟨h0, h1, h3⟩
    · have k := (h2 i (by omega)).1 g
      rw [if_neg g, k, k, k]
      exact h.2.1 i (by omega)
  · obtain ⟨-, k2, k3⟩ := h2 i hi
    rw [en_snoc, k2 3 (by decide), k2 4 (by decide), k2 7 (by decide), k2 8 (by decide), k3]
    have k := h.2.2 i hi
    by_cases g : i = en.length
    · rw [if_pos g]
      rw [en_out (by omega)] at k
      exact k
    · rw [if_neg g]
      exact k
/-- what telling an entry changes, on the class's side -/
abbrev teC (q i : Nat) : Prop := (q = 2 ∧ i = 9) ∨ (360 ≤ q ∧ q ≤ 475) ∨ ((q = 295 ∨ q = 324 ∨ q = 353) ∧ i = 3)
abbrev parIn (n : Nat) (i x : Int) (m : Nat) : Prop := (i = -1 ∨ (0 ≤ i ∧ i < (n : Int))) ∧ 0 ≤ x ∧ x < (m : Int)
/-- the indexes of a new entry -/
def enSet (en : List EnT) (i y : Int) : Nat := if i = -1 then y.toNat else enS (en.getD i.toNat enD)
theorem s_137 (hE : okEn tx en) (hT : okTx tx) (cT : cTx σ tx) (cE : cEn σ en) (hi : in32 i) (hx : in32 x) (hy : in32 y)
    (K1 : ¬ parIn en.length i x tx.length → post (.inr 0) σ)
    (K2 : parIn en.length i x tx.length → ¬ (1 ≤ y ∧ y ≤ 7) → post (.inr 1) σ)
    (K3 : parIn en.length i x tx.length → (1 ≤ y ∧ y ≤ 7) → ((i ≠ -1 ∧ enP (en.getD i.toNat enD) ≠ -1) ∨ en.length = 24) → post (.inr 2) σ)
    (K4 : ∀ σ', parIn en.length i x tx.length → (1 ≤ y ∧ y ≤ 7) → (i = -1 ∨ enP (en.getD i.toNat enD) = -1) → en.length < 24 → cEn σ' (en ++ [enNew x.toNat i (enSet en i y)]) → (∀ X, X < 3 → σ'.2 (295 + 29 * X) 3 = 0) → chg noR teC σ σ' → post (.inl (some (mI (en.length : Int)))) σ') :
    Tr Ls (N + 1) 137 0 [some (mP (some 2)), some (mI i), some (mI x), some (mI y), none] [] σ post := by
  have hE24 := hE.1
  have hT30 := hT.1
  -- behind the parent's test
  have t13 : (i = -1 ∨ (0 ≤ i ∧ i < (en.length : Int))) → Tr Ls (N + 1) 137 13 [some (mP (some 2)), some (mI i), some (mI x), some (mI y), none] [] σ post := by
    intro hp
    iterate 2 (refine tr_mv rfl (fun _ => rfl) ?_)
    refine tr_vc (q := 2) rfl ⟨by decide, by decide +kernel⟩ rfl rfl rfl (s_166 hx (by rw [cT.1]; omega) ?_)
    rw [cT.1]
    first | refine tr_ib rfl (fun c2 => ?_) (fun c2 => ?_) | refine tr_ibn rfl (fun c2 => ?_) (fun c2 => ?_)
    · have hP : parIn en.length i x tx.length := ⟨hp, c2⟩
      obtain ⟨xx, rfl⟩ : ∃ xx : Nat, x = (xx : Int) := ⟨x.toNat, by omega⟩
      have t52 : (1 ≤ y ∧ y ≤ 7) → Tr Ls (N + 1) 137 52 [some (mP (some 2)), some (mI i), some (mI (xx : Int)), some (mI y), none] [] σ post := by
        intro hy2
        have t106 : (i = -1 ∨ enP (en.getD i.toNat enD) = -1) → en.length < 24 → Tr Ls (N + 1) 137 106 [some (mP (some 2)), some (mI i), some (mI (xx : Int)), some (mI y), some (mI (enSet en i y : Int))] [] σ post := by
          intro hpp hn
          have ht := e_E (i := en.length) hn
          iterate 2 (refine tr_mv rfl (fun _ => rfl) ?_)
          refine tr_gi rfl (by decide) ⟨by decide, by decide +kernel⟩ (by decide) (by decide +kernel) rfl ?_
          rw [cE.1]
          refine tr_vc (q := 2) rfl ⟨by decide, by decide +kernel⟩ rfl rfl rfl (s_171 (p := en.length) hn ?_)
          iterate 3 (refine tr_mv rfl (fun _ => rfl) ?_)
          refine tr_vc (q := (360 + 5 * en.length)) rfl (E_O ht) rfl rfl rfl (s_49 ht ?_)
          iterate 2 (refine tr_mv rfl (fun _ => rfl) ?_)
          refine tr_gi rfl (by decide) ⟨by decide, by decide +kernel⟩ (by decide) (by decide +kernel) rfl ?_
          rw [setF_ne _ _ (by omega), setF_ne _ _ (by omega), setF_ne _ _ (by omega), cE.1]
          iterate 2 (refine tr_mv rfl (fun _ => rfl) ?_)
          refine tr_pi rfl (Or.inl rfl) ⟨by decide, by decide +kernel⟩ (by decide) (by decide +kernel) rfl ?_
          obtain ⟨S, hS⟩ : ∃ S, S = setF (setF (setF (setF σ (360 + 5 * en.length) 0 (xx : Int)) (360 + 5 * en.length) 1 i) (360 + 5 * en.length) 2 (enSet en i y : Int)) 2 9 ((en.length : Int) + 1) := ⟨_, rfl⟩
          rw [← hS]
          have f9 : S.2 2 9 = (en.length : Int) + 1 := by rw [hS, setF_same]
          have f0 : S.2 (360 + 5 * en.length) 0 = (xx : Int) := by rw [hS, setF_ne _ _ (by omega), setF_ne _ _ (by omega), setF_ne _ _ (by omega), setF_same]
          have f1 : S.2 (360 + 5 * en.length) 1 = i := by rw [hS, setF_ne _ _ (by omega), setF_ne _ _ (by omega), setF_same]
          have f2 : S.2 (360 + 5 * en.length) 2 = (enSet en i y : Int) := by rw [hS, setF_ne _ _ (by omega), setF_same]
          have fo : ∀ q r : Nat, ¬ (q = (360 + 5 * en.length) ∧ r < 3) → ¬ (q = 2 ∧ r = 9) → S.2 q r = σ.2 q r := fun q r h1 h2 => by
            rw [hS, setF_ne _ _ h2, setF_ne _ _ (by omega), setF_ne _ _ (by omega), setF_ne _ _ (by omega)]
          have fr : S.1 = σ.1 := by rw [hS]; rfl
          iterate 1 (refine tr_mv rfl (fun _ => rfl) ?_)
          refine tr_vc (q := 2) rfl ⟨by decide, by decide +kernel⟩ rfl rfl rfl (s_189 (fun σ2 g1 g2 => ?_))
          have h2 : ∀ q r : Nat, ¬ (q = 295 ∨ q = 324 ∨ q = 353) → σ2.2 q r = S.2 q r := fun q r hq => g2.2 q r (fun ⟨X, _, g, _⟩ => by omega)
          iterate 1 (refine tr_mv rfl (fun _ => rfl) ?_)
          refine tr_gi rfl (by decide) ⟨by decide, by decide +kernel⟩ (by decide) (by decide +kernel) rfl ?_
          rw [h2 2 9 (by omega), f9]
          iterate 2 (refine tr_mv rfl (fun _ => rfl) ?_)
          refine tr_ri rfl (by omega) (K4 σ2 hP hy2 hpp hn ?_ g1 ?_)
          · refine cE.snoc hn ((h2 _ _ (by omega)).trans f9) (fun j hj => ⟨fun hne r => ?_, fun r hr => ?_, ?_⟩) ((h2 _ _ (by omega)).trans f0) ((h2 _ _ (by omega)).trans f1) ((h2 _ _ (by omega)).trans f2)
            · rw [h2 _ _ (by omega), fo _ _ (by omega) (by omega)]
            · rw [h2 _ _ (by omega), fo _ _ (by omega) (by omega)]
            · rw [g2.1 _ (fun g => g), fr]
          · refine ⟨fun r hr => by rw [g2.1 _ (fun g => g), fr], fun q r hq => ?_⟩
            by_cases g : q = 295 ∨ q = 324 ∨ q = 353
            · rw [g2.2 q r (fun ⟨X, _, _, g3⟩ => hq (Or.inr (Or.inr ⟨g, g3⟩))), fo _ _ (by omega) (by omega)]
            · rw [h2 _ _ g, fo _ _ (by omega) (by omega)]
        have t87 : (i = -1 ∨ enP (en.getD i.toNat enD) = -1) → Tr Ls (N + 1) 137 68 [some (mP (some 2)), some (mI i), some (mI (xx : Int)), some (mI y), none] [] σ post := by
          intro hpp
          iterate 1 (refine tr_mv rfl (fun _ => rfl) ?_)
          refine tr_gi rfl (by decide) ⟨by decide, by decide +kernel⟩ (by decide) (by decide +kernel) rfl ?_
          rw [cE.1]
          iterate 1 (refine tr_mv rfl (fun _ => rfl) ?_)
          refine tr_cmp2 rfl (m32_of (by omega)) (m32_of (by omega)) (fun c5 => ?_) (fun c5 => ?_)
          · have c6 : (en.length : Int) < 24 := c5
            have k := t106 hpp (by omega)
            iterate 2 (refine tr_mv rfl (fun _ => rfl) ?_)
            refine tr_cmp2 rfl (m32_of (by omega)) (m32_of (by omega)) (fun c7 => ?_) (fun c7 => ?_)
            · have c8 : ¬ i = -1 := c7
              have h3 : i.toNat < en.length := by omega
              iterate 2 (refine tr_mv rfl (fun _ => rfl) ?_)
              rw [show i = ((i.toNat : Nat) : Int) by omega]
              refine tr_vc (q := 2) rfl ⟨by decide, by decide +kernel⟩ rfl rfl rfl (s_171 (p := i.toNat) (by omega) ?_)
              refine tr_vc (q := (360 + 5 * i.toNat)) rfl (E_O (e_E (by omega))) rfl rfl rfl (s_53 (e_E (by omega)) ?_)
              rw [(cE.2.1 i.toNat h3).2.2, show ((i.toNat : Nat) : Int) = i by omega]
              iterate 1 (refine tr_mv rfl (fun _ => rfl) ?_)
              rw [show enSet en i y = enS (en.getD i.toNat enD) from if_neg c8] at k
              exact k
            · have c8 : i = -1 := Decidable.of_not_not c7
              iterate 3 (refine tr_mv rfl (fun _ => rfl) ?_)
              rw [show enSet en i y = y.toNat from if_pos c8, show ((y.toNat : Nat) : Int) = y by omega] at k
              exact k
          · have c6 : ¬ (en.length : Int) < 24 := c5
            exact tr_throw rfl (K3 hP hy2 (Or.inr (by omega)))
        iterate 2 (refine tr_mv rfl (fun _ => rfl) ?_)
        refine tr_cmp2 rfl (m32_of (by omega)) (m32_of (by omega)) (fun c3 => ?_) (fun c3 => ?_)
        · exact t87 (Or.inl c3)
        · have c4 : ¬ i = -1 := c3
          have h3 : i.toNat < en.length := by omega
          have hpr := okPr_in hE i.toNat h3
          rw [prE_iff] at hpr
          iterate 2 (refine tr_mv rfl (fun _ => rfl) ?_)
          rw [show i = ((i.toNat : Nat) : Int) by omega]
          refine tr_vc (q := 2) rfl ⟨by decide, by decide +kernel⟩ rfl rfl rfl (s_171 (p := i.toNat) (by omega) ?_)
          refine tr_vc (q := (360 + 5 * i.toNat)) rfl (E_O (e_E (by omega))) rfl rfl rfl (s_52 (e_E (by omega)) (by rw [(cE.2.1 i.toNat h3).2.1]; exact hpr) ?_)
          rw [(cE.2.1 i.toNat h3).2.1, show ((i.toNat : Nat) : Int) = i by omega]
          first | refine tr_ib rfl (fun c5 => ?_) (fun c5 => ?_) | refine tr_ibn rfl (fun c5 => ?_) (fun c5 => ?_)
          · exact tr_throw rfl (K3 hP hy2 (Or.inl ⟨c4, c5⟩))
          · exact t87 (Or.inr (Decidable.of_not_not c5))
      iterate 2 (refine tr_mv rfl (fun _ => rfl) ?_)
      refine tr_cmp2 rfl (m32_of (by omega)) (m32_of (by omega)) (fun c3 => ?_) (fun c3 => ?_)
      · have c4 : y < 1 := c3
        exact tr_throw rfl (K2 hP (by omega))
      · have c4 : ¬ y < 1 := c3
        iterate 2 (refine tr_mv rfl (fun _ => rfl) ?_)
        refine tr_cmp2 rfl (m32_of (by omega)) (m32_of (by omega)) (fun c5 => ?_) (fun c5 => ?_)
        · have c6 : y ≤ 7 := c5
          exact t52 (by omega)
        · have c6 : ¬ y ≤ 7 := c5
          exact tr_throw rfl (K2 hP (by omega))
    · exact tr_throw rfl (K1 (fun g => c2 g.2))
  iterate 2 (refine tr_mv rfl (fun _ => rfl) ?_)
  refine tr_cmp2 rfl (m32_of (by omega)) (m32_of (by omega)) (fun c1 => ?_) (fun c1 => ?_)
  · exact t13 (Or.inl c1)
  · have c2 : ¬ i = -1 := c1
    iterate 2 (refine tr_mv rfl (fun _ => rfl) ?_)
    refine tr_vc (q := 2) rfl ⟨by decide, by decide +kernel⟩ rfl rfl rfl (s_167 hi (by rw [cE.1]; omega) ?_)
    rw [cE.1]
    first | refine tr_ib rfl (fun c3 => ?_) (fun c3 => ?_) | refine tr_ibn rfl (fun c3 => ?_) (fun c3 => ?_)
    · exact tr_throw rfl (K1 (fun g => by have := g.1; omega))
    · exact t13 (Or.inr c3)
end ENTR
