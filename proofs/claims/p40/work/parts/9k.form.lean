/-! Sort forms told, both sides. -/
abbrev fmOk (n : Nat) (x y : Int) : Prop := (x = 0 ∧ y = 0) ∨ ((x = 1 ∨ x = 2) ∧ 1 ≤ y ∧ y < (n : Int))
abbrev enFm (e : EnT) (x y : Int) : EnT := (enT e, enP e, enS e, x, y.toNat, enX e, enO e, enL e, enM e)
abbrev txLen (tx : List (List Int)) (en : List EnT) (a : Nat) : Nat := (tx.getD (enT (en.getD a enD)) []).length
section FORM
variable {Ls N k pc n n' nn b c t a q kd w d p X T : Nat} {L0 : mLs} {st r as : List mV} {h h' : mH} {σ σ' σ'' : Sg} {post : tP} {x y z x' y' i i' s v m u lv : Int} {xs ys ss L M A B : List Int} {e : mE} {C : Nat → Nat → Prop} {R : Nat → Prop} {tx : List (List Int)} {en : List EnT} {wE : EnT}
theorem s_138 (hE : okEn tx en) (hT : okTx tx) (cT : cTx σ tx) (cE : cEn σ en) (hi : in32 i) (hx : in32 x) (hy : in32 y)
    (K1 : ¬ (0 ≤ i ∧ i < (en.length : Int)) → post (.inr 0) σ)
    (K2 : ∀ a : Nat, i = (a : Int) → a < en.length → ¬ fmOk (txLen tx en a) x y → post (.inr 1) σ)
    (K3 : ∀ (a : Nat) (σ' : Sg), i = (a : Int) → a < en.length → fmOk (txLen tx en a) x y → cEn σ' (en.set a (enFm (en.getD a enD) x y)) → (∀ X, X < 3 → σ'.2 (295 + 29 * X) 3 = 0) → chg noR teC σ σ' → post (.inl (some (mI (enK (en.getD a enD))))) σ') :
    Tr Ls (N + 1) 138 0 [some (mP (some 2)), some (mI i), some (mI x), some (mI y), none, none, none] [] σ post := by
  have hE24 := hE.1
  have hT30 := hT.1
  iterate 2 (refine tr_mv rfl (fun _ => rfl) ?_)
  refine tr_vc (q := 2) rfl ⟨by decide, by decide +kernel⟩ rfl rfl rfl (s_167 hi (by rw [cE.1]; omega) ?_)
  rw [cE.1]
  first | refine tr_ib rfl (fun c1 => ?_) (fun c1 => ?_) | refine tr_ibn rfl (fun c1 => ?_) (fun c1 => ?_)
  · obtain ⟨a, rfl⟩ : ∃ a : Nat, i = (a : Int) := ⟨i.toNat, by omega⟩
    have ha : a < en.length := by omega
    have ht := e_E (i := a) (by omega)
    have he := hE.2.1 _ (en_mem ha)
    have htx := okTx_get hT he.1
    have hc1 := cE.2.1 a ha
    have hc2 := cE.2.2 a (by omega)
    have hK := he.2.2.1
    iterate 2 (refine tr_mv rfl (fun _ => rfl) ?_)
    refine tr_vc (q := 2) rfl ⟨by decide, by decide +kernel⟩ rfl rfl rfl (s_171 (p := a) (by omega) ?_)
    -- told or refused, with the test's outcome on top
    have t78 : ∀ w : Int, (w = 0 ∨ w = 1) → (w = 1 ↔ fmOk (txLen tx en a) x y) → Tr Ls (N + 1) 138 78 [some (mP (some 2)), some (mI (a : Int)), some (mI x), some (mI y), some (mP (some (360 + 5 * a))), none, none] [mI w] σ post := by
      intro w hw hw2
      iterate 2 (refine tr_mv rfl (fun _ => rfl) ?_)
      rcases hw with rfl | rfl
      · iterate 1 (refine tr_mv rfl (fun _ => rfl) ?_)
        exact tr_throw rfl (K2 a rfl ha (fun g => absurd (hw2.mpr g) (by decide)))
      · have hf := hw2.mp rfl
        iterate 2 (refine tr_mv rfl (fun _ => rfl) ?_)
        refine tr_vc (q := (360 + 5 * a)) rfl (E_O ht) rfl rfl rfl (s_55 ht ?_)
        rw [hc2.1]
        iterate 4 (refine tr_mv rfl (fun _ => rfl) ?_)
        refine tr_vc (q := (360 + 5 * a)) rfl (E_O ht) rfl rfl rfl (s_58 ht ?_)
        obtain ⟨S, hS⟩ : ∃ S, S = setF (setF σ (360 + 5 * a) 3 x) (360 + 5 * a) 4 y := ⟨_, rfl⟩
        rw [← hS]
        have f3 : S.2 (360 + 5 * a) 3 = x := by rw [hS, setF_ne _ _ (by omega), setF_same]
        have f4 : S.2 (360 + 5 * a) 4 = y := by rw [hS, setF_same]
        have fo : ∀ q r : Nat, ¬ (q = (360 + 5 * a) ∧ (r = 3 ∨ r = 4)) → S.2 q r = σ.2 q r := fun q r h1 => by
          rw [hS, setF_ne _ _ (by omega), setF_ne _ _ (by omega)]
        have fr : S.1 = σ.1 := by rw [hS]; rfl
        iterate 1 (refine tr_mv rfl (fun _ => rfl) ?_)
        refine tr_vc (q := 2) rfl ⟨by decide, by decide +kernel⟩ rfl rfl rfl (s_189 (fun σ2 g1 g2 => ?_))
        have h2 : ∀ q r : Nat, ¬ (q = 295 ∨ q = 324 ∨ q = 353) → σ2.2 q r = S.2 q r := fun q r hq => g2.2 q r (fun ⟨X, _, g, _⟩ => by omega)
        have hr : ∀ b, σ2.1 b = σ.1 b := fun b => by rw [g2.1 _ (fun g => g), fr]
        iterate 1 (refine tr_mv rfl (fun _ => rfl) ?_)
        refine tr_ri rfl rfl (K3 a σ2 rfl ha hf ?_ g1 ?_)
        · refine cE.set ha hE24 (by rw [h2 _ _ (by omega), fo _ _ (by omega)]) (fun j hj hne => ⟨fun r => by rw [h2 _ _ (by omega), fo _ _ (by omega)], hr _⟩) ?_ ?_ ?_ ?_ ?_ ?_ ?_ ?_
          · rw [h2 _ _ (by omega), fo _ _ (by omega)]; exact hc1.1
          · rw [h2 _ _ (by omega), fo _ _ (by omega)]; exact hc1.2.1
          · rw [h2 _ _ (by omega), fo _ _ (by omega)]; exact hc1.2.2
          · rw [h2 _ _ (by omega), f3]
          · rw [h2 _ _ (by omega), f4]
            show y = ((y.toNat : Nat) : Int)
            omega
          · rw [h2 _ _ (by omega), fo _ _ (by omega)]; exact hc2.2.2.1
          · rw [h2 _ _ (by omega), fo _ _ (by omega)]; exact hc2.2.2.2.1
          · rw [hr]; exact hc2.2.2.2.2
        · refine ⟨fun r _ => hr r, fun q r hq => ?_⟩
          by_cases g : q = 295 ∨ q = 324 ∨ q = 353
          · rw [g2.2 q r (fun ⟨X, _, _, g3⟩ => hq (Or.inr (Or.inr ⟨g, g3⟩))), fo _ _ (by omega)]
          · rw [h2 _ _ g, fo _ _ (by omega)]
    have t36 : (x = 1 ∨ x = 2) → Tr Ls (N + 1) 138 36 [some (mP (some 2)), some (mI (a : Int)), some (mI x), some (mI y), some (mP (some (360 + 5 * a))), none, none] [] σ post := by
      intro hx2
      iterate 2 (refine tr_mv rfl (fun _ => rfl) ?_)
      refine tr_cmp2 rfl (m32_of (by omega)) (m32_of (by omega)) (fun c3 => ?_) (fun c3 => ?_)
      · have c4 : y < 1 := c3
        iterate 2 (refine tr_mv rfl (fun _ => rfl) ?_)
        exact t78 0 (Or.inl rfl) ⟨fun g => absurd g (by decide), fun g => by omega⟩
      · have c4 : ¬ y < 1 := c3
        iterate 3 (refine tr_mv rfl (fun _ => rfl) ?_)
        refine tr_vc (q := (360 + 5 * a)) rfl (E_O ht) rfl rfl rfl (s_50 ht ?_)
        rw [hc1.1]
        refine tr_vc (q := 2) rfl ⟨by decide, by decide +kernel⟩ rfl rfl rfl (s_169 (p := enT (en.getD a enD)) (by have := he.1; omega) ?_)
        refine tr_size (r_T (by have := he.1; omega)) rfl rfl ?_
        rw [cT.2 _ he.1]
        refine tr_cmp2 rfl (m32_of (by omega)) (m32_of (by omega)) (fun c5 => ?_) (fun c5 => ?_)
        · have c6 : (txLen tx en a : Int) ≤ y := c5
          iterate 2 (refine tr_mv rfl (fun _ => rfl) ?_)
          exact t78 0 (Or.inl rfl) ⟨fun g => absurd g (by decide), fun g => by omega⟩
        · have c6 : ¬ (txLen tx en a : Int) ≤ y := c5
          iterate 2 (refine tr_mv rfl (fun _ => rfl) ?_)
          exact t78 1 (Or.inr rfl) ⟨fun _ => Or.inr ⟨hx2, by omega, by omega⟩, fun _ => rfl⟩
    iterate 3 (refine tr_mv rfl (fun _ => rfl) ?_)
    refine tr_cmp2 rfl (m32_of (by omega)) (m32_of (by omega)) (fun c3 => ?_) (fun c3 => ?_)
    · exact t36 (Or.inl c3)
    · iterate 2 (refine tr_mv rfl (fun _ => rfl) ?_)
      refine tr_cmp2 rfl (m32_of (by omega)) (m32_of (by omega)) (fun c4 => ?_) (fun c4 => ?_)
      · have c5 : ¬ x = 2 := c4
        have c6 : ¬ x = 1 := c3
        iterate 1 (refine tr_mv rfl (fun _ => rfl) ?_)
        refine tr_if2 rfl (m32_of (by omega)) (fun c7 => ?_) (fun c7 => ?_)
        · have c8 : ¬ x = 0 := c7
          iterate 1 (refine tr_mv rfl (fun _ => rfl) ?_)
          exact t78 0 (Or.inl rfl) ⟨fun g => absurd g (by decide), fun g => by omega⟩
        · have c8 : x = 0 := Decidable.of_not_not c7
          iterate 1 (refine tr_mv rfl (fun _ => rfl) ?_)
          refine tr_if2 rfl (m32_of (by omega)) (fun c9 => ?_) (fun c9 => ?_)
          · have c10 : ¬ y = 0 := c9
            iterate 1 (refine tr_mv rfl (fun _ => rfl) ?_)
            exact t78 0 (Or.inl rfl) ⟨fun g => absurd g (by decide), fun g => by omega⟩
          · have c10 : y = 0 := Decidable.of_not_not c9
            iterate 2 (refine tr_mv rfl (fun _ => rfl) ?_)
            exact t78 1 (Or.inr rfl) ⟨fun _ => Or.inl ⟨c8, c10⟩, fun _ => rfl⟩
      · exact t36 (Or.inr (Decidable.of_not_not c4))
  · exact tr_throw rfl (K1 c1)
end FORM
