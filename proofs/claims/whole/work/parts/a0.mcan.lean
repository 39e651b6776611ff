/-! The model: can a rule be told? -/
theorem sgIn_cases {x : Int} (h : 0 < x) : sgIn x = 1 ∨ sgIn x = 2 ∨ sgIn x = 3 := by
  have := sgIn_in x
  omega
theorem hasSg_iff {x y : Int} (h : 0 < x) : hasSg x y ↔ ∃ j : Nat, (j : Int) < sgIn x ∧ sgAt x j + 1 = y := by
  have h3 := sgIn_le3 x
  constructor
  · rintro (⟨h1, h2⟩ | ⟨h1, h2⟩ | ⟨h1, h2⟩)
    · exact ⟨0, h1, h2⟩
    · exact ⟨1, h1, h2⟩
    · exact ⟨2, h1, h2⟩
  · rintro ⟨j, h1, h2⟩
    rcases (show j = 0 ∨ j = 1 ∨ j = 2 by omega) with rfl | rfl | rfl
    · exact Or.inl ⟨h1, h2⟩
    · exact Or.inr (Or.inl ⟨h1, h2⟩)
    · exact Or.inr (Or.inr ⟨h1, h2⟩)
theorem canBe_iff {x : Int} (h : 0 < x) : canBe x ↔ isLet (sgAt x 0) ∧ ∀ j : Nat, 1 ≤ j → (j : Int) < sgIn x → lmk (sgAt x j) := by
  have h3 := sgIn_le3 x
  constructor
  · rintro ⟨h1, h2, h4, h5⟩
    refine ⟨h2, fun j j1 j2 => ?_⟩
    rcases (show j = 1 ∨ j = 2 by omega) with rfl | rfl
    · exact h4 j2
    · exact h5 j2
  · rintro ⟨h1, h2⟩
    exact ⟨(sgIn_in x).2.2.mpr h, h1, fun g => h2 1 (by decide) g, fun g => h2 2 (by decide) g⟩
section MCAN
variable {Ls N k pc n n' nn b c t a q T kd w : Nat} {L L0 : mLs} {st r as : List mV} {h h' : mH} {σ σ' σ'' : Sg} {post : tP} {x y z x' y' i i' s v m how an it : Int} {xs ys its lvs sv sg hs is ans : List Int} {e : mE} {C : Nat → Nat → Prop} {D : TD}
theorem s_238 (hx : 0 < x ∧ x < 2147483648) (hy : in32 y) (K : post (.inl (some (mI (b2 (hasSg x y))))) σ) : Tr Ls N 238 0 [some (mI x), some (mI y), none, none] [] σ post := by
  have h3 := sgIn_le3 x
  have loop : ∀ (d j : Nat) (v : Int), j + d = 3 → (j : Int) ≤ sgIn x → (v = 0 ∨ v = 1) → (v = 1 ↔ ∃ i : Nat, i < j ∧ sgAt x i + 1 = y) → Tr Ls N 238 4 [some (mI x), some (mI y), some (mI v), some (mI (j : Int))] [] σ post := by
    intro d
    induction d with
    | zero =>
      intro j v e hj hv hw
      iterate 2 (refine tr_mv rfl (fun _ => rfl) ?_)
      refine tr_stat rfl rfl rfl (s_230 (by omega) hx.1 ?_)
      refine tr_cmp2 rfl (m32_of (by omega)) (m32_of (by omega)) (fun _ => ?_) (fun c9 => absurd (show sgIn x ≤ (j : Int) by omega) c9)
      iterate 1 (refine tr_mv rfl (fun _ => rfl) ?_)
      rw [b2_congr (show hasSg x y ↔ v = 1 by rw [hasSg_iff hx.1, hw]; exact ⟨fun ⟨i, h1, h2⟩ => ⟨i, by omega, h2⟩, fun ⟨i, h1, h2⟩ => ⟨i, by omega, h2⟩⟩)] at K
      rcases hv with rfl | rfl
      · exact tr_rb0 rfl (by decide) K
      · exact tr_rb1 rfl rfl K
    | succ d ih =>
      intro j v e hj hv hw
      iterate 2 (refine tr_mv rfl (fun _ => rfl) ?_)
      refine tr_stat rfl rfl rfl (s_230 (by omega) hx.1 ?_)
      refine tr_cmp2 rfl (m32_of (by omega)) (m32_of (by omega)) (fun c1 => ?_) (fun c1 => ?_)
      · have c2 : sgIn x ≤ (j : Int) := c1
        iterate 1 (refine tr_mv rfl (fun _ => rfl) ?_)
        rw [b2_congr (show hasSg x y ↔ v = 1 by rw [hasSg_iff hx.1, hw]; exact ⟨fun ⟨i, h1, h2⟩ => ⟨i, by omega, h2⟩, fun ⟨i, h1, h2⟩ => ⟨i, by omega, h2⟩⟩)] at K
        rcases hv with rfl | rfl
        · exact tr_rb0 rfl (by decide) K
        · exact tr_rb1 rfl rfl K
      · have c2 : ¬ sgIn x ≤ (j : Int) := c1
        have fin : ∀ w : Int, (w = 0 ∨ w = 1) → (w = 1 ↔ ∃ i : Nat, i < j + 1 ∧ sgAt x i + 1 = y) → Tr Ls N 238 32 [some (mI x), some (mI y), some (mI v), some (mI (j : Int))] [mI w] σ post := by
          intro w g1 g2
          iterate 3 (refine tr_mv rfl (fun _ => rfl) ?_)
          show Tr Ls N 238 4 [some (mI x), some (mI y), some (mI w), some (mI ((j : Int) + 1))] [] σ post
          rw [show (j : Int) + 1 = ((j + 1 : Nat) : Int) by omega]
          exact ih (j + 1) w (by omega) (by omega) g1 g2
        rcases hv with rfl | rfl
        · have hno : ¬ ∃ i : Nat, i < j ∧ sgAt x i + 1 = y := fun g => absurd (hw.mpr g) (by decide)
          have hb := sgAt_in (w := x) (by omega) (j : Int)
          iterate 4 (refine tr_mv rfl (fun _ => rfl) ?_)
          refine tr_stat rfl rfl rfl (s_231 hx (by omega) ?_)
          iterate 3 (refine tr_mv rfl (fun _ => rfl) ?_)
          refine tr_cmp2 rfl (m32_of (by omega)) (m32_of (by omega)) (fun c3 => ?_) (fun c3 => ?_)
          · have c4 : ¬ sgAt x (j : Int) + 1 = y := c3
            iterate 1 (refine tr_mv rfl (fun _ => rfl) ?_)
            refine fin 0 (Or.inl rfl) ⟨fun g => absurd g (by decide), fun ⟨i, g1, g2⟩ => ?_⟩
            by_cases g : i = j
            · rw [g] at g2; exact absurd g2 c4
            · exact absurd ⟨i, by omega, g2⟩ hno
          · have c4 : sgAt x (j : Int) + 1 = y := Decidable.of_not_not c3
            iterate 2 (refine tr_mv rfl (fun _ => rfl) ?_)
            exact fin 1 (Or.inr rfl) ⟨fun _ => ⟨j, by omega, c4⟩, fun _ => rfl⟩
        · obtain ⟨i, g1, g2⟩ := hw.mp rfl
          iterate 4 (refine tr_mv rfl (fun _ => rfl) ?_)
          exact fin 1 (Or.inr rfl) ⟨fun _ => ⟨i, by omega, g2⟩, fun _ => rfl⟩
  iterate 4 (refine tr_mv rfl (fun _ => rfl) ?_)
  exact loop 3 0 0 rfl (by omega) (Or.inl rfl) ⟨fun g => absurd g (by decide), fun ⟨i, g1, _⟩ => absurd g1 (Nat.not_lt_zero _)⟩
theorem s_230z (K : post (.inl (some (mI 1))) σ) : Tr Ls N 230 0 [some (mI 0)] [] σ post := by
  repeat (refine tr_mv rfl (fun _ => rfl) ?_)
  exact tr_ri rfl rfl K
theorem s_239 (hx : 0 ≤ x ∧ x < 1010101) (K : post (.inl (some (mI (b2 (canBe x))))) σ) : Tr Ls N 239 0 [some (mI x), none, none] [] σ post := by
  have h3 := sgIn_le3 x
  by_cases h0 : x = 0
  · subst h0
    iterate 8 (refine tr_mv rfl (fun _ => rfl) ?_)
    refine tr_stat rfl rfl rfl (s_230z ?_)
    iterate 2 (refine tr_mv rfl (fun _ => rfl) ?_)
    exact tr_rb0 rfl (fun g => absurd g.1 (by decide)) K
  · have hp : 0 < x := by omega
    have hs1 := sgIn_cases hp
    have loop : ∀ (d j : Nat) (v : Int), j + d = 3 → 1 ≤ j → (j : Int) ≤ sgIn x → (v = 0 ∨ v = 1) → (v = 1 ↔ isLet (sgAt x 0) ∧ ∀ i : Nat, 1 ≤ i → i < j → lmk (sgAt x i)) → Tr Ls N 239 23 [some (mI x), some (mI v), some (mI (j : Int))] [] σ post := by
      intro d
      induction d with
      | zero =>
        intro j v e j1 hj hv hw
        iterate 2 (refine tr_mv rfl (fun _ => rfl) ?_)
        refine tr_stat rfl rfl rfl (s_230 (by omega) hp ?_)
        refine tr_cmp2 rfl (m32_of (by omega)) (m32_of (by omega)) (fun _ => ?_) (fun c9 => absurd (show sgIn x ≤ (j : Int) by omega) c9)
        iterate 1 (refine tr_mv rfl (fun _ => rfl) ?_)
        rw [b2_congr (show canBe x ↔ v = 1 by rw [canBe_iff hp, hw]; exact ⟨fun ⟨g1, g2⟩ => ⟨g1, fun i i1 i2 => g2 i i1 (by omega)⟩, fun ⟨g1, g2⟩ => ⟨g1, fun i i1 i2 => g2 i i1 (by omega)⟩⟩)] at K
        rcases hv with rfl | rfl
        · exact tr_rb0 rfl (by decide) K
        · exact tr_rb1 rfl rfl K
      | succ d ih =>
        intro j v e j1 hj hv hw
        iterate 2 (refine tr_mv rfl (fun _ => rfl) ?_)
        refine tr_stat rfl rfl rfl (s_230 (by omega) hp ?_)
        refine tr_cmp2 rfl (m32_of (by omega)) (m32_of (by omega)) (fun c1 => ?_) (fun c1 => ?_)
        · have c2 : sgIn x ≤ (j : Int) := c1
          iterate 1 (refine tr_mv rfl (fun _ => rfl) ?_)
          rw [b2_congr (show canBe x ↔ v = 1 by rw [canBe_iff hp, hw]; exact ⟨fun ⟨g1, g2⟩ => ⟨g1, fun i i1 i2 => g2 i i1 (by omega)⟩, fun ⟨g1, g2⟩ => ⟨g1, fun i i1 i2 => g2 i i1 (by omega)⟩⟩)] at K
          rcases hv with rfl | rfl
          · exact tr_rb0 rfl (by decide) K
          · exact tr_rb1 rfl rfl K
        · have c2 : ¬ sgIn x ≤ (j : Int) := c1
          have fin : ∀ w : Int, (w = 0 ∨ w = 1) → (w = 1 ↔ isLet (sgAt x 0) ∧ ∀ i : Nat, 1 ≤ i → i < j + 1 → lmk (sgAt x i)) → Tr Ls N 239 62 [some (mI x), some (mI v), some (mI (j : Int))] [mI w] σ post := by
            intro w g1 g2
            iterate 3 (refine tr_mv rfl (fun _ => rfl) ?_)
            show Tr Ls N 239 23 [some (mI x), some (mI w), some (mI ((j : Int) + 1))] [] σ post
            rw [show (j : Int) + 1 = ((j + 1 : Nat) : Int) by omega]
            exact ih (j + 1) w (by omega) (by omega) (by omega) g1 g2
          rcases hv with rfl | rfl
          · iterate 3 (refine tr_mv rfl (fun _ => rfl) ?_)
            refine tr_rb0 rfl (fun g => ?_) K
            have g2 := (canBe_iff hp).mp g
            exact absurd (hw.mpr ⟨g2.1, fun i i1 i2 => g2.2 i i1 (by omega)⟩) (by decide)
          · obtain ⟨g1, g2⟩ := hw.mp rfl
            have hb := sgAt_in (w := x) (by omega) (j : Int)
            have yes : lmk (sgAt x j) → ((1 : Int) = 1 ↔ isLet (sgAt x 0) ∧ ∀ i : Nat, 1 ≤ i → i < j + 1 → lmk (sgAt x i)) := fun g => ⟨fun _ => ⟨g1, fun i i1 i2 => by
              by_cases gg : i = j
              · rw [gg]; exact g
              · exact g2 i i1 (by omega)⟩, fun _ => rfl⟩
            iterate 4 (refine tr_mv rfl (fun _ => rfl) ?_)
            refine tr_stat rfl rfl rfl (s_231 (by omega) (by omega) ?_)
            refine tr_stat rfl rfl rfl (s_213 (by omega) ?_)
            first | refine tr_ib rfl (fun c3 => ?_) (fun c3 => ?_) | refine tr_ibn rfl (fun c3 => ?_) (fun c3 => ?_)
            · iterate 2 (refine tr_mv rfl (fun _ => rfl) ?_)
              exact fin 1 (Or.inr rfl) (yes (Or.inl c3))
            · iterate 2 (refine tr_mv rfl (fun _ => rfl) ?_)
              refine tr_stat rfl rfl rfl (s_231 (by omega) (by omega) ?_)
              refine tr_stat rfl rfl rfl (s_212 (by omega) ?_)
              first | refine tr_ib rfl (fun c4 => ?_) (fun c4 => ?_) | refine tr_ibn rfl (fun c4 => ?_) (fun c4 => ?_)
              · iterate 1 (refine tr_mv rfl (fun _ => rfl) ?_)
                exact fin 0 (Or.inl rfl) ⟨fun g => absurd g (by decide), fun g => by
                  have := g.2 j j1 (by omega)
                  rcases this with h | h
                  · exact absurd h c3
                  · exact absurd h c4⟩
              · iterate 2 (refine tr_mv rfl (fun _ => rfl) ?_)
                exact fin 1 (Or.inr rfl) (yes (Or.inr c4))
    have hb := sgAt_in (w := x) (by omega) 0
    iterate 1 (refine tr_mv rfl (fun _ => rfl) ?_)
    refine tr_if2 rfl (m32_of (by omega)) (fun c1 => ?_) (fun c1 => ?_)
    · have c2 : x ≤ 0 := c1
      exact absurd c2 (by omega)
    · iterate 2 (refine tr_mv rfl (fun _ => rfl) ?_)
      refine tr_stat rfl rfl rfl (s_231 (by omega) (by decide) ?_)
      refine tr_stat rfl rfl rfl (s_213 (by omega) ?_)
      first | refine tr_ib rfl (fun c2 => ?_) (fun c2 => ?_) | refine tr_ibn rfl (fun c2 => ?_) (fun c2 => ?_)
      · iterate 4 (refine tr_mv rfl (fun _ => rfl) ?_)
        exact loop 2 1 0 rfl (by decide) (by omega) (Or.inl rfl) ⟨fun g => absurd g (by decide), fun g => absurd g.1 c2⟩
      · iterate 5 (refine tr_mv rfl (fun _ => rfl) ?_)
        exact loop 2 1 1 rfl (by decide) (by omega) (Or.inr rfl) ⟨fun _ => ⟨c2, fun i i1 i2 => absurd i2 (by omega)⟩, fun _ => rfl⟩
end MCAN
