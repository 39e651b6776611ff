/-! The law's runs, from what the constructors leave behind. -/
/-- what the constructors owe: from the law's entry to its loop's head -/
def Bld : Prop := ∀ (L : Nat) (xs : Nat → Int32), L ≤ 3072 → ∃ (h : mH) (σ : Sg), rep L h σ ∧ StR σ ∧ ∀ (f : Nat) (r : mR), mrun mPg f 364 23 [some (mP (some 0)), some (mP (some 2)), some (mP (some 480)), some (mP (some 533)), some (mI ((0 : Nat) : Int)), none, none] [] h = some r → ∃ (g c s : Nat), c ≤ 532 ∧ s ≤ 22489 ∧ mrun mPg g 364 0 (mentry [mP (some 0)] 7) [] (mh0 L xs) = some (r.1, r.2.1, c + r.2.2.1, s + r.2.2.2)
theorem lawRuns_of (HB : Bld) : LawRuns := fun L xs hL => by
  obtain ⟨h, σ, hr, hR, hrun⟩ := HB L xs hL
  obtain ⟨f, o, h', c, s, σ', e1, e2, e3, e4, e5⟩ := lw_loop (S := fun j => σ.2 0 j) hr.2.2.2.2.1 hL 512 0 σ none none hR (fun _ => rfl) (by omega) (by omega) h hr
  obtain ⟨g, c0, s0, g1, g2, g3⟩ := hrun f _ e1
  refine ⟨g, h', c0 + c, s0 + s, ?_, by omega, by omega⟩
  rw [g3, ← e5]
