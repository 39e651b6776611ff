/-! References told, both sides. -/
theorem en_set {en : List EnT} {a : Nat} {w : EnT} (ha : a < en.length) (i : Nat) : (en.set a w).getD i enD = if i = a then w else en.getD i enD := by
  rw [List.getD_eq_getElem?_getD, List.getElem?_set, List.getD_eq_getElem?_getD]
  by_cases g : i = a
  · subst g
    rw [if_pos rfl, if_pos rfl, if_pos ha]
    rfl
  · rw [if_neg (fun h => g h.symm), if_neg g]
section SEE
variable {Ls N k pc n n' nn b c t a q kd w d p X T : Nat} {L0 : mLs} {st r as : List mV} {h h' : mH} {σ σ' σ'' : Sg} {post : tP} {x y z x' y' i i' s v m u lv : Int} {xs ys ss L M A B : List Int} {e : mE} {C : Nat → Nat → Prop} {R : Nat → Prop} {tx : List (List Int)} {en : List EnT} {wE : EnT}
theorem cEn.set (h : cEn σ en) (ha : a < en.length) (hl : en.length ≤ 24) (hn : σ'.2 2 9 = σ.2 2 9) (h2 : ∀ j, j < 24 → j ≠ a → (∀ i, σ'.2 (360 + 5 * j) i = σ.2 (360 + 5 * j) i) ∧ σ'.1 ((360 + 5 * j) + 1) = σ.1 ((360 + 5 * j) + 1))
    (h0 : σ'.2 (360 + 5 * a) 0 = (enT wE : Int)) (h1 : σ'.2 (360 + 5 * a) 1 = enP wE) (h3 : σ'.2 (360 + 5 * a) 2 = (enS wE : Int)) (h4 : σ'.2 (360 + 5 * a) 3 = enK wE) (h5 : σ'.2 (360 + 5 * a) 4 = (enA wE : Int)) (h6 : σ'.2 (360 + 5 * a) 7 = enX wE) (h7 : σ'.2 (360 + 5 * a) 8 = (enO wE : Int)) (h8 : σ'.1 ((360 + 5 * a) + 1) = enL wE) : cEn σ' (en.set a wE) := by
  refine ⟨by rw [List.length_set, hn]; exact h.1, fun i hi => ?_, fun i hi => ?_⟩
  · rw [List.length_set] at hi
    rw [en_set ha]
    by_cases g : i = a
    · rw [if_pos g, g]
      exact ⟨h0, h1, h3⟩
    · rw [if_neg g, (h2 i (by omega) g).1, (h2 i (by omega) g).1, (h2 i (by omega) g).1]
      exact h.2.1 i hi
  · rw [en_set ha]
    by_cases g : i = a
    · rw [if_pos g, g]
      exact ⟨h4, h5, h6, h7, h8⟩
    · rw [if_neg g, (h2 i hi g).1, (h2 i hi g).1, (h2 i hi g).1, (h2 i hi g).1, (h2 i hi g).2]
      exact h.2.2 i hi
/-- references of an entry -/
abbrev okRf (en : List EnT) : Prop := ∀ e ∈ en, (enX e = -1 ∨ (0 ≤ enX e ∧ enX e < (en.length : Int))) ∧ enO e < 2 ^ en.length
theorem okRf.o24 (h : okRf en) (hE : en.length ≤ 24) {e : EnT} (he : e ∈ en) : enO e < 2 ^ 24 := Nat.lt_of_lt_of_le (h e he).2 (Nat.pow_le_pow_right (by decide) hE)
abbrev twoIn (n : Nat) (i x : Int) : Prop := (0 ≤ i ∧ i < (n : Int)) ∧ 0 ≤ x ∧ x < (n : Int)
theorem s_140 (hE : en.length ≤ 24) (cE : cEn σ en) (hok : okRf en) (hi : in32 i) (hx : in32 x) (hy : y = 0 ∨ y = 1)
    (K1 : ¬ twoIn en.length i x → post (.inr 0) σ)
    (K2 : twoIn en.length i x → i = x → post (.inr 1) σ)
    (K3 : ∀ a p : Nat, i = (a : Int) → x = (p : Int) → a < en.length → p < en.length → a ≠ p → y = 0 → enX (en.getD a enD) ≠ -1 → enX (en.getD a enD) ≠ (p : Int) → post (.inr 2) σ)
    (K4 : ∀ a p : Nat, i = (a : Int) → x = (p : Int) → a < en.length → p < en.length → a ≠ p → y = 1 → post (.inl (some (mI (b2 (¬ enO (en.getD a enD) / 2 ^ p % 2 = 1))))) (setF σ (360 + 5 * a) 8 ((enO (en.getD a enD) ||| 2 ^ p : Nat) : Int)))
    (K5 : ∀ a p : Nat, i = (a : Int) → x = (p : Int) → a < en.length → p < en.length → a ≠ p → y = 0 → (enX (en.getD a enD) = -1 ∨ enX (en.getD a enD) = (p : Int)) → post (.inl (some (mI (b2 (enX (en.getD a enD) = -1))))) (setF σ (360 + 5 * a) 7 (p : Int))) :
    Tr Ls (N + 1) 140 0 [some (mP (some 2)), some (mI i), some (mI x), some (mI y), none, none] [] σ post := by
  iterate 2 (refine tr_mv rfl (fun _ => rfl) ?_)
  refine tr_vc (q := 2) rfl ⟨by decide, by decide +kernel⟩ rfl rfl rfl (s_167 hi (by rw [cE.1]; omega) ?_)
  rw [cE.1]
  first | refine tr_ib rfl (fun c1 => ?_) (fun c1 => ?_) | refine tr_ibn rfl (fun c1 => ?_) (fun c1 => ?_)
  · exact tr_throw rfl (K1 (fun g => c1 g.1))
  · iterate 2 (refine tr_mv rfl (fun _ => rfl) ?_)
    refine tr_vc (q := 2) rfl ⟨by decide, by decide +kernel⟩ rfl rfl rfl (s_167 hx (by rw [cE.1]; omega) ?_)
    rw [cE.1]
    first | refine tr_ib rfl (fun c2 => ?_) (fun c2 => ?_) | refine tr_ibn rfl (fun c2 => ?_) (fun c2 => ?_)
    · obtain ⟨a, rfl⟩ : ∃ a : Nat, i = (a : Int) := ⟨i.toNat, by omega⟩
      obtain ⟨p, rfl⟩ : ∃ p : Nat, x = (p : Int) := ⟨x.toNat, by omega⟩
      have ha : a < en.length := by omega
      have hp : p < en.length := by omega
      have ht := e_E (i := a) (by omega)
      obtain ⟨hX, hO⟩ : σ.2 (360 + 5 * a) 7 = enX (en.getD a enD) ∧ σ.2 (360 + 5 * a) 8 = (enO (en.getD a enD) : Int) := ⟨(cE.2.2 a (by omega)).2.2.1, (cE.2.2 a (by omega)).2.2.2.1⟩
      have hm := hok.o24 hE (en_mem ha)
      have hr := (hok _ (en_mem ha)).1
      iterate 2 (refine tr_mv rfl (fun _ => rfl) ?_)
      refine tr_cmp2 rfl (m32_of (by omega)) (m32_of (by omega)) (fun c3 => ?_) (fun c3 => ?_)
      · have c4 : ¬ (a : Int) = (p : Int) := c3
        have hne : a ≠ p := by omega
        iterate 2 (refine tr_mv rfl (fun _ => rfl) ?_)
        refine tr_vc (q := 2) rfl ⟨by decide, by decide +kernel⟩ rfl rfl rfl (s_171 (p := a) (by omega) ?_)
        have fin : ∀ v : Int, (v = 0 ∨ v = 1) → (y = 1 → post (.inl (some (mI v))) (setF σ (360 + 5 * a) 8 ((enO (en.getD a enD) ||| 2 ^ p : Nat) : Int))) → (y = 0 → post (.inl (some (mI v))) (setF σ (360 + 5 * a) 7 (p : Int))) → Tr Ls (N + 1) 140 117 [some (mP (some 2)), some (mI (a : Int)), some (mI (p : Int)), some (mI y), some (mP (some (360 + 5 * a))), none] [mI v] σ post := by
          intro v hv k1 k0
          iterate 4 (refine tr_mv rfl (fun _ => rfl) ?_)
          refine tr_vc (q := (360 + 5 * a)) rfl (E_O ht) rfl rfl rfl (s_70 ht hO hm (by omega) hy (fun g => ?_) (fun g => ?_))
          · iterate 1 (refine tr_mv rfl (fun _ => rfl) ?_)
            exact tr_reti rfl (Or.inr hv) (k1 g)
          · iterate 1 (refine tr_mv rfl (fun _ => rfl) ?_)
            exact tr_reti rfl (Or.inr hv) (k0 g)
        have goon : (y = 1 ∨ (y = 0 ∧ (enX (en.getD a enD) = -1 ∨ enX (en.getD a enD) = (p : Int)))) → Tr Ls (N + 1) 140 82 [some (mP (some 2)), some (mI (a : Int)), some (mI (p : Int)), some (mI y), some (mP (some (360 + 5 * a))), none] [] σ post := by
          intro hg
          iterate 1 (refine tr_mv rfl (fun _ => rfl) ?_)
          refine tr_if2 rfl (m32_of (by omega)) (fun c5 => ?_) (fun c5 => ?_)
          · have c6 : y = 0 := c5
            iterate 1 (refine tr_mv rfl (fun _ => rfl) ?_)
            refine tr_vc (q := (360 + 5 * a)) rfl (E_O ht) rfl rfl rfl (s_67 ht ?_)
            rw [hX]
            iterate 1 (refine tr_mv rfl (fun _ => rfl) ?_)
            have k := K5 a p rfl rfl ha hp hne c6 (by omega)
            refine tr_cmp2 rfl (m32_of (by omega)) (m32_of (by omega)) (fun c7 => ?_) (fun c7 => ?_)
            · have c8 : ¬ enX (en.getD a enD) = -1 := c7
              iterate 1 (refine tr_mv rfl (fun _ => rfl) ?_)
              rw [b2_neg c8] at k
              exact fin 0 (Or.inl rfl) (fun g => by omega) (fun _ => k)
            · have c8 : enX (en.getD a enD) = -1 := Decidable.of_not_not c7
              iterate 2 (refine tr_mv rfl (fun _ => rfl) ?_)
              rw [b2_pos c8] at k
              exact fin 1 (Or.inr rfl) (fun g => by omega) (fun _ => k)
          · have c6 : ¬ y = 0 := c5
            iterate 2 (refine tr_mv rfl (fun _ => rfl) ?_)
            refine tr_vc (q := (360 + 5 * a)) rfl (E_O ht) rfl rfl rfl (s_68 ht hO hm (by omega) ?_)
            have k := K4 a p rfl rfl ha hp hne (by omega)
            first | refine tr_ib rfl (fun c7 => ?_) (fun c7 => ?_) | refine tr_ibn rfl (fun c7 => ?_) (fun c7 => ?_)
            · iterate 2 (refine tr_mv rfl (fun _ => rfl) ?_)
              rw [b2_neg (fun g => g c7)] at k
              exact fin 0 (Or.inl rfl) (fun _ => k) (fun g => by omega)
            · iterate 2 (refine tr_mv rfl (fun _ => rfl) ?_)
              rw [b2_pos c7] at k
              exact fin 1 (Or.inr rfl) (fun _ => k) (fun g => by omega)
        iterate 2 (refine tr_mv rfl (fun _ => rfl) ?_)
        refine tr_if2 rfl (m32_of (by omega)) (fun c5 => ?_) (fun c5 => ?_)
        · have c6 : ¬ y = 0 := c5
          exact goon (Or.inl (by omega))
        · have c6 : y = 0 := Decidable.of_not_not c5
          iterate 1 (refine tr_mv rfl (fun _ => rfl) ?_)
          refine tr_vc (q := (360 + 5 * a)) rfl (E_O ht) rfl rfl rfl (s_67 ht ?_)
          rw [hX]
          iterate 1 (refine tr_mv rfl (fun _ => rfl) ?_)
          refine tr_cmp2 rfl (m32_of (by omega)) (m32_of (by omega)) (fun c7 => ?_) (fun c7 => ?_)
          · exact goon (Or.inr ⟨c6, Or.inl c7⟩)
          · iterate 1 (refine tr_mv rfl (fun _ => rfl) ?_)
            refine tr_vc (q := (360 + 5 * a)) rfl (E_O ht) rfl rfl rfl (s_67 ht ?_)
            rw [hX]
            iterate 1 (refine tr_mv rfl (fun _ => rfl) ?_)
            refine tr_cmp2 rfl (m32_of (by omega)) (m32_of (by omega)) (fun c8 => ?_) (fun c8 => ?_)
            · exact goon (Or.inr ⟨c6, Or.inr c8⟩)
            · exact tr_throw rfl (K3 a p rfl rfl ha hp hne c6 c7 c8)
      · have c4 : (a : Int) = (p : Int) := Decidable.of_not_not c3
        exact tr_throw rfl (K2 ⟨c1, c2⟩ c4)
    · exact tr_throw rfl (K1 (fun g => c2 g.2))
end SEE
