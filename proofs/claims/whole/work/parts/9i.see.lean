/-! References told, both sides. -/
theorem en_set {en : List EnT} {a : Nat} {w : EnT} (ha : a < en.length) (i : Nat) : (en.set a w).getD i enD = if i = a then w else en.getD i enD := by
  rw [List.getD_eq_getElem?_getD, List.getElem?_set, List.getD_eq_getElem?_getD]
  by_cases g : i = a
  · subst g
    rw [if_pos rfl, if_pos rfl, if_pos ha]
    rfl
  · rw [if_neg (fun h => g h.symm), if_neg g]
section SEE
variable {Ls N k pc n n' nn b c t a q kd w d p X T : Nat} {L0 : mLs} {st r as : List mV} {h h' : mH} {σ σ' σ'' : Sg} {post : tP} {x y z x' y' i i' s v m u lv : Int} {xs ys ss L M A B : List Int} {e : mE} {C : Nat → Nat → Prop} {R : Nat → Prop} {tx : List (List Int)} {en : List EnT} {wE : EnT}
theorem cEn.set (h : cEn σ en) (ha : a < en.length) (hl : en.length ≤ 24) (hn : σ'.2 2 9 = σ.2 2 9) (h2 : ∀ j, j < 24 → j ≠ a → (∀ i, σ'.2 (360 + 5 * j) i = σ.2 (360 + 5 * j) i) ∧ σ'.1 ((360 + 5 * j) + 1) = σ.1 ((360 + 5 * j) + 1))
    (h0 : σ'.2 (360 + 5 * a) 0 = (enT wE : Int)) (h1 : σ'.2 (360 + 5 * a) 1 = enP wE) (h3 : σ'.2 (360 + 5 * a) 2 = (enS wE : Int)) (h4 : σ'.2 (360 + 5 * a) 3 = enK wE) (h5 : σ'.2 (360 + 5 * a) 4 = (enA wE : Int)) (h6 : σ'.2 (360 + 5 * a) 7 = enX wE) (h7 : σ'.2 (360 + 5 * a) 8 = (enO wE : Int)) (h8 : σ'.1 ((360 + 5 * a) + 1) = enL wE) : cEn σ' (en.set a wE) := by
  refine ⟨by rw [List.length_set, hn]; exact h.1, fun i hi => ?_, fun i hi => ?_⟩
  · rw [List.length_set] at hi
    rw [en_set ha]
    by_cases g : i = a
    · rw [if_pos g, g]
      exact ⟨h0, h1, h3⟩
    · rw [if_neg g, (h2 i (by omega) g).1, (h2 i (by omega) g).1, (h2 i (by omega) g).1]
      exact h.2.1 i hi
  · rw [en_set ha]
    by_cases g : i = a
    · rw [if_pos g, g]
      exact ⟨h4, h5, h6, h7, h8⟩
    · rw [if_neg g, (h2 i hi g).1, (h2 i hi g).1, (h2 i hi g).1, (h2 i hi g).1, (h2 i hi g).2]
      exact h.2.2 i hi
theorem mEn.set (h : mEn σ en) (ha : a < en.length) (hl : en.length ≤ 24) (hn : σ'.2 480 51 = σ.2 480 51) (h2 : ∀ j, j < 24 → j ≠ a → σ'.2 513 j = σ.2 513 j ∧ σ'.2 514 j = σ.2 514 j ∧ σ'.2 515 j = σ.2 515 j ∧ σ'.2 516 j = σ.2 516 j ∧ σ'.2 517 j = σ.2 517 j ∧ σ'.2 519 j = σ.2 519 j ∧ σ'.2 520 j = σ.2 520 j ∧ σ'.2 521 j = σ.2 521 j ∧ ∀ M, mseg σ 518 (10 * j) M → M.length ≤ 10 → mseg σ' 518 (10 * j) M)
    (hM : ∀ e ∈ en, (enM e).length ≤ 10)
    (h0 : σ'.2 514 a = (enT wE : Int)) (h1 : σ'.2 513 a = enP wE) (h3 : σ'.2 515 a = (enS wE : Int)) (h4 : σ'.2 516 a = enK wE) (h5 : σ'.2 517 a = (enA wE : Int)) (h6 : σ'.2 520 a = enX wE) (h7 : σ'.2 521 a = (enO wE : Int)) (h8 : σ'.2 519 a = ((enM wE).length : Int)) (h9 : mseg σ' 518 (10 * a) (enM wE)) : mEn σ' (en.set a wE) := by
  refine ⟨by rw [List.length_set, hn]; exact h.1, fun i hi => ?_, fun i hi => ?_⟩
  · rw [List.length_set] at hi
    rw [en_set ha]
    by_cases g : i = a
    · rw [if_pos g, g]
      exact ⟨h1, h0, h3, h6⟩
    · have k := h2 i (by omega) g
      rw [if_neg g, k.1, k.2.1, k.2.2.1, k.2.2.2.2.2.2.1]
      exact h.2.1 i hi
  · rw [en_set ha]
    by_cases g : i = a
    · rw [if_pos g, g]
      exact ⟨h4, h5, h7, h8, h9⟩
    · have k := h2 i hi g
      have k2 := h.2.2 i hi
      rw [if_neg g, k.2.2.2.1, k.2.2.2.2.1, k.2.2.2.2.2.2.2.1, k.2.2.2.2.2.1]
      refine ⟨k2.1, k2.2.1, k2.2.2.1, k2.2.2.2.1, k.2.2.2.2.2.2.2.2 _ k2.2.2.2.2 ?_⟩
      by_cases hi2 : i < en.length
      · exact hM _ (en_mem hi2)
      · rw [List.getD_eq_getElem?_getD, List.getElem?_eq_none (by omega)]
        decide
/-- references of an entry -/
abbrev okRf (en : List EnT) : Prop := ∀ e ∈ en, (enX e = -1 ∨ (0 ≤ enX e ∧ enX e < (en.length : Int))) ∧ enO e < 2 ^ en.length
theorem okRf.o24 (h : okRf en) (hE : en.length ≤ 24) {e : EnT} (he : e ∈ en) : enO e < 2 ^ 24 := Nat.lt_of_lt_of_le (h e he).2 (Nat.pow_le_pow_right (by decide) hE)
abbrev twoIn (n : Nat) (i x : Int) : Prop := (0 ≤ i ∧ i < (n : Int)) ∧ 0 ≤ x ∧ x < (n : Int)
theorem s_140 (hE : en.length ≤ 24) (cE : cEn σ en) (hok : okRf en) (hi : in32 i) (hx : in32 x) (hy : y = 0 ∨ y = 1)
    (K1 : ¬ twoIn en.length i x → post (.inr 0) σ)
    (K2 : twoIn en.length i x → i = x → post (.inr 1) σ)
    (K3 : ∀ a p : Nat, i = (a : Int) → x = (p : Int) → a < en.length → p < en.length → a ≠ p → y = 0 → enX (en.getD a enD) ≠ -1 → enX (en.getD a enD) ≠ (p : Int) → post (.inr 2) σ)
    (K4 : ∀ a p : Nat, i = (a : Int) → x = (p : Int) → a < en.length → p < en.length → a ≠ p → y = 1 → post (.inl (some (mI (b2 (¬ enO (en.getD a enD) / 2 ^ p % 2 = 1))))) (setF σ (360 + 5 * a) 8 ((enO (en.getD a enD) ||| 2 ^ p : Nat) : Int)))
    (K5 : ∀ a p : Nat, i = (a : Int) → x = (p : Int) → a < en.length → p < en.length → a ≠ p → y = 0 → (enX (en.getD a enD) = -1 ∨ enX (en.getD a enD) = (p : Int)) → post (.inl (some (mI (b2 (enX (en.getD a enD) = -1))))) (setF σ (360 + 5 * a) 7 (p : Int))) :
    Tr Ls (N + 1) 140 0 [some (mP (some 2)), some (mI i), some (mI x), some (mI y), none, none] [] σ post := by
  iterate 2 (refine tr_mv rfl (fun _ => rfl) ?_)
  refine tr_vc (q := 2) rfl ⟨by decide, by decide +kernel⟩ rfl rfl rfl (s_167 hi (by rw [cE.1]; omega) ?_)
  rw [cE.1]
  first | refine tr_ib rfl (fun c1 => ?_) (fun c1 => ?_) | refine tr_ibn rfl (fun c1 => ?_) (fun c1 => ?_)
  · exact tr_throw rfl (K1 (fun g => c1 g.1))
  · iterate 2 (refine tr_mv rfl (fun _ => rfl) ?_)
    refine tr_vc (q := 2) rfl ⟨by decide, by decide +kernel⟩ rfl rfl rfl (s_167 hx (by rw [cE.1]; omega) ?_)
    rw [cE.1]
    first | refine tr_ib rfl (fun c2 => ?_) (fun c2 => ?_) | refine tr_ibn rfl (fun c2 => ?_) (fun c2 => ?_)
    · obtain ⟨a, rfl⟩ : ∃ a : Nat, i = (a : Int) := ⟨i.toNat, by omega⟩
      obtain ⟨p, rfl⟩ : ∃ p : Nat, x = (p : Int) := ⟨x.toNat, by omega⟩
      have ha : a < en.length := by omega
      have hp : p < en.length := by omega
      have ht := e_E (i := a) (by omega)
      obtain ⟨hX, hO⟩ : σ.2 (360 + 5 * a) 7 = enX (en.getD a enD) ∧ σ.2 (360 + 5 * a) 8 = (enO (en.getD a enD) : Int) := ⟨(cE.2.2 a (by omega)).2.2.1, (cE.2.2 a (by omega)).2.2.2.1⟩
      have hm := hok.o24 hE (en_mem ha)
      have hr := (hok _ (en_mem ha)).1
      iterate 2 (refine tr_mv rfl (fun _ => rfl) ?_)
      refine tr_cmp2 rfl (m32_of (by omega)) (m32_of (by omega)) (fun c3 => ?_) (fun c3 => ?_)
      · have c4 : ¬ (a : Int) = (p : Int) := c3
        have hne : a ≠ p := by omega
        iterate 2 (refine tr_mv rfl (fun _ => rfl) ?_)
        refine tr_vc (q := 2) rfl ⟨by decide, by decide +kernel⟩ rfl rfl rfl (s_171 (p := a) (by omega) ?_)
        have fin : ∀ v : Int, (v = 0 ∨ v = 1) → (y = 1 → post (.inl (some (mI v))) (setF σ (360 + 5 * a) 8 ((enO (en.getD a enD) ||| 2 ^ p : Nat) : Int))) → (y = 0 → post (.inl (some (mI v))) (setF σ (360 + 5 * a) 7 (p : Int))) → Tr Ls (N + 1) 140 117 [some (mP (some 2)), some (mI (a : Int)), some (mI (p : Int)), some (mI y), some (mP (some (360 + 5 * a))), none] [mI v] σ post := by
          intro v hv k1 k0
          iterate 4 (refine tr_mv rfl (fun _ => rfl) ?_)
          refine tr_vc (q := (360 + 5 * a)) rfl (E_O ht) rfl rfl rfl (s_70 ht hO hm (by omega) hy (fun g => ?_) (fun g => ?_))
          · iterate 1 (refine tr_mv rfl (fun _ => rfl) ?_)
            exact tr_reti rfl (Or.inr hv) (k1 g)
          · iterate 1 (refine tr_mv rfl (fun _ => rfl) ?_)
            exact tr_reti rfl (Or.inr hv) (k0 g)
        have goon : (y = 1 ∨ (y = 0 ∧ (enX (en.getD a enD) = -1 ∨ enX (en.getD a enD) = (p : Int)))) → Tr Ls (N + 1) 140 82 [some (mP (some 2)), some (mI (a : Int)), some (mI (p : Int)), some (mI y), some (mP (some (360 + 5 * a))), none] [] σ post := by
          intro hg
          iterate 1 (refine tr_mv rfl (fun _ => rfl) ?_)
          refine tr_if2 rfl (m32_of (by omega)) (fun c5 => ?_) (fun c5 => ?_)
          · have c6 : y = 0 := c5
            iterate 1 (refine tr_mv rfl (fun _ => rfl) ?_)
            refine tr_vc (q := (360 + 5 * a)) rfl (E_O ht) rfl rfl rfl (s_67 ht ?_)
            rw [hX]
            iterate 1 (refine tr_mv rfl (fun _ => rfl) ?_)
            have k := K5 a p rfl rfl ha hp hne c6 (by omega)
            refine tr_cmp2 rfl (m32_of (by omega)) (m32_of (by omega)) (fun c7 => ?_) (fun c7 => ?_)
            · have c8 : ¬ enX (en.getD a enD) = -1 := c7
              iterate 1 (refine tr_mv rfl (fun _ => rfl) ?_)
              rw [b2_neg c8] at k
              exact fin 0 (Or.inl rfl) (fun g => by omega) (fun _ => k)
            · have c8 : enX (en.getD a enD) = -1 := Decidable.of_not_not c7
              iterate 2 (refine tr_mv rfl (fun _ => rfl) ?_)
              rw [b2_pos c8] at k
              exact fin 1 (Or.inr rfl) (fun g => by omega) (fun _ => k)
          · have c6 : ¬ y = 0 := c5
            iterate 2 (refine tr_mv rfl (fun _ => rfl) ?_)
            refine tr_vc (q := (360 + 5 * a)) rfl (E_O ht) rfl rfl rfl (s_68 ht hO hm (by omega) ?_)
            have k := K4 a p rfl rfl ha hp hne (by omega)
            first | refine tr_ib rfl (fun c7 => ?_) (fun c7 => ?_) | refine tr_ibn rfl (fun c7 => ?_) (fun c7 => ?_)
            · iterate 2 (refine tr_mv rfl (fun _ => rfl) ?_)
              rw [b2_neg (fun g => g c7)] at k
              exact fin 0 (Or.inl rfl) (fun _ => k) (fun g => by omega)
            · iterate 2 (refine tr_mv rfl (fun _ => rfl) ?_)
              rw [b2_pos c7] at k
              exact fin 1 (Or.inr rfl) (fun _ => k) (fun g => by omega)
        iterate 2 (refine tr_mv rfl (fun _ => rfl) ?_)
        refine tr_if2 rfl (m32_of (by omega)) (fun c5 => ?_) (fun c5 => ?_)
        · have c6 : ¬ y = 0 := c5
          exact goon (Or.inl (by omega))
        · have c6 : y = 0 := Decidable.of_not_not c5
          iterate 1 (refine tr_mv rfl (fun _ => rfl) ?_)
          refine tr_vc (q := (360 + 5 * a)) rfl (E_O ht) rfl rfl rfl (s_67 ht ?_)
          rw [hX]
          iterate 1 (refine tr_mv rfl (fun _ => rfl) ?_)
          refine tr_cmp2 rfl (m32_of (by omega)) (m32_of (by omega)) (fun c7 => ?_) (fun c7 => ?_)
          · exact goon (Or.inr ⟨c6, Or.inl c7⟩)
          · iterate 1 (refine tr_mv rfl (fun _ => rfl) ?_)
            refine tr_vc (q := (360 + 5 * a)) rfl (E_O ht) rfl rfl rfl (s_67 ht ?_)
            rw [hX]
            iterate 1 (refine tr_mv rfl (fun _ => rfl) ?_)
            refine tr_cmp2 rfl (m32_of (by omega)) (m32_of (by omega)) (fun c8 => ?_) (fun c8 => ?_)
            · exact goon (Or.inr ⟨c6, Or.inr c8⟩)
            · exact tr_throw rfl (K3 a p rfl rfl ha hp hne c6 c7 c8)
      · have c4 : (a : Int) = (p : Int) := Decidable.of_not_not c3
        exact tr_throw rfl (K2 ⟨c1, c2⟩ c4)
    · exact tr_throw rfl (K1 (fun g => c2 g.2))
theorem s_287 (hE : en.length ≤ 24) (cE : mEn σ en) (hok : okRf en) (hi : in32 i) (hx : in32 x) (hy : y = 0 ∨ y = 1)
    (K1 : ¬ twoIn en.length i x → post (.inl (some (mI 0))) (setF σ 480 0 1))
    (K2 : twoIn en.length i x → i = x → post (.inl (some (mI 0))) (setF σ 480 0 2))
    (K3 : ∀ a p : Nat, i = (a : Int) → x = (p : Int) → a < en.length → p < en.length → a ≠ p → y = 0 → enX (en.getD a enD) ≠ -1 → enX (en.getD a enD) ≠ (p : Int) → post (.inl (some (mI 0))) (setF σ 480 0 3))
    (K4 : ∀ a p : Nat, i = (a : Int) → x = (p : Int) → a < en.length → p < en.length → a ≠ p → y = 1 → post (.inl (some (mI (b2 (¬ enO (en.getD a enD) / 2 ^ p % 2 = 1))))) (setF (setF σ 480 0 0) 521 a ((enO (en.getD a enD) ||| 2 ^ p : Nat) : Int)))
    (K5 : ∀ a p : Nat, i = (a : Int) → x = (p : Int) → a < en.length → p < en.length → a ≠ p → y = 0 → (enX (en.getD a enD) = -1 ∨ enX (en.getD a enD) = (p : Int)) → post (.inl (some (mI (b2 (enX (en.getD a enD) = -1))))) (setF (setF σ 480 0 0) 520 a (p : Int))) :
    Tr Ls N 287 0 [some (mP (some 480)), some (mI i), some (mI x), some (mI y), none, none, none] [] σ post := by
  have bad : ∀ (v4 v5 : Option mV) (c : Int), c ≠ 0 → in32 c → post (.inl (some (mI 0))) (setF σ 480 0 c) → Tr Ls N 287 88 [some (mP (some 480)), some (mI i), some (mI x), some (mI y), v4, v5, none] [mI c, mP (some 480)] σ post := by
    intro v4 v5 c h1 h2 h3
    refine tr_vc (q := 480) rfl isO_480 rfl rfl rfl (s_210 h2 ?_)
    rw [b2, if_neg h1]
    repeat (refine tr_mv rfl (fun _ => rfl) ?_)
    exact tr_reti rfl (Or.inr (Or.inl rfl)) h3
  iterate 2 (refine tr_mv rfl (fun _ => rfl) ?_)
  refine tr_vc (q := 480) rfl isO_480 rfl rfl rfl (s_282 hi cE.1 (by omega) ?_)
  first | refine tr_ib rfl (fun c1 => ?_) (fun c1 => ?_) | refine tr_ibn rfl (fun c1 => ?_) (fun c1 => ?_)
  · repeat (refine tr_mv rfl (fun _ => rfl) ?_)
    exact bad _ _ 1 (by decide) (by decide) (K1 (fun g => c1 g.1))
  · iterate 2 (refine tr_mv rfl (fun _ => rfl) ?_)
    refine tr_vc (q := 480) rfl isO_480 rfl rfl rfl (s_282 hx cE.1 (by omega) ?_)
    first | refine tr_ib rfl (fun c2 => ?_) (fun c2 => ?_) | refine tr_ibn rfl (fun c2 => ?_) (fun c2 => ?_)
    · repeat (refine tr_mv rfl (fun _ => rfl) ?_)
      exact bad _ _ 1 (by decide) (by decide) (K1 (fun g => c2 g.2))
    · obtain ⟨a, rfl⟩ : ∃ a : Nat, i = (a : Int) := ⟨i.toNat, by omega⟩
      obtain ⟨p, rfl⟩ : ∃ p : Nat, x = (p : Int) := ⟨x.toNat, by omega⟩
      have ha : a < en.length := by omega
      have hp : p < en.length := by omega
      have hX : σ.2 520 a = enX (en.getD a enD) := (cE.2.1 a ha).2.2.2
      have hO : σ.2 521 a = (enO (en.getD a enD) : Int) := (cE.2.2 a (by omega)).2.2.1
      have hm := hok.o24 hE (en_mem ha)
      have hr := (hok _ (en_mem ha)).1
      have hpw : 2 ^ p < 2 ^ 24 := Nat.pow_lt_pow_right (by decide) (by omega)
      have d1 : enO (en.getD a enD) / 2 ^ p < 2 ^ 31 := Nat.lt_of_le_of_lt (Nat.div_le_self _ _) (by omega)
      -- what is done
      have fin : ∀ v : Int, (v = 0 ∨ v = 1) → (y = 1 → post (.inl (some (mI v))) (setF (setF σ 480 0 0) 521 a ((enO (en.getD a enD) ||| 2 ^ p : Nat) : Int))) → (y = 0 → post (.inl (some (mI v))) (setF (setF σ 480 0 0) 520 a (p : Int))) → Tr Ls N 287 136 [some (mP (some 480)), some (mI (a : Int)), some (mI (p : Int)), some (mI y), some (mI 1), some (mI 1), none] [mI v] (setF σ 480 0 0) post := by
        intro v hv k1 k0
        iterate 2 (refine tr_mv rfl (fun _ => rfl) ?_)
        refine tr_if2 rfl (m32_of (by omega)) (fun c5 => ?_) (fun c5 => ?_)
        · have c6 : y = 0 := c5
          repeat (first | refine tr_mgr rfl (by decide) rfl ?_ | refine tr_mgi rfl (by decide) (by decide) rfl ?_ | refine tr_mv rfl (fun _ => rfl) ?_)
          refine tr_msn (j := a) rfl (by omega) (by omega) rfl (fun _ => rfl) rfl rfl rfl ?_
          iterate 1 (refine tr_mv rfl (fun _ => rfl) ?_)
          exact tr_reti rfl (Or.inr hv) (k0 c6)
        · have c6 : ¬ y = 0 := c5
          repeat (first | refine tr_mgr rfl (by decide) rfl ?_ | refine tr_mgi rfl (by decide) (by decide) rfl ?_ | refine tr_mv rfl (fun _ => rfl) ?_)
          refine tr_man (j := a) rfl (by omega) (by omega) rfl (fun _ => rfl) rfl rfl rfl ?_
          rw [setF_ne _ _ (by omega), hO]
          iterate 3 (refine tr_mv rfl (fun _ => rfl) ?_)
          refine tr_top (w_shl p (by omega)) ?_
          iterate 1 (refine tr_mv rfl (fun _ => rfl) ?_)
          refine tr_top (w_or (a := enO (en.getD a enD)) (b := 2 ^ p) (by omega) (by omega)) ?_
          refine tr_msn (j := a) rfl (by omega) (by omega) rfl (fun _ => rfl) rfl rfl rfl ?_
          iterate 2 (refine tr_mv rfl (fun _ => rfl) ?_)
          exact tr_reti rfl (Or.inr hv) (k1 (by omega))
      have good : a ≠ p → (y = 1 ∨ (y = 0 ∧ (enX (en.getD a enD) = -1 ∨ enX (en.getD a enD) = (p : Int)))) → Tr Ls N 287 88 [some (mP (some 480)), some (mI (a : Int)), some (mI (p : Int)), some (mI y), some (mI 1), some (mI 1), none] [mI 0, mP (some 480)] σ post := by
        intro hne hg
        refine tr_vc (q := 480) rfl isO_480 rfl rfl rfl (s_210 (by decide) ?_)
        rw [b2, if_pos rfl]
        iterate 2 (refine tr_mv rfl (fun _ => rfl) ?_)
        refine tr_if2 rfl (m32_of (by omega)) (fun c5 => ?_) (fun c5 => ?_)
        · have c6 : y = 0 := c5
          have k := K5 a p rfl rfl ha hp hne c6 (by omega)
          repeat (first | refine tr_mgr rfl (by decide) rfl ?_ | refine tr_mgi rfl (by decide) (by decide) rfl ?_ | refine tr_mv rfl (fun _ => rfl) ?_)
          refine tr_man (j := a) rfl (by omega) (by omega) rfl (fun _ => rfl) rfl rfl rfl ?_
          rw [setF_ne _ _ (by omega), hX]
          iterate 1 (refine tr_mv rfl (fun _ => rfl) ?_)
          refine tr_cmp2 rfl (m32_of (by omega)) (m32_of (by omega)) (fun c7 => ?_) (fun c7 => ?_)
          · have c8 : ¬ enX (en.getD a enD) = -1 := c7
            iterate 1 (refine tr_mv rfl (fun _ => rfl) ?_)
            rw [b2_neg c8] at k
            exact fin 0 (Or.inl rfl) (fun g => by omega) (fun _ => k)
          · have c8 : enX (en.getD a enD) = -1 := Decidable.of_not_not c7
            iterate 2 (refine tr_mv rfl (fun _ => rfl) ?_)
            rw [b2_pos c8] at k
            exact fin 1 (Or.inr rfl) (fun g => by omega) (fun _ => k)
        · have c6 : ¬ y = 0 := c5
          have k := K4 a p rfl rfl ha hp hne (by omega)
          repeat (first | refine tr_mgr rfl (by decide) rfl ?_ | refine tr_mgi rfl (by decide) (by decide) rfl ?_ | refine tr_mv rfl (fun _ => rfl) ?_)
          refine tr_man (j := a) rfl (by omega) (by omega) rfl (fun _ => rfl) rfl rfl rfl ?_
          rw [setF_ne _ _ (by omega), hO]
          iterate 2 (refine tr_mv rfl (fun _ => rfl) ?_)
          refine tr_top (w_shr (a := enO (en.getD a enD)) (p := p) (by omega) (by omega)) ?_
          iterate 2 (refine tr_mv rfl (fun _ => rfl) ?_)
          refine tr_top (w_a1 d1) ?_
          have h2 : enO (en.getD a enD) / 2 ^ p % 2 < 2 := Nat.mod_lt _ (by decide)
          refine tr_if2 rfl (m32_of (by omega)) (fun c7 => ?_) (fun c7 => ?_)
          · have c8 : ¬ ((enO (en.getD a enD) / 2 ^ p % 2 : Nat) : Int) = 0 := c7
            iterate 2 (refine tr_mv rfl (fun _ => rfl) ?_)
            rw [b2_neg (fun g => g (by omega))] at k
            exact fin 0 (Or.inl rfl) (fun _ => k) (fun g => by omega)
          · have c8 : ((enO (en.getD a enD) / 2 ^ p % 2 : Nat) : Int) = 0 := Decidable.of_not_not c7
            iterate 2 (refine tr_mv rfl (fun _ => rfl) ?_)
            rw [b2_pos (show ¬ enO (en.getD a enD) / 2 ^ p % 2 = 1 by omega)] at k
            exact fin 1 (Or.inr rfl) (fun _ => k) (fun g => by omega)
      -- the third check, with what stands in 5
      have t59 : ∀ v : Int, (v = 0 ∨ v = 1) → (a ≠ p → v = 1 → (y = 1 ∨ (y = 0 ∧ (enX (en.getD a enD) = -1 ∨ enX (en.getD a enD) = (p : Int))))) → (a ≠ p → v = 0 → post (.inl (some (mI 0))) (setF σ 480 0 3)) → Tr Ls N 287 57 [some (mP (some 480)), some (mI (a : Int)), some (mI (p : Int)), some (mI y), some (mI 1), none, none] [mI v] σ post := by
        intro v hv g1 g0
        iterate 6 (refine tr_mv rfl (fun _ => rfl) ?_)
        refine tr_cmp2 rfl (m32_of (by omega)) (m32_of (by omega)) (fun c3 => ?_) (fun c3 => ?_)
        · have c4 : ¬ (a : Int) = (p : Int) := c3
          iterate 1 (refine tr_mv rfl (fun _ => rfl) ?_)
          rcases hv with rfl | rfl
          · repeat (refine tr_mv rfl (fun _ => rfl) ?_)
            exact bad _ _ 3 (by decide) (by decide) (g0 (by omega) rfl)
          · repeat (refine tr_mv rfl (fun _ => rfl) ?_)
            exact good (by omega) (g1 (by omega) rfl)
        · have c4 : (a : Int) = (p : Int) := Decidable.of_not_not c3
          repeat (refine tr_mv rfl (fun _ => rfl) ?_)
          exact bad _ _ 2 (by decide) (by decide) (K2 ⟨c1, c2⟩ c4)
      iterate 6 (refine tr_mv rfl (fun _ => rfl) ?_)
      refine tr_if2 rfl (m32_of (by omega)) (fun c5 => ?_) (fun c5 => ?_)
      · have c6 : ¬ y = 0 := c5
        iterate 2 (refine tr_mv rfl (fun _ => rfl) ?_)
        exact t59 1 (Or.inr rfl) (fun _ _ => Or.inl (by omega)) (fun _ g => absurd g (by decide))
      · have c6 : y = 0 := Decidable.of_not_not c5
        repeat (first | refine tr_mgr rfl (by decide) rfl ?_ | refine tr_mgi rfl (by decide) (by decide) rfl ?_ | refine tr_mv rfl (fun _ => rfl) ?_)
        refine tr_man (j := a) rfl (by omega) (by omega) rfl (fun _ => rfl) rfl rfl rfl ?_
        rw [hX]
        iterate 1 (refine tr_mv rfl (fun _ => rfl) ?_)
        refine tr_cmp2 rfl (m32_of (by omega)) (m32_of (by omega)) (fun c7 => ?_) (fun c7 => ?_)
        · iterate 2 (refine tr_mv rfl (fun _ => rfl) ?_)
          exact t59 1 (Or.inr rfl) (fun _ _ => Or.inr ⟨c6, Or.inl c7⟩) (fun _ g => absurd g (by decide))
        · repeat (first | refine tr_mgr rfl (by decide) rfl ?_ | refine tr_mgi rfl (by decide) (by decide) rfl ?_ | refine tr_mv rfl (fun _ => rfl) ?_)
          refine tr_man (j := a) rfl (by omega) (by omega) rfl (fun _ => rfl) rfl rfl rfl ?_
          rw [hX]
          iterate 1 (refine tr_mv rfl (fun _ => rfl) ?_)
          refine tr_cmp2 rfl (m32_of (by omega)) (m32_of (by omega)) (fun c8 => ?_) (fun c8 => ?_)
          · iterate 1 (refine tr_mv rfl (fun _ => rfl) ?_)
            exact t59 0 (Or.inl rfl) (fun _ g => absurd g (by decide)) (fun g _ => K3 a p rfl rfl ha hp g c6 c7 c8)
          · iterate 2 (refine tr_mv rfl (fun _ => rfl) ?_)
            exact t59 1 (Or.inr rfl) (fun _ _ => Or.inr ⟨c6, Or.inr (Decidable.of_not_not c8)⟩) (fun _ g => absurd g (by decide))
end SEE
