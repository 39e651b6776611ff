/-! Columns: the class's. -/
section CCOLS
variable {Ls N k pc n n' nn b c t a q kd w d p X T : Nat} {L0 : mLs} {st r as : List mV} {h h' : mH} {σ σ' σ'' : Sg} {post : tP} {x y z x' y' i i' s v m u lv hh ww : Int} {xs ys ss L M A B : List Int} {e : mE} {C : Nat → Nat → Prop} {R : Nat → Prop} {tx : List (List Int)} {en : List EnT} {D : TD} {o hd : Nat → Int} {tg : Nat → List Int} {s1 d1 : Bool}
theorem s_201 (ch : σ.2 2 14 = hh) (hh2 : 4 ≤ hh ∧ hh ≤ 40) (hx : 0 ≤ x ∧ x < 100000) (hy : 0 ≤ y ∧ y < 100000) (K : post (.inl (some (mI (b2 (neuP hh x y s1 d1))))) σ) : Tr Ls N 201 0 [some (mP (some 2)), some (mI x), some (mI y), some (mI (b2 (s1 = true))), some (mI (b2 (d1 = true))), none, none] [] σ post := by
  iterate 1 (refine tr_mv rfl (fun _ => rfl) ?_)
  refine tr_gi rfl (by decide) ⟨by decide, by decide +kernel⟩ (by decide) (by decide +kernel) rfl ?_
  rw [ch]
  iterate 4 (refine tr_mv rfl (fun _ => rfl) ?_)
  have t21 : Tr Ls N 201 19 [some (mP (some 2)), some (mI x), some (mI y), some (mI (b2 (s1 = true))), some (mI (b2 (d1 = true))), some (mI (hh - x)), none] [mI (if s1 = true then y + 1 else y)] σ post := by
    obtain ⟨wh, hwh⟩ : ∃ wh, wh = if s1 = true then y + 1 else y := ⟨_, rfl⟩
    rw [← hwh]
    have hwb : 0 ≤ wh ∧ wh < 200000 := by rw [hwh]; split <;> omega
    have t45 : 0 < x → ¬ hh - x = 0 → ¬ (hh - x < y ∧ wh ≤ hh) → Tr Ls N 201 45 [some (mP (some 2)), some (mI x), some (mI y), some (mI (b2 (s1 = true))), some (mI (b2 (d1 = true))), some (mI (hh - x)), some (mI wh)] [] σ post := by
      intro h1 h2 h3
      iterate 2 (refine tr_mv rfl (fun _ => rfl) ?_)
      refine tr_cmp2 rfl (m32_of (by omega)) (m32_of (by omega)) (fun c1 => ?_) (fun c1 => ?_)
      · have c2 : ¬ hh - x = 1 := c1
        iterate 1 (refine tr_mv rfl (fun _ => rfl) ?_)
        refine tr_rb0 rfl (fun g => ?_) K
        rcases g.2 with g | g | g
        · exact h2 g
        · rw [← hwh] at g; exact h3 g
        · exact c2 g.1
      · have c2 : hh - x = 1 := Decidable.of_not_not c1
        iterate 1 (refine tr_mv rfl (fun _ => rfl) ?_)
        first | refine tr_ib rfl (fun c3 => ?_) (fun c3 => ?_) | refine tr_ibn rfl (fun c3 => ?_) (fun c3 => ?_)
        · iterate 1 (refine tr_mv rfl (fun _ => rfl) ?_)
          refine tr_rb0 rfl (fun g => ?_) K
          rcases g.2 with g | g | g
          · exact h2 g
          · rw [← hwh] at g; exact h3 g
          · exact c3 g.2
        · iterate 2 (refine tr_mv rfl (fun _ => rfl) ?_)
          exact tr_rb1 rfl ⟨h1, Or.inr (Or.inr ⟨c2, c3⟩)⟩ K
    iterate 2 (refine tr_mv rfl (fun _ => rfl) ?_)
    refine tr_if2 rfl (m32_of (by omega)) (fun c1 => ?_) (fun c1 => ?_)
    · have c2 : x ≤ 0 := c1
      iterate 1 (refine tr_mv rfl (fun _ => rfl) ?_)
      exact tr_rb0 rfl (fun g => by have := g.1; omega) K
    · have c2 : ¬ x ≤ 0 := c1
      iterate 1 (refine tr_mv rfl (fun _ => rfl) ?_)
      refine tr_if2 rfl (m32_of (by omega)) (fun c3 => ?_) (fun c3 => ?_)
      · have c4 : hh - x = 0 := c3
        iterate 2 (refine tr_mv rfl (fun _ => rfl) ?_)
        exact tr_rb1 rfl ⟨by omega, Or.inl c4⟩ K
      · have c4 : ¬ hh - x = 0 := c3
        iterate 2 (refine tr_mv rfl (fun _ => rfl) ?_)
        refine tr_cmp2 rfl (m32_of (by omega)) (m32_of (by omega)) (fun c5 => ?_) (fun c5 => ?_)
        · have c6 : y ≤ hh - x := c5
          exact t45 (by omega) c4 (fun g => by omega)
        · have c6 : ¬ y ≤ hh - x := c5
          iterate 2 (refine tr_mv rfl (fun _ => rfl) ?_)
          refine tr_gi rfl (by decide) ⟨by decide, by decide +kernel⟩ (by decide) (by decide +kernel) rfl ?_
          rw [ch]
          refine tr_cmp2 rfl (m32_of (by omega)) (m32_of (by omega)) (fun c7 => ?_) (fun c7 => ?_)
          · have c8 : wh ≤ hh := c7
            iterate 2 (refine tr_mv rfl (fun _ => rfl) ?_)
            exact tr_rb1 rfl ⟨by omega, Or.inr (Or.inl ⟨by omega, by rw [← hwh]; exact c8⟩)⟩ K
          · have c8 : ¬ wh ≤ hh := c7
            exact t45 (by omega) c4 (fun g => by omega)
  first | refine tr_ib rfl (fun c1 => ?_) (fun c1 => ?_) | refine tr_ibn rfl (fun c1 => ?_) (fun c1 => ?_)
  · rw [if_neg c1] at t21
    iterate 1 (refine tr_mv rfl (fun _ => rfl) ?_)
    exact t21
  · rw [if_pos c1] at t21
    iterate 4 (refine tr_mv rfl (fun _ => rfl) ?_)
    exact t21
/-- texts put together -/
def cTg (σ : Sg) (tx : List (List Int)) (tg : Nat → List Int) : Prop := (∀ s, in32 (bOf σ s)) ∧ (∀ s, in32 (kOf σ s)) ∧ ∀ t, t < tx.length → tog (cof (bOf σ) (kOf σ)) none (tx.getD t []) = tg t
theorem cTg.of (h : cTg σ tx tg) (hc : chg R C σ σ') (hC : ∀ q i, C q i → ¬ (q = 4 ∨ q = 5)) : cTg σ' tx tg := by
  have e1 : bOf σ' = bOf σ := by
    funext s
    unfold bOf
    split
    · exact hc.2 _ _ (fun g => hC _ _ g (Or.inl rfl))
    · rfl
  have e2 : kOf σ' = kOf σ := by
    funext s
    unfold kOf
    split
    · exact hc.2 _ _ (fun g => hC _ _ g (Or.inr rfl))
    · rfl
  unfold cTg
  rw [e1, e2]
  exact h
/-- what counting lines changes -/
abbrev lcR (a : Nat) : Prop := a = 142 ∨ gpR a
theorem s_202 (cw : σ.2 2 13 = ww) (hw : 4 ≤ ww ∧ ww ≤ 40) (hT : okTx tx) (cT : cTx σ tx) (hE : okEn tx en) (cE : cEn σ en) (hok : ∀ e ∈ en, okLoc (enL e) (enM e)) (hg : cTg σ tx tg) (hg2 : okTg tx tg) (ha : a < en.length)
    (K : ∀ σ', chg lcR noC σ σ' → post (.inl (some (mI (lnE tg ww (en.getD a enD))))) σ') : Tr Ls N 202 0 [some (mP (some 2)), some (mP (some (360 + 5 * a))), none] [] σ post := by
  have hE24 := hE.1
  have hT30 := hT.1
  have he := hE.2.1 _ (en_mem ha)
  have htt := he.1
  have htx := okTx_get hT he.1
  have hk := hok _ (en_mem ha)
  have hlen := lenE_in hg2 he.1 hk
  have hgl := grpL_len hk.1 hk.2.1
  have hgl10 := hk.2.2.2.2.1
  have hp24 := popN_le (enO (en.getD a enD)) 24
  have ht := e_E (i := a) (by omega)
  have htg := hg2 _ he.1
  have hO : enO (en.getD a enD) < 16777216 := Nat.lt_of_lt_of_le he.2.2.2.2.2.2 (show 2 ^ en.length ≤ 2 ^ 24 from Nat.pow_le_pow_right (by decide) hE24)
  have hpr := okPr_in hE a ha
  rw [prE_iff] at hpr
  have c1 := cE.2.1 a ha
  have c2 := cE.2.2 a (by omega)
  iterate 1 (refine tr_mv rfl (fun _ => rfl) ?_)
  refine tr_gr rfl ⟨by decide, rfl⟩ (by decide) rfl ?_
  iterate 2 (refine tr_mv rfl (fun _ => rfl) ?_)
  refine tr_vc (q := (360 + 5 * a)) rfl (E_O ht) rfl rfl rfl (s_50 ht ?_)
  rw [c1.1]
  refine tr_vc (q := 2) rfl ⟨by decide, by decide +kernel⟩ rfl rfl rfl (s_169 (p := enT (en.getD a enD)) (by omega) ?_)
  iterate 1 (refine tr_mv rfl (fun _ => rfl) ?_)
  refine tr_gr rfl ⟨by decide, rfl⟩ (by decide) rfl ?_
  refine tr_vc (q := 3) rfl ⟨by decide, by decide +kernel⟩ rfl rfl rfl (s_23 (r_T (by omega)) r_142 (by omega) hg.1 hg.2.1 (by rw [cT.2 _ htt]; omega) ?_)
  rw [cT.2 _ htt, hg.2.2 _ htt]
  obtain ⟨σ1, h1⟩ : ∃ σ1, σ1 = setR σ 142 (tg (enT (en.getD a enD))) := ⟨_, rfl⟩
  rw [← h1]
  have o1 : chg lcR noC σ σ1 := by rw [h1]; exact chg.rf.setR (Or.inl rfl)
  have q142 : σ1.1 142 = tg (enT (en.getD a enD)) := by rw [h1, setR_same]
  iterate 1 (refine tr_mv rfl (fun _ => rfl) ?_)
  refine tr_gr rfl ⟨by decide, rfl⟩ (by decide) rfl ?_
  iterate 1 (refine tr_mv rfl (fun _ => rfl) ?_)
  refine tr_vc (q := (360 + 5 * a)) rfl (E_O ht) rfl rfl rfl (s_59 ht ?_)
  refine tr_vc (q := 146) rfl ⟨by decide, by decide +kernel⟩ rfl rfl rfl (s_74 (E_r5 ht) (by omega) ((o1.1 _ (by omega)).trans c2.2.2.2.2) hk.2.1 hgl10 (fun σ2 g1 g2 => ?_))
  have o2 : chg lcR noC σ σ2 := o1.tr (g2.wk (fun a h => Or.inr h) (fun q i h => h))
  have v2 : ∀ q i, σ2.2 q i = σ.2 q i := fun q i => o2.2 _ _ (fun g => g)
  have w142 : σ2.1 142 = tg (enT (en.getD a enD)) := (g2.1 _ (by omega)).trans q142
  iterate 1 (refine tr_mv rfl (fun _ => rfl) ?_)
  refine tr_gr rfl ⟨by decide, rfl⟩ (by decide) rfl ?_
  refine tr_size r_142 rfl rfl ?_
  rw [w142]
  iterate 2 (refine tr_mv rfl (fun _ => rfl) ?_)
  refine tr_gr rfl ⟨by decide, rfl⟩ (by decide) rfl ?_
  refine tr_vc (q := 146) rfl ⟨by decide, by decide +kernel⟩ rfl rfl rfl (s_72 g1 ?_)
  iterate 4 (refine tr_mv rfl (fun _ => rfl) ?_)
  refine tr_vc (q := (360 + 5 * a)) rfl (E_O ht) rfl rfl rfl (s_69 ht ((v2 _ _).trans c2.2.2.2.1) hO ?_)
  iterate 5 (refine tr_mv rfl (fun _ => rfl) ?_)
  refine tr_vc (q := (360 + 5 * a)) rfl (E_O ht) rfl rfl rfl (s_57 ht (by rw [v2, c2.1]; have := he.2.2.1; omega) ?_)
  rw [v2, c2.1]
  -- the last step, with what is counted on top
  have fin : ∀ v, v = lenE tg (en.getD a enD) → Tr Ls N 202 101 [some (mP (some 2)), some (mP (some (360 + 5 * a))), some (mI v)] [] σ2 post := by
    intro v hv
    iterate 2 (refine tr_mv rfl (fun _ => rfl) ?_)
    refine tr_gi rfl (by decide) ⟨by decide, by decide +kernel⟩ (by decide) (by decide +kernel) rfl ?_
    rw [v2, cw]
    iterate 4 (refine tr_mv rfl (fun _ => rfl) ?_)
    refine tr_gi rfl (by decide) ⟨by decide, by decide +kernel⟩ (by decide) (by decide +kernel) rfl ?_
    rw [v2, cw]
    iterate 1 (refine tr_mv rfl (fun _ => rfl) ?_)
    refine tr_stat rfl rfl rfl (s_329 (x := ww) (y := 1) (by omega) (by decide) ?_)
    rw [if_neg (by omega)]
    refine tr_div (by omega) (by omega) rfl ?_
    exact tr_ri rfl (by rw [hv]; rfl) (K σ2 o2)
  have t87 : ∀ v, v + (if enP (en.getD a enD) ≠ -1 then 2 else 0) = lenE tg (en.getD a enD) → Tr Ls N 202 86 [some (mP (some 2)), some (mP (some (360 + 5 * a))), some (mI v)] [] σ2 post := by
    intro v hv
    iterate 2 (refine tr_mv rfl (fun _ => rfl) ?_)
    refine tr_vc (q := (360 + 5 * a)) rfl (E_O ht) rfl rfl rfl (s_52 ht (by rw [v2, c1.2.1]; exact hpr) ?_)
    rw [v2, c1.2.1]
    first | refine tr_ib rfl (fun g3 => ?_) (fun g3 => ?_) | refine tr_ibn rfl (fun g3 => ?_) (fun g3 => ?_)
    · rw [if_neg g3] at hv
      iterate 3 (refine tr_mv rfl (fun _ => rfl) ?_)
      exact fin _ hv
    · rw [if_pos g3] at hv
      iterate 4 (refine tr_mv rfl (fun _ => rfl) ?_)
      exact fin _ hv
  have t70 : ∀ v, v + (if enX (en.getD a enD) ≠ -1 then 5 else 0) + (if enP (en.getD a enD) ≠ -1 then 2 else 0) = lenE tg (en.getD a enD) → Tr Ls N 202 70 [some (mP (some 2)), some (mP (some (360 + 5 * a))), some (mI v)] [] σ2 post := by
    intro v hv
    iterate 2 (refine tr_mv rfl (fun _ => rfl) ?_)
    refine tr_vc (q := (360 + 5 * a)) rfl (E_O ht) rfl rfl rfl (s_67 ht ?_)
    rw [v2, c2.2.2.1]
    iterate 1 (refine tr_mv rfl (fun _ => rfl) ?_)
    have hr := he.2.2.2.2.2.1
    refine tr_cmp2 rfl (m32_of (by omega)) (m32_of (by omega)) (fun g3 => ?_) (fun g3 => ?_)
    · have g4 : enX (en.getD a enD) = -1 := g3
      rw [if_neg (fun g => g g4)] at hv
      iterate 3 (refine tr_mv rfl (fun _ => rfl) ?_)
      exact t87 _ hv
    · have g4 : ¬ enX (en.getD a enD) = -1 := g3
      rw [if_pos g4] at hv
      iterate 4 (refine tr_mv rfl (fun _ => rfl) ?_)
      exact t87 _ hv
  have hform : lenE tg (en.getD a enD) = ((tg (enT (en.getD a enD))).length : Int) + 3 * ((grpL (enL (en.getD a enD))).length : Int) + 3 * (popN 24 (enO (en.getD a enD)) : Int) + (if enK (en.getD a enD) = 2 then 1 else 0) + (if enX (en.getD a enD) ≠ -1 then 5 else 0) + (if enP (en.getD a enD) ≠ -1 then 2 else 0) := rfl
  first | refine tr_ib rfl (fun g3 => ?_) (fun g3 => ?_) | refine tr_ibn rfl (fun g3 => ?_) (fun g3 => ?_)
  · rw [if_neg g3] at hform
    iterate 3 (refine tr_mv rfl (fun _ => rfl) ?_)
    exact t70 _ hform.symm
  · rw [if_pos g3] at hform
    iterate 4 (refine tr_mv rfl (fun _ => rfl) ?_)
    exact t70 _ hform.symm
end CCOLS
