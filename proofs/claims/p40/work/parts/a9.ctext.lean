/-! The class: signs, texts, what is asked of texts. -/
def cBM (σ : Sg) (B M : Int → Int) : Prop := bOf σ = B ∧ kOf σ = M
def okBM (B M : Int → Int) : Prop := okB B M ∧ injB B M ∧ (∀ s, in32 (B s)) ∧ (∀ s, in32 (M s)) ∧ ∀ s, ¬ (40 ≤ s ∧ s < 48) → B s = -1
def apA (B M : Int → Int) (ds : List Int) : List Int := sorted1 (ds.flatMap (apart1 B M))
/-- how many signs are composed -/
def cnB (B : Int → Int) : Nat → Nat
  | 0 => 0
  | n + 1 => cnB B n + (if B (40 + (n : Int)) ≠ -1 then 1 else 0)
abbrev isSg (B : Int → Int) (x : Int) : Prop := (0 ≤ x ∧ x < 40) ∨ B x ≠ -1
abbrev cmOk (B : Int → Int) (i x y : Int) : Prop := (40 ≤ i ∧ i < 48) ∧ (isLet x ∨ isLet (B x)) ∧ isMrk y
theorem s3c : isO 3 1 := ⟨by decide, by decide +kernel⟩
theorem a4c : mShp[4]? = some (0, 48) ∧ rowC 4 = false ∧ mShp[5]? = some (0, 48) ∧ rowC 5 = false ∧ rowC 3 = false := by decide +kernel
section CTEXT
variable {Ls N k pc n n' nn b c t a q d p X T F kd w : Nat} {L L0 : mLs} {st r as : List mV} {h h' : mH} {σ σ' σ'' : Sg} {post : tP} {x y z x' y' i i' s v m u how it : Int} {xs ys is ans an ds dA ss ss2 : List Int} {e : mE} {C : Nat → Nat → Prop} {D : TD} {R RF : RuT} {Rr : Nat → Prop} {tx : List (List Int)} {en : List EnT} {D3 : Nat → TD} {o : Nat → Int} {o3 : Nat → Nat → Int} {R3 : Nat → RuT} {B M : Int → Int}
theorem s_128 (hB : cBM σ B M) (hB2 : okBM B M) (hd : σ.1 6 = ds) (hl : ds.length ≤ 10) (hx : in32 x)
    (K1 : ¬ isSg B x → post (.inr 0) σ) (K2 : isSg B x → ds.length = 10 → post (.inr 2) σ) (K3 : isSg B x → ds.length < 10 → post (.inl (some (mI ((ds.length : Int) + 1)))) (setR σ 6 (ds ++ [x]))) :
    Tr Ls (N + 1) 128 0 [some (mP (some 2)), some (mI x)] [] σ post := by
  iterate 2 (refine tr_mv rfl (fun _ => rfl) ?_)
  refine tr_vc (q := 2) rfl ⟨by decide, by decide +kernel⟩ rfl rfl rfl (s_165 hx (by rw [hB.1]; exact hB2.2.2.1 x) ?_)
  rw [hB.1]
  first | refine tr_ib rfl (fun g1 => ?_) (fun g1 => ?_) | refine tr_ibn rfl (fun g1 => ?_) (fun g1 => ?_)
  · iterate 1 (refine tr_mv rfl (fun _ => rfl) ?_)
    refine tr_gr rfl ⟨by decide, by decide +kernel⟩ (by decide) rfl ?_
    refine tr_size r_6 rfl rfl ?_
    rw [hd]
    iterate 1 (refine tr_mv rfl (fun _ => rfl) ?_)
    refine tr_cmp2 rfl (m32_of (by omega)) (m32_of (by omega)) (fun g2 => ?_) (fun g2 => ?_)
    · have g3 : (ds.length : Int) < 10 := g2
      iterate 1 (refine tr_mv rfl (fun _ => rfl) ?_)
      refine tr_gr rfl ⟨by decide, by decide +kernel⟩ (by decide) rfl ?_
      iterate 1 (refine tr_mv rfl (fun _ => rfl) ?_)
      refine tr_put r_6 hx rfl rfl ?_
      rw [hd, rput_lt (by omega)]
      iterate 1 (refine tr_mv rfl (fun _ => rfl) ?_)
      refine tr_gr rfl ⟨by decide, by decide +kernel⟩ (by decide) rfl ?_
      refine tr_size r_6 rfl rfl ?_
      rw [setR_same]
      exact tr_ri rfl (by simp) (K3 g1 (by omega))
    · have g3 : ¬ (ds.length : Int) < 10 := g2
      exact tr_throw rfl (K2 g1 (by omega))
  · exact tr_throw rfl (K1 g1)
theorem s_18 (hi : 0 ≤ i ∧ i < 48) (K : post (.inl none) (setF (setF (setF σ 4 i.toNat x) 5 i.toNat y) 3 2 (σ.2 3 2 + 1))) : Tr Ls N 18 0 [some (mP (some 3)), some (mI i), some (mI x), some (mI y)] [] σ post := by
  iterate 1 (refine tr_mv rfl (fun _ => rfl) ?_)
  refine tr_if2 rfl (m32_of (by omega)) (fun g => absurd (show i < 0 from g) (by omega)) (fun _ => ?_)
  iterate 2 (refine tr_mv rfl (fun _ => rfl) ?_)
  refine tr_cmp2 rfl (m32_of (by omega)) (m32_of (x := 48) ⟨by decide, by decide⟩) (fun g => absurd (show (48 : Int) ≤ i from g) (by omega)) (fun _ => ?_)
  iterate 1 (refine tr_mv rfl (fun _ => rfl) ?_)
  refine tr_gr rfl s3c (by decide) rfl ?_
  iterate 2 (refine tr_mv rfl (fun _ => rfl) ?_)
  refine tr_is2 (kd := 0) (nn := 48) (i' := i) (m32_of (by omega)) (by omega) rfl (fun _ => rfl) a4c.1 (by decide) a4c.2.1 (mPtr_arr a4c.1 (by decide)) ?_
  iterate 1 (refine tr_mv rfl (fun _ => rfl) ?_)
  refine tr_gr rfl s3c (by decide) rfl ?_
  iterate 2 (refine tr_mv rfl (fun _ => rfl) ?_)
  refine tr_is2 (kd := 0) (nn := 48) (i' := i) (m32_of (by omega)) (by omega) rfl (fun _ => rfl) a4c.2.2.1 (by decide) a4c.2.2.2.1 (mPtr_arr a4c.2.2.1 (by decide)) ?_
  iterate 2 (refine tr_mv rfl (fun _ => rfl) ?_)
  refine tr_gi rfl (by decide) s3c (by decide) a4c.2.2.2.2 rfl ?_
  rw [setF_ne _ _ (by omega), setF_ne _ _ (by omega)]
  iterate 2 (refine tr_mv rfl (fun _ => rfl) ?_)
  refine tr_pi rfl (Or.inl rfl) s3c (by decide) a4c.2.2.2.2 rfl ?_
  exact tr_ret rfl (fun _ => rfl) K
theorem s_129 (hB : cBM σ B M) (hB2 : okBM B M) (hc : σ.2 3 2 = (n : Int)) (hi : in32 i) (hx : in32 x) (hy : in32 y)
    (K1 : ¬ cmOk B i x y → post (.inr 0) σ) (K2 : cmOk B i x y → (B i ≠ -1 ∨ cof B M x y ≠ -1) → post (.inr 2) σ) (K3 : cmOk B i x y → B i = -1 → cof B M x y = -1 → post (.inl (some (mI ((n : Int) + 1)))) (setF (setF (setF σ 4 i.toNat x) 5 i.toNat y) 3 2 ((n : Int) + 1))) :
    Tr Ls (N + 1) 129 0 [some (mP (some 2)), some (mI i), some (mI x), some (mI y)] [] σ post := by
  have h3 := hB2.2.2.1
  have h4 := hB2.2.2.2.1
  iterate 2 (refine tr_mv rfl (fun _ => rfl) ?_)
  refine tr_cmp2 rfl (m32_of (by omega)) (m32_of (by omega)) (fun g1 => ?_) (fun g1 => ?_)
  · have g2 : i < 40 := g1
    exact tr_throw rfl (K1 (fun g => by have := g.1; omega))
  · have g2 : ¬ i < 40 := g1
    iterate 2 (refine tr_mv rfl (fun _ => rfl) ?_)
    refine tr_cmp2 rfl (m32_of (by omega)) (m32_of (by omega)) (fun g3 => ?_) (fun g3 => ?_)
    · have g4 : 48 ≤ i := g3
      exact tr_throw rfl (K1 (fun g => by have := g.1; omega))
    · have g4 : ¬ 48 ≤ i := g3
      iterate 1 (refine tr_mv rfl (fun _ => rfl) ?_)
      refine tr_gr rfl ⟨by decide, by decide +kernel⟩ (by decide) rfl ?_
      iterate 1 (refine tr_mv rfl (fun _ => rfl) ?_)
      refine tr_vc (q := 3) rfl s3c rfl rfl rfl (s_17 hx (by rw [hB.1]; exact h3 x) ?_)
      rw [hB.1]
      first | refine tr_ib rfl (fun g5 => ?_) (fun g5 => ?_) | refine tr_ibn rfl (fun g5 => ?_) (fun g5 => ?_)
      · exact tr_throw rfl (K1 (fun g => g5 g.2.1))
      · iterate 1 (refine tr_mv rfl (fun _ => rfl) ?_)
        refine tr_stat rfl rfl rfl (s_179 hy ?_)
        first | refine tr_ib rfl (fun g6 => ?_) (fun g6 => ?_) | refine tr_ibn rfl (fun g6 => ?_) (fun g6 => ?_)
        · have hC : cmOk B i x y := ⟨by omega, g5, g6⟩
          iterate 1 (refine tr_mv rfl (fun _ => rfl) ?_)
          refine tr_gr rfl ⟨by decide, by decide +kernel⟩ (by decide) rfl ?_
          iterate 1 (refine tr_mv rfl (fun _ => rfl) ?_)
          refine tr_vc (q := 3) rfl s3c rfl rfl rfl (s_14 hi (by rw [hB.1]; exact h3 i) ?_)
          rw [hB.1]
          first | refine tr_ib rfl (fun g7 => ?_) (fun g7 => ?_) | refine tr_ibn rfl (fun g7 => ?_) (fun g7 => ?_)
          · exact tr_throw rfl (K2 hC (Or.inl g7))
          · iterate 1 (refine tr_mv rfl (fun _ => rfl) ?_)
            refine tr_gr rfl ⟨by decide, by decide +kernel⟩ (by decide) rfl ?_
            iterate 2 (refine tr_mv rfl (fun _ => rfl) ?_)
            refine tr_vc (q := 3) rfl s3c rfl rfl rfl (s_19 hx hy (by rw [hB.1]; exact h3) (by rw [hB.2]; exact h4) ?_)
            rw [hB.1, hB.2]
            have hco := cof_or B M x y
            iterate 1 (refine tr_mv rfl (fun _ => rfl) ?_)
            refine tr_cmp2 rfl (m32_of (by omega)) (m32_of (by omega)) (fun g8 => ?_) (fun g8 => ?_)
            · iterate 1 (refine tr_mv rfl (fun _ => rfl) ?_)
              refine tr_gr rfl ⟨by decide, by decide +kernel⟩ (by decide) rfl ?_
              iterate 3 (refine tr_mv rfl (fun _ => rfl) ?_)
              refine tr_vc (q := 3) rfl s3c rfl rfl rfl (s_18 (by omega) ?_)
              rw [hc]
              iterate 1 (refine tr_mv rfl (fun _ => rfl) ?_)
              refine tr_gr rfl ⟨by decide, by decide +kernel⟩ (by decide) rfl ?_
              refine tr_vc (q := 3) rfl s3c rfl rfl rfl (s_13 ?_)
              rw [setF_same]
              exact tr_ri rfl rfl (K3 hC (Decidable.of_not_not g7) g8)
            · exact tr_throw rfl (K2 hC (Or.inr g8))
        · exact tr_throw rfl (K1 (fun g => g6 g.2.2))
theorem s_130 (hd : cDr σ ds dA) (hd2 : okDr ds dA) (hT : okTx tx) (cT : cTx σ tx)
    (K1 : (ds = [] ∨ tx.length = 30) → post (.inr 2) σ) (K2 : ∀ σ', ds ≠ [] → tx.length < 30 → cTx σ' (tx ++ [dA]) → σ'.1 6 = [] → chg (fun r => r = 6 ∨ r = 153 + 4 * tx.length) (fun q l => q = 2 ∧ l = 4) σ σ' → post (.inl (some (mI (tx.length : Int)))) σ') :
    Tr Ls (N + 1) 130 0 [some (mP (some 2))] [] σ post := by
  have hT30 := hT.1
  obtain ⟨dd1, dd2, dd3, dd4⟩ := hd
  obtain ⟨dk1, dk2, dk3, dk4⟩ := hd2
  iterate 1 (refine tr_mv rfl (fun _ => rfl) ?_)
  refine tr_gr rfl ⟨by decide, by decide +kernel⟩ (by decide) rfl ?_
  refine tr_isEmpty r_6 rfl rfl ?_
  rw [dd1]
  by_cases g1 : ds = []
  · rw [if_pos g1]
    iterate 1 (refine tr_mv rfl (fun _ => rfl) ?_)
    exact tr_throw rfl (K1 (Or.inl g1))
  · rw [if_neg g1]
    iterate 2 (refine tr_mv rfl (fun _ => rfl) ?_)
    refine tr_gi rfl (by decide) ⟨by decide, by decide +kernel⟩ (by decide) (by decide +kernel) rfl ?_
    rw [cT.1]
    iterate 1 (refine tr_mv rfl (fun _ => rfl) ?_)
    refine tr_cmp2 rfl (m32_of (by omega)) (m32_of (by omega)) (fun g2 => ?_) (fun g2 => ?_)
    · have g3 : (tx.length : Int) < 30 := g2
      iterate 1 (refine tr_mv rfl (fun _ => rfl) ?_)
      refine tr_gr rfl ⟨by decide, by decide +kernel⟩ (by decide) rfl ?_
      iterate 1 (refine tr_mv rfl (fun _ => rfl) ?_)
      refine tr_gr rfl ⟨by decide, by decide +kernel⟩ (by decide) rfl ?_
      iterate 2 (refine tr_mv rfl (fun _ => rfl) ?_)
      refine tr_gi rfl (by decide) ⟨by decide, by decide +kernel⟩ (by decide) (by decide +kernel) rfl ?_
      rw [cT.1]
      refine tr_vc (q := 2) rfl ⟨by decide, by decide +kernel⟩ rfl rfl rfl (s_169 (p := tx.length) (by omega) ?_)
      refine tr_vc (q := 3) rfl s3c rfl rfl rfl (s_20 r_6 (r_T (by omega)) (by omega) dd2 dd3 (by rw [dd1]; omega) ?_)
      rw [dd1, dd4]
      iterate 1 (refine tr_mv rfl (fun _ => rfl) ?_)
      refine tr_gr rfl ⟨by decide, by decide +kernel⟩ (by decide) rfl ?_
      refine tr_clear r_6 rfl rfl ?_
      iterate 2 (refine tr_mv rfl (fun _ => rfl) ?_)
      refine tr_gi rfl (by decide) ⟨by decide, by decide +kernel⟩ (by decide) (by decide +kernel) rfl ?_
      rw [show (setR (setR σ (153 + 4 * tx.length) dA) 6 []).2 2 4 = (tx.length : Int) from cT.1]
      iterate 2 (refine tr_mv rfl (fun _ => rfl) ?_)
      refine tr_pi rfl (Or.inl rfl) ⟨by decide, by decide +kernel⟩ (by decide) (by decide +kernel) rfl ?_
      obtain ⟨S, hS⟩ : ∃ S, S = setF (setR (setR σ (153 + 4 * tx.length) dA) 6 []) 2 4 ((tx.length : Int) + 1) := ⟨_, rfl⟩
      rw [← hS]
      have f4 : S.2 2 4 = (tx.length : Int) + 1 := by rw [hS, setF_same]
      have f6 : S.1 6 = [] := by rw [hS]; exact setR_same (setR σ (153 + 4 * tx.length) dA) 6 []
      have fT : S.1 (153 + 4 * tx.length) = dA := by
        rw [hS]
        show (setR (setR σ (153 + 4 * tx.length) dA) 6 []).1 (153 + 4 * tx.length) = dA
        rw [setR_ne _ _ (by omega), setR_same]
      have oS : chg (fun r => r = 6 ∨ r = 153 + 4 * tx.length) (fun q l => q = 2 ∧ l = 4) σ S := by
        rw [hS]
        exact ((chg.rf.setR (Or.inr rfl)).setR (Or.inl rfl)).setF ⟨rfl, rfl⟩
      iterate 1 (refine tr_mv rfl (fun _ => rfl) ?_)
      refine tr_gi rfl (by decide) ⟨by decide, by decide +kernel⟩ (by decide) (by decide +kernel) rfl ?_
      rw [f4]
      iterate 2 (refine tr_mv rfl (fun _ => rfl) ?_)
      refine tr_ri rfl (by omega) (K2 S g1 (by omega) ⟨by rw [f4]; simp, fun l hl => ?_⟩ f6 oS)
      rw [List.length_append, List.length_singleton] at hl
      by_cases g : l = tx.length
      · rw [g, fT, List.getD_eq_getElem?_getD, List.getElem?_append_right (Nat.le_refl _)]
        simp
      · rw [oS.1 _ (by omega), List.getD_eq_getElem?_getD, List.getElem?_append_left (by omega), ← List.getD_eq_getElem?_getD]
        exact cT.2 l (by omega)
    · have g3 : ¬ (tx.length : Int) < 30 := g2
      exact tr_throw rfl (K1 (Or.inr (by omega)))
theorem s_131 (hd : σ.1 6 = ds) (K : post (.inl (some (mI (ds.length : Int)))) (setR σ 6 [])) : Tr Ls N 131 0 [some (mP (some 2)), none] [] σ post := by
  iterate 1 (refine tr_mv rfl (fun _ => rfl) ?_)
  refine tr_gr rfl ⟨by decide, by decide +kernel⟩ (by decide) rfl ?_
  refine tr_size r_6 rfl rfl ?_
  rw [hd]
  iterate 2 (refine tr_mv rfl (fun _ => rfl) ?_)
  refine tr_gr rfl ⟨by decide, by decide +kernel⟩ (by decide) rfl ?_
  refine tr_clear r_6 rfl rfl ?_
  iterate 1 (refine tr_mv rfl (fun _ => rfl) ?_)
  exact tr_ri rfl rfl K
theorem s_132 (hd : cDr σ ds dA) (hd2 : okDr ds dA) (K1 : ds = [] → post (.inr 2) σ) (K2 : ds ≠ [] → post (.inl (some (mI (dA.length : Int)))) (setR (setR σ 8 dA) 6 [])) : Tr Ls (N + 1) 132 0 [some (mP (some 2))] [] σ post := by
  obtain ⟨dd1, dd2, dd3, dd4⟩ := hd
  obtain ⟨dk1, dk2, dk3, dk4⟩ := hd2
  iterate 1 (refine tr_mv rfl (fun _ => rfl) ?_)
  refine tr_gr rfl ⟨by decide, by decide +kernel⟩ (by decide) rfl ?_
  refine tr_isEmpty r_6 rfl rfl ?_
  rw [dd1]
  by_cases g1 : ds = []
  · rw [if_pos g1]
    iterate 1 (refine tr_mv rfl (fun _ => rfl) ?_)
    exact tr_throw rfl (K1 g1)
  · rw [if_neg g1]
    iterate 2 (refine tr_mv rfl (fun _ => rfl) ?_)
    refine tr_gr rfl ⟨by decide, by decide +kernel⟩ (by decide) rfl ?_
    iterate 1 (refine tr_mv rfl (fun _ => rfl) ?_)
    refine tr_gr rfl ⟨by decide, by decide +kernel⟩ (by decide) rfl ?_
    iterate 1 (refine tr_mv rfl (fun _ => rfl) ?_)
    refine tr_gr rfl ⟨by decide, by decide +kernel⟩ (by decide) rfl ?_
    refine tr_vc (q := 3) rfl s3c rfl rfl rfl (s_20 r_6 r_8 (by decide) dd2 dd3 (by rw [dd1]; omega) ?_)
    rw [dd1, dd4]
    iterate 1 (refine tr_mv rfl (fun _ => rfl) ?_)
    refine tr_gr rfl ⟨by decide, by decide +kernel⟩ (by decide) rfl ?_
    refine tr_clear r_6 rfl rfl ?_
    iterate 1 (refine tr_mv rfl (fun _ => rfl) ?_)
    refine tr_gr rfl ⟨by decide, by decide +kernel⟩ (by decide) rfl ?_
    refine tr_size r_8 rfl rfl ?_
    rw [setR_ne _ _ (by decide), setR_same]
    exact tr_ri rfl rfl (K2 g1)
theorem s_148 (hT : okTx tx) (cT : cTx σ tx) {tg : Nat → List Int} (hg : cTg σ tx tg) (hi : in32 i) (hy : y = 0 ∨ y = 1) (hz : in32 z)
    (K1 : ¬ ((0 ≤ i ∧ i < (tx.length : Int)) ∧ 0 ≤ z) → post (.inr 0) σ)
    (K2 : ∀ a : Nat, i = (a : Int) → a < tx.length → 0 ≤ z → y = 1 → post (.inl (some (mI (rget (tx.getD a []) z)))) σ)
    (K3 : ∀ a : Nat, i = (a : Int) → a < tx.length → 0 ≤ z → y = 0 → post (.inl (some (mI (rget (tg a) z)))) (setR σ 142 (tg a))) :
    Tr Ls (N + 1) 148 0 [some (mP (some 2)), some (mI i), some (mI y), some (mI z)] [] σ post := by
  have hT30 := hT.1
  iterate 2 (refine tr_mv rfl (fun _ => rfl) ?_)
  refine tr_vc (q := 2) rfl ⟨by decide, by decide +kernel⟩ rfl rfl rfl (s_166 hi (by rw [cT.1]; omega) ?_)
  rw [cT.1]
  first | refine tr_ib rfl (fun g1 => ?_) (fun g1 => ?_) | refine tr_ibn rfl (fun g1 => ?_) (fun g1 => ?_)
  · exact tr_throw rfl (K1 (fun g => g1 g.1))
  · iterate 1 (refine tr_mv rfl (fun _ => rfl) ?_)
    refine tr_if2 rfl (m32_of (by omega)) (fun g2 => ?_) (fun g2 => ?_)
    · have g3 : 0 ≤ z := g2
      obtain ⟨a, rfl⟩ : ∃ a : Nat, i = (a : Int) := ⟨i.toNat, by omega⟩
      have ha : a < tx.length := by omega
      have htx := okTx_get hT ha
      iterate 1 (refine tr_mv rfl (fun _ => rfl) ?_)
      refine tr_if2 rfl (m32_of (by omega)) (fun g4 => ?_) (fun g4 => ?_)
      · have g5 : y = 0 := g4
        iterate 1 (refine tr_mv rfl (fun _ => rfl) ?_)
        refine tr_gr rfl ⟨by decide, by decide +kernel⟩ (by decide) rfl ?_
        iterate 2 (refine tr_mv rfl (fun _ => rfl) ?_)
        refine tr_vc (q := 2) rfl ⟨by decide, by decide +kernel⟩ rfl rfl rfl (s_169 (p := a) (by omega) ?_)
        iterate 1 (refine tr_mv rfl (fun _ => rfl) ?_)
        refine tr_gr rfl ⟨by decide, by decide +kernel⟩ (by decide) rfl ?_
        refine tr_vc (q := 3) rfl s3c rfl rfl rfl (s_23 (r_T (by omega)) r_142 (by omega) hg.1 hg.2.1 (by rw [cT.2 _ ha]; omega) ?_)
        rw [cT.2 _ ha, hg.2.2 _ ha]
        iterate 1 (refine tr_mv rfl (fun _ => rfl) ?_)
        refine tr_gr rfl ⟨by decide, by decide +kernel⟩ (by decide) rfl ?_
        iterate 1 (refine tr_mv rfl (fun _ => rfl) ?_)
        refine tr_at2 r_142 (m32_of hz) rfl rfl ?_
        rw [setR_same]
        exact tr_ri rfl rfl (K3 a rfl ha g3 g5)
      · have g5 : ¬ y = 0 := g4
        iterate 2 (refine tr_mv rfl (fun _ => rfl) ?_)
        refine tr_vc (q := 2) rfl ⟨by decide, by decide +kernel⟩ rfl rfl rfl (s_169 (p := a) (by omega) ?_)
        iterate 1 (refine tr_mv rfl (fun _ => rfl) ?_)
        refine tr_at2 (r_T (by omega)) (m32_of hz) rfl rfl ?_
        rw [cT.2 _ ha]
        exact tr_ri rfl rfl (K2 a rfl ha g3 (by omega))
    · have g3 : ¬ 0 ≤ z := g2
      exact tr_throw rfl (K1 (fun g => g3 g.2))
theorem s_146 (hx : in32 x) (hy : in32 y) (K1 : ¬ ((4 ≤ x ∧ x ≤ 40) ∧ 4 ≤ y ∧ y ≤ 40) → post (.inr 1) σ) (K2 : ((4 ≤ x ∧ x ≤ 40) ∧ 4 ≤ y ∧ y ≤ 40) → post (.inl (some (mI (σ.2 2 13)))) (setF (setF σ 2 13 x) 2 14 y)) : Tr Ls (N + 1) 146 0 [some (mP (some 2)), some (mI x), some (mI y), none] [] σ post := by
  iterate 1 (refine tr_mv rfl (fun _ => rfl) ?_)
  refine tr_stat rfl rfl rfl (s_177 hx ?_)
  first | refine tr_ib rfl (fun g1 => ?_) (fun g1 => ?_) | refine tr_ibn rfl (fun g1 => ?_) (fun g1 => ?_)
  · exact tr_throw rfl (K1 (fun g => g1 g.1))
  · iterate 1 (refine tr_mv rfl (fun _ => rfl) ?_)
    refine tr_stat rfl rfl rfl (s_177 hy ?_)
    first | refine tr_ib rfl (fun g2 => ?_) (fun g2 => ?_) | refine tr_ibn rfl (fun g2 => ?_) (fun g2 => ?_)
    · iterate 1 (refine tr_mv rfl (fun _ => rfl) ?_)
      refine tr_gi rfl (by decide) ⟨by decide, by decide +kernel⟩ (by decide) (by decide +kernel) rfl ?_
      iterate 3 (refine tr_mv rfl (fun _ => rfl) ?_)
      refine tr_pi rfl (Or.inl rfl) ⟨by decide, by decide +kernel⟩ (by decide) (by decide +kernel) rfl ?_
      iterate 2 (refine tr_mv rfl (fun _ => rfl) ?_)
      refine tr_pi rfl (Or.inl rfl) ⟨by decide, by decide +kernel⟩ (by decide) (by decide +kernel) rfl ?_
      iterate 1 (refine tr_mv rfl (fun _ => rfl) ?_)
      exact tr_ri rfl rfl (K2 ⟨g1, g2⟩)
    · exact tr_throw rfl (K1 (fun g => g2 g.2))
theorem s_147 (cT : cTx σ tx) (K : post (.inl (some (mI (tx.length : Int)))) σ) : Tr Ls N 147 0 [some (mP (some 2))] [] σ post := by
  iterate 1 (refine tr_mv rfl (fun _ => rfl) ?_)
  refine tr_gi rfl (by decide) ⟨by decide, by decide +kernel⟩ (by decide) (by decide +kernel) rfl ?_
  rw [cT.1]
  exact tr_ri rfl rfl K
theorem s_156 (cE : cEn σ en) (K : post (.inl (some (mI (en.length : Int)))) σ) : Tr Ls N 156 0 [some (mP (some 2))] [] σ post := by
  iterate 1 (refine tr_mv rfl (fun _ => rfl) ?_)
  refine tr_gi rfl (by decide) ⟨by decide, by decide +kernel⟩ (by decide) (by decide +kernel) rfl ?_
  rw [cE.1]
  exact tr_ri rfl rfl K
theorem s_149 (hR3 : ∀ X, X < 3 → cRl (273 + 29 * X) σ (R3 X) ∧ okRu (D3 X) (R3 X)) (hi : in32 i) (K1 : ¬ (0 ≤ i ∧ i < 3) → post (.inr 0) σ) (K2 : ∀ X : Nat, i = (X : Int) → X < 3 → post (.inl (some (mI ((R3 X).length : Int)))) σ) : Tr Ls (N + 1) 149 0 [some (mP (some 2)), some (mI i)] [] σ post := by
  iterate 1 (refine tr_mv rfl (fun _ => rfl) ?_)
  refine tr_stat rfl rfl rfl (s_174 hi ?_)
  first | refine tr_ib rfl (fun g1 => ?_) (fun g1 => ?_) | refine tr_ibn rfl (fun g1 => ?_) (fun g1 => ?_)
  · obtain ⟨X, rfl⟩ : ∃ X : Nat, i = (X : Int) := ⟨i.toNat, by omega⟩
    have hX : X < 3 := by omega
    iterate 1 (refine tr_mv rfl (fun _ => rfl) ?_)
    refine tr_gr rfl ⟨by decide, by decide +kernel⟩ (by decide) rfl ?_
    iterate 1 (refine tr_mv rfl (fun _ => rfl) ?_)
    refine tr_aan (d := X) (w := (273 + 29 * X)) (nn := 3) rfl hX (by decide) rfl (by decide +kernel) (by decide) (F_3 X hX).1 ?_
    refine tr_vc (q := (273 + 29 * X)) rfl (T_O (t_Tl hX)) rfl rfl rfl (s_111 (t_Tl hX) ?_)
    rw [(hR3 X hX).1.1, List.length_map]
    exact tr_ri rfl rfl (K2 X rfl hX)
  · exact tr_throw rfl (K1 g1)
theorem s_150 (hX3 : cX3 σ tx en D3 o3) (hi : in32 i) (hx : in32 x) (K1 : ¬ (0 ≤ i ∧ i < 3) → post (.inr 0) σ) (K2 : ∀ X : Nat, i = (X : Int) → X < 3 → ¬ (0 ≤ x ∧ x < ((D3 X).1.length : Int)) → post (.inr 0) σ) (K3 : ∀ X j : Nat, i = (X : Int) → X < 3 → x = (j : Int) → j < (D3 X).1.length → post (.inl (some (mI (1000000 * (D3 X).2.1.getD j 0 + (D3 X).1.getD j 0)))) σ) : Tr Ls (N + 1) 150 0 [some (mP (some 2)), some (mI i), some (mI x)] [] σ post := by
  iterate 1 (refine tr_mv rfl (fun _ => rfl) ?_)
  refine tr_stat rfl rfl rfl (s_174 hi ?_)
  first | refine tr_ib rfl (fun g1 => ?_) (fun g1 => ?_) | refine tr_ibn rfl (fun g1 => ?_) (fun g1 => ?_)
  · exact tr_throw rfl (K1 g1)
  · obtain ⟨X, rfl⟩ : ∃ X : Nat, i = (X : Int) := ⟨i.toNat, by omega⟩
    have hX : X < 3 := by omega
    obtain ⟨y1, y2, y3, y4⟩ := hX3 X hX
    have hl := y1.1
    have hl2 := y1.2.1
    iterate 1 (refine tr_mv rfl (fun _ => rfl) ?_)
    refine tr_if2 rfl (m32_of (by omega)) (fun g2 => ?_) (fun g2 => ?_)
    · have g3 : x < 0 := g2
      exact tr_throw rfl (K2 X rfl hX (by omega))
    · have g3 : ¬ x < 0 := g2
      iterate 2 (refine tr_mv rfl (fun _ => rfl) ?_)
      refine tr_gr rfl ⟨by decide, by decide +kernel⟩ (by decide) rfl ?_
      iterate 1 (refine tr_mv rfl (fun _ => rfl) ?_)
      refine tr_aan (d := X) (w := (273 + 29 * X)) (nn := 3) rfl hX (by decide) rfl (by decide +kernel) (by decide) (F_3 X hX).1 ?_
      refine tr_vc (q := (273 + 29 * X)) rfl (T_O (t_Tl hX)) rfl rfl rfl (s_110 (t_Tl hX) ?_)
      rw [y2.1]
      refine tr_cmp2 rfl (m32_of (by omega)) (m32_of (by omega)) (fun g4 => ?_) (fun g4 => ?_)
      · have g5 : x < ((D3 X).1.length : Int) := g4
        obtain ⟨j, rfl⟩ : ∃ j : Nat, x = (j : Int) := ⟨x.toNat, by omega⟩
        iterate 1 (refine tr_mv rfl (fun _ => rfl) ?_)
        refine tr_gr rfl ⟨by decide, by decide +kernel⟩ (by decide) rfl ?_
        iterate 1 (refine tr_mv rfl (fun _ => rfl) ?_)
        refine tr_aan (d := X) (w := (273 + 29 * X)) (nn := 3) rfl hX (by decide) rfl (by decide +kernel) (by decide) (F_3 X hX).1 ?_
        iterate 1 (refine tr_mv rfl (fun _ => rfl) ?_)
        refine tr_vc (q := (273 + 29 * X)) rfl (T_O (t_Tl hX)) rfl rfl rfl (s_112 (t_Tl hX) hx ?_)
        rw [y2.1, y2.2.1, rget_nat (by omega), rget_nat (by omega)]
        exact tr_ri rfl rfl (K3 X j rfl hX rfl (by omega))
      · have g5 : ¬ x < ((D3 X).1.length : Int) := g4
        exact tr_throw rfl (K2 X rfl hX (fun g => g5 g.2))
end CTEXT
