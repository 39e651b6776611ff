/-! The model: signs, texts, what is asked of texts. -/
section MTEXT
variable {Ls N k pc n n' nn b c t a q d p X T F kd w : Nat} {L L0 : mLs} {st r as : List mV} {h h' : mH} {σ σ' σ'' : Sg} {post : tP} {x y z x' y' i i' s v m u how it hh ww : Int} {xs ys is ans an ds dA ss ss2 : List Int} {e : mE} {C : Nat → Nat → Prop} {D : TD} {R RF : RuT} {Rr : Nat → Prop} {tx : List (List Int)} {en : List EnT} {D3 : Nat → TD} {o : Nat → Int} {o3 : Nat → Nat → Int} {R3 : Nat → RuT} {B M : Int → Int}
def mDs (σ : Sg) (ds : List Int) : Prop := σ.2 480 4 = (ds.length : Int) ∧ ∀ i, i < ds.length → σ.2 483 i = ds.getD i 0
theorem s_220 (hB : ∀ s, in32 (bMo σ s)) (hd : mDs σ ds) (hl : ds.length ≤ 10) (hx : in32 x)
    (K1 : ¬ (0 ≤ x ∧ x < 48 ∧ (40 ≤ x → bMo σ x ≠ -1)) → post (.inl (some (mI 0))) (setF σ 480 0 1))
    (K2 : (0 ≤ x ∧ x < 48 ∧ (40 ≤ x → bMo σ x ≠ -1)) → ds.length = 10 → post (.inl (some (mI 0))) (setF σ 480 0 2))
    (K3 : ∀ σ', (0 ≤ x ∧ x < 48 ∧ (40 ≤ x → bMo σ x ≠ -1)) → ds.length < 10 → mDs σ' (ds ++ [x]) → σ'.2 480 0 = 0 → only (fun q l => q = 483 ∨ (q = 480 ∧ (l = 0 ∨ l = 4))) σ σ' → post (.inl (some (mI ((ds.length : Int) + 1)))) σ') :
    Tr Ls N 220 0 [some (mP (some 480)), some (mI x)] [] σ post := by
  have bad : ∀ (c : Int), c ≠ 0 → in32 c → post (.inl (some (mI 0))) (setF σ 480 0 c) → Tr Ls N 220 27 [some (mP (some 480)), some (mI x)] [mI c, mP (some 480)] σ post := by
    intro c h1 h2 h3
    refine tr_vc (q := 480) rfl isO_480 rfl rfl rfl (s_210 h2 ?_)
    rw [b2, if_neg h1]
    repeat (refine tr_mv rfl (fun _ => rfl) ?_)
    exact tr_ri rfl rfl h3
  iterate 3 (refine tr_mv rfl (fun _ => rfl) ?_)
  refine tr_vc (q := 480) rfl isO_480 rfl rfl rfl (s_217 hx (hB x) ?_)
  first | refine tr_ib rfl (fun g1 => ?_) (fun g1 => ?_) | refine tr_ibn rfl (fun g1 => ?_) (fun g1 => ?_)
  · repeat (first | refine tr_mgr rfl (by decide) rfl ?_ | refine tr_mgi rfl (by decide) (by decide) rfl ?_ | refine tr_mv rfl (fun _ => rfl) ?_)
    rw [hd.1]
    refine tr_cmp2 rfl (m32_of (by omega)) (m32_of (by omega)) (fun g2 => ?_) (fun g2 => ?_)
    · have g3 : ¬ (ds.length : Int) = 10 := g2
      iterate 1 (refine tr_mv rfl (fun _ => rfl) ?_)
      refine tr_vc (q := 480) rfl isO_480 rfl rfl rfl (s_210 (by decide) ?_)
      rw [b2, if_pos rfl]
      repeat (first | refine tr_mgr rfl (by decide) rfl ?_ | refine tr_mgi rfl (by decide) (by decide) rfl ?_ | refine tr_mv rfl (fun _ => rfl) ?_)
      rw [setF_ne _ _ (by omega), hd.1]
      refine tr_msn (j := ds.length) rfl (by omega) (by omega) rfl (fun _ => rfl) rfl rfl rfl ?_
      repeat (first | refine tr_mgr rfl (by decide) rfl ?_ | refine tr_mgi rfl (by decide) (by decide) rfl ?_ | refine tr_mv rfl (fun _ => rfl) ?_)
      rw [setF_ne _ _ (by omega), setF_ne _ _ (by omega), hd.1]
      refine tr_mpi rfl (Or.inl rfl) (by decide) rfl ?_
      repeat (first | refine tr_mgr rfl (by decide) rfl ?_ | refine tr_mgi rfl (by decide) (by decide) rfl ?_ | refine tr_mv rfl (fun _ => rfl) ?_)
      rw [setF_same]
      refine tr_ri rfl rfl (K3 _ g1 (by omega) ⟨by rw [setF_same]; simp, fun l hl => ?_⟩ ?_ (((only.rf.setF (Or.inr ⟨rfl, Or.inl rfl⟩)).setF (Or.inl rfl)).setF (Or.inr ⟨rfl, Or.inr rfl⟩)))
      · rw [List.length_append, List.length_singleton] at hl
        rw [setF_ne _ _ (by omega), setF_get]
        by_cases g : l = ds.length
        · rw [if_pos ⟨rfl, g⟩, g, List.getD_eq_getElem?_getD, List.getElem?_append_right (Nat.le_refl _)]
          simp
        · rw [if_neg (by omega), setF_ne _ _ (by omega), hd.2 l (by omega), List.getD_eq_getElem?_getD, List.getD_eq_getElem?_getD, List.getElem?_append_left (by omega)]
      · rw [setF_ne _ _ (by omega), setF_ne _ _ (by omega), setF_same]
    · have g3 : (ds.length : Int) = 10 := Decidable.of_not_not g2
      iterate 2 (refine tr_mv rfl (fun _ => rfl) ?_)
      exact bad 2 (by decide) (by decide) (K2 g1 (by omega))
  · iterate 2 (refine tr_mv rfl (fun _ => rfl) ?_)
    exact bad 1 (by decide) (by decide) (K1 g1)
/-- the condition of a composed sign, as the model has it -/
abbrev cmOkM (σ : Sg) (i x y : Int) : Prop := (40 ≤ i ∧ i ≤ 47) ∧ (isLet x ∨ ((40 ≤ x ∧ x ≤ 47) ∧ bMo σ x ≠ -1 ∧ isLet (bMo σ x))) ∧ isMrk y
theorem s_222 (hB : ∀ s, in32 (bMo σ s)) (hM : ∀ s, in32 (kMo σ s)) (hinj : injB (bMo σ) (kMo σ)) (hi : in32 i) (hx : in32 x) (hy : in32 y)
    (K1 : ¬ cmOkM σ i x y → post (.inl (some (mI 0))) (setF σ 480 0 1))
    (K2 : cmOkM σ i x y → (bMo σ i ≠ -1 ∨ cof (bMo σ) (kMo σ) x y ≠ -1) → post (.inl (some (mI 0))) (setF σ 480 0 2))
    (K3 : cmOkM σ i x y → bMo σ i = -1 → cof (bMo σ) (kMo σ) x y = -1 → post (.inl (some (mI (cnB (bMo (setF (setF (setF σ 480 0 0) 481 (i - 40).toNat x) 482 (i - 40).toNat y)) 8 : Int)))) (setF (setF (setF σ 480 0 0) 481 (i - 40).toNat x) 482 (i - 40).toNat y)) :
    Tr Ls N 222 0 [some (mP (some 480)), some (mI i), some (mI x), some (mI y), none, none, none, none] [] σ post := by
  have bad : ∀ (v4 v5 : Option mV) (c : Int), c ≠ 0 → in32 c → post (.inl (some (mI 0))) (setF σ 480 0 c) → Tr Ls N 222 111 [some (mP (some 480)), some (mI i), some (mI x), some (mI y), v4, v5, none, none] [mI c, mP (some 480)] σ post := by
    intro v4 v5 c h1 h2 h3
    refine tr_vc (q := 480) rfl isO_480 rfl rfl rfl (s_210 h2 ?_)
    rw [b2, if_neg h1]
    repeat (refine tr_mv rfl (fun _ => rfl) ?_)
    exact tr_ri rfl rfl h3
  -- behind the test of the base
  have t46 : ∀ v : Int, (v = 0 ∨ v = 1) → (v = 1 ↔ (isLet x ∨ ((40 ≤ x ∧ x ≤ 47) ∧ bMo σ x ≠ -1 ∧ isLet (bMo σ x)))) → Tr Ls N 222 46 [some (mP (some 480)), some (mI i), some (mI x), some (mI y), none, none, none, none] [mI v] σ post := by
    intro v hv hv2
    have t76 : ∀ w : Int, (w = 0 ∨ w = 1) → (w = 1 ↔ cmOkM σ i x y) → Tr Ls N 222 76 [some (mP (some 480)), some (mI i), some (mI x), some (mI y), some (mI v), none, none, none] [mI w] σ post := by
      intro w hw hw2
      iterate 3 (refine tr_mv rfl (fun _ => rfl) ?_)
      rcases hw with rfl | rfl
      · repeat (refine tr_mv rfl (fun _ => rfl) ?_)
        exact bad _ _ 1 (by decide) (by decide) (K1 (fun g => absurd (hw2.mpr g) (by decide)))
      · have hC := hw2.mp rfl
        have hi2 := hC.1
        iterate 3 (refine tr_mv rfl (fun _ => rfl) ?_)
        refine tr_vc (q := 480) rfl isO_480 rfl rfl rfl (s_217 hi (hB i) ?_)
        have e1 : (0 ≤ i ∧ i < 48 ∧ (40 ≤ i → bMo σ i ≠ -1)) ↔ bMo σ i ≠ -1 := ⟨fun g => g.2.2 hi2.1, fun g => ⟨by omega, by omega, fun _ => g⟩⟩
        rw [b2_congr e1]
        first | refine tr_ib rfl (fun g1 => ?_) (fun g1 => ?_) | refine tr_ibn rfl (fun g1 => ?_) (fun g1 => ?_)
        · iterate 2 (refine tr_mv rfl (fun _ => rfl) ?_)
          exact bad _ _ 2 (by decide) (by decide) (K2 hC (Or.inl g1))
        · have g2 : bMo σ i = -1 := Decidable.of_not_not g1
          have hx0 : x ≠ -1 := by
            rcases hC.2.1 with g | g
            · omega
            · omega
          have hco := cof_or (bMo σ) (kMo σ) x y
          iterate 3 (refine tr_mv rfl (fun _ => rfl) ?_)
          refine tr_vc (q := 480) rfl isO_480 rfl rfl rfl (s_221 hx hx0 hy hB hM hinj ?_)
          iterate 1 (refine tr_mv rfl (fun _ => rfl) ?_)
          refine tr_cmp2 rfl (m32_of (by omega)) (m32_of (by omega)) (fun g3 => ?_) (fun g3 => ?_)
          · iterate 1 (refine tr_mv rfl (fun _ => rfl) ?_)
            have k := K3 hC g2 g3
            refine tr_vc (q := 480) rfl isO_480 rfl rfl rfl (s_210 (by decide) ?_)
            rw [b2, if_pos rfl]
            repeat (first | refine tr_mgr rfl (by decide) rfl ?_ | refine tr_mgi rfl (by decide) (by decide) rfl ?_ | refine tr_mv rfl (fun _ => rfl) ?_)
            refine tr_msn (j := (i - 40).toNat) rfl (by omega) (by omega) rfl (fun _ => rfl) rfl rfl rfl ?_
            repeat (first | refine tr_mgr rfl (by decide) rfl ?_ | refine tr_mgi rfl (by decide) (by decide) rfl ?_ | refine tr_mv rfl (fun _ => rfl) ?_)
            refine tr_msn (j := (i - 40).toNat) rfl (by omega) (by omega) rfl (fun _ => rfl) rfl rfl rfl ?_
            have hfin : ∀ j : Nat, j < 8 → in32 ((setF (setF (setF σ 480 0 0) 481 (i - 40).toNat x) 482 (i - 40).toNat y).2 481 j) := fun j hj => by
              rw [setF_ne _ _ (by omega), setF_get]
              split
              · exact hx
              · rw [setF_ne _ _ (by omega)]
                have h9 := hB (40 + (j : Int))
                unfold bMo at h9
                rw [if_pos (by omega), show (40 + (j : Int) - 40).toNat = j by omega] at h9
                exact h9
            have hcb : ∀ j : Nat, bMo (setF (setF (setF σ 480 0 0) 481 (i - 40).toNat x) 482 (i - 40).toNat y) (40 + (j : Int)) = (setF (setF (setF σ 480 0 0) 481 (i - 40).toNat x) 482 (i - 40).toNat y).2 481 j := fun j => by
              unfold bMo
              rw [if_pos (by omega), show (40 + (j : Int) - 40).toNat = j by omega]
            generalize setF (setF (setF σ 480 0 0) 481 (i - 40).toNat x) 482 (i - 40).toNat y = S at *
            have loop : ∀ (dd j : Nat), j + dd = 8 → Tr Ls N 222 145 [some (mP (some 480)), some (mI i), some (mI x), some (mI y), some (mI v), some (mI 1), some (mI (cnB (bMo S) j : Int)), some (mI (j : Int))] [] S post := by
              intro dd
              induction dd with
              | zero =>
                intro j e
                iterate 2 (refine tr_mv rfl (fun _ => rfl) ?_)
                refine tr_cmp2 rfl (m32_of (by omega)) (m32_of (x := 8) ⟨by decide, by decide⟩) (fun _ => ?_) (fun c9 => absurd (show (8 : Int) ≤ (j : Int) by omega) c9)
                iterate 1 (refine tr_mv rfl (fun _ => rfl) ?_)
                rw [show j = 8 by omega]
                exact tr_ri rfl rfl k
              | succ dd ih =>
                intro j e
                have k2 := ih (j + 1) (by omega)
                have hle := cnB_le (bMo S) j
                rw [show cnB (bMo S) (j + 1) = cnB (bMo S) j + (if bMo S (40 + (j : Int)) ≠ -1 then 1 else 0) from rfl, hcb] at k2
                have h32 := hfin j (by omega)
                generalize cnB (bMo S) j = acc at *
                iterate 2 (refine tr_mv rfl (fun _ => rfl) ?_)
                refine tr_cmp2 rfl (m32_of (by omega)) (m32_of (x := 8) ⟨by decide, by decide⟩) (fun c9 => absurd (show (8 : Int) ≤ (j : Int) from c9) (by omega)) (fun _ => ?_)
                repeat (first | refine tr_mgr rfl (by decide) rfl ?_ | refine tr_mgi rfl (by decide) (by decide) rfl ?_ | refine tr_mv rfl (fun _ => rfl) ?_)
                refine tr_man (j := j) rfl (by omega) (by omega) rfl (fun _ => rfl) rfl rfl rfl ?_
                iterate 1 (refine tr_mv rfl (fun _ => rfl) ?_)
                refine tr_cmp2 rfl (m32_of h32) (m32_of (x := -1) ⟨by decide, by decide⟩) (fun c1 => ?_) (fun c1 => ?_)
                · rw [if_neg (fun g => g c1)] at k2
                  iterate 5 (refine tr_mv rfl (fun _ => rfl) ?_)
                  show Tr Ls N 222 145 [some (mP (some 480)), some (mI i), some (mI x), some (mI y), some (mI v), some (mI 1), some (mI ((acc : Int) + 0)), some (mI ((j : Int) + 1))] [] S post
                  rw [show (j : Int) + 1 = ((j + 1 : Nat) : Int) by omega, Int.add_zero]
                  exact k2
                · rw [if_pos c1] at k2
                  iterate 6 (refine tr_mv rfl (fun _ => rfl) ?_)
                  show Tr Ls N 222 145 [some (mP (some 480)), some (mI i), some (mI x), some (mI y), some (mI v), some (mI 1), some (mI ((acc : Int) + 1)), some (mI ((j : Int) + 1))] [] S post
                  rw [show (j : Int) + 1 = ((j + 1 : Nat) : Int) by omega, show (acc : Int) + 1 = ((acc + 1 : Nat) : Int) by omega]
                  exact k2
            iterate 4 (refine tr_mv rfl (fun _ => rfl) ?_)
            exact loop 8 0 rfl
          · iterate 2 (refine tr_mv rfl (fun _ => rfl) ?_)
            exact bad _ _ 2 (by decide) (by decide) (K2 hC (Or.inr g3))
    have no : ¬ cmOkM σ i x y → ((0 : Int) = 1 ↔ cmOkM σ i x y) := fun g => ⟨fun k => absurd k (by decide), fun k => absurd k g⟩
    iterate 4 (refine tr_mv rfl (fun _ => rfl) ?_)
    refine tr_stat rfl rfl rfl (s_211 hi (by decide) (by decide) ?_)
    first | refine tr_ib rfl (fun g1 => ?_) (fun g1 => ?_) | refine tr_ibn rfl (fun g1 => ?_) (fun g1 => ?_)
    · iterate 1 (refine tr_mv rfl (fun _ => rfl) ?_)
      exact t76 0 (Or.inl rfl) (no (fun g => g1 g.1))
    · iterate 1 (refine tr_mv rfl (fun _ => rfl) ?_)
      rcases hv with rfl | rfl
      · iterate 2 (refine tr_mv rfl (fun _ => rfl) ?_)
        exact t76 0 (Or.inl rfl) (no (fun g => absurd (hv2.mpr g.2.1) (by decide)))
      · have hb := hv2.mp rfl
        iterate 2 (refine tr_mv rfl (fun _ => rfl) ?_)
        refine tr_stat rfl rfl rfl (s_212 hy ?_)
        first | refine tr_ib rfl (fun g2 => ?_) (fun g2 => ?_) | refine tr_ibn rfl (fun g2 => ?_) (fun g2 => ?_)
        · iterate 1 (refine tr_mv rfl (fun _ => rfl) ?_)
          exact t76 0 (Or.inl rfl) (no (fun g => g2 g.2.2))
        · iterate 2 (refine tr_mv rfl (fun _ => rfl) ?_)
          exact t76 1 (Or.inr rfl) ⟨fun _ => ⟨g1, hb, g2⟩, fun _ => rfl⟩
  iterate 1 (refine tr_mv rfl (fun _ => rfl) ?_)
  refine tr_stat rfl rfl rfl (s_213 hx ?_)
  first | refine tr_ib rfl (fun g1 => ?_) (fun g1 => ?_) | refine tr_ibn rfl (fun g1 => ?_) (fun g1 => ?_)
  · iterate 2 (refine tr_mv rfl (fun _ => rfl) ?_)
    exact t46 1 (Or.inr rfl) ⟨fun _ => Or.inl g1, fun _ => rfl⟩
  · iterate 3 (refine tr_mv rfl (fun _ => rfl) ?_)
    refine tr_stat rfl rfl rfl (s_211 hx (by decide) (by decide) ?_)
    first | refine tr_ib rfl (fun g2 => ?_) (fun g2 => ?_) | refine tr_ibn rfl (fun g2 => ?_) (fun g2 => ?_)
    · iterate 1 (refine tr_mv rfl (fun _ => rfl) ?_)
      exact t46 0 (Or.inl rfl) ⟨fun g => absurd g (by decide), fun g => by rcases g with g | g; exact absurd g g1; exact absurd g.1 g2⟩
    · iterate 2 (refine tr_mv rfl (fun _ => rfl) ?_)
      refine tr_vc (q := 480) rfl isO_480 rfl rfl rfl (s_217 hx (hB x) ?_)
      rw [b2_congr (show (0 ≤ x ∧ x < 48 ∧ (40 ≤ x → bMo σ x ≠ -1)) ↔ bMo σ x ≠ -1 from ⟨fun g => g.2.2 g2.1, fun g => ⟨by omega, by omega, fun _ => g⟩⟩)]
      first | refine tr_ib rfl (fun g3 => ?_) (fun g3 => ?_) | refine tr_ibn rfl (fun g3 => ?_) (fun g3 => ?_)
      · iterate 1 (refine tr_mv rfl (fun _ => rfl) ?_)
        exact t46 0 (Or.inl rfl) ⟨fun g => absurd g (by decide), fun g => by rcases g with g | g; exact absurd g g1; exact absurd g.2.1 g3⟩
      · have hv : bMo σ x = σ.2 481 (x - 40).toNat := by
          unfold bMo
          rw [if_pos g2.1]
        repeat (first | refine tr_mgr rfl (by decide) rfl ?_ | refine tr_mgi rfl (by decide) (by decide) rfl ?_ | refine tr_mv rfl (fun _ => rfl) ?_)
        refine tr_man (j := (x - 40).toNat) rfl (by omega) (by omega) rfl (fun _ => rfl) rfl rfl rfl ?_
        rw [← hv]
        refine tr_stat rfl rfl rfl (s_213 (hB x) ?_)
        first | refine tr_ib rfl (fun g4 => ?_) (fun g4 => ?_) | refine tr_ibn rfl (fun g4 => ?_) (fun g4 => ?_)
        · iterate 1 (refine tr_mv rfl (fun _ => rfl) ?_)
          exact t46 0 (Or.inl rfl) ⟨fun g => absurd g (by decide), fun g => by rcases g with g | g; exact absurd g g1; exact absurd g.2.2 g4⟩
        · iterate 2 (refine tr_mv rfl (fun _ => rfl) ?_)
          exact t46 1 (Or.inr rfl) ⟨fun _ => Or.inr ⟨g2, g3, g4⟩, fun _ => rfl⟩
theorem s_226 (hd : mDs σ ds) (K : post (.inl (some (mI (ds.length : Int)))) (setF (setF σ 480 0 0) 480 4 0)) : Tr Ls N 226 0 [some (mP (some 480)), none] [] σ post := by
  iterate 2 (refine tr_mv rfl (fun _ => rfl) ?_)
  refine tr_mpi rfl (Or.inl rfl) (by decide) rfl ?_
  iterate 1 (refine tr_mv rfl (fun _ => rfl) ?_)
  refine tr_mgi rfl (by decide) (by decide) rfl ?_
  rw [setF_ne _ _ (by omega), hd.1]
  iterate 3 (refine tr_mv rfl (fun _ => rfl) ?_)
  refine tr_mpi rfl (Or.inl rfl) (by decide) rfl ?_
  iterate 1 (refine tr_mv rfl (fun _ => rfl) ?_)
  exact tr_ri rfl rfl K
theorem s_268 (cT : mTx σ tx) (K : post (.inl (some (mI (tx.length : Int)))) (setF σ 480 0 0)) : Tr Ls N 268 0 [some (mP (some 480))] [] σ post := by
  iterate 2 (refine tr_mv rfl (fun _ => rfl) ?_)
  refine tr_mpi rfl (Or.inl rfl) (by decide) rfl ?_
  repeat (first | refine tr_mgr rfl (by decide) rfl ?_ | refine tr_mgi rfl (by decide) (by decide) rfl ?_ | refine tr_mv rfl (fun _ => rfl) ?_)
  rw [setF_ne _ _ (by omega), cT.1]
  exact tr_ri rfl rfl K
theorem s_288 (cE : mEn σ en) (K : post (.inl (some (mI (en.length : Int)))) (setF σ 480 0 0)) : Tr Ls N 288 0 [some (mP (some 480))] [] σ post := by
  iterate 2 (refine tr_mv rfl (fun _ => rfl) ?_)
  refine tr_mpi rfl (Or.inl rfl) (by decide) rfl ?_
  repeat (first | refine tr_mgr rfl (by decide) rfl ?_ | refine tr_mgi rfl (by decide) (by decide) rfl ?_ | refine tr_mv rfl (fun _ => rfl) ?_)
  rw [setF_ne _ _ (by omega), cE.1]
  exact tr_ri rfl rfl K
theorem s_323 (hx : in32 x) (hy : in32 y) (K1 : ¬ ((4 ≤ x ∧ x ≤ 40) ∧ 4 ≤ y ∧ y ≤ 40) → post (.inl (some (mI 0))) (setF σ 480 0 1)) (K2 : ((4 ≤ x ∧ x ≤ 40) ∧ 4 ≤ y ∧ y ≤ 40) → post (.inl (some (mI (σ.2 480 68)))) (setF (setF (setF σ 480 0 0) 480 68 x) 480 69 y)) : Tr Ls N 323 0 [some (mP (some 480)), some (mI x), some (mI y), none] [] σ post := by
  have bad : ¬ ((4 ≤ x ∧ x ≤ 40) ∧ 4 ≤ y ∧ y ≤ 40) → Tr Ls N 323 25 [some (mP (some 480)), some (mI x), some (mI y), none] [mP (some 480)] σ post := by
    intro g
    iterate 1 (refine tr_mv rfl (fun _ => rfl) ?_)
    refine tr_vc (q := 480) rfl isO_480 rfl rfl rfl (s_210 (by decide) ?_)
    rw [b2, if_neg (by decide)]
    repeat (refine tr_mv rfl (fun _ => rfl) ?_)
    exact tr_ri rfl rfl (K1 g)
  iterate 4 (refine tr_mv rfl (fun _ => rfl) ?_)
  refine tr_stat rfl rfl rfl (s_211 hx (by decide) (by decide) ?_)
  first | refine tr_ib rfl (fun g1 => ?_) (fun g1 => ?_) | refine tr_ibn rfl (fun g1 => ?_) (fun g1 => ?_)
  · exact bad (fun g => g1 g.1)
  · iterate 3 (refine tr_mv rfl (fun _ => rfl) ?_)
    refine tr_stat rfl rfl rfl (s_211 hy (by decide) (by decide) ?_)
    first | refine tr_ib rfl (fun g2 => ?_) (fun g2 => ?_) | refine tr_ibn rfl (fun g2 => ?_) (fun g2 => ?_)
    · exact bad (fun g => g2 g.2)
    · iterate 2 (refine tr_mv rfl (fun _ => rfl) ?_)
      refine tr_vc (q := 480) rfl isO_480 rfl rfl rfl (s_210 (by decide) ?_)
      rw [b2, if_pos rfl]
      iterate 2 (refine tr_mv rfl (fun _ => rfl) ?_)
      refine tr_mgi rfl (by decide) (by decide) rfl ?_
      rw [setF_ne _ _ (by omega)]
      iterate 3 (refine tr_mv rfl (fun _ => rfl) ?_)
      refine tr_mpi rfl (Or.inl rfl) (by decide) rfl ?_
      iterate 2 (refine tr_mv rfl (fun _ => rfl) ?_)
      refine tr_mpi rfl (Or.inl rfl) (by decide) rfl ?_
      iterate 1 (refine tr_mv rfl (fun _ => rfl) ?_)
      exact tr_ri rfl rfl (K2 ⟨g1, g2⟩)
theorem s_269 (hT : okTx tx) (cT : mTx σ tx) {tg : Nat → List Int} (hg : mTg σ tx tg) (hi : in32 i) (hy : y = 0 ∨ y = 1) (hz : in32 z) (hg3 : okTg tx tg)
    (K1 : ¬ ((0 ≤ i ∧ i < (tx.length : Int)) ∧ 0 ≤ z) → post (.inl (some (mI 0))) (setF σ 480 0 1))
    (K2 : ∀ (a : Nat) (σ' : Sg), i = (a : Int) → a < tx.length → 0 ≤ z → y = 1 → σ'.2 480 0 = 0 → only cCz σ σ' → post (.inl (some (mI (rget (tx.getD a []) z)))) σ')
    (K3 : ∀ (a : Nat) (σ' : Sg), i = (a : Int) → a < tx.length → 0 ≤ z → y = 0 → σ'.2 480 0 = 0 → only cCz σ σ' → post (.inl (some (mI (rget (tg a) z)))) σ') :
    Tr Ls N 269 0 [some (mP (some 480)), some (mI i), some (mI y), some (mI z)] [] σ post := by
  have hT30 := hT.1
  have bad : ¬ ((0 ≤ i ∧ i < (tx.length : Int)) ∧ 0 ≤ z) → Tr Ls N 269 17 [some (mP (some 480)), some (mI i), some (mI y), some (mI z)] [mP (some 480)] σ post := by
    intro g
    iterate 1 (refine tr_mv rfl (fun _ => rfl) ?_)
    refine tr_vc (q := 480) rfl isO_480 rfl rfl rfl (s_210 (by decide) ?_)
    rw [b2, if_neg (by decide)]
    repeat (refine tr_mv rfl (fun _ => rfl) ?_)
    exact tr_ri rfl rfl (K1 g)
  iterate 3 (refine tr_mv rfl (fun _ => rfl) ?_)
  refine tr_vc (q := 480) rfl isO_480 rfl rfl rfl (s_218 hi cT.1 (by omega) ?_)
  first | refine tr_ib rfl (fun g1 => ?_) (fun g1 => ?_) | refine tr_ibn rfl (fun g1 => ?_) (fun g1 => ?_)
  · exact bad (fun g => g1 g.1)
  · iterate 1 (refine tr_mv rfl (fun _ => rfl) ?_)
    refine tr_if2 rfl (m32_of (by omega)) (fun g2 => ?_) (fun g2 => ?_)
    · have g3 : z < 0 := g2
      exact bad (fun g => by have := g.2; omega)
    · have g3 : ¬ z < 0 := g2
      obtain ⟨a, rfl⟩ : ∃ a : Nat, i = (a : Int) := ⟨i.toNat, by omega⟩
      have ha : a < tx.length := by omega
      have htx := okTx_get hT ha
      iterate 2 (refine tr_mv rfl (fun _ => rfl) ?_)
      refine tr_vc (q := 480) rfl isO_480 rfl rfl rfl (s_210 (by decide) ?_)
      rw [b2, if_pos rfl]
      have o0 := mset0 σ 0
      have f0 : (setF σ 480 0 0).2 480 0 = 0 := setF_same ..
      generalize setF σ 480 0 0 = S at *
      have cT0 := cT.of o0 (fun q i h => by omega)
      have hg0 := hg.of o0 (fun q i h => by omega)
      iterate 3 (refine tr_mv rfl (fun _ => rfl) ?_)
      refine tr_vc (q := 480) rfl isO_480 rfl rfl rfl (s_227 (t := a) (by omega) (cT0.2 _ ha) htx.2.2 (a40in htx.1) (fun σ1 r1 o1 => ?_))
      have q1 : only cCz σ σ1 := (o0.wk (fun q i h => Or.inr h)).tr (o1.wk (fun q i h => Or.inl (Or.inl (Or.inl (Or.inl h)))))
      have f1 : σ1.2 480 0 = 0 := (o1.2 _ _ (fun g => by have := cRow_in g; omega)).trans f0
      have t39 : ∀ (l : List Int) (S : Sg), mrow S l → l.length ≤ 60 → post (.inl (some (mI (rget l z)))) S → Tr Ls N 269 39 [some (mP (some 480)), some (mI (a : Int)), some (mI y), some (mI z)] [] S post := by
        intro l S hr hl k
        repeat (first | refine tr_mgr rfl (by decide) rfl ?_ | refine tr_mgi rfl (by decide) (by decide) rfl ?_ | refine tr_mv rfl (fun _ => rfl) ?_)
        rw [hr.1]
        refine tr_cmp2 rfl (m32_of (by omega)) (m32_of (by omega)) (fun c1 => ?_) (fun c1 => ?_)
        · have c2 : (l.length : Int) ≤ z := c1
          iterate 1 (refine tr_mv rfl (fun _ => rfl) ?_)
          refine tr_ri rfl ?_ k
          unfold rget
          rw [if_neg (by omega)]
        · have c2 : ¬ (l.length : Int) ≤ z := c1
          repeat (first | refine tr_mgr rfl (by decide) rfl ?_ | refine tr_mgi rfl (by decide) (by decide) rfl ?_ | refine tr_mv rfl (fun _ => rfl) ?_)
          refine tr_man (j := z.toNat) rfl (by omega) (by omega) rfl (fun _ => rfl) rfl rfl rfl ?_
          rw [mrow_getD hr (by omega)]
          iterate 1 (refine tr_mv rfl (fun _ => rfl) ?_)
          refine tr_ri rfl ?_ k
          unfold rget
          rw [if_pos (by omega)]
      iterate 1 (refine tr_mv rfl (fun _ => rfl) ?_)
      refine tr_if2 rfl (m32_of (by omega)) (fun c1 => ?_) (fun c1 => ?_)
      · have c2 : ¬ y = 0 := c1
        exact t39 _ σ1 r1 (by omega) (K2 a σ1 rfl ha (by omega) (by omega) f1 q1)
      · have c2 : y = 0 := Decidable.of_not_not c1
        have hg1 := hg0.of o1 (fun q i g => by have := cRow_in g; omega)
        have htg := hg3 a ha
        iterate 1 (refine tr_mv rfl (fun _ => rfl) ?_)
        refine tr_vc (q := 480) rfl isO_480 rfl rfl rfl (s_229 hg1.1 hg1.2.1 hg1.2.2.1 r1 (fun y hy => htx.1 y hy) (by omega) (fun σ2 r2 o2 => ?_))
        rw [hg1.2.2.2 _ ha] at r2
        exact t39 _ σ2 r2 (by omega) (K3 a σ2 rfl ha (by omega) c2 ((o2.2 _ _ (fun g => by have := cRow_in g; omega)).trans f1) (q1.tr (o2.wk (fun q i h => Or.inl (Or.inl (Or.inl (Or.inl h)))))))
end MTEXT
