/-! The model: texts and anchors told; elements, keys, comparing, finding. -/
section MTEXT2
variable {Ls N k pc n n' nn b c t a q d p X T F kd w : Nat} {L L0 : mLs} {st r as : List mV} {h h' : mH} {σ σ' σ'' : Sg} {post : tP} {x y z x' y' i i' s v m u how it hh ww : Int} {xs ys is ans an ds dA ss ss2 : List Int} {e : mE} {C : Nat → Nat → Prop} {D : TD} {R RF : RuT} {Rr : Nat → Prop} {tx : List (List Int)} {en : List EnT} {D3 : Nat → TD} {o : Nat → Int} {o3 : Nat → Nat → Int} {R3 : Nat → RuT} {B M : Int → Int}
theorem s_246 (hd : mDr σ ds dA) (hd2 : okDr ds dA)
    (K1 : ds = [] → post (.inl (some (mI 0))) (setF σ 480 0 1))
    (K2 : ∀ σ', ds ≠ [] → mAn σ' dA → σ'.2 480 4 = 0 → σ'.2 480 0 = 0 → only (fun q l => q = 484 ∨ q = 489 ∨ (q = 480 ∧ (l = 0 ∨ l = 4 ∨ l = 6 ∨ l = 13))) σ σ' → post (.inl (some (mI (dA.length : Int)))) σ') :
    Tr Ls N 246 0 [some (mP (some 480)), none] [] σ post := by
  obtain ⟨dk1, dk2, dk3, dk4⟩ := hd2
  repeat (first | refine tr_mgr rfl (by decide) rfl ?_ | refine tr_mgi rfl (by decide) (by decide) rfl ?_ | refine tr_mv rfl (fun _ => rfl) ?_)
  rw [hd.1]
  refine tr_if2 rfl (m32_of (by omega)) (fun g1 => ?_) (fun g1 => ?_)
  · have g2 : ¬ (ds.length : Int) = 0 := g1
    have g3 : ds ≠ [] := fun g => g2 (by rw [g]; rfl)
    iterate 1 (refine tr_mv rfl (fun _ => rfl) ?_)
    refine tr_vc (q := 480) rfl isO_480 rfl rfl rfl (s_210 (by decide) ?_)
    rw [b2, if_pos rfl]
    have o0 := mset0 σ 0
    have f0 : (setF σ 480 0 0).2 480 0 = 0 := setF_same ..
    generalize setF σ 480 0 0 = S at *
    have hd0 := hd.of o0 (fun q i h => by omega)
    iterate 2 (refine tr_mv rfl (fun _ => rfl) ?_)
    refine tr_vc (q := 480) rfl isO_480 rfl rfl rfl (s_224 (ds := ds) hd0.2.2.1 hd0.1 dk1 hd0.2.1 hd0.2.2.2.1 (fun σ2 r2 o2 => ?_))
    rw [hd0.2.2.2.2] at r2
    have f2 : σ2.2 480 0 = 0 := (o2.2 _ _ (fun g => by have := cRow_in g; omega)).trans f0
    have loop : ∀ (dd j : Nat) (σ' : Sg), j + dd = dA.length → (∀ l, l < j → σ'.2 484 l = dA.getD l 0) → only (fun q l => q = 484) σ2 σ' → Tr Ls N 246 27 [some (mP (some 480)), some (mI (j : Int))] [] σ' post := by
      intro dd
      induction dd with
      | zero =>
        intro j σ' e hk ho
        have h13 : σ'.2 480 13 = (dA.length : Int) := (ho.2 _ _ (by omega)).trans r2.1
        repeat (first | refine tr_mgr rfl (by decide) rfl ?_ | refine tr_mgi rfl (by decide) (by decide) rfl ?_ | refine tr_mv rfl (fun _ => rfl) ?_)
        rw [h13]
        refine tr_cmp2 rfl (m32_of (by omega)) (m32_of (by omega)) (fun _ => ?_) (fun c9 => absurd (show (dA.length : Int) ≤ (j : Int) by omega) c9)
        iterate 2 (refine tr_mv rfl (fun _ => rfl) ?_)
        refine tr_mgi rfl (by decide) (by decide) rfl ?_
        rw [h13]
        refine tr_mpi rfl (Or.inl rfl) (by decide) rfl ?_
        iterate 2 (refine tr_mv rfl (fun _ => rfl) ?_)
        refine tr_mpi rfl (Or.inl rfl) (by decide) rfl ?_
        repeat (first | refine tr_mgr rfl (by decide) rfl ?_ | refine tr_mgi rfl (by decide) (by decide) rfl ?_ | refine tr_mv rfl (fun _ => rfl) ?_)
        rw [setF_ne _ _ (by omega), setF_same]
        refine tr_ri rfl rfl (K2 _ g3 ⟨Or.inr ⟨fun g => g3 (dk4.mp g), ?_⟩, fun l hl => ?_⟩ (setF_same ..) ?_ ?_)
        · rw [setF_ne _ _ (by omega), setF_same]
        · rw [setF_ne _ _ (by omega), setF_ne _ _ (by omega), Nat.zero_add]
          exact hk l (by omega)
        · rw [setF_ne _ _ (by omega), setF_ne _ _ (by omega), ho.2 _ _ (by omega)]
          exact f2
        · exact ((((o0.wk (fun q l h => Or.inr (Or.inr ⟨h.1, Or.inl h.2⟩))).tr (o2.wk (fun q l h => by have := cRow_in h; omega))).tr (ho.wk (fun q l h => Or.inl h))).setF (Or.inr (Or.inr ⟨rfl, Or.inr (Or.inr (Or.inl rfl))⟩))).setF (Or.inr (Or.inr ⟨rfl, Or.inr (Or.inl rfl)⟩))
      | succ dd ih =>
        intro j σ' e hk ho
        have h13 : σ'.2 480 13 = (dA.length : Int) := (ho.2 _ _ (by omega)).trans r2.1
        have hv : σ'.2 489 j = dA.getD j 0 := (ho.2 _ _ (by omega)).trans (mrow_getD r2 (by omega))
        repeat (first | refine tr_mgr rfl (by decide) rfl ?_ | refine tr_mgi rfl (by decide) (by decide) rfl ?_ | refine tr_mv rfl (fun _ => rfl) ?_)
        rw [h13]
        refine tr_cmp2 rfl (m32_of (by omega)) (m32_of (by omega)) (fun c9 => absurd (show (dA.length : Int) ≤ (j : Int) from c9) (by omega)) (fun _ => ?_)
        repeat (first | refine tr_mgr rfl (by decide) rfl ?_ | refine tr_mgi rfl (by decide) (by decide) rfl ?_ | refine tr_mv rfl (fun _ => rfl) ?_)
        refine tr_man (j := j) rfl (by omega) (by omega) rfl (fun _ => rfl) rfl rfl rfl ?_
        rw [hv]
        refine tr_msn (j := j) rfl (by omega) (by omega) rfl (fun _ => rfl) rfl rfl rfl ?_
        iterate 2 (refine tr_mv rfl (fun _ => rfl) ?_)
        show Tr Ls N 246 27 [some (mP (some 480)), some (mI ((j : Int) + 1))] [] _ post
        rw [show (j : Int) + 1 = ((j + 1 : Nat) : Int) by omega]
        refine ih (j + 1) _ (by omega) (fun l hl => ?_) (ho.setF rfl)
        rw [setF_get]
        by_cases g : l = j
        · rw [if_pos ⟨rfl, g⟩, g]
        · rw [if_neg (by omega)]
          exact hk l (by omega)
    iterate 2 (refine tr_mv rfl (fun _ => rfl) ?_)
    exact loop dA.length 0 σ2 (by omega) (fun l hl => absurd hl (Nat.not_lt_zero _)) only.rf
  · have g2 : (ds.length : Int) = 0 := Decidable.of_not_not g1
    iterate 2 (refine tr_mv rfl (fun _ => rfl) ?_)
    refine tr_vc (q := 480) rfl isO_480 rfl rfl rfl (s_210 (by decide) ?_)
    rw [b2, if_neg (by decide)]
    repeat (refine tr_mv rfl (fun _ => rfl) ?_)
    exact tr_ri rfl rfl (K1 (List.length_eq_zero_iff.mp (by omega)))
abbrev cTxt (n q l : Nat) : Prop := q = 485 ∨ q = 486 ∨ (q = 487 ∧ 30 * n ≤ l) ∨ (q = 488 ∧ l = n) ∨ q = 489 ∨ (q = 480 ∧ (l = 0 ∨ l = 4 ∨ l = 11 ∨ l = 13))
theorem s_225 (hd : mDr σ ds dA) (hd2 : okDr ds dA) (hT : okTx tx) (cT : mTx σ tx)
    (K1 : (ds = [] ∨ tx.length = 30) → post (.inl (some (mI 0))) (setF σ 480 0 1))
    (K2 : ∀ σ', ds ≠ [] → tx.length < 30 → mTx σ' (tx ++ [dA]) → σ'.2 480 4 = 0 → σ'.2 480 0 = 0 → only (cTxt tx.length) σ σ' → post (.inl (some (mI (tx.length : Int)))) σ') :
    Tr Ls N 225 0 [some (mP (some 480)), none] [] σ post := by
  obtain ⟨dk1, dk2, dk3, dk4⟩ := hd2
  have hT30 := hT.1
  have bad : (ds = [] ∨ tx.length = 30) → Tr Ls N 225 17 [some (mP (some 480)), none] [mP (some 480)] σ post := by
    intro g
    iterate 2 (refine tr_mv rfl (fun _ => rfl) ?_)
    refine tr_vc (q := 480) rfl isO_480 rfl rfl rfl (s_210 (by decide) ?_)
    rw [b2, if_neg (by decide)]
    repeat (refine tr_mv rfl (fun _ => rfl) ?_)
    exact tr_ri rfl rfl (K1 g)
  repeat (first | refine tr_mgr rfl (by decide) rfl ?_ | refine tr_mgi rfl (by decide) (by decide) rfl ?_ | refine tr_mv rfl (fun _ => rfl) ?_)
  rw [hd.1]
  refine tr_if2 rfl (m32_of (by omega)) (fun g1 => ?_) (fun g1 => ?_)
  · have g2 : (ds.length : Int) = 0 := g1
    exact bad (Or.inl (List.length_eq_zero_iff.mp (by omega)))
  · have g2 : ¬ (ds.length : Int) = 0 := g1
    have g3 : ds ≠ [] := fun g => g2 (by rw [g]; rfl)
    repeat (first | refine tr_mgr rfl (by decide) rfl ?_ | refine tr_mgi rfl (by decide) (by decide) rfl ?_ | refine tr_mv rfl (fun _ => rfl) ?_)
    rw [cT.1]
    refine tr_cmp2 rfl (m32_of (by omega)) (m32_of (by omega)) (fun g4 => ?_) (fun g4 => ?_)
    · have g5 : ¬ (tx.length : Int) = 30 := g4
      have hn : tx.length < 30 := by omega
      iterate 1 (refine tr_mv rfl (fun _ => rfl) ?_)
      refine tr_vc (q := 480) rfl isO_480 rfl rfl rfl (s_210 (by decide) ?_)
      rw [b2, if_pos rfl]
      have o0 := mset0 σ 0
      have f0 : (setF σ 480 0 0).2 480 0 = 0 := setF_same ..
      generalize setF σ 480 0 0 = S at *
      have hd0 := hd.of o0 (fun q i h => by omega)
      iterate 2 (refine tr_mv rfl (fun _ => rfl) ?_)
      refine tr_vc (q := 480) rfl isO_480 rfl rfl rfl (s_224 (ds := ds) hd0.2.2.1 hd0.1 dk1 hd0.2.1 hd0.2.2.2.1 (fun σ2 r2 o2 => ?_))
      rw [hd0.2.2.2.2] at r2
      have q2 : only (cTxt tx.length) σ σ2 := (o0.wk (fun q l h => by omega)).tr (o2.wk (fun q l h => by have := cRow_in h; omega))
      have f2 : σ2.2 480 0 = 0 := (o2.2 _ _ (fun g => by have := cRow_in g; omega)).trans f0
      have h4 : σ2.2 480 4 = (ds.length : Int) := (o2.2 _ _ (fun g => by have := cRow_in g; omega)).trans hd0.1
      have h11 : σ2.2 480 11 = (tx.length : Int) := ((o2.2 _ _ (fun g => by have := cRow_in g; omega)).trans (o0.2 _ _ (by omega))).trans cT.1
      have cT2 : ∀ l, l < tx.length → txM σ2 l (tx.getD l []) := fun l hl => ((cT.2 l hl).el o0 (fun q i h1 h2 => by omega)).el o2 (fun q i h1 h2 g => by have := cRow_in g; omega)
      -- the second loop: what is apart
      have L2 : ∀ (dd j : Nat) (σ' : Sg), j + dd = dA.length → (∀ l, l < j → σ'.2 487 (30 * tx.length + l) = dA.getD l 0) → only (fun q l => q = 485 ∨ q = 486 ∨ (q = 487 ∧ 30 * tx.length ≤ l)) σ2 σ' → Tr Ls N 225 85 [some (mP (some 480)), some (mI (j : Int))] [] σ' post := by
        intro dd
        induction dd with
        | zero =>
          intro j σ' e hk ho
          have h13 : σ'.2 480 13 = (dA.length : Int) := (ho.2 _ _ (by omega)).trans r2.1
          have h11' : σ'.2 480 11 = (tx.length : Int) := (ho.2 _ _ (by omega)).trans h11
          repeat (first | refine tr_mgr rfl (by decide) rfl ?_ | refine tr_mgi rfl (by decide) (by decide) rfl ?_ | refine tr_mv rfl (fun _ => rfl) ?_)
          rw [h13]
          refine tr_cmp2 rfl (m32_of (by omega)) (m32_of (by omega)) (fun _ => ?_) (fun c9 => absurd (show (dA.length : Int) ≤ (j : Int) by omega) c9)
          repeat (first | refine tr_mgr rfl (by decide) rfl ?_ | refine tr_mgi rfl (by decide) (by decide) rfl ?_ | refine tr_mv rfl (fun _ => rfl) ?_)
          rw [h11', h13]
          refine tr_msn (j := tx.length) rfl (by omega) (by omega) rfl (fun _ => rfl) rfl rfl rfl ?_
          iterate 2 (refine tr_mv rfl (fun _ => rfl) ?_)
          refine tr_mpi rfl (Or.inl rfl) (by decide) rfl ?_
          repeat (first | refine tr_mgr rfl (by decide) rfl ?_ | refine tr_mgi rfl (by decide) (by decide) rfl ?_ | refine tr_mv rfl (fun _ => rfl) ?_)
          rw [setF_ne _ _ (by omega), setF_ne _ _ (by omega), h11']
          refine tr_mpi rfl (Or.inl rfl) (by decide) rfl ?_
          obtain ⟨S2, hS⟩ : ∃ S2, S2 = setF (setF (setF σ' 488 tx.length (dA.length : Int)) 480 4 0) 480 11 ((tx.length : Int) + 1) := ⟨_, rfl⟩
          rw [← hS]
          have fo : ∀ q l : Nat, ¬ (q = 488 ∧ l = tx.length) → ¬ (q = 480 ∧ (l = 4 ∨ l = 11)) → S2.2 q l = σ'.2 q l := fun q l h1 h2 => by
            rw [hS, setF_ne _ _ (by omega), setF_ne _ _ (by omega), setF_ne _ _ (by omega)]
          have s11 : S2.2 480 11 = (tx.length : Int) + 1 := by rw [hS, setF_same]
          have s488 : S2.2 488 tx.length = (dA.length : Int) := by rw [hS, setF_ne _ _ (by omega), setF_ne _ _ (by omega), setF_same]
          have s4 : S2.2 480 4 = 0 := by rw [hS, setF_ne _ _ (by omega), setF_same]
          have fr : S2.1 = σ'.1 := by rw [hS]; rfl
          repeat (first | refine tr_mgr rfl (by decide) rfl ?_ | refine tr_mgi rfl (by decide) (by decide) rfl ?_ | refine tr_mv rfl (fun _ => rfl) ?_)
          rw [s11]
          refine tr_ri rfl (by omega) (K2 S2 g3 hn ⟨by rw [s11]; simp, fun l hl => ?_⟩ s4 ?_ (q2.tr ((ho.wk (fun q l h => by omega)).tr ⟨fr, fun q l hq => fo q l (by omega) (by omega)⟩)))
          · rw [List.length_append, List.length_singleton] at hl
            by_cases g : l = tx.length
            · subst g
              rw [List.getD_eq_getElem?_getD, List.getElem?_append_right (Nat.le_refl _)]
              simp only [Nat.sub_self, List.getElem?_cons_zero, Option.getD_some]
              exact ⟨s488, fun l hl => by rw [fo _ _ (by omega) (by omega)]; exact hk l (by omega)⟩
            · rw [List.getD_eq_getElem?_getD, List.getElem?_append_left (by omega), ← List.getD_eq_getElem?_getD]
              have hl30 := (okTx_get hT (i := l) (by omega)).2.2
              have k := cT2 l (by omega)
              refine ⟨by rw [fo _ _ (by omega) (by omega), ho.2 _ _ (by omega)]; exact k.1, fun l2 hl2 => ?_⟩
              rw [fo _ _ (by omega) (by omega), ho.2 _ _ (by omega)]
              exact k.2 l2 hl2
          · rw [fo _ _ (by omega) (by omega), ho.2 _ _ (by omega)]
            exact f2
        | succ dd ih =>
          intro j σ' e hk ho
          have h13 : σ'.2 480 13 = (dA.length : Int) := (ho.2 _ _ (by omega)).trans r2.1
          have h11' : σ'.2 480 11 = (tx.length : Int) := (ho.2 _ _ (by omega)).trans h11
          have hv : σ'.2 489 j = dA.getD j 0 := (ho.2 _ _ (by omega)).trans (mrow_getD r2 (by omega))
          repeat (first | refine tr_mgr rfl (by decide) rfl ?_ | refine tr_mgi rfl (by decide) (by decide) rfl ?_ | refine tr_mv rfl (fun _ => rfl) ?_)
          rw [h13]
          refine tr_cmp2 rfl (m32_of (by omega)) (m32_of (by omega)) (fun c9 => absurd (show (dA.length : Int) ≤ (j : Int) from c9) (by omega)) (fun _ => ?_)
          repeat (first | refine tr_mgr rfl (by decide) rfl ?_ | refine tr_mgi rfl (by decide) (by decide) rfl ?_ | refine tr_mv rfl (fun _ => rfl) ?_)
          rw [h11']
          refine tr_man (j := j) rfl (by omega) (by omega) rfl (fun _ => rfl) rfl rfl rfl ?_
          rw [hv]
          refine tr_msn (j := 30 * tx.length + j) rfl (by omega) (by omega) rfl (fun _ => rfl) rfl rfl rfl ?_
          iterate 2 (refine tr_mv rfl (fun _ => rfl) ?_)
          show Tr Ls N 225 85 [some (mP (some 480)), some (mI ((j : Int) + 1))] [] _ post
          rw [show (j : Int) + 1 = ((j + 1 : Nat) : Int) by omega]
          refine ih (j + 1) _ (by omega) (fun l hl => ?_) (ho.setF (Or.inr (Or.inr ⟨rfl, by omega⟩)))
          rw [setF_get]
          by_cases g : l = j
          · rw [if_pos ⟨rfl, by omega⟩, g]
          · rw [if_neg (by omega)]
            exact hk l (by omega)
      -- the first loop: what was drawn
      have L1 : ∀ (dd j : Nat) (σ' : Sg), j + dd = ds.length → only (fun q l => q = 485) σ2 σ' → Tr Ls N 225 36 [some (mP (some 480)), some (mI (j : Int))] [] σ' post := by
        intro dd
        induction dd with
        | zero =>
          intro j σ' e ho
          have h4' : σ'.2 480 4 = (ds.length : Int) := (ho.2 _ _ (by omega)).trans h4
          have h11' : σ'.2 480 11 = (tx.length : Int) := (ho.2 _ _ (by omega)).trans h11
          repeat (first | refine tr_mgr rfl (by decide) rfl ?_ | refine tr_mgi rfl (by decide) (by decide) rfl ?_ | refine tr_mv rfl (fun _ => rfl) ?_)
          rw [h4']
          refine tr_cmp2 rfl (m32_of (by omega)) (m32_of (by omega)) (fun _ => ?_) (fun c9 => absurd (show (ds.length : Int) ≤ (j : Int) by omega) c9)
          repeat (first | refine tr_mgr rfl (by decide) rfl ?_ | refine tr_mgi rfl (by decide) (by decide) rfl ?_ | refine tr_mv rfl (fun _ => rfl) ?_)
          rw [h11', h4']
          refine tr_msn (j := tx.length) rfl (by omega) (by omega) rfl (fun _ => rfl) rfl rfl rfl ?_
          iterate 2 (refine tr_mv rfl (fun _ => rfl) ?_)
          exact L2 dA.length 0 _ (by omega) (fun l hl => absurd hl (Nat.not_lt_zero _)) ((ho.wk (fun q l h => Or.inl h)).setF (Or.inr (Or.inl rfl)))
        | succ dd ih =>
          intro j σ' e ho
          have h4' : σ'.2 480 4 = (ds.length : Int) := (ho.2 _ _ (by omega)).trans h4
          have h11' : σ'.2 480 11 = (tx.length : Int) := (ho.2 _ _ (by omega)).trans h11
          repeat (first | refine tr_mgr rfl (by decide) rfl ?_ | refine tr_mgi rfl (by decide) (by decide) rfl ?_ | refine tr_mv rfl (fun _ => rfl) ?_)
          rw [h4']
          refine tr_cmp2 rfl (m32_of (by omega)) (m32_of (by omega)) (fun c9 => absurd (show (ds.length : Int) ≤ (j : Int) from c9) (by omega)) (fun _ => ?_)
          repeat (first | refine tr_mgr rfl (by decide) rfl ?_ | refine tr_mgi rfl (by decide) (by decide) rfl ?_ | refine tr_mv rfl (fun _ => rfl) ?_)
          rw [h11']
          refine tr_man (j := j) rfl (by omega) (by omega) rfl (fun _ => rfl) rfl rfl rfl ?_
          refine tr_msn (j := 10 * tx.length + j) rfl (by omega) (by omega) rfl (fun _ => rfl) rfl rfl rfl ?_
          iterate 2 (refine tr_mv rfl (fun _ => rfl) ?_)
          show Tr Ls N 225 36 [some (mP (some 480)), some (mI ((j : Int) + 1))] [] _ post
          rw [show (j : Int) + 1 = ((j + 1 : Nat) : Int) by omega]
          exact ih (j + 1) _ (by omega) (ho.setF rfl)
      iterate 2 (refine tr_mv rfl (fun _ => rfl) ?_)
      exact L1 ds.length 0 σ2 (by omega) only.rf
    · have g5 : (tx.length : Int) = 30 := Decidable.of_not_not g4
      exact bad (Or.inr (by omega))
end MTEXT2
