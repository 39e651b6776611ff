/-! Texts and entries on the model's side; its order of an index. -/
def mTx (σ : Sg) (tx : List (List Int)) : Prop := σ.2 480 11 = (tx.length : Int) ∧ ∀ i, i < tx.length → txM σ i (tx.getD i [])
def mEn (σ : Sg) (en : List EnT) : Prop := σ.2 480 51 = (en.length : Int) ∧ (∀ i, i < en.length → σ.2 513 i = enP (en.getD i enD) ∧ σ.2 514 i = (enT (en.getD i enD) : Int) ∧ σ.2 515 i = (enS (en.getD i enD) : Int) ∧ σ.2 520 i = enX (en.getD i enD)) ∧
  ∀ i, i < 24 → σ.2 516 i = enK (en.getD i enD) ∧ σ.2 517 i = (enA (en.getD i enD) : Int) ∧ σ.2 521 i = (enO (en.getD i enD) : Int) ∧ σ.2 519 i = ((enM (en.getD i enD)).length : Int) ∧ mseg σ 518 (10 * i) (enM (en.getD i enD))
def mOd (σ : Sg) (l : List Nat) : Prop := σ.2 480 53 = (l.length : Int) ∧ mseg σ 522 0 (ci l)
abbrev cOd (q i : Nat) : Prop := cQ q i ∨ q = 522 ∨ (q = 480 ∧ i = 53)
section MORD
variable {Ls N k pc n n' nn b c t a q kd w d p X : Nat} {L L0 : mLs} {st r as : List mV} {h h' : mH} {σ σ' σ'' : Sg} {post : tP} {x y z x' y' i i' s v m u lv : Int} {xs ys : List Int} {e : mE} {C : Nat → Nat → Prop} {R : Nat → Prop} {tx : List (List Int)} {en : List EnT} {D : TD} {o : Nat → Int}
theorem mTx.of (h : mTx σ tx) (ho : only C σ σ') (hC : ∀ q i, C q i → ¬ (q = 487 ∨ q = 488 ∨ (q = 480 ∧ i = 11))) : mTx σ' tx := ⟨(ho.2 _ _ (fun g => hC _ _ g (by omega))).trans h.1, fun i hi => (h.2 i hi).el ho (fun q i h1 h2 g => hC _ _ g (by omega))⟩
theorem mEn.of (h : mEn σ en) (ho : only C σ σ') (hC : ∀ q i, C q i → ¬ ((513 ≤ q ∧ q ≤ 521) ∨ (q = 480 ∧ i = 51))) : mEn σ' en := by
  have e : ∀ q i, 513 ≤ q → q ≤ 521 → σ'.2 q i = σ.2 q i := fun q i h1 h2 => ho.2 _ _ (fun g => hC _ _ g (by omega))
  refine ⟨(ho.2 _ _ (fun g => hC _ _ g (by omega))).trans h.1, fun i hi => ?_, fun i hi => ?_⟩
  · rw [e _ _ (by omega) (by omega), e _ _ (by omega) (by omega), e _ _ (by omega) (by omega), e _ _ (by omega) (by omega)]
    exact h.2.1 i hi
  · rw [e _ _ (by omega) (by omega), e _ _ (by omega) (by omega), e _ _ (by omega) (by omega), e _ _ (by omega) (by omega)]
    obtain ⟨k1, k2, k3, k4, k5⟩ := h.2.2 i hi
    exact ⟨k1, k2, k3, k4, k5.keep (fun j _ _ => e _ _ (by omega) (by omega))⟩
theorem cRow_od : ∀ q i, cRow q i → cOd q i := fun q i g => Or.inl (Or.inl g)
theorem cQ_nin {q i : Nat} (g : cQ q i) : q = 489 ∨ (504 ≤ q ∧ q ≤ 511) ∨ (q = 480 ∧ (i = 13 ∨ i = 32 ∨ i = 34 ∨ i = 36 ∨ i = 38 ∨ i = 40)) := by
  rcases g with g | g
  · unfold cRow at g
    omega
  · omega
theorem s_289 (hT : okTx tx) (cT : mTx σ tx) (cE : mEn σ en) (hp : p < en.length) (hl : en.length ≤ 24) (he : okE1 tx en.length (en.getD p enD)) (K : ∀ σ', mrow σ' (frm tx (en.getD p enD)) → only cRow σ σ' → post (.inl none) σ') :
    Tr Ls N 289 0 [some (mP (some 480)), some (mI (p : Int)), none, none, none, none] [] σ post := by
  have e1 := cE.2.1 p hp
  have e2 := cE.2.2 p (by omega)
  obtain ⟨o1, o2, o3⟩ := okTx_get hT he.1
  have hX := cT.2 _ he.1
  have hat := he.2.2.2.2.1
  have htl := hT.1
  have htt := he.1
  unfold frm at K
  generalize htx : tx.getD (enT (en.getD p enD)) [] = ts at *
  generalize enT (en.getD p enD) = tt at *
  generalize enA (en.getD p enD) = at0 at *
  have hkd := he.2.2.1
  -- a sign put behind the row
  have push : ∀ (σ' : Sg) (rw0 : List Int) (v : Int), mrow σ' rw0 → in32 v → mrow (setF (setF σ' 489 rw0.length v) 480 13 ((rw0.length : Int) + 1)) (rw0 ++ [v]) := fun σ' rw0 v h hv => mrow_push h hv
  have L2 : ∀ (d j : Nat) (σ' : Sg), j + d = at0 → mrow σ' (ts.drop at0 ++ 28 :: ts.take j) → only cRow σ σ' → (∀ σ', mrow σ' (ts.drop at0 ++ 28 :: ts.take at0) → only cRow σ σ' → post (.inl none) σ') → Tr Ls N 289 108 [some (mP (some 480)), some (mI (p : Int)), some (mI (tt : Int)), some (mI (at0 : Int)), some (mI (ts.length : Int)), some (mI (j : Int))] [] σ' post := by
    intro d
    induction d with
    | zero =>
      intro j σ' e hr ho K'
      iterate 2 (refine tr_mv rfl (fun _ => rfl) ?_)
      refine tr_cmp2 rfl (m32_of (by omega)) (m32_of (by omega)) (fun _ => ?_) (fun c1 => absurd (show (at0 : Int) ≤ (j : Int) by omega) c1)
      rw [show j = at0 by omega] at hr
      exact tr_ret rfl (fun _ => rfl) (K' σ' hr ho)
    | succ d ih =>
      intro j σ' e hr ho K'
      have hlr : (ts.drop at0 ++ 28 :: ts.take j).length = ts.length - at0 + 1 + j := by simp; omega
      have hg : ts.getD j 0 ∈ ts := by
        rw [List.getD_eq_getElem?_getD, List.getElem?_eq_getElem (by omega)]
        exact List.getElem_mem _
      have h40 := o1 _ hg
      iterate 2 (refine tr_mv rfl (fun _ => rfl) ?_)
      refine tr_cmp2 rfl (m32_of (by omega)) (m32_of (by omega)) (fun c1 => absurd c1 (by show ¬ _ ≤ _; omega)) (fun _ => ?_)
      repeat (first | refine tr_mgr rfl (by decide) rfl ?_ | refine tr_mgi rfl (by decide) (by decide) rfl ?_ | refine tr_mv rfl (fun _ => rfl) ?_)
      refine tr_man (j := 30 * tt + j) rfl (by omega) (by omega) rfl (fun _ => rfl) rfl rfl rfl ?_
      rw [(hX.el ho (fun q i h1 h2 => by unfold cRow; omega)).2.get (by omega), hr.1]
      refine tr_msn (j := (ts.drop at0 ++ 28 :: ts.take j).length) rfl (by omega) (by omega) rfl (fun _ => rfl) rfl rfl rfl ?_
      repeat (first | refine tr_mgr rfl (by decide) rfl ?_ | refine tr_mgi rfl (by decide) (by decide) rfl ?_ | refine tr_mv rfl (fun _ => rfl) ?_)
      rw [setF_ne _ _ (by omega), hr.1]
      refine tr_mpi rfl (Or.inl rfl) (by decide) rfl ?_
      iterate 2 (refine tr_mv rfl (fun _ => rfl) ?_)
      show Tr Ls N 289 108 [some (mP (some 480)), some (mI (p : Int)), some (mI (tt : Int)), some (mI (at0 : Int)), some (mI (ts.length : Int)), some (mI ((j : Int) + 1))] [] _ post
      rw [show (j : Int) + 1 = ((j + 1 : Nat) : Int) by omega]
      refine ih (j + 1) _ (by omega) ?_ (ho.tr (only_push _ _ _)) K'
      have h9 := push σ' _ (ts.getD j 0) hr (by omega)
      rw [show ts.drop at0 ++ 28 :: ts.take j ++ [ts.getD j 0] = ts.drop at0 ++ 28 :: ts.take (j + 1) from by
        rw [List.take_add_one, List.getD_eq_getElem?_getD, List.getElem?_eq_getElem (show j < ts.length by omega)]
        simp] at h9
      exact h9
  have L1 : ∀ (d j : Nat) (σ' : Sg), at0 + j + d = ts.length → mrow σ' ((ts.drop at0).take j) → only cRow σ σ' → Tr Ls N 289 30 [some (mP (some 480)), some (mI (p : Int)), some (mI (tt : Int)), some (mI (at0 : Int)), some (mI (ts.length : Int)), some (mI ((at0 + j : Nat) : Int))] [] σ' post := by
    intro d
    induction d with
    | zero =>
      intro j σ' e hr ho
      rw [List.take_of_length_le (by rw [List.length_drop]; omega)] at hr
      iterate 2 (refine tr_mv rfl (fun _ => rfl) ?_)
      refine tr_cmp2 rfl (m32_of (by omega)) (m32_of (by omega)) (fun _ => ?_) (fun c1 => absurd (show (ts.length : Int) ≤ ((at0 + j : Nat) : Int) by omega) c1)
      repeat (first | refine tr_mgr rfl (by decide) rfl ?_ | refine tr_mgi rfl (by decide) (by decide) rfl ?_ | refine tr_mv rfl (fun _ => rfl) ?_)
      refine tr_man (j := p) rfl (by omega) (by omega) rfl (fun _ => rfl) rfl rfl rfl ?_
      rw [ho.2 516 _ (by unfold cRow; omega), e2.1]
      iterate 1 (refine tr_mv rfl (fun _ => rfl) ?_)
      refine tr_cmp2 rfl (m32_of (by omega)) (m32_of (by omega)) (fun c2 => ?_) (fun c2 => ?_)
      · rw [if_neg c2, List.append_nil] at K
        exact tr_ret rfl (fun _ => rfl) (K σ' hr ho)
      · rw [if_pos (Decidable.byContradiction c2)] at K
        have hlr : (ts.drop at0).length = ts.length - at0 := List.length_drop
        repeat (first | refine tr_mgr rfl (by decide) rfl ?_ | refine tr_mgi rfl (by decide) (by decide) rfl ?_ | refine tr_mv rfl (fun _ => rfl) ?_)
        rw [hr.1]
        refine tr_msn (j := (ts.drop at0).length) rfl (by omega) (by omega) rfl (fun _ => rfl) rfl rfl rfl ?_
        repeat (first | refine tr_mgr rfl (by decide) rfl ?_ | refine tr_mgi rfl (by decide) (by decide) rfl ?_ | refine tr_mv rfl (fun _ => rfl) ?_)
        rw [setF_ne _ _ (by omega), hr.1]
        refine tr_mpi rfl (Or.inl rfl) (by decide) rfl ?_
        iterate 2 (refine tr_mv rfl (fun _ => rfl) ?_)
        refine L2 at0 0 _ (by omega) ?_ (ho.tr (only_push _ _ _)) K
        exact push σ' _ 28 hr (by omega)
    | succ d ih =>
      intro j σ' e hr ho
      have hlr : ((ts.drop at0).take j).length = j := by rw [List.length_take, List.length_drop]; omega
      have hg : ts.getD (at0 + j) 0 ∈ ts := by
        rw [List.getD_eq_getElem?_getD, List.getElem?_eq_getElem (by omega)]
        exact List.getElem_mem _
      have h40 := o1 _ hg
      iterate 2 (refine tr_mv rfl (fun _ => rfl) ?_)
      refine tr_cmp2 rfl (m32_of (by omega)) (m32_of (by omega)) (fun c1 => absurd c1 (by show ¬ _ ≤ _; omega)) (fun _ => ?_)
      repeat (first | refine tr_mgr rfl (by decide) rfl ?_ | refine tr_mgi rfl (by decide) (by decide) rfl ?_ | refine tr_mv rfl (fun _ => rfl) ?_)
      refine tr_man (j := 30 * tt + (at0 + j)) rfl (by omega) (by omega) rfl (fun _ => rfl) rfl rfl rfl ?_
      rw [(hX.el ho (fun q i h1 h2 => by unfold cRow; omega)).2.get (by omega), hr.1]
      refine tr_msn (j := ((ts.drop at0).take j).length) rfl (by omega) (by omega) rfl (fun _ => rfl) rfl rfl rfl ?_
      repeat (first | refine tr_mgr rfl (by decide) rfl ?_ | refine tr_mgi rfl (by decide) (by decide) rfl ?_ | refine tr_mv rfl (fun _ => rfl) ?_)
      rw [setF_ne _ _ (by omega), hr.1]
      refine tr_mpi rfl (Or.inl rfl) (by decide) rfl ?_
      iterate 2 (refine tr_mv rfl (fun _ => rfl) ?_)
      show Tr Ls N 289 30 [some (mP (some 480)), some (mI (p : Int)), some (mI (tt : Int)), some (mI (at0 : Int)), some (mI (ts.length : Int)), some (mI (((at0 + j : Nat) : Int) + 1))] [] _ post
      rw [show ((at0 + j : Nat) : Int) + 1 = ((at0 + (j + 1) : Nat) : Int) by omega]
      refine ih (j + 1) _ (by omega) ?_ (ho.tr (only_push _ _ _))
      have h9 := push σ' _ (ts.getD (at0 + j) 0) hr (by omega)
      rw [show (ts.drop at0).take j ++ [ts.getD (at0 + j) 0] = (ts.drop at0).take (j + 1) from by
        rw [List.take_add_one, List.getElem?_drop, List.getD_eq_getElem?_getD, List.getElem?_eq_getElem (show at0 + j < ts.length by omega)]
        simp] at h9
      exact h9
  repeat (first | refine tr_mgr rfl (by decide) rfl ?_ | refine tr_mgi rfl (by decide) (by decide) rfl ?_ | refine tr_mv rfl (fun _ => rfl) ?_)
  refine tr_man (j := p) rfl (by omega) (by omega) rfl (fun _ => rfl) rfl rfl rfl ?_
  rw [e1.2.1]
  repeat (first | refine tr_mgr rfl (by decide) rfl ?_ | refine tr_mgi rfl (by decide) (by decide) rfl ?_ | refine tr_mv rfl (fun _ => rfl) ?_)
  refine tr_man (j := p) rfl (by omega) (by omega) rfl (fun _ => rfl) rfl rfl rfl ?_
  rw [e2.2.1]
  repeat (first | refine tr_mgr rfl (by decide) rfl ?_ | refine tr_mgi rfl (by decide) (by decide) rfl ?_ | refine tr_mv rfl (fun _ => rfl) ?_)
  refine tr_man (j := tt) rfl (by omega) (by omega) rfl (fun _ => rfl) rfl rfl rfl ?_
  rw [hX.1]
  iterate 3 (refine tr_mv rfl (fun _ => rfl) ?_)
  refine tr_mpi rfl (Or.inl rfl) (by decide) rfl ?_
  iterate 2 (refine tr_mv rfl (fun _ => rfl) ?_)
  exact L1 (ts.length - at0) 0 _ (by omega) ⟨by rw [List.take_zero]; exact setF_same _ _ _ _, fun i hi => by rw [List.take_zero] at hi; exact absurd hi (Nat.not_lt_zero _), fun x hx => by rw [List.take_zero] at hx; cases hx⟩ (only.rf.setF (Or.inr ⟨rfl, rfl⟩))
theorem s_290 (hX : X < 3) (hM : tlM X σ D) (hD : okTD D) (hO : opM X σ o) (hT : okTx tx) (hE : okEn tx en) (cT : mTx σ tx) (cE : mEn σ en) (ha : a < en.length) (hb : b < en.length) (K : ∀ σ', only cQ σ σ' → post (.inl (some (mI (b2 (ahd (kfE tx en D o) a b))))) σ') :
    Tr Ls N 290 0 [some (mP (some 480)), some (mI (X : Int)), some (mI (a : Int)), some (mI (b : Int)), none] [] σ post := by
  have hne := hE.1
  have fa := frm_ok hT (hE.2.1 _ (en_mem ha))
  have fb := frm_ok hT (hE.2.1 _ (en_mem hb))
  have cT' : ∀ σ', only cQ σ σ' → mTx σ' tx := fun σ' g => cT.of g (fun q i h => by have := cQ_nin h; omega)
  have cE' : ∀ σ', only cQ σ σ' → mEn σ' en := fun σ' g => cE.of g (fun q i h => by have := cQ_nin h; omega)
  repeat (first | refine tr_mgr rfl (by decide) rfl ?_ | refine tr_mgi rfl (by decide) (by decide) rfl ?_ | refine tr_mv rfl (fun _ => rfl) ?_)
  refine tr_vc (q := 480) rfl isO_480 rfl rfl rfl (s_289 hT cT cE ha hne (hE.2.1 _ (en_mem ha)) (fun σ1 r1 o1 => ?_))
  have p1 := cQ_row o1
  repeat (first | refine tr_mgr rfl (by decide) rfl ?_ | refine tr_mgi rfl (by decide) (by decide) rfl ?_ | refine tr_mv rfl (fun _ => rfl) ?_)
  refine tr_vc (q := 480) rfl isO_480 rfl rfl rfl (s_265 (d := 4) hX (hM.cq p1) hD (hO.cq p1) r1 fa.1 fa.2.1 (by decide) (fun σ2 k2 o2 => ?_))
  have p2 := p1.tr (cQ_ko o2)
  repeat (first | refine tr_mgr rfl (by decide) rfl ?_ | refine tr_mgi rfl (by decide) (by decide) rfl ?_ | refine tr_mv rfl (fun _ => rfl) ?_)
  refine tr_vc (q := 480) rfl isO_480 rfl rfl rfl (s_266 k2 (keyOf_len fa.2.1 (by decide)) (fun σ3 k3 o3 => ?_))
  have p3 := p2.tr (cQ_ot o3)
  repeat (first | refine tr_mgr rfl (by decide) rfl ?_ | refine tr_mgi rfl (by decide) (by decide) rfl ?_ | refine tr_mv rfl (fun _ => rfl) ?_)
  refine tr_vc (q := 480) rfl isO_480 rfl rfl rfl (s_289 hT (cT' _ p3) (cE' _ p3) hb hne (hE.2.1 _ (en_mem hb)) (fun σ4 r4 o4 => ?_))
  have p4 := p3.tr (cQ_row o4)
  repeat (first | refine tr_mgr rfl (by decide) rfl ?_ | refine tr_mgi rfl (by decide) (by decide) rfl ?_ | refine tr_mv rfl (fun _ => rfl) ?_)
  refine tr_vc (q := 480) rfl isO_480 rfl rfl rfl (s_265 (d := 4) hX (hM.cq p4) hD (hO.cq p4) r4 fb.1 fb.2.1 (by decide) (fun σ5 k5 o5 => ?_))
  have p5 := p4.tr (cQ_ko o5)
  repeat (first | refine tr_mgr rfl (by decide) rfl ?_ | refine tr_mgi rfl (by decide) (by decide) rfl ?_ | refine tr_mv rfl (fun _ => rfl) ?_)
  refine tr_vc (q := 480) rfl isO_480 rfl rfl rfl (s_267 k5 ((k3.el o4 (fun i => by unfold cRow; omega) (by unfold cRow; omega)).el o5 (fun i => by omega) (by omega)) (keyOf_len fb.2.1 (by decide)) (keyOf_len fa.2.1 (by decide)) (k200 (keyOf_in hD fb.1 fb.2.1)) (k200 (keyOf_in hD fa.1 fa.2.1)) ?_)
  have K' := K σ5 p5
  have hci := cmpL_in (kfE tx en D o a) (kfE tx en D o b)
  rw [show cmpL (keyOf D o 4 (frm tx (en.getD a enD))) (keyOf D o 4 (frm tx (en.getD b enD))) = cmpL (kfE tx en D o a) (kfE tx en D o b) from rfl]
  iterate 2 (refine tr_mv rfl (fun _ => rfl) ?_)
  refine tr_if2 rfl (m32_of (by omega)) (fun c1 => ?_) (fun c1 => ?_)
  · iterate 2 (refine tr_mv rfl (fun _ => rfl) ?_)
    exact tr_rb1 rfl (Or.inl (by omega)) K'
  · iterate 1 (refine tr_mv rfl (fun _ => rfl) ?_)
    refine tr_if2 rfl (m32_of (by omega)) (fun c2 => ?_) (fun c2 => ?_)
    · iterate 1 (refine tr_mv rfl (fun _ => rfl) ?_)
      exact tr_rb0 rfl (by omega) K'
    · iterate 2 (refine tr_mv rfl (fun _ => rfl) ?_)
      refine tr_cmp2 rfl (m32_of (by omega)) (m32_of (by omega)) (fun c3 => ?_) (fun c3 => ?_)
      · iterate 1 (refine tr_mv rfl (fun _ => rfl) ?_)
        exact tr_rb0 rfl (by omega) K'
      · iterate 2 (refine tr_mv rfl (fun _ => rfl) ?_)
        exact tr_rb1 rfl (Or.inr (by omega)) K'
theorem s_291 (hX : X < 3) (hE : okEn tx en) (cE : mEn σ en) (ha : a < en.length) (K : post (.inl (some (mI (b2 (inE en X a = true))))) σ) : Tr Ls N 291 0 [some (mP (some 480)), some (mI (X : Int)), some (mI (a : Int))] [] σ post := by
  have hne := hE.1
  have hs := (hE.2.1 _ (en_mem ha)).2.1
  repeat (first | refine tr_mgr rfl (by decide) rfl ?_ | refine tr_mgi rfl (by decide) (by decide) rfl ?_ | refine tr_mv rfl (fun _ => rfl) ?_)
  refine tr_man (j := a) rfl (by omega) (by omega) rfl (fun _ => rfl) rfl rfl rfl ?_
  rw [(cE.2.1 a ha).2.2.1]
  iterate 1 (refine tr_mv rfl (fun _ => rfl) ?_)
  refine tr_mv rfl (fun _ => rfl) ?_
  rw [w_shr (show enS (en.getD a enD) < 2 ^ 31 by omega) (show X < 31 by omega)]
  iterate 1 (refine tr_mv rfl (fun _ => rfl) ?_)
  refine tr_mv rfl (fun _ => rfl) ?_
  rw [w_a1 (Nat.lt_of_le_of_lt (Nat.div_le_self _ _) (show enS (en.getD a enD) < 2 ^ 31 by omega))]
  iterate 1 (refine tr_mv rfl (fun _ => rfl) ?_)
  have h2 : enS (en.getD a enD) / 2 ^ X % 2 < 2 := Nat.mod_lt _ (by decide)
  refine tr_cmp2 rfl (m32_of (by omega)) (m32_of (by omega)) (fun c1 => ?_) (fun c1 => ?_)
  · iterate 1 (refine tr_mv rfl (fun _ => rfl) ?_)
    exact tr_rb0 rfl (fun g => c1 (by rw [of_decide_eq_true g]; rfl)) K
  · iterate 2 (refine tr_mv rfl (fun _ => rfl) ?_)
    exact tr_rb1 rfl (decide_eq_true (by omega)) K
theorem mnO_lt (hE : okEn tx en) (ha : a < en.length) : mnO (prE en) a < en.length := by
  unfold mnO
  rcases hE.2.2 a ha with g | ⟨p, g1, g2, -⟩
  · rw [if_pos (show prE en a = -1 from g)]
    exact ha
  · have e : prE en a = (p : Int) := g1
    rw [if_neg (by omega), e, Int.toNat_natCast]
    exact g2
theorem s_292 (hE : okEn tx en) (cE : mEn σ en) (ha : a < en.length) (K : post (.inl (some (mI (mnO (prE en) a : Int)))) σ) : Tr Ls N 292 0 [some (mP (some 480)), some (mI (a : Int))] [] σ post := by
  have hne := hE.1
  have hpi := okPr_in hE a ha
  have hpe : σ.2 513 a = prE en a := (cE.2.1 a ha).1
  repeat (first | refine tr_mgr rfl (by decide) rfl ?_ | refine tr_mgi rfl (by decide) (by decide) rfl ?_ | refine tr_mv rfl (fun _ => rfl) ?_)
  refine tr_man (j := a) rfl (by omega) (by omega) rfl (fun _ => rfl) rfl rfl rfl ?_
  rw [hpe]
  iterate 1 (refine tr_mv rfl (fun _ => rfl) ?_)
  refine tr_cmp2 rfl (m32_of (by omega)) (m32_of (by omega)) (fun c1 => ?_) (fun c1 => ?_)
  · repeat (first | refine tr_mgr rfl (by decide) rfl ?_ | refine tr_mgi rfl (by decide) (by decide) rfl ?_ | refine tr_mv rfl (fun _ => rfl) ?_)
    refine tr_man (j := a) rfl (by omega) (by omega) rfl (fun _ => rfl) rfl rfl rfl ?_
    rw [hpe]
    refine tr_ri rfl ?_ K
    rcases hE.2.2 a ha with g | ⟨p, g1, -⟩
    · exact absurd g c1
    · have e : prE en a = (p : Int) := g1
      rw [mnO_sub e, e]
  · iterate 2 (refine tr_mv rfl (fun _ => rfl) ?_)
    refine tr_ri rfl ?_ K
    rw [mnO_top (Decidable.byContradiction c1)]
theorem s_293 (hX : X < 3) (hM : tlM X σ D) (hD : okTD D) (hO : opM X σ o) (hT : okTx tx) (hE : okEn tx en) (cT : mTx σ tx) (cE : mEn σ en) (ha : a < en.length) (hb : b < en.length) (K : ∀ σ', only cQ σ σ' → post (.inl (some (mI (b2 (gFp (kfE tx en D o) (prE en) a b))))) σ') :
    Tr Ls N 293 0 [some (mP (some 480)), some (mI (X : Int)), some (mI (a : Int)), some (mI (b : Int)), none, none] [] σ post := by
  have hne := hE.1
  have ma := mnO_lt hE ha
  have mb := mnO_lt hE hb
  repeat (first | refine tr_mgr rfl (by decide) rfl ?_ | refine tr_mgi rfl (by decide) (by decide) rfl ?_ | refine tr_mv rfl (fun _ => rfl) ?_)
  refine tr_vc (q := 480) rfl isO_480 rfl rfl rfl (s_292 hE cE ha ?_)
  repeat (first | refine tr_mgr rfl (by decide) rfl ?_ | refine tr_mgi rfl (by decide) (by decide) rfl ?_ | refine tr_mv rfl (fun _ => rfl) ?_)
  refine tr_vc (q := 480) rfl isO_480 rfl rfl rfl (s_292 hE cE hb ?_)
  obtain ⟨A, hma⟩ : ∃ A, A = mnO (prE en) a := ⟨_, rfl⟩
  obtain ⟨B, hmb⟩ : ∃ B, B = mnO (prE en) b := ⟨_, rfl⟩
  rw [← hma] at ma ⊢
  rw [← hmb] at mb ⊢
  have hgf : gFp (kfE tx en D o) (prE en) a b ↔ ((A ≠ B ∧ ahd (kfE tx en D o) A B) ∨ (A = B ∧ (a = A ∨ (b ≠ B ∧ ahd (kfE tx en D o) a b)))) := by
    unfold gFp
    rw [← hma, ← hmb]
  iterate 3 (refine tr_mv rfl (fun _ => rfl) ?_)
  refine tr_cmp2 rfl (m32_of (by omega)) (m32_of (by omega)) (fun c1 => ?_) (fun c1 => ?_)
  · have c1 : A = B := by omega
    iterate 2 (refine tr_mv rfl (fun _ => rfl) ?_)
    refine tr_cmp2 rfl (m32_of (by omega)) (m32_of (by omega)) (fun c2 => ?_) (fun c2 => ?_)
    · iterate 2 (refine tr_mv rfl (fun _ => rfl) ?_)
      exact tr_rb1 rfl (hgf.mpr (Or.inr ⟨c1, Or.inl (by omega)⟩)) (K σ only.rf)
    · iterate 2 (refine tr_mv rfl (fun _ => rfl) ?_)
      refine tr_cmp2 rfl (m32_of (by omega)) (m32_of (by omega)) (fun c3 => ?_) (fun c3 => ?_)
      · iterate 1 (refine tr_mv rfl (fun _ => rfl) ?_)
        refine tr_rb0 rfl (fun g => ?_) (K σ only.rf)
        rcases hgf.mp g with g | ⟨-, g | g⟩
        · exact g.1 c1
        · omega
        · have := g.1; omega
      · repeat (first | refine tr_mgr rfl (by decide) rfl ?_ | refine tr_mgi rfl (by decide) (by decide) rfl ?_ | refine tr_mv rfl (fun _ => rfl) ?_)
        refine tr_vc (q := 480) rfl isO_480 rfl rfl rfl (s_290 hX hM hD hO hT hE cT cE ha hb (fun σ1 p1 => ?_))
        first | refine tr_ib rfl (fun c4 => ?_) (fun c4 => ?_) | refine tr_ibn rfl (fun c4 => ?_) (fun c4 => ?_)
        · iterate 1 (refine tr_mv rfl (fun _ => rfl) ?_)
          refine tr_rb0 rfl (fun g => ?_) (K σ1 p1)
          rcases hgf.mp g with g | ⟨-, g | g⟩
          · exact g.1 c1
          · omega
          · exact c4 g.2
        · iterate 2 (refine tr_mv rfl (fun _ => rfl) ?_)
          exact tr_rb1 rfl (hgf.mpr (Or.inr ⟨c1, Or.inr ⟨by omega, c4⟩⟩)) (K σ1 p1)
  · have c1 : A ≠ B := fun g => c1 (by rw [g])
    repeat (first | refine tr_mgr rfl (by decide) rfl ?_ | refine tr_mgi rfl (by decide) (by decide) rfl ?_ | refine tr_mv rfl (fun _ => rfl) ?_)
    refine tr_vc (q := 480) rfl isO_480 rfl rfl rfl (s_290 hX hM hD hO hT hE cT cE ma mb (fun σ1 p1 => ?_))
    iterate 1 (refine tr_mv rfl (fun _ => rfl) ?_)
    refine tr_rb rfl ?_
    rw [b2_congr (p' := gFp (kfE tx en D o) (prE en) a b)]
    · exact K σ1 p1
    · rw [hgf]
      exact ⟨fun g => Or.inl ⟨c1, g⟩, fun g => g.elim (fun g => g.2) (fun g => absurd g.1 c1)⟩
theorem s_294 (hX : X < 3) (hM : tlM X σ D) (hD : okTD D) (hO : opM X σ o) (hT : okTx tx) (hE : okEn tx en) (cT : mTx σ tx) (cE : mEn σ en) (K : ∀ σ', mOd σ' (ordE tx en D o X) → only cOd σ σ' → post (.inl none) σ') :
    Tr Ls N 294 0 [some (mP (some 480)), some (mI (X : Int)), none, none] [] σ post := by
  have hne := hE.1
  have hco : ∀ q i, cOd q i → q = 489 ∨ (504 ≤ q ∧ q ≤ 511) ∨ q = 522 ∨ (q = 480 ∧ (i = 13 ∨ i = 32 ∨ i = 34 ∨ i = 36 ∨ i = 38 ∨ i = 40 ∨ i = 53)) := fun q i g => by
    rcases g with g | g
    · have := cQ_nin g; omega
    · omega
  have cT' : ∀ σ', only cOd σ σ' → mTx σ' tx := fun σ' g => cT.of g (fun q i h => by have := hco q i h; omega)
  have cE' : ∀ σ', only cOd σ σ' → mEn σ' en := fun σ' g => cE.of g (fun q i h => by have := hco q i h; omega)
  have hM' : ∀ σ', only cOd σ σ' → tlM X σ' D := fun σ' g => hM.el g (fun q i h1 h2 h => by have := hco q i h; omega)
  have hO' : ∀ σ', only cOd σ σ' → opM X σ' o := fun σ' g => hO.el g (fun i h => by have := hco _ i h; omega)
  have loop : ∀ (d i : Nat) (v3 : Option mV) (σ' : Sg), i + d = en.length → mOd σ' (((List.range i).filter (inE en X)).foldl (fun l e => (insR (gFb (kfE tx en D o) (prE en) e) e l.reverse).reverse) []) → only cOd σ σ' → Tr Ls N 294 7 [some (mP (some 480)), some (mI (X : Int)), some (mI (i : Int)), v3] [] σ' post := by
    intro d
    induction d with
    | zero =>
      intro i v3 σ' ei hl ho
      repeat (first | refine tr_mgr rfl (by decide) rfl ?_ | refine tr_mgi rfl (by decide) (by decide) rfl ?_ | refine tr_mv rfl (fun _ => rfl) ?_)
      rw [(cE' σ' ho).1]
      refine tr_cmp2 rfl (m32_of (by omega)) (m32_of (by omega)) (fun _ => ?_) (fun c1 => absurd (show (en.length : Int) ≤ (i : Int) by omega) c1)
      refine tr_ret rfl (fun _ => rfl) (K σ' ?_ ho)
      rw [show i = en.length by omega] at hl
      have : ordE tx en D o X = ordM (kfE tx en D o) (prE en) (inE en X) en.length := ord_eq (okEn_pr hE X)
      rw [this]
      exact hl
    | succ d ih =>
      intro i v3 σ' ei hl ho
      have hi : i < en.length := by omega
      have hsucc := range_filter_succ (inE en X) i
      generalize hacc : ((List.range i).filter (inE en X)).foldl (fun l e => (insR (gFb (kfE tx en D o) (prE en) e) e l.reverse).reverse) [] = acc at *
      have hf := fold_ins (P := fun _ => True) (R := gR (kfE tx en D o) (prE en)) (g := gFb (kfE tx en D o) (prE en)) (fun e y _ _ h => by unfold gFb; rw [decide_eq_true_iff]; exact ⟨fun g => ⟨by omega, g⟩, fun g => g.2⟩) (fun a b _ _ h hn => ⟨Ne.symm h, gR_tot h (fun g => hn ⟨h, g⟩)⟩) (fun a b c _ _ _ => gR_tr) ((List.range i).filter (inE en X)) [] List.Pairwise.nil (range_lt _ i) (fun _ _ => trivial) (fun _ _ => trivial) (fun e _ y hy => absurd hy List.not_mem_nil)
      rw [hacc] at hf
      have hal : acc.length ≤ i := by
        rw [hf.2.2]
        have := List.length_filter_le (inE en X) (List.range i)
        simp at this ⊢
        exact this
      have hmem : ∀ y ∈ acc, y < i := fun y hy => by
        have := (hf.2.1 y).mp hy
        simp at this
        exact this.1
      have h96 : ∀ (v3 : Option mV) (σ' : Sg), mOd σ' (((List.range (i + 1)).filter (inE en X)).foldl (fun l e => (insR (gFb (kfE tx en D o) (prE en) e) e l.reverse).reverse) []) → only cOd σ σ' → Tr Ls N 294 96 [some (mP (some 480)), some (mI (X : Int)), some (mI (i : Int)), v3] [] σ' post := by
        intro v3 σ' hl' ho'
        iterate 2 (refine tr_mv rfl (fun _ => rfl) ?_)
        show Tr Ls N 294 7 [some (mP (some 480)), some (mI (X : Int)), some (mI ((i : Int) + 1)), v3] [] σ' post
        rw [show (i : Int) + 1 = ((i + 1 : Nat) : Int) by omega]
        exact ih (i + 1) v3 σ' (by omega) hl' ho'
      repeat (first | refine tr_mgr rfl (by decide) rfl ?_ | refine tr_mgi rfl (by decide) (by decide) rfl ?_ | refine tr_mv rfl (fun _ => rfl) ?_)
      rw [(cE' σ' ho).1]
      refine tr_cmp2 rfl (m32_of (by omega)) (m32_of (by omega)) (fun c1 => absurd c1 (by show ¬ _ ≤ _; omega)) (fun _ => ?_)
      iterate 1 (refine tr_mv rfl (fun _ => rfl) ?_)
      refine tr_mgi rfl (by decide) (by decide) rfl ?_
      rw [hl.1]
      iterate 1 (refine tr_mv rfl (fun _ => rfl) ?_)
      by_cases hin : inE en X i = true
      · rw [if_pos hin, ] at hsucc
        -- behind what goes behind: B
        have inner : ∀ (ra B : List Nat) (σ2 : Sg), (∀ y ∈ ra, y < i) → ra.length + B.length = acc.length → mseg σ2 522 0 (ci ra.reverse) → mseg σ2 522 (ra.length + 1) (ci B) → σ2.2 480 53 = (acc.length : Int) → only cOd σ σ2 → (∀ σ3, mOd σ3 ((insR (gFb (kfE tx en D o) (prE en) i) i ra).reverse ++ B) → only cOd σ σ3 → ∀ v3, Tr Ls N 294 96 [some (mP (some 480)), some (mI (X : Int)), some (mI (i : Int)), v3] [] σ3 post) → Tr Ls N 294 20 [some (mP (some 480)), some (mI (X : Int)), some (mI (i : Int)), some (mI (ra.length : Int))] [] σ2 post := by
          have hend : ∀ (ra B : List Nat) (σ2 : Sg), ra.length + B.length = acc.length → mseg σ2 522 0 (ci ra.reverse) → mseg σ2 522 (ra.length + 1) (ci B) → σ2.2 480 53 = (acc.length : Int) → only cOd σ σ2 → (∀ σ3, mOd σ3 (ra.reverse ++ i :: B) → only cOd σ σ3 → ∀ v3, Tr Ls N 294 96 [some (mP (some 480)), some (mI (X : Int)), some (mI (i : Int)), v3] [] σ3 post) → Tr Ls N 294 70 [some (mP (some 480)), some (mI (X : Int)), some (mI (i : Int)), some (mI (ra.length : Int))] [] σ2 post := by
            intro ra B σ2 hlen hA hB hc53 ho2 K'
            repeat (first | refine tr_mgr rfl (by decide) rfl ?_ | refine tr_mgi rfl (by decide) (by decide) rfl ?_ | refine tr_mv rfl (fun _ => rfl) ?_)
            refine tr_vc (q := 480) rfl isO_480 rfl rfl rfl (s_291 hX hE (cE' σ2 ho2) hi ?_)
            first | refine tr_ib rfl (fun c2 => ?_) (fun c2 => ?_) | refine tr_ibn rfl (fun c2 => ?_) (fun c2 => ?_)
            · exact absurd hin c2
            · repeat (first | refine tr_mgr rfl (by decide) rfl ?_ | refine tr_mgi rfl (by decide) (by decide) rfl ?_ | refine tr_mv rfl (fun _ => rfl) ?_)
              refine tr_msn (j := ra.length) rfl (by omega) (by omega) rfl (fun _ => rfl) rfl rfl rfl ?_
              repeat (first | refine tr_mgr rfl (by decide) rfl ?_ | refine tr_mgi rfl (by decide) (by decide) rfl ?_ | refine tr_mv rfl (fun _ => rfl) ?_)
              rw [setF_ne _ _ (by omega), hc53]
              refine tr_mpi rfl (Or.inl rfl) (by decide) rfl ?_
              refine K' _ ⟨?_, fun j hj => ?_⟩ ((ho2.setF (Or.inr (Or.inl rfl))).setF (Or.inr (Or.inr ⟨rfl, rfl⟩))) _
              · rw [setF_same]
                simp
                omega
              · rw [setF_ne _ _ (by omega), setF_get, show ci (ra.reverse ++ i :: B) = ci ra.reverse ++ (i : Int) :: ci B by simp, List.getD_eq_getElem?_getD]
                have hj2 : j < ra.length + 1 + B.length := by simp at hj; omega
                have hlr : (ci ra.reverse).length = ra.length := by simp
                by_cases e1 : j < ra.length
                · rw [if_neg (by omega), List.getElem?_append_left (by omega), ← List.getD_eq_getElem?_getD]
                  exact hA j (by omega)
                · rw [List.getElem?_append_right (by omega), hlr]
                  by_cases e2 : j = ra.length
                  · rw [if_pos ⟨rfl, by omega⟩, e2]
                    simp
                  · rw [if_neg (by omega), show j - ra.length = (j - ra.length - 1) + 1 by omega, List.getElem?_cons_succ, ← List.getD_eq_getElem?_getD]
                    have h7 := hB (j - ra.length - 1) (by simp; omega)
                    rw [show ra.length + 1 + (j - ra.length - 1) = 0 + j by omega] at h7
                    exact h7
          intro ra
          induction ra with
          | nil =>
            intro B σ2 hmm hlen hA hB hc53 ho2 K'
            repeat (first | refine tr_mgr rfl (by decide) rfl ?_ | refine tr_mgi rfl (by decide) (by decide) rfl ?_ | refine tr_mv rfl (fun _ => rfl) ?_)
            refine tr_vc (q := 480) rfl isO_480 rfl rfl rfl (s_291 hX hE (cE' σ2 ho2) hi ?_)
            first | refine tr_ib rfl (fun c2 => ?_) (fun c2 => ?_) | refine tr_ibn rfl (fun c2 => ?_) (fun c2 => ?_)
            · exact absurd hin c2
            · iterate 1 (refine tr_mv rfl (fun _ => rfl) ?_)
              refine tr_if2 rfl (m32_of (x := 0) ⟨by decide, by decide⟩) (fun _ => ?_) (fun c9 => absurd (show (0 : Int) ≤ 0 by decide) c9)
              exact hend [] B σ2 hlen hA hB hc53 ho2 K'
          | cons y ra ihr =>
            intro B σ2 hmm hlen hA hB hc53 ho2 K'
            have hl2 : (y :: ra).length = ra.length + 1 := rfl
            have hyi := hmm y List.mem_cons_self
            have hgy : σ2.2 522 (0 + ra.length) = (y : Int) := by
              rw [hA ra.length (by simp), show ci (y :: ra).reverse = ci ra.reverse ++ [(y : Int)] by simp, List.getD_eq_getElem?_getD]
              simp
            unfold insR at K'
            repeat (first | refine tr_mgr rfl (by decide) rfl ?_ | refine tr_mgi rfl (by decide) (by decide) rfl ?_ | refine tr_mv rfl (fun _ => rfl) ?_)
            refine tr_vc (q := 480) rfl isO_480 rfl rfl rfl (s_291 hX hE (cE' σ2 ho2) hi ?_)
            first | refine tr_ib rfl (fun c2 => ?_) (fun c2 => ?_) | refine tr_ibn rfl (fun c2 => ?_) (fun c2 => ?_)
            · exact absurd hin c2
            · iterate 1 (refine tr_mv rfl (fun _ => rfl) ?_)
              refine tr_if2 rfl (m32_of (by omega)) (fun c9 => absurd c9 (by show ¬ _ ≤ _; omega)) (fun _ => ?_)
              repeat (first | refine tr_mgr rfl (by decide) rfl ?_ | refine tr_mgi rfl (by decide) (by decide) rfl ?_ | refine tr_mv rfl (fun _ => rfl) ?_)
              refine tr_man (j := 0 + ra.length) rfl (by omega) (by omega) rfl (fun _ => rfl) rfl rfl rfl ?_
              rw [hgy]
              refine tr_vc (q := 480) rfl isO_480 rfl rfl rfl (s_293 hX (hM' σ2 ho2) hD (hO' σ2 ho2) hT hE (cT' σ2 ho2) (cE' σ2 ho2) hi (show y < en.length by omega) (fun σ3 o3 => ?_))
              have ho3 := ho2.tr (o3.wk (fun q i h => Or.inl h))
              have hA3 := hA.only o3 (fun i _ _ g => by have := cQ_nin g; omega)
              have hB3 := hB.only o3 (fun i _ _ g => by have := cQ_nin g; omega)
              have hgy3 : σ3.2 522 (0 + ra.length) = (y : Int) := by rw [o3.2 _ _ (fun g => by have := cQ_nin g; omega)]; exact hgy
              have hc3 : σ3.2 480 53 = (acc.length : Int) := by rw [o3.2 _ _ (fun g => by have := cQ_nin g; omega)]; exact hc53
              first | refine tr_ib rfl (fun c3 => ?_) (fun c3 => ?_) | refine tr_ibn rfl (fun c3 => ?_) (fun c3 => ?_)
              · rw [if_neg (by unfold gFb; rw [decide_eq_false c3]; simp)] at K'
                exact hend (y :: ra) B σ3 hlen hA3 hB3 hc3 ho3 (by simpa using K')
              · rw [if_pos (by unfold gFb; rw [decide_eq_true c3])] at K'
                repeat (first | refine tr_mgr rfl (by decide) rfl ?_ | refine tr_mgi rfl (by decide) (by decide) rfl ?_ | refine tr_mv rfl (fun _ => rfl) ?_)
                refine tr_man (j := 0 + ra.length) rfl (by omega) (by omega) rfl (fun _ => rfl) rfl rfl rfl ?_
                rw [hgy3]
                refine tr_msn (j := (y :: ra).length) rfl (by omega) (by omega) rfl (fun _ => rfl) rfl rfl rfl ?_
                iterate 2 (refine tr_mv rfl (fun _ => rfl) ?_)
                show Tr Ls N 294 20 [some (mP (some 480)), some (mI (X : Int)), some (mI (i : Int)), some (mI (((y :: ra).length : Int) + -1))] [] _ post
                rw [show (((y :: ra).length : Nat) : Int) + -1 = (ra.length : Int) by omega]
                refine ihr (y :: B) _ (fun z hz => hmm z (List.mem_cons_of_mem _ hz)) (by simp at hlen ⊢; omega) (fun j hj => ?_) (fun j hj => ?_) ((setF_ne _ _ (by omega)).trans hc3) (ho3.setF (Or.inr (Or.inl rfl))) (by simpa using K')
                · have hj2 : j < ra.length := by simpa using hj
                  rw [setF_ne _ _ (by omega), hA3 j (by simp; omega), show ci (y :: ra).reverse = ci ra.reverse ++ [(y : Int)] by simp, List.getD_eq_getElem?_getD, List.getElem?_append_left (by simp; omega), ← List.getD_eq_getElem?_getD]
                · have hj2 : j < B.length + 1 := by simpa using hj
                  rw [setF_get]
                  by_cases e1 : j = 0
                  · rw [if_pos ⟨rfl, by omega⟩, e1]
                    rfl
                  · rw [if_neg (by omega), show ra.length + 1 + j = (y :: ra).length + 1 + (j - 1) by omega, hB3 (j - 1) (by simp; omega), List.getD_eq_getElem?_getD, List.getD_eq_getElem?_getD, show ci (y :: B) = (y : Int) :: ci B from rfl]
                    obtain ⟨z, rfl⟩ : ∃ z, j = z + 1 := ⟨j - 1, by omega⟩
                    rfl
        have h9 := inner acc.reverse [] σ' (fun y hy => hmem y (List.mem_reverse.mp hy)) (by simp) (by rw [List.reverse_reverse]; exact hl.2) (fun j hj => absurd hj (Nat.not_lt_zero _)) hl.1 ho (fun σ3 k1 k2 v3 => h96 v3 σ3 (by
          rw [hsucc, List.foldl_append, hacc]
          simpa using k1) k2)
        rw [List.length_reverse] at h9
        exact h9
      · rw [if_neg hin, List.append_nil] at hsucc
        repeat (first | refine tr_mgr rfl (by decide) rfl ?_ | refine tr_mgi rfl (by decide) (by decide) rfl ?_ | refine tr_mv rfl (fun _ => rfl) ?_)
        refine tr_vc (q := 480) rfl isO_480 rfl rfl rfl (s_291 hX hE (cE' σ' ho) hi ?_)
        first | refine tr_ib rfl (fun c2 => ?_) (fun c2 => ?_) | refine tr_ibn rfl (fun c2 => ?_) (fun c2 => ?_)
        · repeat (first | refine tr_mgr rfl (by decide) rfl ?_ | refine tr_mgi rfl (by decide) (by decide) rfl ?_ | refine tr_mv rfl (fun _ => rfl) ?_)
          refine tr_vc (q := 480) rfl isO_480 rfl rfl rfl (s_291 hX hE (cE' σ' ho) hi ?_)
          first | refine tr_ib rfl (fun c3 => ?_) (fun c3 => ?_) | refine tr_ibn rfl (fun c3 => ?_) (fun c3 => ?_)
          · refine h96 _ σ' ?_ ho
            rw [hsucc, hacc]
            exact hl
          · exact absurd c3 hin
        · exact absurd c2 hin
  iterate 2 (refine tr_mv rfl (fun _ => rfl) ?_)
  refine tr_mpi rfl (Or.inl rfl) (by decide) rfl ?_
  iterate 2 (refine tr_mv rfl (fun _ => rfl) ?_)
  exact loop en.length 0 none _ (by omega) ⟨setF_same _ _ _ _, fun i hi => absurd hi (Nat.not_lt_zero _)⟩ (only.rf.setF (Or.inr (Or.inr ⟨rfl, rfl⟩)))
end MORD
