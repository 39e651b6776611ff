/-! Columns: the model's. -/
def mTg (σ : Sg) (tx : List (List Int)) (tg : Nat → List Int) : Prop := (∀ s, in32 (bMo σ s)) ∧ (∀ s, in32 (kMo σ s)) ∧ injB (bMo σ) (kMo σ) ∧ ∀ t, t < tx.length → tog (cof (bMo σ) (kMo σ)) none (tx.getD t []) = tg t
abbrev cLc (q i : Nat) : Prop := cRow q i ∨ cGp q i
abbrev cCn (q i : Nat) : Prop := cOd q i ∨ cGp q i
theorem cRow_in {q i : Nat} (g : cRow q i) : q = 489 ∨ (q = 480 ∧ i = 13) := g
theorem cLc_in {q i : Nat} (g : cLc q i) : q = 489 ∨ q = 525 ∨ (q = 480 ∧ (i = 13 ∨ i = 57)) := by
  rcases g with g | g
  · have := cRow_in g; omega
  · omega
theorem cCn_in {q i : Nat} (g : cCn q i) : q = 489 ∨ (504 ≤ q ∧ q ≤ 511) ∨ q = 522 ∨ q = 525 ∨ (q = 480 ∧ (i = 13 ∨ i = 32 ∨ i = 34 ∨ i = 36 ∨ i = 38 ∨ i = 40 ∨ i = 53 ∨ i = 57)) := by
  rcases g with (g | g) | g
  · have := cQ_nin g; omega
  · omega
  · omega
section MCOLS
variable {Ls N k pc n n' nn b c t a q kd w d p X T : Nat} {L0 : mLs} {st r as : List mV} {h h' : mH} {σ σ' σ'' : Sg} {post : tP} {x y z x' y' i i' s v m u lv hh ww : Int} {xs ys ss L M A B : List Int} {e : mE} {C : Nat → Nat → Prop} {R : Nat → Prop} {tx : List (List Int)} {en : List EnT} {D : TD} {o hd : Nat → Int} {tg : Nat → List Int} {s1 d1 : Bool} {D3 : Nat → TD} {o3 : Nat → Nat → Int}
theorem bMo_of (ho : only C σ σ') (hC : ∀ i, ¬ C 481 i) : bMo σ' = bMo σ := by
  funext s
  unfold bMo
  split
  · exact ho.2 _ _ (hC _)
  · rfl
theorem kMo_of (ho : only C σ σ') (hC : ∀ i, ¬ C 482 i) : kMo σ' = kMo σ := by
  funext s
  unfold kMo
  split
  · exact ho.2 _ _ (hC _)
  · rfl
theorem mTg.of (h : mTg σ tx tg) (ho : only C σ σ') (hC : ∀ q i, C q i → ¬ (q = 481 ∨ q = 482)) : mTg σ' tx tg := by
  unfold mTg
  rw [bMo_of ho (fun i g => hC _ _ g (Or.inl rfl)), kMo_of ho (fun i g => hC _ _ g (Or.inr rfl))]
  exact h
theorem mHd.of (h : mHd σ hd) (ho : only C σ σ') (hC : ∀ i, ¬ C 512 i) : mHd σ' hd := fun l hl => by
  rw [ho.2 _ _ (hC l)]
  exact h l hl
theorem s_324 (cw : σ.2 480 68 = ww) (hw : 4 ≤ ww ∧ ww ≤ 40) (hT : okTx tx) (cT : mTx σ tx) (hE : okEn tx en) (cE : mEn σ en) (hok : ∀ e ∈ en, okLoc (enL e) (enM e)) (hg : mTg σ tx tg) (hg2 : okTg tx tg) (ha : a < en.length)
    (K : ∀ σ', only cLc σ σ' → post (.inl (some (mI (lnE tg ww (en.getD a enD))))) σ') : Tr Ls N 324 0 [some (mP (some 480)), some (mI (a : Int)), none, none] [] σ post := by
  have hE24 := hE.1
  have hT30 := hT.1
  have he := hE.2.1 _ (en_mem ha)
  have htt := he.1
  have htx := okTx_get hT he.1
  have hk := hok _ (en_mem ha)
  have hlen := lenE_in hg2 he.1 hk
  have hgl := grpL_len hk.1 hk.2.1
  have hgl10 := hk.2.2.2.2.1
  have htg := hg2 _ he.1
  have hO : enO (en.getD a enD) < 2 ^ en.length := he.2.2.2.2.2.2
  have hO24 : enO (en.getD a enD) < 2 ^ 24 := Nat.lt_of_lt_of_le hO (Nat.pow_le_pow_right (by decide) hE24)
  have hpr := okPr_in hE a ha
  rw [prE_iff] at hpr
  have c1 := cE.2.1 a ha
  have c2 := cE.2.2 a (by omega)
  have hK := he.2.2.1
  have hXr := he.2.2.2.2.2.1
  repeat (first | refine tr_mgr rfl (by decide) rfl ?_ | refine tr_mgi rfl (by decide) (by decide) rfl ?_ | refine tr_mv rfl (fun _ => rfl) ?_)
  refine tr_man (j := a) rfl (by omega) (by omega) rfl (fun _ => rfl) rfl rfl rfl ?_
  rw [c1.2.1]
  refine tr_vc (q := 480) rfl isO_480 rfl rfl rfl (s_227 (t := enT (en.getD a enD)) (by omega) (cT.2 _ htt) htx.2.2 (a40in htx.1) (fun σ1 r1 o1 => ?_))
  have hg1 := hg.of o1 (fun q i g => by have := cRow_in g; omega)
  iterate 1 (refine tr_mv rfl (fun _ => rfl) ?_)
  refine tr_vc (q := 480) rfl isO_480 rfl rfl rfl (s_229 hg1.1 hg1.2.1 hg1.2.2.1 r1 (fun y hy => htx.1 y hy) (by omega) (fun σ2 r2 o2 => ?_))
  rw [hg1.2.2.2 _ htt] at r2
  have o12 := o1.tr o2
  iterate 1 (refine tr_mv rfl (fun _ => rfl) ?_)
  refine tr_mgi rfl (by decide) (by decide) rfl ?_
  rw [r2.1]
  iterate 3 (refine tr_mv rfl (fun _ => rfl) ?_)
  refine tr_vc (q := 480) rfl isO_480 rfl rfl rfl (s_305 (a := a) (L := enL (en.getD a enD)) (M := enM (en.getD a enD)) (by omega) hk (by rw [o12.2 _ _ (fun g => by have := cRow_in g; omega)]; exact c2.2.2.2.1) (c2.2.2.2.2.only o12 (fun i _ _ g => by have := cRow_in g; omega)) (fun σ3 g3 o3 => ?_))
  have o13 : only cLc σ σ3 := (o12.wk (fun q i h => Or.inl h)).tr (o3.wk (fun q i h => Or.inr h))
  have v3 : ∀ q i, 490 ≤ q → q ≤ 524 → σ3.2 q i = σ.2 q i := fun q i h1 h2 => o13.2 _ _ (fun g => by have := cLc_in g; omega)
  have v4 : ∀ i, i ≠ 13 → i ≠ 57 → σ3.2 480 i = σ.2 480 i := fun i h1 h2 => o13.2 _ _ (fun g => by have := cLc_in g; omega)
  have k := K σ3 o13
  have hn := (v4 51 (by decide) (by decide)).trans cE.1
  have hp24 : popN 24 (enO (en.getD a enD)) = popN en.length (enO (en.getD a enD)) := by
    have := popN_more hO (24 - en.length)
    rwa [show en.length + (24 - en.length) = 24 by omega] at this
  have hform : lenE tg (en.getD a enD) = ((tg (enT (en.getD a enD))).length : Int) + ((if enK (en.getD a enD) = 2 then 1 else 0) + 3 * ((grpL (enL (en.getD a enD))).length : Int) + (if enX (en.getD a enD) ≠ -1 then 5 else 0) + (if enP (en.getD a enD) ≠ -1 then 2 else 0)) + 3 * (popN en.length (enO (en.getD a enD)) : Int) := by
    unfold lenE
    rw [hp24]
    omega
  obtain ⟨base, hbase⟩ : ∃ base : Int, base = ((tg (enT (en.getD a enD))).length : Int) + ((if enK (en.getD a enD) = 2 then 1 else 0) + 3 * ((grpL (enL (en.getD a enD))).length : Int) + (if enX (en.getD a enD) ≠ -1 then 5 else 0) + (if enP (en.getD a enD) ≠ -1 then 2 else 0)) := ⟨_, rfl⟩
  rw [← hbase] at hform
  have hbb : 0 ≤ base ∧ base ≤ 200 := by
    have := popN_le (enO (en.getD a enD)) en.length
    omega
  have hOs : σ3.2 521 a = (enO (en.getD a enD) : Int) := (v3 _ _ (by decide) (by decide)).trans c2.2.2.1
  have loop : ∀ (dd j : Nat), j + dd = en.length → Tr Ls N 324 83 [some (mP (some 480)), some (mI (a : Int)), some (mI (base + 3 * (popN j (enO (en.getD a enD)) : Int))), some (mI (j : Int))] [] σ3 post := by
    intro dd
    induction dd with
    | zero =>
      intro j ej
      have hjn : j = en.length := by omega
      repeat (first | refine tr_mgr rfl (by decide) rfl ?_ | refine tr_mgi rfl (by decide) (by decide) rfl ?_ | refine tr_mv rfl (fun _ => rfl) ?_)
      rw [hn]
      refine tr_cmp2 rfl (m32_of (by omega)) (m32_of (by omega)) (fun _ => ?_) (fun c9 => absurd (show (en.length : Int) ≤ (j : Int) by omega) c9)
      repeat (first | refine tr_mgr rfl (by decide) rfl ?_ | refine tr_mgi rfl (by decide) (by decide) rfl ?_ | refine tr_mv rfl (fun _ => rfl) ?_)
      rw [v4 68 (by decide) (by decide), cw, hjn, ← hform]
      refine tr_div (by omega) (by omega) rfl ?_
      exact tr_ri rfl rfl k
    | succ dd ih =>
      intro j ej
      have k2 := ih (j + 1) (by omega)
      rw [show popN (j + 1) (enO (en.getD a enD)) = popN j (enO (en.getD a enD)) + enO (en.getD a enD) / 2 ^ j % 2 from rfl] at k2
      have d1 : enO (en.getD a enD) / 2 ^ j < 2 ^ 31 := Nat.lt_of_le_of_lt (Nat.div_le_self _ _) (by omega)
      have hjl := popN_le (enO (en.getD a enD)) j
      repeat (first | refine tr_mgr rfl (by decide) rfl ?_ | refine tr_mgi rfl (by decide) (by decide) rfl ?_ | refine tr_mv rfl (fun _ => rfl) ?_)
      rw [hn]
      refine tr_cmp2 rfl (m32_of (by omega)) (m32_of (by omega)) (fun c9 => absurd (show (en.length : Int) ≤ (j : Int) from c9) (by omega)) (fun _ => ?_)
      repeat (first | refine tr_mgr rfl (by decide) rfl ?_ | refine tr_mgi rfl (by decide) (by decide) rfl ?_ | refine tr_mv rfl (fun _ => rfl) ?_)
      refine tr_man (j := a) rfl (by omega) (by omega) rfl (fun _ => rfl) rfl rfl rfl ?_
      rw [hOs]
      iterate 2 (refine tr_mv rfl (fun _ => rfl) ?_)
      refine tr_top (w_shr (a := enO (en.getD a enD)) (p := j) (by omega) (by omega)) ?_
      iterate 2 (refine tr_mv rfl (fun _ => rfl) ?_)
      refine tr_top (w_a1 d1) ?_
      iterate 5 (refine tr_mv rfl (fun _ => rfl) ?_)
      show Tr Ls N 324 83 [some (mP (some 480)), some (mI (a : Int)), some (mI (base + 3 * (popN j (enO (en.getD a enD)) : Int) + 3 * ((enO (en.getD a enD) / 2 ^ j % 2 : Nat) : Int))), some (mI ((j : Int) + 1))] [] σ3 post
      rw [show (j : Int) + 1 = ((j + 1 : Nat) : Int) by omega, show base + 3 * (popN j (enO (en.getD a enD)) : Int) + 3 * ((enO (en.getD a enD) / 2 ^ j % 2 : Nat) : Int) = base + 3 * ((popN j (enO (en.getD a enD)) + enO (en.getD a enD) / 2 ^ j % 2 : Nat) : Int) by omega]
      exact k2
  have t79 : ∀ v : Int, ((tg (enT (en.getD a enD))).length : Int) + v = base → Tr Ls N 324 79 [some (mP (some 480)), some (mI (a : Int)), some (mI ((tg (enT (en.getD a enD))).length : Int)), none] [mI v, mI ((tg (enT (en.getD a enD))).length : Int)] σ3 post := by
    intro v hv
    have g := loop en.length 0 (by omega)
    rw [show base + 3 * ((popN 0 (enO (en.getD a enD)) : Nat) : Int) = ((tg (enT (en.getD a enD))).length : Int) + v by rw [hv]; exact Int.add_zero base] at g
    iterate 4 (refine tr_mv rfl (fun _ => rfl) ?_)
    exact g
  have t63 : ∀ v : Int, ((tg (enT (en.getD a enD))).length : Int) + (v + (if enP (en.getD a enD) ≠ -1 then 2 else 0)) = base → Tr Ls N 324 63 [some (mP (some 480)), some (mI (a : Int)), some (mI ((tg (enT (en.getD a enD))).length : Int)), none] [mI v, mI ((tg (enT (en.getD a enD))).length : Int)] σ3 post := by
    intro v hv
    repeat (first | refine tr_mgr rfl (by decide) rfl ?_ | refine tr_mgi rfl (by decide) (by decide) rfl ?_ | refine tr_mv rfl (fun _ => rfl) ?_)
    refine tr_man (j := a) rfl (by omega) (by omega) rfl (fun _ => rfl) rfl rfl rfl ?_
    rw [v3 _ _ (by decide) (by decide), c1.1]
    iterate 1 (refine tr_mv rfl (fun _ => rfl) ?_)
    refine tr_cmp2 rfl (m32_of (by omega)) (m32_of (by omega)) (fun g1 => ?_) (fun g1 => ?_)
    · have g2 : enP (en.getD a enD) = -1 := g1
      rw [if_neg (fun g => g g2)] at hv
      iterate 2 (refine tr_mv rfl (fun _ => rfl) ?_)
      exact t79 _ hv
    · have g2 : ¬ enP (en.getD a enD) = -1 := g1
      rw [if_pos g2] at hv
      iterate 3 (refine tr_mv rfl (fun _ => rfl) ?_)
      exact t79 _ hv
  have t47 : ∀ v : Int, ((tg (enT (en.getD a enD))).length : Int) + (v + (if enX (en.getD a enD) ≠ -1 then 5 else 0) + (if enP (en.getD a enD) ≠ -1 then 2 else 0)) = base → Tr Ls N 324 47 [some (mP (some 480)), some (mI (a : Int)), some (mI ((tg (enT (en.getD a enD))).length : Int)), none] [mI v, mI ((tg (enT (en.getD a enD))).length : Int)] σ3 post := by
    intro v hv
    repeat (first | refine tr_mgr rfl (by decide) rfl ?_ | refine tr_mgi rfl (by decide) (by decide) rfl ?_ | refine tr_mv rfl (fun _ => rfl) ?_)
    refine tr_man (j := a) rfl (by omega) (by omega) rfl (fun _ => rfl) rfl rfl rfl ?_
    rw [v3 _ _ (by decide) (by decide), c1.2.2.2]
    iterate 1 (refine tr_mv rfl (fun _ => rfl) ?_)
    refine tr_cmp2 rfl (m32_of (by omega)) (m32_of (by omega)) (fun g1 => ?_) (fun g1 => ?_)
    · have g2 : enX (en.getD a enD) = -1 := g1
      rw [if_neg (fun g => g g2)] at hv
      iterate 2 (refine tr_mv rfl (fun _ => rfl) ?_)
      exact t63 _ hv
    · have g2 : ¬ enX (en.getD a enD) = -1 := g1
      rw [if_pos g2] at hv
      iterate 3 (refine tr_mv rfl (fun _ => rfl) ?_)
      exact t63 _ hv
  repeat (first | refine tr_mgr rfl (by decide) rfl ?_ | refine tr_mgi rfl (by decide) (by decide) rfl ?_ | refine tr_mv rfl (fun _ => rfl) ?_)
  refine tr_man (j := a) rfl (by omega) (by omega) rfl (fun _ => rfl) rfl rfl rfl ?_
  rw [v3 _ _ (by decide) (by decide), c2.1]
  iterate 1 (refine tr_mv rfl (fun _ => rfl) ?_)
  refine tr_cmp2 rfl (m32_of (by omega)) (m32_of (by omega)) (fun g1 => ?_) (fun g1 => ?_)
  · have g2 : ¬ enK (en.getD a enD) = 2 := g1
    rw [if_neg g2] at hbase
    iterate 3 (refine tr_mv rfl (fun _ => rfl) ?_)
    refine tr_mgi rfl (by decide) (by decide) rfl ?_
    rw [g3.1]
    iterate 2 (refine tr_mv rfl (fun _ => rfl) ?_)
    exact t47 _ hbase.symm
  · have g2 : enK (en.getD a enD) = 2 := Decidable.of_not_not g1
    rw [if_pos g2] at hbase
    iterate 4 (refine tr_mv rfl (fun _ => rfl) ?_)
    refine tr_mgi rfl (by decide) (by decide) rfl ?_
    rw [g3.1]
    iterate 2 (refine tr_mv rfl (fun _ => rfl) ?_)
    exact t47 _ hbase.symm
end MCOLS
