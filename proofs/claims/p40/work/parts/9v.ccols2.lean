/-! Columns: the class's (2). -/
abbrev sbE (en : List EnT) (e : Nat) : Bool := decide (enP (en.getD e enD) ≠ -1)
abbrev hgE (tx : List (List Int)) (en : List EnT) (D : TD) (o hd : Nat → Int) (e : Nat) : Int := hdgE tx en D o hd e
abbrev lnX (tg : Nat → List Int) (ww : Int) (en : List EnT) (e : Nat) : Int := lnE tg ww (en.getD e enD)
theorem hdgE_in (tx : List (List Int)) (en : List EnT) (D : TD) (o hd : Nat → Int) (e : Nat) : -1 ≤ hdgE tx en D o hd e ∧ hdgE tx en D o hd e < 200 := by
  have h1 := hdG_in (hdO D hd) (fwE tx en D o e) 12 0 (-1) 1 (by omega)
  unfold hdgE hdgR
  split <;> omega
section CCOLS2
variable {Ls N k pc n n' nn b c t a q kd w d p X T : Nat} {L0 : mLs} {st r as : List mV} {h h' : mH} {σ σ' σ'' : Sg} {post : tP} {x y z x' y' i i' s v m u lv hh ww : Int} {xs ys ss L M A B : List Int} {e : mE} {C : Nat → Nat → Prop} {R : Nat → Prop} {tx : List (List Int)} {en : List EnT} {D : TD} {o hd : Nat → Int} {tg : Nat → List Int} {s1 d1 : Bool}
theorem cHd.of (h : cHd σ hd) (hc : chg R C σ σ') (hC : ∀ i, ¬ C 34 i) : cHd σ' hd := fun l hl => by
  rw [hc.2 _ _ (hC l)]
  exact h l hl
theorem ordE_sub (hE : okEn tx en) (X : Nat) {e : Nat} (he : e ∈ ordE tx en D o X) : e < en.length := by
  have := (ordL_spec (kf := kfE tx en D o) (okEn_pr hE X)).2 e
  exact (this.mp he).1
theorem ordE_mem (hE : okEn tx en) (X : Nat) {e : Nat} : e ∈ ordE tx en D o X ↔ e < en.length ∧ inE en X e = true := (ordL_spec (kf := kfE tx en D o) (okEn_pr hE X)).2 e
theorem ordE_nodup (hE : okEn tx en) (X : Nat) : (ordE tx en D o X).Nodup := by
  have := (ordL_spec (kf := kfE tx en D o) (okEn_pr hE X)).1
  exact this.imp (fun h => h.1)
theorem ordE_len (hE : okEn tx en) (X : Nat) : (ordE tx en D o X).length ≤ 24 := by
  have := ordL_len (kf := kfE tx en D o) (okEn_pr hE X)
  have := hE.1
  show (ordL (kfE tx en D o) (prE en) (inE en X) en.length).length ≤ 24
  omega
theorem s_200 (ch : σ.2 2 14 = hh) (hh2 : 4 ≤ hh ∧ hh ≤ 40) (cw : σ.2 2 13 = ww) (hw : 4 ≤ ww ∧ ww ≤ 40) (hX : X < 3) (hT : okTx tx) (hE : okEn tx en) (cT : cTx σ tx) (cE : cEn σ en) (hok : ∀ e ∈ en, okLoc (enL e) (enM e)) (hD2 : okTD D) (hD : tlC (273 + 29 * X) σ D) (hH : cHd σ hd) (hg : cTg σ tx tg) (hg2 : okTg tx tg) (hfw : σ.1 ((295 + 29 * X) + 3) = fwsE tx en D o) (hod : σ.1 ((295 + 29 * X) + 1) = ci (ordE tx en D o X))
    (ha : a ∈ ordE tx en D o X)
    (K : ∀ σ', chg lcR noC σ σ' → post (.inl (some (mI (colF hh (sbE en) (hgE tx en D o hd) (lnX tg ww en) a (0, 0, -1) (ordE tx en D o X))))) σ') :
    Tr Ls N 200 0 [some (mP (some 2)), some (mI (X : Int)), some (mP (some ((295 + 29 * X) + 1))), some (mI (a : Int)), none, none, none, none, none, none, none, none, none, none] [] σ post := by
  have hE24 := hE.1
  have hT30 := hT.1
  have hol := ordE_len (D := D) (o := o) hE X
  have ha24 := ordE_sub hE X ha
  obtain ⟨od, hod2⟩ : ∃ od, od = ordE tx en D o X := ⟨_, rfl⟩
  have hsub : ∀ e ∈ od, e < en.length := fun e he => ordE_sub (D := D) (o := o) hE X (by rw [← hod2]; exact he)
  rw [← hod2] at K hod ha hol
  have hcl : (ci od).length = od.length := by simp
  have loop : ∀ (rest done : List Nat) (st : cSt) (v8 v9 v10 v11 v12 v13 : Option mV) (σ' : Sg), od = done ++ rest → colOk hh done.length st → a ∈ rest → (done = [] → st.2.2 = -1) → mok 8 [none, none, none, none, none, none, none, some (mI 0), v8, v9, v10, v11, v12, v13] = true → (∀ σ'', chg lcR noC σ σ'' → post (.inl (some (mI (colF hh (sbE en) (hgE tx en D o hd) (lnX tg ww en) a st rest)))) σ'') → chg lcR noC σ σ' → Tr Ls N 200 12 [some (mP (some 2)), some (mI (X : Int)), some (mP (some ((295 + 29 * X) + 1))), some (mI (a : Int)), some (mI st.1), some (mI st.2.1), some (mI st.2.2), some (mI (done.length : Int)), v8, v9, v10, v11, v12, v13] [] σ' post := by
    intro rest
    induction rest with
    | nil => intro done st v8 v9 v10 v11 v12 v13 σ' e hs hm _ _ _ _; exact absurd hm List.not_mem_nil
    | cons u rest ih =>
      intro done st v8 v9 v10 v11 v12 v13 σ' e hs hm h0 _ K' zc
      have hlen := congrArg List.length e
      rw [List.length_append, List.length_cons] at hlen
      have hu : u < en.length := hsub u (by rw [e]; simp)
      have hue := hE.2.1 _ (en_mem hu)
      have ht := e_E (i := u) (by omega)
      have cE' := cE.of zc hE24 (fun r h => by omega) (fun h => h) (fun q i h => absurd h (fun g => g))
      have cT' := cT.of zc hT30 (fun r h => by omega) (fun h => h)
      have hD' := hD.of zc (fun r h => by omega)
      have hH' := hH.of zc (fun i h => h)
      have hg' := hg.of zc (fun q i h => absurd h (fun g => g))
      have hod' := (zc.1 _ (by omega)).trans hod
      have hfw' := (zc.1 _ (by omega)).trans hfw
      have v2 : ∀ q i, σ'.2 q i = σ.2 q i := fun q i => zc.2 _ _ (fun g => g)
      have hpr := okPr_in hE u hu
      rw [prE_iff] at hpr
      have hgu : rget (σ'.1 ((295 + 29 * X) + 1)) (done.length : Int) = (u : Int) := by
        rw [hod', e, show ci (done ++ u :: rest) = ci done ++ (u : Int) :: ci rest by simp]
        exact rget_mid (by simp)
      have hln := lnE_in (tg := tg) (e := en.getD u enD) hw (lenE_in hg2 hue.1 (hok _ (en_mem hu)))
      have hhg := hdgE_in tx en D o hd u
      have hU := colU_in (sb := sbE en) (hg := hgE tx en D o hd) (ln := lnX tg ww en) hh2 hs u
      have hNx := colNx_ok (sb := sbE en) (hg := hgE tx en D o hd) (ln := lnX tg ww en) hh2 hs u hln (by show -1 ≤ hdgE tx en D o hd u ∧ hdgE tx en D o hd u < 1000; omega)
      have hs2 := hs.2.2
      have hs1 := hs.1
      have hs3 := hs.2.1
      -- behind the heading's search: beneath on top, whose heading counts
      have t57 : ∀ (bn : Int) (w8 w10 w11 w12 w13 : Option mV) (σ1 : Sg), bn = (if sbE en u = true then st.2.2 else hgE tx en D o hd u) → chg lcR noC σ σ1 → Tr Ls N 200 57 [some (mP (some 2)), some (mI (X : Int)), some (mP (some ((295 + 29 * X) + 1))), some (mI (a : Int)), some (mI st.1), some (mI st.2.1), some (mI st.2.2), some (mI (done.length : Int)), some (mI (u : Int)), some (mI (b2 (sbE en u = true))), w10, w11, w12, w13] [mI bn] σ1 post := by
        intro bn w8 w10 w11 w12 w13 σ1 hbn zc1
        have hbn2 : -1 ≤ bn ∧ bn < 1000 := by rw [hbn]; split; omega; show -1 ≤ hdgE tx en D o hd u ∧ hdgE tx en D o hd u < 1000; omega
        have cE1 := cE.of zc1 hE24 (fun r h => by omega) (fun h => h) (fun q i h => absurd h (fun g => g))
        have cT1 := cT.of zc1 hT30 (fun r h => by omega) (fun h => h)
        have hg1 := hg.of zc1 (fun q i h => absurd h (fun g => g))
        have v21 : ∀ q i, σ1.2 q i = σ.2 q i := fun q i => zc1.2 _ _ (fun g => g)
        -- with isHeaded on top
        have t87 : ∀ (σ1 : Sg) (w11 w12 w13 : Option mV), chg lcR noC σ σ1 → ∀ v, v = b2 (isHd (sbE en) (hgE tx en D o hd) st.2.2 u = true) → Tr Ls N 200 87 [some (mP (some 2)), some (mI (X : Int)), some (mP (some ((295 + 29 * X) + 1))), some (mI (a : Int)), some (mI st.1), some (mI st.2.1), some (mI st.2.2), some (mI (done.length : Int)), some (mI (u : Int)), some (mI (b2 (sbE en u = true))), some (mI bn), w11, w12, w13] [mI v] σ1 post := by
          intro σ1 w11 w12 w13 zc1 v hv
          have cE1 := cE.of zc1 hE24 (fun r h => by omega) (fun h => h) (fun q i h => absurd h (fun g => g))
          have cT1 := cT.of zc1 hT30 (fun r h => by omega) (fun h => h)
          have hg1 := hg.of zc1 (fun q i h => absurd h (fun g => g))
          have v21 : ∀ q i, σ1.2 q i = σ.2 q i := fun q i => zc1.2 _ _ (fun g => g)
          rw [hv]
          iterate 6 (refine tr_mv rfl (fun _ => rfl) ?_)
          refine tr_vc (q := 2) rfl ⟨by decide, by decide +kernel⟩ rfl rfl rfl (s_171 (p := u) (by omega) ?_)
          refine tr_vc (q := 2) rfl ⟨by decide, by decide +kernel⟩ rfl rfl rfl (s_202 (ww := ww) ((v21 _ _).trans cw) hw hT cT1 hE cE1 hok hg1 hg2 hu (fun σ2 o2 => ?_))
          have zc2 := zc1.tr o2
          have v22 : ∀ q i, σ2.2 q i = σ.2 q i := fun q i => zc2.2 _ _ (fun g => g)
          -- the last part, with column and lines used
          have t138 : Tr Ls N 200 138 [some (mP (some 2)), some (mI (X : Int)), some (mP (some ((295 + 29 * X) + 1))), some (mI (a : Int)), some (mI (colC1 hh (sbE en) (hgE tx en D o hd) (lnX tg ww en) st u)), some (mI (colU1 hh (sbE en) (hgE tx en D o hd) (lnX tg ww en) st u)), some (mI bn), some (mI (done.length : Int)), some (mI (u : Int)), some (mI (b2 (sbE en u = true))), some (mI bn), some (mI (b2 (isHd (sbE en) (hgE tx en D o hd) st.2.2 u = true))), some (mI (lnX tg ww en u)), w13] [] σ2 post := by
            have t160 : Tr Ls N 200 163 [some (mP (some 2)), some (mI (X : Int)), some (mP (some ((295 + 29 * X) + 1))), some (mI (a : Int)), some (mI (colC1 hh (sbE en) (hgE tx en D o hd) (lnX tg ww en) st u)), some (mI (colU2 hh (sbE en) (hgE tx en D o hd) (lnX tg ww en) st u)), some (mI bn), some (mI (done.length : Int)), some (mI (u : Int)), some (mI (b2 (sbE en u = true))), some (mI bn), some (mI (b2 (isHd (sbE en) (hgE tx en D o hd) st.2.2 u = true))), some (mI (lnX tg ww en u)), w13] [] σ2 post := by
              have hcf : colF hh (sbE en) (hgE tx en D o hd) (lnX tg ww en) a st (u :: rest) = if u = a then 100 * colC1 hh (sbE en) (hgE tx en D o hd) (lnX tg ww en) st u + colU2 hh (sbE en) (hgE tx en D o hd) (lnX tg ww en) st u else colF hh (sbE en) (hgE tx en D o hd) (lnX tg ww en) a (colNx hh (sbE en) (hgE tx en D o hd) (lnX tg ww en) st u) rest := rfl
              rw [hcf] at K'
              rw [show colNx hh (sbE en) (hgE tx en D o hd) (lnX tg ww en) st u = (colC1 hh (sbE en) (hgE tx en D o hd) (lnX tg ww en) st u + (colU2 hh (sbE en) (hgE tx en D o hd) (lnX tg ww en) st u + lnX tg ww en u - 1) / hh, (colU2 hh (sbE en) (hgE tx en D o hd) (lnX tg ww en) st u + lnX tg ww en u - 1) % hh + 1, bn) by rw [hbn]; rfl] at K' hNx
              generalize colC1 hh (sbE en) (hgE tx en D o hd) (lnX tg ww en) st u = c1 at *
              generalize colU2 hh (sbE en) (hgE tx en D o hd) (lnX tg ww en) st u = u2 at *
              have hln2 : 1 ≤ lnX tg ww en u ∧ lnX tg ww en u ≤ 240 := hln
              generalize lnX tg ww en u = lx at *
              iterate 2 (refine tr_mv rfl (fun _ => rfl) ?_)
              refine tr_cmp2 rfl (m32_of (by omega)) (m32_of (by omega)) (fun g1 => ?_) (fun g1 => ?_)
              · have g2 : ¬ (u : Int) = (a : Int) := g1
                have g3 : ¬ u = a := fun g => g2 (by rw [g])
                rw [if_neg g3] at K'
                have hma : a ∈ rest := by
                  rcases List.mem_cons.mp hm with g | g
                  · exact absurd g.symm g3
                  · exact g
                obtain ⟨f1, f2⟩ := col_full (h := hh) (u := u2 + lx) (by omega) (by omega)
                have e1 := Int.ediv_nonneg (show 0 ≤ u2 + lx - 1 by omega) (show 0 ≤ hh by omega)
                have e2 := Int.ediv_le_self hh (show 0 ≤ u2 + lx - 1 by omega)
                -- with the full columns on top
                have t211 : Tr Ls N 200 211 [some (mP (some 2)), some (mI (X : Int)), some (mP (some ((295 + 29 * X) + 1))), some (mI (a : Int)), some (mI c1), some (mI (u2 + lx)), some (mI bn), some (mI (done.length : Int)), some (mI (u : Int)), some (mI (b2 (sbE en u = true))), some (mI bn), some (mI (b2 (isHd (sbE en) (hgE tx en D o hd) st.2.2 u = true))), some (mI lx), w13] [mI ((u2 + lx - 1) / hh)] σ2 post := by
                  iterate 8 (refine tr_mv rfl (fun _ => rfl) ?_)
                  refine tr_gi rfl (by decide) ⟨by decide, by decide +kernel⟩ (by decide) (by decide +kernel) rfl ?_
                  rw [v22, ch]
                  iterate 5 (refine tr_mv rfl (fun _ => rfl) ?_)
                  show Tr Ls N 200 12 [some (mP (some 2)), some (mI (X : Int)), some (mP (some ((295 + 29 * X) + 1))), some (mI (a : Int)), some (mI (c1 + (u2 + lx - 1) / hh)), some (mI (u2 + lx - (u2 + lx - 1) / hh * hh)), some (mI bn), some (mI ((done.length : Int) + 1)), some (mI (u : Int)), some (mI (b2 (sbE en u = true))), some (mI bn), some (mI (b2 (isHd (sbE en) (hgE tx en D o hd) st.2.2 u = true))), some (mI lx), some (mI ((u2 + lx - 1) / hh))] [] σ2 post
                  rw [f2, show (done.length : Int) + 1 = ((done ++ [u]).length : Int) by simp]
                  exact ih (done ++ [u]) (c1 + (u2 + lx - 1) / hh, (u2 + lx - 1) % hh + 1, bn) _ _ _ _ _ _ σ2 (by rw [e]; simp) (by rw [List.length_append, List.length_singleton]; exact hNx) hma (fun g => absurd g (by simp)) rfl K' zc2
                iterate 6 (refine tr_mv rfl (fun _ => rfl) ?_)
                refine tr_gi rfl (by decide) ⟨by decide, by decide +kernel⟩ (by decide) (by decide +kernel) rfl ?_
                rw [v22, ch]
                refine tr_cmp2 rfl (m32_of (by omega)) (m32_of (by omega)) (fun g4 => ?_) (fun g4 => ?_)
                · have g5 : u2 + lx ≤ hh := g4
                  rw [if_neg (by omega)] at f1
                  rw [← f1] at t211
                  iterate 1 (refine tr_mv rfl (fun _ => rfl) ?_)
                  exact t211
                · have g5 : ¬ u2 + lx ≤ hh := g4
                  iterate 4 (refine tr_mv rfl (fun _ => rfl) ?_)
                  refine tr_gi rfl (by decide) ⟨by decide, by decide +kernel⟩ (by decide) (by decide +kernel) rfl ?_
                  rw [v22, ch]
                  iterate 1 (refine tr_mv rfl (fun _ => rfl) ?_)
                  refine tr_stat rfl rfl rfl (s_329 (x := hh) (y := 1) (by omega) (by decide) ?_)
                  rw [if_neg (by omega)]
                  refine tr_div (by omega) (by omega) rfl ?_
                  iterate 1 (refine tr_mv rfl (fun _ => rfl) ?_)
                  exact t211
              · have g2 : (u : Int) = (a : Int) := Decidable.of_not_not g1
                rw [if_pos (show u = a by omega)] at K'
                iterate 5 (refine tr_mv rfl (fun _ => rfl) ?_)
                exact tr_ri rfl rfl (K' σ2 zc2)
            have hu2 : colU2 hh (sbE en) (hgE tx en D o hd) (lnX tg ww en) st u = colU1 hh (sbE en) (hgE tx en D o hd) (lnX tg ww en) st u + (if isHd (sbE en) (hgE tx en D o hd) st.2.2 u = true ∨ (sbE en u = true ∧ colU1 hh (sbE en) (hgE tx en D o hd) (lnX tg ww en) st u = 0) then 1 else 0) := rfl
            rw [hu2] at t160
            have hU1 := hU.2.1
            generalize colU1 hh (sbE en) (hgE tx en D o hd) (lnX tg ww en) st u = u1 at *
            iterate 2 (refine tr_mv rfl (fun _ => rfl) ?_)
            first | refine tr_ib rfl (fun g1 => ?_) (fun g1 => ?_) | refine tr_ibn rfl (fun g1 => ?_) (fun g1 => ?_)
            · rw [if_pos (Or.inl g1)] at t160
              iterate 4 (refine tr_mv rfl (fun _ => rfl) ?_)
              exact t160
            · iterate 1 (refine tr_mv rfl (fun _ => rfl) ?_)
              first | refine tr_ib rfl (fun g2 => ?_) (fun g2 => ?_) | refine tr_ibn rfl (fun g2 => ?_) (fun g2 => ?_)
              · rw [if_neg (fun g => by rcases g with g | g; exact g1 g; exact g2 g.1)] at t160
                iterate 3 (refine tr_mv rfl (fun _ => rfl) ?_)
                exact t160
              · iterate 1 (refine tr_mv rfl (fun _ => rfl) ?_)
                refine tr_if2 rfl (m32_of (by omega)) (fun g3 => ?_) (fun g3 => ?_)
                · have g4 : ¬ u1 = 0 := g3
                  rw [if_neg (fun g => by rcases g with g | g; exact g1 g; exact g4 g.2)] at t160
                  iterate 3 (refine tr_mv rfl (fun _ => rfl) ?_)
                  exact t160
                · have g4 : u1 = 0 := Decidable.of_not_not g3
                  rw [if_pos (Or.inr ⟨g2, g4⟩)] at t160
                  iterate 4 (refine tr_mv rfl (fun _ => rfl) ?_)
                  exact t160
          -- the question, with the lines wanted on top
          have t122 : Tr Ls N 200 122 [some (mP (some 2)), some (mI (X : Int)), some (mP (some ((295 + 29 * X) + 1))), some (mI (a : Int)), some (mI st.1), some (mI st.2.1), some (mI bn), some (mI (done.length : Int)), some (mI (u : Int)), some (mI (b2 (sbE en u = true))), some (mI bn), some (mI (b2 (isHd (sbE en) (hgE tx en D o hd) st.2.2 u = true))), some (mI (lnX tg ww en u)), w13] [mI (colL (sbE en) (hgE tx en D o hd) (lnX tg ww en) st u), mI st.2.1, mP (some 2)] σ2 post := by
            have hcl2 : 0 ≤ colL (sbE en) (hgE tx en D o hd) (lnX tg ww en) st u ∧ colL (sbE en) (hgE tx en D o hd) (lnX tg ww en) st u < 100000 := by
              have hln2 : 1 ≤ lnX tg ww en u ∧ lnX tg ww en u ≤ 240 := hln
              unfold colL
              split <;> omega
            iterate 2 (refine tr_mv rfl (fun _ => rfl) ?_)
            refine tr_vc (q := 2) rfl ⟨by decide, by decide +kernel⟩ rfl rfl rfl (s_201 ((v22 _ _).trans ch) hh2 (by omega) hcl2 ?_)
            rw [show colC1 hh (sbE en) (hgE tx en D o hd) (lnX tg ww en) st u = if neuP hh st.2.1 (colL (sbE en) (hgE tx en D o hd) (lnX tg ww en) st u) (sbE en u) (isHd (sbE en) (hgE tx en D o hd) st.2.2 u) then st.1 + 1 else st.1 by unfold colC1 colN; simp only [decide_eq_true_eq], show colU1 hh (sbE en) (hgE tx en D o hd) (lnX tg ww en) st u = if neuP hh st.2.1 (colL (sbE en) (hgE tx en D o hd) (lnX tg ww en) st u) (sbE en u) (isHd (sbE en) (hgE tx en D o hd) st.2.2 u) then 0 else st.2.1 by unfold colU1 colN; simp only [decide_eq_true_eq]] at t138
            first | refine tr_ib rfl (fun g1 => ?_) (fun g1 => ?_) | refine tr_ibn rfl (fun g1 => ?_) (fun g1 => ?_)
            · rw [if_neg g1, if_neg g1] at t138
              exact t138
            · rw [if_pos g1, if_pos g1] at t138
              iterate 3 (refine tr_mv rfl (fun _ => rfl) ?_)
              exact t138
          have hcL : colL (sbE en) (hgE tx en D o hd) (lnX tg ww en) st u = lnX tg ww en u + (if isHd (sbE en) (hgE tx en D o hd) st.2.2 u = true then 1 else 0) := rfl
          rw [hcL] at t122
          iterate 4 (refine tr_mv rfl (fun _ => rfl) ?_)
          first | refine tr_ib rfl (fun g1 => ?_) (fun g1 => ?_) | refine tr_ibn rfl (fun g1 => ?_) (fun g1 => ?_)
          · rw [if_neg g1, Int.add_zero] at t122
            iterate 1 (refine tr_mv rfl (fun _ => rfl) ?_)
            exact t122
          · rw [if_pos g1] at t122
            iterate 4 (refine tr_mv rfl (fun _ => rfl) ?_)
            exact t122
        have hisd : isHd (sbE en) (hgE tx en D o hd) st.2.2 u = true ↔ ¬ sbE en u = true ∧ hgE tx en D o hd u ≠ -1 ∧ hgE tx en D o hd u ≠ st.2.2 := by
          show ((!(sbE en u)) && decide (hgE tx en D o hd u ≠ -1) && decide (hgE tx en D o hd u ≠ st.2.2)) = true ↔ _
          generalize sbE en u = sq
          cases sq
          · simp
          · simp
        iterate 2 (refine tr_mv rfl (fun _ => rfl) ?_)
        first | refine tr_ib rfl (fun g1 => ?_) (fun g1 => ?_) | refine tr_ibn rfl (fun g1 => ?_) (fun g1 => ?_)
        · iterate 1 (refine tr_mv rfl (fun _ => rfl) ?_)
          exact t87 σ1 _ _ _ zc1 0 (b2_neg (fun g => (hisd.mp g).1 g1)).symm
        · rw [if_neg g1] at hbn
          have hbn3 : bn = hgE tx en D o hd u := hbn
          iterate 2 (refine tr_mv rfl (fun _ => rfl) ?_)
          refine tr_cmp2 rfl (m32_of (by omega)) (m32_of (by omega)) (fun g2 => ?_) (fun g2 => ?_)
          · have g3 : bn = -1 := g2
            iterate 1 (refine tr_mv rfl (fun _ => rfl) ?_)
            exact t87 σ1 _ _ _ zc1 0 (b2_neg (fun g => (hisd.mp g).2.1 (by rw [← hbn3]; exact g3))).symm
          · have g3 : ¬ bn = -1 := g2
            iterate 1 (refine tr_mv rfl (fun _ => rfl) ?_)
            refine tr_if2 rfl (m32_of (by omega)) (fun g4 => ?_) (fun g4 => ?_)
            · have g5 : (done.length : Int) = 0 := g4
              have g6 := h0 (List.length_eq_zero_iff.mp (by omega))
              iterate 2 (refine tr_mv rfl (fun _ => rfl) ?_)
              exact t87 σ1 _ _ _ zc1 1 (b2_pos (hisd.mpr ⟨g1, by rw [← hbn3]; exact g3, by rw [g6, ← hbn3]; exact g3⟩)).symm
            · iterate 2 (refine tr_mv rfl (fun _ => rfl) ?_)
              refine tr_cmp2 rfl (m32_of (by omega)) (m32_of (by omega)) (fun g5 => ?_) (fun g5 => ?_)
              · have g6 : bn = st.2.2 := g5
                iterate 1 (refine tr_mv rfl (fun _ => rfl) ?_)
                exact t87 σ1 _ _ _ zc1 0 (b2_neg (fun g => (hisd.mp g).2.2 (by rw [← hbn3]; exact g6))).symm
              · have g6 : ¬ bn = st.2.2 := g5
                iterate 2 (refine tr_mv rfl (fun _ => rfl) ?_)
                exact t87 σ1 _ _ _ zc1 1 (b2_pos (hisd.mpr ⟨g1, by rw [← hbn3]; exact g3, by rw [← hbn3]; exact g6⟩)).symm
      iterate 2 (refine tr_mv rfl (fun _ => rfl) ?_)
      refine tr_size (X_r0 hX) rfl rfl ?_
      rw [hod', hcl]
      refine tr_cmp2 rfl (m32_of (by omega)) (m32_of (by omega)) (fun c9 => absurd (show (od.length : Int) ≤ (done.length : Int) from c9) (by omega)) (fun _ => ?_)
      iterate 2 (refine tr_mv rfl (fun _ => rfl) ?_)
      refine tr_at2 (X_r0 hX) (m32_of (by omega)) rfl rfl ?_
      rw [hgu]
      iterate 3 (refine tr_mv rfl (fun _ => rfl) ?_)
      refine tr_vc (q := 2) rfl ⟨by decide, by decide +kernel⟩ rfl rfl rfl (s_171 (p := u) (by omega) ?_)
      refine tr_vc (q := (360 + 5 * u)) rfl (E_O ht) rfl rfl rfl (s_52 ht (by rw [(cE'.2.1 u hu).2.1]; exact hpr) ?_)
      rw [(cE'.2.1 u hu).2.1, b2_congr (show enP (en.getD u enD) ≠ -1 ↔ sbE en u = true from decide_eq_true_iff.symm)]
      iterate 2 (refine tr_mv rfl (fun _ => rfl) ?_)
      first | refine tr_ib rfl (fun g1 => ?_) (fun g1 => ?_) | refine tr_ibn rfl (fun g1 => ?_) (fun g1 => ?_)
      · iterate 3 (refine tr_mv rfl (fun _ => rfl) ?_)
        refine tr_vc (q := 2) rfl ⟨by decide, by decide +kernel⟩ rfl rfl rfl (s_194 (o := o) hX hT hE cT' cE' hD2 hD' hH' hfw' hu (fun xs => ?_))
        have hmn : mnO (prE en) u = u := mnO_top (by rw [prE_iff]; exact Decidable.of_not_not (fun g => g1 (decide_eq_true g)))
        rw [hmn]
        exact t57 _ none _ _ _ _ _ (by rw [if_neg g1]) (zc.setR (Or.inl rfl))
      · iterate 2 (refine tr_mv rfl (fun _ => rfl) ?_)
        exact t57 _ none _ _ _ _ _ (by rw [if_pos g1]) zc
  iterate 8 (refine tr_mv rfl (fun _ => rfl) ?_)
  exact loop od [] (0, 0, -1) none none none none none none σ rfl ⟨by simp, by simp; omega, by simp⟩ ha (fun _ => rfl) rfl K chg.rf
end CCOLS2
