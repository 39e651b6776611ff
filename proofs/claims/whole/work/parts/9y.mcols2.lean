/-! Columns: the model's (2). -/
section MCOLS2
variable {Ls N k pc n n' nn b c t a q kd w d p X T : Nat} {L0 : mLs} {st r as : List mV} {h h' : mH} {σ σ' σ'' : Sg} {post : tP} {x y z x' y' i i' s v m u lv hh ww : Int} {xs ys ss L M A B : List Int} {e : mE} {C : Nat → Nat → Prop} {R : Nat → Prop} {tx : List (List Int)} {en : List EnT} {D : TD} {o hd : Nat → Int} {tg : Nat → List Int} {s1 d1 : Bool} {D3 : Nat → TD} {o3 : Nat → Nat → Int}
set_option maxRecDepth 8000 in
theorem s_325 (ch : σ.2 480 69 = hh) (hh2 : 4 ≤ hh ∧ hh ≤ 40) (cw : σ.2 480 68 = ww) (hw : 4 ≤ ww ∧ ww ≤ 40) (hX : X < 3) (hM : tlM X σ D) (hD : okTD D) (hO : opM X σ o) (hT : okTx tx) (hE : okEn tx en) (cT : mTx σ tx) (cE : mEn σ en) (hok : ∀ e ∈ en, okLoc (enL e) (enM e)) (hH : mHd σ hd) (hg : mTg σ tx tg) (hg2 : okTg tx tg) (ha : a ∈ ordE tx en D o X)
    (K : ∀ σ', only cCn σ σ' → post (.inl (some (mI (colE tx en D o hd tg hh ww X a)))) σ') :
    Tr Ls N 325 0 [some (mP (some 480)), some (mI (X : Int)), some (mI (a : Int)), none, none, none, none, none, none, none, none, none, none, none, none, none] [] σ post := by
  have hE24 := hE.1
  have hT30 := hT.1
  have hol := ordE_len (D := D) (o := o) hE X
  have hnd := ordE_nodup (D := D) (o := o) hE X
  have ha24 := ordE_sub hE X ha
  have K' : ∀ σ', only cCn σ σ' → post (.inl (some (mI (colM hh (sbE en) (hgE tx en D o hd) (lnX tg ww en) a 0 (0, 0, -1) (ordE tx en D o X))))) σ' := fun σ' ho => by
    rw [colM_in _ _ _ hnd ha]
    exact K σ' ho
  clear K
  iterate 2 (refine tr_mv rfl (fun _ => rfl) ?_)
  refine tr_vc (q := 480) rfl isO_480 rfl rfl rfl (s_294 hX hM hD hO hT hE cT cE (fun σ0 l0 o0 => ?_))
  have hsub : ∀ e ∈ ordE tx en D o X, e < en.length := fun e he => ordE_sub (D := D) (o := o) hE X he
  generalize ordE tx en D o X = od at *
  have hcl : (ci od).length = od.length := by simp
  have q0 : only cCn σ σ0 := o0.wk (fun q i h => Or.inl h)
  have loop : ∀ (rest done : List Nat) (st : cSt) (av fd : Int) (v8 v9 v10 v11 v12 v13 v14 v15 : Option mV) (σ' : Sg), od = done ++ rest → colOk hh done.length st → (av = st.2.2 ∨ (av = -2 ∧ st.2.2 = -1)) → (0 ≤ fd ∧ fd < 1000000) → (∀ σ'', only cCn σ σ'' → post (.inl (some (mI (colM hh (sbE en) (hgE tx en D o hd) (lnX tg ww en) a fd st rest)))) σ'') → only cCn σ σ' → mOd σ' od → Tr Ls N 325 20 [some (mP (some 480)), some (mI (X : Int)), some (mI (a : Int)), some (mI st.1), some (mI st.2.1), some (mI av), some (mI fd), some (mI (done.length : Int)), v8, v9, v10, v11, v12, v13, v14, v15] [] σ' post := by
    intro rest
    induction rest with
    | nil =>
      intro done st av fd v8 v9 v10 v11 v12 v13 v14 v15 σ' e hs hav hfd k zc hmd
      rw [List.append_nil] at e
      repeat (first | refine tr_mgr rfl (by decide) rfl ?_ | refine tr_mgi rfl (by decide) (by decide) rfl ?_ | refine tr_mv rfl (fun _ => rfl) ?_)
      rw [hmd.1, e]
      refine tr_cmp2 rfl (m32_of (by rw [e] at hol; omega)) (m32_of (by rw [e] at hol; omega)) (fun _ => ?_) (fun c1 => absurd (Int.le_refl _) c1)
      iterate 1 (refine tr_mv rfl (fun _ => rfl) ?_)
      exact tr_ri rfl rfl (k σ' zc)
    | cons u rest ih =>
      intro done st av fd v8 v9 v10 v11 v12 v13 v14 v15 σ' e hs hav hfd k zc hmd
      have hlen := congrArg List.length e
      rw [List.length_append, List.length_cons] at hlen
      have hu : u < en.length := hsub u (by rw [e]; simp)
      have hue := hE.2.1 _ (en_mem hu)
      have hpr := okPr_in hE u hu
      rw [prE_iff] at hpr
      have cE' := cE.of zc (fun q i g => by have := cCn_in g; omega)
      have cT' := cT.of zc (fun q i g => by have := cCn_in g; omega)
      have hM' := hM.el zc (fun q i h1 h2 g => by have := cCn_in g; omega)
      have hO' := hO.el zc (fun i g => by have := cCn_in g; omega)
      have hH' := hH.of zc (fun i g => by have := cCn_in g; omega)
      have hg' := hg.of zc (fun q i g => by have := cCn_in g; omega)
      have hgu : σ'.2 522 done.length = (u : Int) := by
        rw [hmd.2.get0 (by rw [hcl]; omega), e, show ci (done ++ u :: rest) = ci done ++ (u : Int) :: ci rest by simp, List.getD_eq_getElem?_getD, List.getElem?_append_right (by simp)]
        simp
      have hln := lnE_in (tg := tg) (e := en.getD u enD) hw (lenE_in hg2 hue.1 (hok _ (en_mem hu)))
      have hhg := hdgE_in tx en D o hd u
      have hU := colU_in (sb := sbE en) (hg := hgE tx en D o hd) (ln := lnX tg ww en) hh2 hs u
      have hNx := colNx_ok (sb := sbE en) (hg := hgE tx en D o hd) (ln := lnX tg ww en) hh2 hs u hln (by show -1 ≤ hdgE tx en D o hd u ∧ hdgE tx en D o hd u < 1000; omega)
      have hs2 := hs.2.2
      have hs1 := hs.1
      have hs3 := hs.2.1
      have hk : colM hh (sbE en) (hgE tx en D o hd) (lnX tg ww en) a fd st (u :: rest) = colM hh (sbE en) (hgE tx en D o hd) (lnX tg ww en) a (if u = a then 100 * colC1 hh (sbE en) (hgE tx en D o hd) (lnX tg ww en) st u + colU2 hh (sbE en) (hgE tx en D o hd) (lnX tg ww en) st u else fd) (colNx hh (sbE en) (hgE tx en D o hd) (lnX tg ww en) st u) rest := rfl
      rw [hk] at k
      have hln2 : 1 ≤ lnX tg ww en u ∧ lnX tg ww en u ≤ 240 := hln
      have hisd : isHd (sbE en) (hgE tx en D o hd) st.2.2 u = true ↔ ¬ sbE en u = true ∧ hgE tx en D o hd u ≠ -1 ∧ hgE tx en D o hd u ≠ st.2.2 := by
        show ((!(sbE en u)) && decide (hgE tx en D o hd u ≠ -1) && decide (hgE tx en D o hd u ≠ st.2.2)) = true ↔ _
        generalize sbE en u = sq
        cases sq
        · simp
        · simp
      have hgb : -1 ≤ hgE tx en D o hd u ∧ hgE tx en D o hd u < 1000 := by show -1 ≤ hdgE tx en D o hd u ∧ hdgE tx en D o hd u < 1000; omega
      -- the heading is known: on top
      have t72 : ∀ (bn : Int) (w10 w11 w12 w13 w14 w15 : Option mV) (σ1 : Sg), bn = (if sbE en u = true then -1 else hgE tx en D o hd u) → only cCn σ σ1 → mOd σ1 od → Tr Ls N 325 72 [some (mP (some 480)), some (mI (X : Int)), some (mI (a : Int)), some (mI st.1), some (mI st.2.1), some (mI av), some (mI fd), some (mI (done.length : Int)), some (mI (u : Int)), some (mI (b2 (sbE en u = true))), w10, w11, w12, w13, w14, w15] [mI bn] σ1 post := by
        intro bn w10 w11 w12 w13 w14 w15 σ1 hbn zc1 hmd1
        have hbn2 : -1 ≤ bn ∧ bn < 1000 := by rw [hbn]; split <;> omega
        -- isHeaded on top
        have t92 : ∀ v, v = b2 (isHd (sbE en) (hgE tx en D o hd) st.2.2 u = true) → Tr Ls N 325 92 [some (mP (some 480)), some (mI (X : Int)), some (mI (a : Int)), some (mI st.1), some (mI st.2.1), some (mI av), some (mI fd), some (mI (done.length : Int)), some (mI (u : Int)), some (mI (b2 (sbE en u = true))), some (mI bn), w11, w12, w13, w14, w15] [mI v] σ1 post := by
          intro v hv
          rw [hv]
          clear hv v
          have cE1 := cE.of zc1 (fun q i g => by have := cCn_in g; omega)
          have cT1 := cT.of zc1 (fun q i g => by have := cCn_in g; omega)
          have hg1 := hg.of zc1 (fun q i g => by have := cCn_in g; omega)
          obtain ⟨av2, hav2⟩ : ∃ av2, av2 = if sbE en u = true then av else bn := ⟨_, rfl⟩
          have hav3 : av2 = (colNx hh (sbE en) (hgE tx en D o hd) (lnX tg ww en) st u).2.2 ∨ (av2 = -2 ∧ (colNx hh (sbE en) (hgE tx en D o hd) (lnX tg ww en) st u).2.2 = -1) := by
            show av2 = (if sbE en u = true then st.2.2 else hgE tx en D o hd u) ∨ (av2 = -2 ∧ (if sbE en u = true then st.2.2 else hgE tx en D o hd u) = -1)
            by_cases g : sbE en u = true
            · rw [if_pos g] at hav2 ⊢
              rw [hav2]
              exact hav
            · rw [if_neg g] at hav2 hbn ⊢
              exact Or.inl (by rw [hav2, hbn])
          have t106 : Tr Ls N 325 106 [some (mP (some 480)), some (mI (X : Int)), some (mI (a : Int)), some (mI st.1), some (mI st.2.1), some (mI av), some (mI fd), some (mI (done.length : Int)), some (mI (u : Int)), some (mI (b2 (sbE en u = true))), some (mI bn), some (mI (b2 (isHd (sbE en) (hgE tx en D o hd) st.2.2 u = true))), w12, w13, w14, w15] [mI av2] σ1 post := by
            iterate 3 (refine tr_mv rfl (fun _ => rfl) ?_)
            refine tr_vc (q := 480) rfl isO_480 rfl rfl rfl (s_324 (ww := ww) ((zc1.2 _ _ (fun g => by have := cCn_in g; omega)).trans cw) hw hT cT1 hE cE1 hok hg1 hg2 hu (fun σ2 o2 => ?_))
            have zc2 : only cCn σ σ2 := zc1.tr (o2.wk (fun q i g => by rcases g with g | g; exact Or.inl (Or.inl (Or.inl g)); exact Or.inr g))
            have hmd2 : mOd σ2 od := ⟨(o2.2 _ _ (fun g => by have := cLc_in g; omega)).trans hmd1.1, hmd1.2.only o2 (fun i _ _ g => by have := cLc_in g; omega)⟩
            have ch2 : σ2.2 480 69 = hh := (zc2.2 _ _ (fun g => by have := cCn_in g; omega)).trans ch
            clear cE1 cT1 hg1 hM' hO' hH' hg' cT' cE' hmd1 hmd
            have hcL : colL (sbE en) (hgE tx en D o hd) (lnX tg ww en) st u = lnX tg ww en u + (if isHd (sbE en) (hgE tx en D o hd) st.2.2 u = true then 1 else 0) := rfl
            have hC1 : colC1 hh (sbE en) (hgE tx en D o hd) (lnX tg ww en) st u = if neuP hh st.2.1 (colL (sbE en) (hgE tx en D o hd) (lnX tg ww en) st u) (sbE en u) (isHd (sbE en) (hgE tx en D o hd) st.2.2 u) then st.1 + 1 else st.1 := by unfold colC1 colN; simp only [decide_eq_true_eq]
            have hU1 : colU1 hh (sbE en) (hgE tx en D o hd) (lnX tg ww en) st u = if neuP hh st.2.1 (colL (sbE en) (hgE tx en D o hd) (lnX tg ww en) st u) (sbE en u) (isHd (sbE en) (hgE tx en D o hd) st.2.2 u) then 0 else st.2.1 := by unfold colU1 colN; simp only [decide_eq_true_eq]
            have hU2 : colU2 hh (sbE en) (hgE tx en D o hd) (lnX tg ww en) st u = colU1 hh (sbE en) (hgE tx en D o hd) (lnX tg ww en) st u + (if isHd (sbE en) (hgE tx en D o hd) st.2.2 u = true ∨ (sbE en u = true ∧ colU1 hh (sbE en) (hgE tx en D o hd) (lnX tg ww en) st u = 0) then 1 else 0) := rfl
            have hNe : (colNx hh (sbE en) (hgE tx en D o hd) (lnX tg ww en) st u) = (colC1 hh (sbE en) (hgE tx en D o hd) (lnX tg ww en) st u + (colU2 hh (sbE en) (hgE tx en D o hd) (lnX tg ww en) st u + lnX tg ww en u - 1) / hh, (colU2 hh (sbE en) (hgE tx en D o hd) (lnX tg ww en) st u + lnX tg ww en u - 1) % hh + 1, (colNx hh (sbE en) (hgE tx en D o hd) (lnX tg ww en) st u).2.2) := rfl
            have hlb : lnE tg ww (en.getD u enD) = lnX tg ww en u := rfl
            rw [hlb]
            generalize (colNx hh (sbE en) (hgE tx en D o hd) (lnX tg ww en) st u) = NX at *
            generalize isHd (sbE en) (hgE tx en D o hd) st.2.2 u = hb at *
            generalize sbE en u = sb at *
            generalize lnX tg ww en u = lx at *
            generalize colL (sbE en) (hgE tx en D o hd) (lnX tg ww en) st u = cl at *
            generalize colC1 hh (sbE en) (hgE tx en D o hd) (lnX tg ww en) st u = c1 at *
            generalize colU1 hh (sbE en) (hgE tx en D o hd) (lnX tg ww en) st u = u1 at *
            generalize colU2 hh (sbE en) (hgE tx en D o hd) (lnX tg ww en) st u = u2 at *
            have hlbd : 1 ≤ cl ∧ cl ≤ 241 := by rw [hcL]; split <;> omega
            -- lines are counted; the end of a step
            have t227 : ∀ (w13 : Option mV) (w14 : Int), Tr Ls N 325 227 [some (mP (some 480)), some (mI (X : Int)), some (mI (a : Int)), some (mI c1), some (mI u2), some (mI av2), some (mI fd), some (mI (done.length : Int)), some (mI (u : Int)), some (mI (b2 (sb = true))), some (mI bn), some (mI (b2 (hb = true))), some (mI cl), w13, some (mI w14), w15] [] σ2 post := by
              intro w13 w14
              have e1 := Int.ediv_nonneg (show 0 ≤ u2 + lx - 1 by omega) (show 0 ≤ hh by omega)
              have e2 := Int.ediv_le_self hh (show 0 ≤ u2 + lx - 1 by omega)
              have t277 : ∀ fd2, fd2 = (if u = a then 100 * c1 + u2 else fd) → Tr Ls N 325 275 [some (mP (some 480)), some (mI (X : Int)), some (mI (a : Int)), some (mI c1), some (mI u2), some (mI av2), some (mI fd), some (mI (done.length : Int)), some (mI (u : Int)), some (mI (b2 (sb = true))), some (mI bn), some (mI (b2 (hb = true))), some (mI lx), w13, some (mI w14), w15] [mI fd2] σ2 post := by
                intro fd2 hfd2
                have hf3 : 0 ≤ fd2 ∧ fd2 < 1000000 := by rw [hfd2]; split <;> omega
                iterate 9 (refine tr_mv rfl (fun _ => rfl) ?_)
                repeat (first | refine tr_mgr rfl (by decide) rfl ?_ | refine tr_mgi rfl (by decide) (by decide) rfl ?_ | refine tr_mv rfl (fun _ => rfl) ?_)
                rw [ch2]
                refine tr_div (by omega) (by omega) rfl ?_
                repeat (first | refine tr_mgr rfl (by decide) rfl ?_ | refine tr_mgi rfl (by decide) (by decide) rfl ?_ | refine tr_mv rfl (fun _ => rfl) ?_)
                rw [ch2]
                refine tr_rem (by omega) (by omega) rfl ?_
                iterate 5 (refine tr_mv rfl (fun _ => rfl) ?_)
                show Tr Ls N 325 20 [some (mP (some 480)), some (mI (X : Int)), some (mI (a : Int)), some (mI (c1 + (u2 + lx - 1) / hh)), some (mI ((u2 + lx - 1) % hh + 1)), some (mI av2), some (mI fd2), some (mI ((done.length : Int) + 1)), some (mI (u : Int)), some (mI (b2 (sb = true))), some (mI bn), some (mI (b2 (hb = true))), some (mI lx), w13, some (mI w14), some (mI (u2 + lx))] [] σ2 post
                rw [show (done.length : Int) + 1 = ((done ++ [u]).length : Int) by simp]
                have k9 := ih (done ++ [u]) NX av2 fd2 (some (mI (u : Int))) (some (mI (b2 (sb = true)))) (some (mI bn)) (some (mI (b2 (hb = true)))) (some (mI lx)) w13 (some (mI w14)) (some (mI (u2 + lx))) σ2 (by rw [e]; simp) (by rw [List.length_append, List.length_singleton]; exact hNx) hav3 hf3 (by rw [hfd2]; exact k) zc2 hmd2
                rw [hNe] at k9
                exact k9
              have t239 : ∀ v, cl - v = lx → Tr Ls N 325 239 [some (mP (some 480)), some (mI (X : Int)), some (mI (a : Int)), some (mI c1), some (mI u2), some (mI av2), some (mI fd), some (mI (done.length : Int)), some (mI (u : Int)), some (mI (b2 (sb = true))), some (mI bn), some (mI (b2 (hb = true))), some (mI cl), w13, some (mI w14), w15] [mI v, mI cl] σ2 post := by
                intro v hv
                iterate 3 (refine tr_mv rfl (fun _ => rfl) ?_)
                rw [hv]
                iterate 1 (refine tr_mv rfl (fun _ => rfl) ?_)
                refine tr_mgi rfl (by decide) (by decide) rfl ?_
                rw [ch2]
                refine tr_cmp2 rfl (m32_of (by omega)) (m32_of (by omega)) (fun g1 => ?_) (fun g1 => ?_)
                · iterate 2 (refine tr_mv rfl (fun _ => rfl) ?_)
                  refine tr_cmp2 rfl (m32_of (by omega)) (m32_of (by omega)) (fun g2 => ?_) (fun g2 => ?_)
                  · have g3 : ¬ (u : Int) = (a : Int) := g2
                    iterate 1 (refine tr_mv rfl (fun _ => rfl) ?_)
                    exact t277 _ (by rw [if_neg (fun g => g3 (by rw [g]))])
                  · have g3 : (u : Int) = (a : Int) := Decidable.of_not_not g2
                    iterate 6 (refine tr_mv rfl (fun _ => rfl) ?_)
                    exact t277 _ (by rw [if_pos (show u = a by omega)])
                · have g2 : u2 = hh := Decidable.of_not_not g1
                  exact absurd g2 (by omega)
              iterate 2 (refine tr_mv rfl (fun _ => rfl) ?_)
              first | refine tr_ib rfl (fun g1 => ?_) (fun g1 => ?_) | refine tr_ibn rfl (fun g1 => ?_) (fun g1 => ?_)
              · rw [if_neg g1] at hcL
                iterate 1 (refine tr_mv rfl (fun _ => rfl) ?_)
                exact t239 0 (by omega)
              · rw [if_pos g1] at hcL
                iterate 2 (refine tr_mv rfl (fun _ => rfl) ?_)
                exact t239 1 (by omega)
            have t202 : ∀ (w13 : Option mV) (w14 : Int), Tr Ls N 325 202 [some (mP (some 480)), some (mI (X : Int)), some (mI (a : Int)), some (mI c1), some (mI u1), some (mI av2), some (mI fd), some (mI (done.length : Int)), some (mI (u : Int)), some (mI (b2 (sb = true))), some (mI bn), some (mI (b2 (hb = true))), some (mI cl), w13, some (mI w14), w15] [] σ2 post := by
              intro w13 w14
              have t := t227 w13 w14
              rw [hU2] at t
              have t214 : ¬ (sb = true ∧ u1 = 0) → Tr Ls N 325 214 [some (mP (some 480)), some (mI (X : Int)), some (mI (a : Int)), some (mI c1), some (mI u1), some (mI av2), some (mI fd), some (mI (done.length : Int)), some (mI (u : Int)), some (mI (b2 (sb = true))), some (mI bn), some (mI (b2 (hb = true))), some (mI cl), w13, some (mI w14), w15] [mI u1] σ2 post := by
                intro g
                iterate 1 (refine tr_mv rfl (fun _ => rfl) ?_)
                first | refine tr_ib rfl (fun g1 => ?_) (fun g1 => ?_) | refine tr_ibn rfl (fun g1 => ?_) (fun g1 => ?_)
                · rw [if_neg (fun g2 => by rcases g2 with g2 | g2; exact g1 g2; exact g g2)] at t
                  iterate 3 (refine tr_mv rfl (fun _ => rfl) ?_)
                  exact t
                · rw [if_pos (Or.inl g1)] at t
                  iterate 4 (refine tr_mv rfl (fun _ => rfl) ?_)
                  exact t
              iterate 2 (refine tr_mv rfl (fun _ => rfl) ?_)
              first | refine tr_ib rfl (fun g1 => ?_) (fun g1 => ?_) | refine tr_ibn rfl (fun g1 => ?_) (fun g1 => ?_)
              · exact t214 (fun g => g1 g.1)
              · iterate 1 (refine tr_mv rfl (fun _ => rfl) ?_)
                refine tr_if2 rfl (m32_of (by omega)) (fun g2 => ?_) (fun g2 => ?_)
                · have g3 : u1 = 0 := g2
                  rw [if_pos (Or.inr ⟨g1, g3⟩)] at t
                  iterate 4 (refine tr_mv rfl (fun _ => rfl) ?_)
                  exact t
                · have g3 : ¬ u1 = 0 := g2
                  exact t214 (fun g => g3 g.2)
            -- isNew on top
            have t184 : ∀ v : Int, (v = 0 ∨ v = 1) → (0 < st.2.1 → (v = 1 ↔ neuP hh st.2.1 cl sb hb)) → Tr Ls N 325 184 [some (mP (some 480)), some (mI (X : Int)), some (mI (a : Int)), some (mI st.1), some (mI st.2.1), some (mI av2), some (mI fd), some (mI (done.length : Int)), some (mI (u : Int)), some (mI (b2 (sb = true))), some (mI bn), some (mI (b2 (hb = true))), some (mI cl), some (mI (hh - st.2.1)), w14, w15] [mI v] σ2 post := by
              intro v hv hv2
              iterate 2 (refine tr_mv rfl (fun _ => rfl) ?_)
              refine tr_if2 rfl (m32_of (by omega)) (fun g1 => ?_) (fun g1 => ?_)
              · have g2 : st.2.1 ≤ 0 := g1
                have t := t202 (some (mI (hh - st.2.1))) v
                rw [hC1, hU1, if_neg (fun g => by have := g.1; omega), if_neg (fun g => by have := g.1; omega)] at t
                exact t
              · have g2 : ¬ st.2.1 ≤ 0 := g1
                have hv3 := hv2 (by omega)
                iterate 1 (refine tr_mv rfl (fun _ => rfl) ?_)
                rcases hv with rfl | rfl
                · have g3 : ¬ neuP hh st.2.1 cl sb hb := fun g => absurd (hv3.mpr g) (by decide)
                  have t := t202 (some (mI (hh - st.2.1))) 0
                  rw [hC1, hU1, if_neg g3, if_neg g3] at t
                  iterate 1 (refine tr_mv rfl (fun _ => rfl) ?_)
                  exact t
                · have g3 := hv3.mp rfl
                  have t := t202 (some (mI (hh - st.2.1))) 1
                  rw [hC1, hU1, if_pos g3, if_pos g3] at t
                  iterate 4 (refine tr_mv rfl (fun _ => rfl) ?_)
                  exact t
            have t124 : ∀ v : Int, lx + v = cl → Tr Ls N 325 124 [some (mP (some 480)), some (mI (X : Int)), some (mI (a : Int)), some (mI st.1), some (mI st.2.1), some (mI av2), some (mI fd), some (mI (done.length : Int)), some (mI (u : Int)), some (mI (b2 (sb = true))), some (mI bn), some (mI (b2 (hb = true))), w12, w13, w14, w15] [mI v, mI lx] σ2 post := by
              intro v hv
              iterate 2 (refine tr_mv rfl (fun _ => rfl) ?_)
              rw [hv]
              repeat (first | refine tr_mgr rfl (by decide) rfl ?_ | refine tr_mgi rfl (by decide) (by decide) rfl ?_ | refine tr_mv rfl (fun _ => rfl) ?_)
              rw [ch2]
              -- 168: the last of the three
              have t168 : ¬ hh - st.2.1 = 0 → ¬ (hh - st.2.1 < cl ∧ (if sb = true then cl + 1 else cl) ≤ hh) → Tr Ls N 325 168 [some (mP (some 480)), some (mI (X : Int)), some (mI (a : Int)), some (mI st.1), some (mI st.2.1), some (mI av2), some (mI fd), some (mI (done.length : Int)), some (mI (u : Int)), some (mI (b2 (sb = true))), some (mI bn), some (mI (b2 (hb = true))), some (mI cl), some (mI (hh - st.2.1)), w14, w15] [] σ2 post := by
                intro h1 h2
                iterate 2 (refine tr_mv rfl (fun _ => rfl) ?_)
                refine tr_cmp2 rfl (m32_of (by omega)) (m32_of (by omega)) (fun g1 => ?_) (fun g1 => ?_)
                · have g2 : ¬ hh - st.2.1 = 1 := g1
                  iterate 1 (refine tr_mv rfl (fun _ => rfl) ?_)
                  exact t184 0 (Or.inl rfl) (fun _ => ⟨fun g => absurd g (by decide), fun g => by rcases g.2 with g | g | g; exact absurd g h1; exact absurd g h2; exact absurd g.1 g2⟩)
                · have g2 : hh - st.2.1 = 1 := Decidable.of_not_not g1
                  iterate 1 (refine tr_mv rfl (fun _ => rfl) ?_)
                  first | refine tr_ib rfl (fun g3 => ?_) (fun g3 => ?_) | refine tr_ibn rfl (fun g3 => ?_) (fun g3 => ?_)
                  · iterate 1 (refine tr_mv rfl (fun _ => rfl) ?_)
                    exact t184 0 (Or.inl rfl) (fun _ => ⟨fun g => absurd g (by decide), fun g => by rcases g.2 with g | g | g; exact absurd g h1; exact absurd g h2; exact absurd g.2 g3⟩)
                  · iterate 2 (refine tr_mv rfl (fun _ => rfl) ?_)
                    exact t184 1 (Or.inr rfl) (fun g0 => ⟨fun _ => ⟨g0, Or.inr (Or.inr ⟨g2, g3⟩)⟩, fun _ => rfl⟩)
              refine tr_if2 rfl (m32_of (by omega)) (fun g1 => ?_) (fun g1 => ?_)
              · have g2 : hh - st.2.1 = 0 := g1
                iterate 2 (refine tr_mv rfl (fun _ => rfl) ?_)
                exact t184 1 (Or.inr rfl) (fun g0 => ⟨fun _ => ⟨g0, Or.inl g2⟩, fun _ => rfl⟩)
              · have g2 : ¬ hh - st.2.1 = 0 := g1
                iterate 2 (refine tr_mv rfl (fun _ => rfl) ?_)
                refine tr_cmp2 rfl (m32_of (by omega)) (m32_of (by omega)) (fun g3 => ?_) (fun g3 => ?_)
                · have g4 : cl ≤ hh - st.2.1 := g3
                  exact t168 g2 (fun g => by have := g.1; omega)
                · have g4 : ¬ cl ≤ hh - st.2.1 := g3
                  have t160 : ∀ v : Int, cl + v = (if sb = true then cl + 1 else cl) → Tr Ls N 325 160 [some (mP (some 480)), some (mI (X : Int)), some (mI (a : Int)), some (mI st.1), some (mI st.2.1), some (mI av2), some (mI fd), some (mI (done.length : Int)), some (mI (u : Int)), some (mI (b2 (sb = true))), some (mI bn), some (mI (b2 (hb = true))), some (mI cl), some (mI (hh - st.2.1)), w14, w15] [mI v, mI cl] σ2 post := by
                    intro v hv
                    have hvb : 1 ≤ cl + v ∧ cl + v ≤ 300 := by rw [hv]; split <;> omega
                    iterate 2 (refine tr_mv rfl (fun _ => rfl) ?_)
                    refine tr_mgi rfl (by decide) (by decide) rfl ?_
                    rw [ch2]
                    refine tr_cmp2 rfl (m32_of (by omega)) (m32_of (by omega)) (fun g5 => ?_) (fun g5 => ?_)
                    · have g6 : cl + v ≤ hh := g5
                      iterate 2 (refine tr_mv rfl (fun _ => rfl) ?_)
                      exact t184 1 (Or.inr rfl) (fun g0 => ⟨fun _ => ⟨g0, Or.inr (Or.inl ⟨by omega, by rw [← hv]; exact g6⟩)⟩, fun _ => rfl⟩)
                    · have g6 : ¬ cl + v ≤ hh := g5
                      exact t168 g2 (fun g => g6 (by rw [hv]; exact g.2))
                  iterate 2 (refine tr_mv rfl (fun _ => rfl) ?_)
                  first | refine tr_ib rfl (fun g5 => ?_) (fun g5 => ?_) | refine tr_ibn rfl (fun g5 => ?_) (fun g5 => ?_)
                  · iterate 1 (refine tr_mv rfl (fun _ => rfl) ?_)
                    exact t160 0 (by rw [if_neg g5, Int.add_zero])
                  · iterate 2 (refine tr_mv rfl (fun _ => rfl) ?_)
                    exact t160 1 (by rw [if_pos g5])
            iterate 1 (refine tr_mv rfl (fun _ => rfl) ?_)
            first | refine tr_ib rfl (fun g1 => ?_) (fun g1 => ?_) | refine tr_ibn rfl (fun g1 => ?_) (fun g1 => ?_)
            · rw [if_neg g1] at hcL
              iterate 1 (refine tr_mv rfl (fun _ => rfl) ?_)
              exact t124 0 hcL.symm
            · rw [if_pos g1] at hcL
              iterate 2 (refine tr_mv rfl (fun _ => rfl) ?_)
              exact t124 1 hcL.symm
          iterate 2 (refine tr_mv rfl (fun _ => rfl) ?_)
          first | refine tr_ib rfl (fun g1 => ?_) (fun g1 => ?_) | refine tr_ibn rfl (fun g1 => ?_) (fun g1 => ?_)
          · rw [if_neg g1] at hav2
            iterate 1 (refine tr_mv rfl (fun _ => rfl) ?_)
            rw [hav2] at t106
            exact t106
          · rw [if_pos g1] at hav2
            iterate 2 (refine tr_mv rfl (fun _ => rfl) ?_)
            rw [hav2] at t106
            exact t106
        iterate 3 (refine tr_mv rfl (fun _ => rfl) ?_)
        refine tr_cmp2 rfl (m32_of (by omega)) (m32_of (by omega)) (fun g1 => ?_) (fun g1 => ?_)
        · have g2 : bn = -1 := g1
          iterate 1 (refine tr_mv rfl (fun _ => rfl) ?_)
          refine t92 0 (b2_neg (fun g => ?_)).symm
          obtain ⟨q1, q2, q3⟩ := hisd.mp g
          rw [if_neg q1] at hbn
          exact q2 (by rw [← hbn]; exact g2)
        · have g2 : ¬ bn = -1 := g1
          have g3 : ¬ sbE en u = true := fun g => by rw [if_pos g] at hbn; exact g2 hbn
          rw [if_neg g3] at hbn
          iterate 2 (refine tr_mv rfl (fun _ => rfl) ?_)
          refine tr_cmp2 rfl (m32_of (by omega)) (m32_of (by omega)) (fun g4 => ?_) (fun g4 => ?_)
          · have g5 : bn = av := g4
            iterate 1 (refine tr_mv rfl (fun _ => rfl) ?_)
            refine t92 0 (b2_neg (fun g => ?_)).symm
            obtain ⟨q1, q2, q3⟩ := hisd.mp g
            exact q3 (by omega)
          · have g5 : ¬ bn = av := g4
            iterate 2 (refine tr_mv rfl (fun _ => rfl) ?_)
            exact t92 1 (b2_pos (hisd.mpr ⟨g3, by rw [← hbn]; exact g2, by omega⟩)).symm
      repeat (first | refine tr_mgr rfl (by decide) rfl ?_ | refine tr_mgi rfl (by decide) (by decide) rfl ?_ | refine tr_mv rfl (fun _ => rfl) ?_)
      rw [hmd.1]
      refine tr_cmp2 rfl (m32_of (by omega)) (m32_of (by omega)) (fun c9 => absurd (show (od.length : Int) ≤ (done.length : Int) from c9) (by omega)) (fun _ => ?_)
      repeat (first | refine tr_mgr rfl (by decide) rfl ?_ | refine tr_mgi rfl (by decide) (by decide) rfl ?_ | refine tr_mv rfl (fun _ => rfl) ?_)
      refine tr_man (j := done.length) rfl (by omega) (by omega) rfl (fun _ => rfl) rfl rfl rfl ?_
      rw [hgu]
      repeat (first | refine tr_mgr rfl (by decide) rfl ?_ | refine tr_mgi rfl (by decide) (by decide) rfl ?_ | refine tr_mv rfl (fun _ => rfl) ?_)
      refine tr_man (j := u) rfl (by omega) (by omega) rfl (fun _ => rfl) rfl rfl rfl ?_
      rw [(cE'.2.1 u hu).1]
      iterate 1 (refine tr_mv rfl (fun _ => rfl) ?_)
      refine tr_cmp2 rfl (m32_of (by omega)) (m32_of (by omega)) (fun g1 => ?_) (fun g1 => ?_)
      · have g2 : enP (en.getD u enD) = -1 := g1
        have g3 : ¬ sbE en u = true := fun g => (of_decide_eq_true g) g2
        have t := fun bn σ1 hb zc1 md1 => t72 bn v10 v11 v12 v13 v14 v15 σ1 hb zc1 md1
        rw [b2_neg g3] at t
        iterate 7 (refine tr_mv rfl (fun _ => rfl) ?_)
        refine tr_vc (q := 480) rfl isO_480 rfl rfl rfl (s_299 hX hM' hD hO' hT hE cT' cE' hH' hu (fun σ1 o1 => ?_))
        exact t _ σ1 (by rw [if_neg g3]) (zc.tr (o1.wk (fun q i g => Or.inl (Or.inl g)))) ⟨(o1.2 _ _ (fun g => by have := cQ_nin g; omega)).trans hmd.1, hmd.2.only o1 (fun i _ _ g => by have := cQ_nin g; omega)⟩
      · have g2 : ¬ enP (en.getD u enD) = -1 := g1
        have g3 : sbE en u = true := decide_eq_true g2
        have t := fun bn σ1 hb zc1 md1 => t72 bn v10 v11 v12 v13 v14 v15 σ1 hb zc1 md1
        rw [b2_pos g3] at t
        iterate 7 (refine tr_mv rfl (fun _ => rfl) ?_)
        exact t (-1) σ' (by rw [if_pos g3]) zc hmd
  iterate 10 (refine tr_mv rfl (fun _ => rfl) ?_)
  exact loop od [] (0, 0, -1) (-2) 0 none none none none none none none none σ0 rfl ⟨by simp, by simp; omega, by simp⟩ (Or.inr ⟨rfl, rfl⟩) (by omega) K' q0 l0
end MCOLS2
