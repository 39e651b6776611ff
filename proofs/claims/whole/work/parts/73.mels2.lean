/-! The model's elements of a row of signs, found. -/
def opM (T : Nat) (σ : Sg) (o : Nat → Int) : Prop := ∀ j, j < 3 → σ.2 503 (3 * T + j) = o j ∧ (o j = 0 ∨ o j = 1)
section MELS2
variable {Ls N k pc n n' nn b c t a q T kd w : Nat} {L L0 : mLs} {st r as : List mV} {h h' : mH} {σ σ' σ'' : Sg} {post : tP} {x y z x' y' i i' s v m u : Int} {xs ys its lvs sv sg ss g : List Int} {e : mE} {C : Nat → Nat → Prop} {D : TD} {els : List El} {o : Nat → Int}
theorem opM.el (h : opM T σ o) (ho : only C σ σ') (hC : ∀ i, ¬ C 503 i) : opM T σ' o := fun j hj => by
  rw [ho.2 _ _ (hC _)]
  exact h j hj
theorem gStep_grp {bv : Int} {S : GS} (p : Nat) : (gStep D bv ss p v S).2.2.1.length = S.2.1.length := by
  unfold gStep
  split
  · exact List.length_set
  · split
    · exact tkF_len _ _ _ _
    · exact itmC_len _ _ _ _ _
set_option maxRecDepth 8000 in
theorem s_260 (hT : T < 3) (hM : tlM T σ D) (hD : okTD D) (hO : opM T σ o) (hR : mrow σ ss) (h40 : okA40 ss) (hls : ss.length ≤ 31)
    (K : ∀ σ', meM σ' (gthMR D (o 2) ss).2.1 → mgM σ' (gthMR D (o 2) ss).2.2.1 (gthMR D (o 2) ss).1 → only cEG σ σ' → post (.inl none) σ') :
    Tr Ls N 260 0 [some (mP (some 480)), some (mI (T : Int)), none, none] [] σ post := by
  have hM' : ∀ σ', only cEG σ σ' → tlM T σ' D := fun σ' ho => hM.el ho (fun q i h1 h2 => by omega)
  have hR' : ∀ σ', only cEG σ σ' → mrow σ' ss := fun σ' ho => hR.el ho (fun i => by omega) (by omega)
  have hO' : ∀ σ', only cEG σ σ' → opM T σ' o := fun σ' ho => hO.el ho (fun i => by omega)
  have loop : ∀ (f p : Nat) (v : Int) (S : GS) (σ' : Sg), ss.length < p + f → p ≤ ss.length → meM σ' S.1 → mgM σ' S.2.1 v → S.2.1.length = ss.length → S.1.length ≤ 3 * p → (0 ≤ S.2.2 ∧ S.2.2 ≤ 2) → (0 ≤ v ∧ v ≤ p) → only cEG σ σ' → (∀ y ∈ S.2.1, in32 y) → (∀ σ2, meM σ2 (gthM D (o 2) ss f p v S).2.1 → mgM σ2 (gthM D (o 2) ss f p v S).2.2.1 (gthM D (o 2) ss f p v S).1 → only cEG σ σ2 → post (.inl none) σ2) → Tr Ls N 260 37 [some (mP (some 480)), some (mI (T : Int)), some (mI (b2 (S.2.2 ≠ 0))), some (mI (p : Int))] [] σ' post := by
    intro f
    induction f with
    | zero => intro p v S σ' h1 h2; omega
    | succ f ih =>
      intro p v S σ' h1 h2 hS hG hgl h3 hkd hv ho hgi K'
      unfold gthM at K'
      by_cases c0 : ss.length ≤ p
      · rw [if_pos c0] at K'
        repeat (first | refine tr_mgr rfl (by decide) rfl ?_ | refine tr_mgi rfl (by decide) (by decide) rfl ?_ | refine tr_mv rfl (fun _ => rfl) ?_)
        rw [(hR' σ' ho).1]
        refine tr_cmp2 rfl (m32_of (by omega)) (m32_of (by omega)) (fun _ => ?_) (fun c1 => absurd (show (ss.length : Int) ≤ (p : Int) by omega) c1)
        exact tr_ret rfl (fun _ => rfl) (K' σ' hS hG ho)
      · rw [if_neg c0] at K'
        have hx : ss[p]? = some (ss.getD p 0) := by
          rw [List.getD_eq_getElem?_getD, List.getElem?_eq_getElem (show p < ss.length by omega)]
          rfl
        have hx40 := h40 _ (List.mem_of_getElem? hx)
        have hgp : S.2.1.getD p 0 ∈ S.2.1 := by
          rw [List.getD_eq_getElem?_getD, List.getElem?_eq_getElem (show p < S.2.1.length by omega)]
          exact List.getElem_mem _
        have hgi2 := hgi _ hgp
        have hrow := hR' σ' ho
        -- behind a step
        have h191 : ∀ (p' : Nat) (S' : GS) (σ2 : Sg), p < p' → p' ≤ ss.length → meM σ2 S'.1 → mgM σ2 S'.2.1 v → S'.2.1.length = ss.length → S'.1.length ≤ 3 * p' → (0 ≤ S'.2.2 ∧ S'.2.2 ≤ 2) → only cEG σ σ2 → (∀ y ∈ S'.2.1, in32 y) → (∀ σ2, meM σ2 (gthM D (o 2) ss f p' (v + 1) S').2.1 → mgM σ2 (gthM D (o 2) ss f p' (v + 1) S').2.2.1 (gthM D (o 2) ss f p' (v + 1) S').1 → only cEG σ σ2 → post (.inl none) σ2) → Tr Ls N 260 191 [some (mP (some 480)), some (mI (T : Int)), some (mI (b2 (S'.2.2 ≠ 0))), some (mI (p' : Int))] [] σ2 post := by
          intro p' S' σ2 q1 q2 q3 q4 q5 q6 q7 q8 q9 q10
          repeat (first | refine tr_mgr rfl (by decide) rfl ?_ | refine tr_mgi rfl (by decide) (by decide) rfl ?_ | refine tr_mv rfl (fun _ => rfl) ?_)
          rw [q4.2]
          refine tr_mpi rfl (Or.inl rfl) (by decide) rfl ?_
          iterate 1 (refine tr_mv rfl (fun _ => rfl) ?_)
          refine ih p' (v + 1) S' _ (by omega) q2 (q3.el (C := cGr) (only.rf.setF (Or.inr ⟨rfl, rfl⟩)) (fun q i h1 h2 => by omega) (by omega)) ⟨q4.1.keep (fun i _ _ => setF_ne _ _ (by omega)), setF_same _ _ _ _⟩ q5 q6 q7 (by omega) (q8.setF (Or.inr (Or.inr ⟨rfl, rfl⟩))) q9 q10
        repeat (first | refine tr_mgr rfl (by decide) rfl ?_ | refine tr_mgi rfl (by decide) (by decide) rfl ?_ | refine tr_mv rfl (fun _ => rfl) ?_)
        rw [hrow.1]
        refine tr_cmp2 rfl (m32_of (by omega)) (m32_of (by omega)) (fun c1 => absurd c1 (by show ¬ _ ≤ _; omega)) (fun _ => ?_)
        repeat (first | refine tr_mgr rfl (by decide) rfl ?_ | refine tr_mgi rfl (by decide) (by decide) rfl ?_ | refine tr_mv rfl (fun _ => rfl) ?_)
        refine tr_man (j := 0 + p) rfl (by omega) (by omega) rfl (fun _ => rfl) rfl rfl rfl ?_
        rw [hG.1.get (by omega)]
        iterate 1 (refine tr_mv rfl (fun _ => rfl) ?_)
        by_cases c1 : S.2.1.getD p 0 ≠ -1
        · rw [if_pos c1] at K'
          refine tr_cmp2 rfl (m32_of hgi2) (m32_of (x := -1) ⟨by decide, by decide⟩) (fun c9 => absurd c9 c1) (fun _ => ?_)
          iterate 2 (refine tr_mv rfl (fun _ => rfl) ?_)
          show Tr Ls N 260 191 [some (mP (some 480)), some (mI (T : Int)), some (mI (b2 (S.2.2 ≠ 0))), some (mI ((p : Int) + 1))] [] σ' post
          rw [show (p : Int) + 1 = ((p + 1 : Nat) : Int) by omega]
          exact h191 (p + 1) S σ' (by omega) (by omega) hS hG hgl (by omega) hkd ho hgi K'
        · rw [if_neg c1] at K'
          have c1 : S.2.1.getD p 0 = -1 := Decidable.byContradiction c1
          have hadv := gStep_adv (D := D) (bv := o 2) (v := v) (S := S) (show p < ss.length by omega)
          have hkd2 := gStep_kd (D := D) (bv := o 2) (ss := ss) (p := p) (v := v) (S := S)
          have hgl2 := gStep_grp (D := D) (bv := o 2) (ss := ss) (v := v) (S := S) p
          have hin2 : ∀ y ∈ (gStep D (o 2) ss p v S).2.2.1, in32 y := by
            have hset : ∀ (l : List Int) (j : Nat), (∀ y ∈ l, in32 y) → ∀ y ∈ l.set j v, in32 y := fun l j h y hy => by
              rcases List.mem_or_eq_of_mem_set hy with k | k
              · exact h y k
              · rw [k]; omega
            have htk : ∀ (d j : Nat) (l : List Int), (∀ y ∈ l, in32 y) → ∀ y ∈ tkF d j v l, in32 y := by
              intro d
              induction d with
              | zero => intro j l h; exact h
              | succ d ihd => intro j l h; exact ihd (j + 1) _ (hset l j h)
            have htm : ∀ (ms : List Int) (c cl : Int) (j : Nat) (l : List Int), (∀ y ∈ l, in32 y) → ∀ y ∈ (tmk D v ms c cl j l).2, in32 y := by
              intro ms
              induction ms with
              | nil => intro c cl j l h; exact h
              | cons m ms ihm =>
                intro c cl j l h
                unfold tmk
                split
                · split
                  · exact ihm _ _ _ _ (hset l j h)
                  · exact ihm _ _ _ _ h
                · exact h
            unfold gStep
            split
            · exact hset _ _ hgi
            · split
              · exact htk _ _ _ hgi
              · exact htm _ _ _ _ _ (htk _ _ _ hgi)
          rw [c1]
          refine tr_cmp2 rfl (m32_of (x := -1) ⟨by decide, by decide⟩) (m32_of (x := -1) ⟨by decide, by decide⟩) (fun _ => ?_) (fun c9 => absurd rfl c9)
          repeat (first | refine tr_mgr rfl (by decide) rfl ?_ | refine tr_mgi rfl (by decide) (by decide) rfl ?_ | refine tr_mv rfl (fun _ => rfl) ?_)
          refine tr_man (j := 3 * T + 2) rfl (by omega) (by omega) rfl (fun _ => rfl) rfl rfl rfl ?_
          rw [((hO' σ' ho) 2 (by decide)).1]
          have ho01 := ((hO' σ' ho) 2 (by decide)).2
          -- no number
          have h100 : ¬ (isDig (ss.getD p 0) ∧ o 2 = 1) → Tr Ls N 260 100 [some (mP (some 480)), some (mI (T : Int)), some (mI (b2 (S.2.2 ≠ 0))), some (mI (p : Int))] [] σ' post := by
            intro g
            repeat (first | refine tr_mgr rfl (by decide) rfl ?_ | refine tr_mgi rfl (by decide) (by decide) rfl ?_ | refine tr_mv rfl (fun _ => rfl) ?_)
            refine tr_man (j := p) rfl (by omega) (by omega) rfl (fun _ => rfl) rfl rfl rfl ?_
            rw [mrow_getD hrow (by omega)]
            refine tr_stat rfl rfl rfl (s_212 (by omega) ?_)
            first | refine tr_ib rfl (fun c2 => ?_) (fun c2 => ?_) | refine tr_ibn rfl (fun c2 => ?_) (fun c2 => ?_)
            · have hst : gStep D (o 2) ss p v S = (lnOf D (ss.drop p), S.1 ++ elsOf D (itmC D ss p v S.2.1).1 (b2 (isBlk (ss.getD p 0))), (itmC D ss p v S.2.1).2, b2 (isBlk (ss.getD p 0))) := by
                unfold gStep
                rw [if_neg c2, if_neg g]
              rw [hst] at K' hadv hkd2 hgl2 hin2
              have h181 : ∀ w, w = b2 (b2 (isBlk (ss.getD p 0)) ≠ 0) → Tr Ls N 260 181 [some (mP (some 480)), some (mI (T : Int)), some (mI (b2 (S.2.2 ≠ 0))), some (mI (p : Int))] [mI w] σ' post := by
                intro w ew
                subst ew
                repeat (first | refine tr_mgr rfl (by decide) rfl ?_ | refine tr_mgi rfl (by decide) (by decide) rfl ?_ | refine tr_mv rfl (fun _ => rfl) ?_)
                refine tr_vc (q := 480) rfl isO_480 rfl rfl rfl (s_259 (by omega) (hM' σ' ho) hD hrow h40 hls hS hG hgl (by omega) (by omega) c2 (by omega) (fun σ2 k1 k2 k3 => ?_))
                iterate 2 (refine tr_mv rfl (fun _ => rfl) ?_)
                show Tr Ls N 260 191 [some (mP (some 480)), some (mI (T : Int)), some (mI (b2 (b2 (isBlk (ss.getD p 0)) ≠ 0))), some (mI ((p : Int) + ((lnOf D (ss.drop p) : Nat) : Int)))] [] σ2 post
                rw [show (p : Int) + ((lnOf D (ss.drop p) : Nat) : Int) = ((p + lnOf D (ss.drop p) : Nat) : Int) by omega]
                simp only at hadv hgl2 hkd2 hin2
                exact h191 _ (S.1 ++ elsOf D (itmC D ss p v S.2.1).1 (b2 (isBlk (ss.getD p 0))), (itmC D ss p v S.2.1).2, b2 (isBlk (ss.getD p 0))) σ2 (by omega) (by omega) k1 k2 (by rw [← hgl]; exact hgl2) (by simp only; omega) hkd2 (ho.tr k3) hin2 K'
              repeat (first | refine tr_mgr rfl (by decide) rfl ?_ | refine tr_mgi rfl (by decide) (by decide) rfl ?_ | refine tr_mv rfl (fun _ => rfl) ?_)
              refine tr_man (j := p) rfl (by omega) (by omega) rfl (fun _ => rfl) rfl rfl rfl ?_
              rw [mrow_getD hrow (by omega)]
              iterate 1 (refine tr_mv rfl (fun _ => rfl) ?_)
              refine tr_cmp2 rfl (m32_of (by omega)) (m32_of (by omega)) (fun c3 => ?_) (fun c3 => ?_)
              · iterate 2 (refine tr_mv rfl (fun _ => rfl) ?_)
                refine h181 1 ?_
                rw [b2_pos (p := isBlk (ss.getD p 0)) (Or.inl c3), b2_pos (by decide)]
              · repeat (first | refine tr_mgr rfl (by decide) rfl ?_ | refine tr_mgi rfl (by decide) (by decide) rfl ?_ | refine tr_mv rfl (fun _ => rfl) ?_)
                refine tr_man (j := p) rfl (by omega) (by omega) rfl (fun _ => rfl) rfl rfl rfl ?_
                rw [mrow_getD hrow (by omega)]
                iterate 1 (refine tr_mv rfl (fun _ => rfl) ?_)
                refine tr_cmp2 rfl (m32_of (by omega)) (m32_of (by omega)) (fun c4 => ?_) (fun c4 => ?_)
                · iterate 1 (refine tr_mv rfl (fun _ => rfl) ?_)
                  refine h181 0 ?_
                  rw [b2_neg (p := isBlk (ss.getD p 0)) (fun g => g.elim c3 c4), b2_neg (by decide)]
                · iterate 2 (refine tr_mv rfl (fun _ => rfl) ?_)
                  refine h181 1 ?_
                  rw [b2_pos (p := isBlk (ss.getD p 0)) (Or.inr (Decidable.byContradiction c4)), b2_pos (by decide)]
            · have hst : gStep D (o 2) ss p v S = (1, S.1 ++ [(0, ss.getD p 0 - 22, 1, mkK S.2.2)], S.2.1.set p v, mkK S.2.2) := by
                unfold gStep
                rw [if_pos c2]
              rw [hst] at K' hadv hkd2 hgl2 hin2
              have hbk : b2 (mkK S.2.2 ≠ 0) = b2 (S.2.2 ≠ 0) := by
                refine b2_congr ?_
                unfold mkK
                split
                · rename_i g; rw [g]
                · rename_i g; exact ⟨fun _ => g, fun _ => by decide⟩
              have h135 : ∀ w, w = mkK S.2.2 → Tr Ls N 260 135 [some (mP (some 480)), some (mI (T : Int)), some (mI (b2 (S.2.2 ≠ 0))), some (mI (p : Int))] [mI w, mI 1, mI (ss.getD p 0 - 22), mI 0, mP (some 480)] σ' post := by
                intro w ew
                subst ew
                refine tr_vc (q := 480) rfl isO_480 rfl rfl rfl (s_255 hS (by omega) (fun σ2 k1 k2 => ?_))
                have hG2 := hG.el k2 (fun i => by omega) (by omega)
                repeat (first | refine tr_mgr rfl (by decide) rfl ?_ | refine tr_mgi rfl (by decide) (by decide) rfl ?_ | refine tr_mv rfl (fun _ => rfl) ?_)
                rw [hG2.2]
                refine tr_msn (j := 0 + p) rfl (by omega) (by omega) rfl (fun _ => rfl) rfl rfl rfl ?_
                iterate 2 (refine tr_mv rfl (fun _ => rfl) ?_)
                show Tr Ls N 260 191 [some (mP (some 480)), some (mI (T : Int)), some (mI (b2 (S.2.2 ≠ 0))), some (mI ((p : Int) + 1))] [] _ post
                rw [show (p : Int) + 1 = ((p + 1 : Nat) : Int) by omega]
                have h9 := h191 (p + 1) (S.1 ++ [(0, ss.getD p 0 - 22, 1, mkK S.2.2)], S.2.1.set p v, mkK S.2.2) (setF σ2 508 (0 + p) v) (by omega) (by omega) (k1.el (C := cGr) (only.rf.setF (Or.inl rfl)) (fun q i h1 h2 => by omega) (by omega)) (hG2.set _ _) (by rw [List.length_set]; exact hgl) (by simp; omega) hkd2 ((ho.tr (k2.wk (fun q i h => Or.inl h))).setF (Or.inr (Or.inl rfl))) hin2 K'
                rw [show b2 (((S.1 ++ [(0, ss.getD p 0 - 22, 1, mkK S.2.2)], S.2.1.set p v, mkK S.2.2) : GS).2.2 ≠ 0) = b2 (S.2.2 ≠ 0) from hbk] at h9
                exact h9
              repeat (first | refine tr_mgr rfl (by decide) rfl ?_ | refine tr_mgi rfl (by decide) (by decide) rfl ?_ | refine tr_mv rfl (fun _ => rfl) ?_)
              refine tr_man (j := p) rfl (by omega) (by omega) rfl (fun _ => rfl) rfl rfl rfl ?_
              rw [mrow_getD hrow (by omega)]
              iterate 5 (refine tr_mv rfl (fun _ => rfl) ?_)
              rw [show 2 + ss.getD p 0 - 24 = ss.getD p 0 - 22 by omega]
              first | refine tr_ib rfl (fun c3 => ?_) (fun c3 => ?_) | refine tr_ibn rfl (fun c3 => ?_) (fun c3 => ?_)
              · iterate 1 (refine tr_mv rfl (fun _ => rfl) ?_)
                exact h135 0 (by unfold mkK; rw [if_pos (Decidable.byContradiction c3)])
              · iterate 2 (refine tr_mv rfl (fun _ => rfl) ?_)
                exact h135 2 (by unfold mkK; rw [if_neg c3])
          refine tr_if2 rfl (m32_of (by omega)) (fun c2 => ?_) (fun c2 => ?_)
          · exact h100 (fun g => by omega)
          · repeat (first | refine tr_mgr rfl (by decide) rfl ?_ | refine tr_mgi rfl (by decide) (by decide) rfl ?_ | refine tr_mv rfl (fun _ => rfl) ?_)
            refine tr_man (j := p) rfl (by omega) (by omega) rfl (fun _ => rfl) rfl rfl rfl ?_
            rw [mrow_getD hrow (by omega)]
            refine tr_stat rfl rfl rfl (s_214 (by omega) ?_)
            first | refine tr_ib rfl (fun c3 => ?_) (fun c3 => ?_) | refine tr_ibn rfl (fun c3 => ?_) (fun c3 => ?_)
            · exact h100 (fun g => c3 g.1)
            · have hnm : ¬ isMrk (ss.getD p 0) := by omega
              have hst : gStep D (o 2) ss p v S = ((digs (ss.drop p)).length, S.1 ++ numEls D (digs (ss.drop p)), tkF (digs (ss.drop p)).length p v S.2.1, 0) := by
                unfold gStep
                rw [if_neg hnm, if_pos ⟨c3, by omega⟩]
              rw [hst] at K' hadv hkd2 hgl2 hin2
              simp only at hadv hgl2 hin2
              iterate 6 (refine tr_mv rfl (fun _ => rfl) ?_)
              refine tr_vc (q := 480) rfl isO_480 rfl rfl rfl (s_258 (by omega) (hM' σ' ho) hD hrow h40 hls hS hG hgl (by omega) (by omega) hx c3 (by omega) (fun σ2 k1 k2 k3 => ?_))
              iterate 3 (refine tr_mv rfl (fun _ => rfl) ?_)
              show Tr Ls N 260 191 [some (mP (some 480)), some (mI (T : Int)), some (mI 0), some (mI ((p : Int) + ((digs (ss.drop p)).length : Int)))] [] σ2 post
              rw [show (p : Int) + ((digs (ss.drop p)).length : Int) = ((p + (digs (ss.drop p)).length : Nat) : Int) by omega]
              exact h191 _ (S.1 ++ numEls D (digs (ss.drop p)), tkF (digs (ss.drop p)).length p v S.2.1, 0) σ2 (by omega) (by omega) k1 k2 (by rw [← hgl]; exact hgl2) (by simp only; omega) hkd2 (ho.tr k3) hin2 K'
  -- the groups at the beginning
  have loop0 : ∀ (d j : Nat) (σ' : Sg), j + d = ss.length → meM σ' [] → mgM σ' (List.replicate j (-1)) 0 → only cEG σ σ' → Tr Ls N 260 12 [some (mP (some 480)), some (mI (T : Int)), some (mI (j : Int)), none] [] σ' post := by
    intro d
    induction d with
    | zero =>
      intro j σ' e hS hG ho
      repeat (first | refine tr_mgr rfl (by decide) rfl ?_ | refine tr_mgi rfl (by decide) (by decide) rfl ?_ | refine tr_mv rfl (fun _ => rfl) ?_)
      rw [(hR' σ' ho).1]
      refine tr_cmp2 rfl (m32_of (by omega)) (m32_of (by omega)) (fun _ => ?_) (fun c1 => absurd (show (ss.length : Int) ≤ (j : Int) by omega) c1)
      iterate 4 (refine tr_mv rfl (fun _ => rfl) ?_)
      exact loop (ss.length + 1) 0 0 ([], List.replicate ss.length (-1), 0) σ' (by omega) (by omega) hS (by rw [show j = ss.length by omega] at hG; exact hG) (by simp) (by simp) ⟨Int.le_refl _, show (0 : Int) ≤ 2 by decide⟩ ⟨Int.le_refl _, Int.le_refl _⟩ ho (fun y hy => by rw [List.eq_of_mem_replicate hy]; exact ⟨by decide, by decide⟩) K
    | succ d ih =>
      intro j σ' e hS hG ho
      repeat (first | refine tr_mgr rfl (by decide) rfl ?_ | refine tr_mgi rfl (by decide) (by decide) rfl ?_ | refine tr_mv rfl (fun _ => rfl) ?_)
      rw [(hR' σ' ho).1]
      refine tr_cmp2 rfl (m32_of (by omega)) (m32_of (by omega)) (fun c1 => absurd c1 (by show ¬ _ ≤ _; omega)) (fun _ => ?_)
      have hrl : (List.replicate j (-1 : Int)).length = j := List.length_replicate
      repeat (first | refine tr_mgr rfl (by decide) rfl ?_ | refine tr_mgi rfl (by decide) (by decide) rfl ?_ | refine tr_mv rfl (fun _ => rfl) ?_)
      refine tr_msn (j := 0 + (List.replicate j (-1 : Int)).length) rfl (by omega) (by omega) rfl (fun _ => rfl) rfl rfl rfl ?_
      iterate 2 (refine tr_mv rfl (fun _ => rfl) ?_)
      show Tr Ls N 260 12 [some (mP (some 480)), some (mI (T : Int)), some (mI ((j : Int) + 1)), none] [] _ post
      rw [show (j : Int) + 1 = ((j + 1 : Nat) : Int) by omega]
      refine ih (j + 1) _ (by omega) (hS.el (C := cGr) (only.rf.setF (Or.inl rfl)) (fun q i h1 h2 => by omega) (by omega)) ⟨?_, (setF_ne _ _ (by omega)).trans hG.2⟩ (ho.setF (Or.inr (Or.inl rfl)))
      rw [List.replicate_succ']
      exact hG.1.push
  iterate 2 (refine tr_mv rfl (fun _ => rfl) ?_)
  refine tr_mpi rfl (Or.inl rfl) (by decide) rfl ?_
  iterate 2 (refine tr_mv rfl (fun _ => rfl) ?_)
  refine tr_mpi rfl (Or.inl rfl) (by decide) rfl ?_
  iterate 2 (refine tr_mv rfl (fun _ => rfl) ?_)
  exact loop0 ss.length 0 _ (by omega) ⟨by rw [setF_ne _ _ (by omega)]; exact setF_same _ _ _ _, fun i hi => absurd hi (Nat.not_lt_zero _), fun i hi => absurd hi (Nat.not_lt_zero _), fun i hi => absurd hi (Nat.not_lt_zero _), fun i hi => absurd hi (Nat.not_lt_zero _)⟩ ⟨fun i hi => absurd hi (Nat.not_lt_zero _), setF_same _ _ _ _⟩ ((only.rf.setF (Or.inl (Or.inr (Or.inr (Or.inr (Or.inr ⟨rfl, rfl⟩)))))).setF (Or.inr (Or.inr ⟨rfl, rfl⟩)))
end MELS2
