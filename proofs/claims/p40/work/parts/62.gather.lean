/-! The class Elements: the elements of a row of signs. -/
section GTH
variable {Ls N N1 N2 k pc n n' nn b c t u a q : Nat} {L L0 : mLs} {st r as : List mV} {h h' : mH} {σ σ' σ'' : Sg} {post : tP} {x y z x' y' i i' s v m w kd bv : Int} {xs ys tk ss : List Int} {els : List El} {e : mE} {D : TD} {o : Nat → Int} {S : GS}
theorem s_108D (ht : isT t) (hO : opC t σ o) {j : Nat} (hj : j < 3) (hx : x = (j : Int)) (K : post (.inl (some (mI (b2 (o j = 1))))) σ) : Tr Ls N 108 0 [some (mP (some t)), some (mI x)] [] σ post := by
  subst hx
  refine s_108 ht (by omega) (fun i hi => by have := hO i hi; omega) ?_
  rw [b2_congr (p' := o j = 1)]
  · exact K
  · rw [Int.toNat_natCast, (hO j hj).1]
    omega
theorem mkK_in (kd : Int) : mkK kd = 0 ∨ mkK kd = 2 := by
  unfold mkK
  split
  · exact Or.inl rfl
  · exact Or.inr rfl
theorem gStep_kd {p : Nat} : 0 ≤ (gStep D bv ss p v S).2.2.2 ∧ (gStep D bv ss p v S).2.2.2 ≤ 2 := by
  unfold gStep
  split
  · have := mkK_in S.2.2
    dsimp only
    omega
  · split
    · exact ⟨Int.le_refl _, show (0 : Int) ≤ 2 by decide⟩
    · have := b2_in (isBlk (ss.getD p 0))
      dsimp only
      omega
theorem s_35 (ht : isT t) (hu : isEl u) (hD2 : okTD D) (hD : tlC t σ D) (hO : opC t σ o) (hb : isRow b n) (hbu : ¬ elR u b) (hs : σ.1 b = ss) (h40 : okA40 ss) (hls : ss.length ≤ 31)
    (K : ∀ σ', elIs u σ' (gthR D (o 2) ss).1 (gthR D (o 2) ss).2.1 (gthR D (o 2) ss).2.2 → chg (elR u) (elC u) σ σ' → post (.inl none) σ') :
    Tr Ls N 35 0 [some (mP (some u)), some (mP (some t)), some (mP (some b)), none, none] [] σ post := by
  have hskip : ∀ (d p : Nat) (v4 : Option mV) (σ' : Sg) (S : GS), p + d ≤ ss.length → elIs u σ' S.1 S.2.1 S.2.2 → S.2.1.length = ss.length → chg (elR u) (elC u) σ σ' → (∀ j, p ≤ j → j < p + d → S.2.1.getD j 0 ≠ -1) → (∀ v4, Tr Ls N 35 10 [some (mP (some u)), some (mP (some t)), some (mP (some b)), some (mI ((p + d : Nat) : Int)), v4] [] σ' post) → Tr Ls N 35 10 [some (mP (some u)), some (mP (some t)), some (mP (some b)), some (mI (p : Int)), v4] [] σ' post := by
    intro d
    induction d with
    | zero => intro p v4 σ' S h1 hS hSl hc hne K'; exact K' v4
    | succ d ih =>
      intro p v4 σ' S h1 hS hSl hc hne K'
      have hne0 := hne p (Nat.le_refl _) (by omega)
      refine tr_fact fun ⟨h0, hr⟩ => ?_
      have hg : rget S.2.1 (p : Int) = S.2.1.getD p 0 := by
        unfold rget
        rw [if_pos (by omega), Int.toNat_natCast]
      have hgi := rget_in (rep_in hr (L_r4 hu)) (p : Int)
      rw [hS.2.2.2.2.1, hg] at hgi
      iterate 2 (refine tr_mv rfl (fun _ => rfl) ?_)
      refine tr_size hb rfl rfl ?_
      rw [hc.1 b hbu, hs]
      refine tr_cmp2 rfl (m32_of (by omega)) (m32_of (by omega)) (fun c1 => absurd c1 (by show ¬ _ ≤ _; omega)) (fun _ => ?_)
      iterate 2 (refine tr_mv rfl (fun _ => rfl) ?_)
      refine tr_at2 hb (m32_of (by omega)) rfl rfl ?_
      iterate 2 (refine tr_mv rfl (fun _ => rfl) ?_)
      refine tr_gr rfl (L_O hu) (by decide) (L_p4 hu) ?_
      iterate 1 (refine tr_mv rfl (fun _ => rfl) ?_)
      refine tr_at2 (L_r4 hu) (m32_of (by omega)) rfl rfl ?_
      rw [hS.2.2.2.2.1, hg]
      iterate 1 (refine tr_mv rfl (fun _ => rfl) ?_)
      refine tr_cmp2 rfl (m32_of hgi) (m32_of (x := -1) ⟨by decide, by decide⟩) (fun c1 => absurd c1 hne0) (fun _ => ?_)
      iterate 3 (refine tr_mv rfl (fun _ => rfl) ?_)
      show Tr Ls N 35 10 [some (mP (some u)), some (mP (some t)), some (mP (some b)), some (mI ((p : Int) + 1)), _] [] σ' post
      rw [show (p : Int) + 1 = ((p + 1 : Nat) : Int) by omega]
      refine ih (p + 1) _ σ' S (by omega) hS hSl hc (fun j g1 g2 => hne j (by omega) (by omega)) (fun v4 => ?_)
      rw [show p + 1 + d = p + (d + 1) by omega]
      exact K' v4
  have loop : ∀ (f p : Nat) (v4 : Option mV) (σ' : Sg) (S : GS), ss.length < p + f → p ≤ ss.length → elIs u σ' S.1 S.2.1 S.2.2 → S.2.1.length = ss.length → S.1.length ≤ 3 * p → (0 ≤ S.2.2 ∧ S.2.2 ≤ 2) → chg (elR u) (elC u) σ σ' → (∀ σ2, elIs u σ2 (gth D (o 2) ss f p S).1 (gth D (o 2) ss f p S).2.1 (gth D (o 2) ss f p S).2.2 → chg (elR u) (elC u) σ' σ2 → post (.inl none) σ2) → Tr Ls N 35 10 [some (mP (some u)), some (mP (some t)), some (mP (some b)), some (mI (p : Int)), v4] [] σ' post := by
    intro f
    induction f with
    | zero => intro p v4 σ' S h1 h2; omega
    | succ f ih =>
      intro p v4 σ' S h1 h2 hS hSl h3 hkd hc K'
      unfold gth at K'
      by_cases c0 : ss.length ≤ p
      · rw [if_pos c0] at K'
        iterate 2 (refine tr_mv rfl (fun _ => rfl) ?_)
        refine tr_size hb rfl rfl ?_
        rw [hc.1 b hbu, hs]
        refine tr_cmp2 rfl (m32_of (by omega)) (m32_of (by omega)) (fun _ => ?_) (fun c1 => absurd (show (ss.length : Int) ≤ (p : Int) by omega) c1)
        exact tr_ret rfl (fun _ => rfl) (K' σ' hS chg.rf)
      · rw [if_neg c0] at K'
        by_cases c1 : S.2.1.getD p 0 ≠ -1
        · rw [if_pos c1] at K'
          refine hskip 1 p v4 σ' S (by omega) hS hSl hc (fun j g1 g2 => ?_) (fun v4 => ?_)
          · rw [show j = p by omega]; exact c1
          · exact ih (p + 1) v4 σ' S (by omega) (by omega) hS hSl (by omega) hkd hc K'
        · rw [if_neg c1] at K'
          have c1 : S.2.1.getD p 0 = -1 := Decidable.byContradiction c1
          have hadv := gStep_adv (D := D) (bv := o 2) (v := (p : Int)) (S := S) (show p < ss.length by omega)
          have hkd2 := gStep_kd (D := D) (bv := o 2) (ss := ss) (p := p) (v := (p : Int)) (S := S)
          have hset := fun j h1 h2 => gStep_set (D := D) (bv := o 2) (v := (p : Int)) (S := S) (show p < ss.length by omega) hSl (j := j) h1 h2
          have hx : ss[p]? = some (ss.getD p 0) := by
            rw [List.getD_eq_getElem?_getD, List.getElem?_eq_getElem (show p < ss.length by omega)]
            rfl
          have hx40 := h40 _ (List.mem_of_getElem? hx)
          have hgx : rget ss (p : Int) = ss.getD p 0 := by
            unfold rget
            rw [if_pos (by omega), Int.toNat_natCast]
          have hg : rget S.2.1 (p : Int) = -1 := by
            unfold rget
            rw [if_pos (by omega), Int.toNat_natCast, c1]
          have h91 : ∀ (v4 : Option mV) (σ2 : Sg), elIs u σ2 (gStep D (o 2) ss p p S).2.1 (gStep D (o 2) ss p p S).2.2.1 (gStep D (o 2) ss p p S).2.2.2 → chg (elR u) (elC u) σ' σ2 → Tr Ls N 35 91 [some (mP (some u)), some (mP (some t)), some (mP (some b)), some (mI (p : Int)), v4] [] σ2 post := by
            intro v4 σ2 g1 g2
            generalize gStep D (o 2) ss p p S = G at *
            iterate 2 (refine tr_mv rfl (fun _ => rfl) ?_)
            show Tr Ls N 35 10 [some (mP (some u)), some (mP (some t)), some (mP (some b)), some (mI ((p : Int) + 1)), v4] [] σ2 post
            rw [show (p : Int) + 1 = ((p + 1 : Nat) : Int) by omega]
            refine hskip (G.1 - 1) (p + 1) v4 σ2 G.2 (by omega) g1 (by omega) (hc.tr g2) (fun j k1 k2 => ?_) (fun v4 => ?_)
            · rw [List.getD_eq_getElem?_getD, hset j (by omega) (by omega)]
              show ((p : Nat) : Int) ≠ -1
              omega
            · rw [show p + 1 + (G.1 - 1) = p + G.1 by omega]
              exact ih (p + G.1) v4 σ2 G.2 (by omega) (by omega) g1 (by omega) (by omega) hkd2 (hc.tr g2) (fun σ3 k1 k2 => K' σ3 k1 (g2.tr k2))
          iterate 2 (refine tr_mv rfl (fun _ => rfl) ?_)
          refine tr_size hb rfl rfl ?_
          rw [hc.1 b hbu, hs]
          refine tr_cmp2 rfl (m32_of (by omega)) (m32_of (by omega)) (fun c1 => absurd c1 (by show ¬ _ ≤ _; omega)) (fun _ => ?_)
          iterate 2 (refine tr_mv rfl (fun _ => rfl) ?_)
          refine tr_at2 hb (m32_of (by omega)) rfl rfl ?_
          rw [hc.1 b hbu, hs, hgx]
          iterate 2 (refine tr_mv rfl (fun _ => rfl) ?_)
          refine tr_gr rfl (L_O hu) (by decide) (L_p4 hu) ?_
          iterate 1 (refine tr_mv rfl (fun _ => rfl) ?_)
          refine tr_at2 (L_r4 hu) (m32_of (by omega)) rfl rfl ?_
          rw [hS.2.2.2.2.1, hg]
          iterate 1 (refine tr_mv rfl (fun _ => rfl) ?_)
          refine tr_cmp2 rfl (m32_of (x := -1) ⟨by decide, by decide⟩) (m32_of (x := -1) ⟨by decide, by decide⟩) (fun _ => ?_) (fun c9 => absurd rfl c9)
          iterate 1 (refine tr_mv rfl (fun _ => rfl) ?_)
          refine tr_stat rfl rfl rfl (s_179 (by omega) ?_)
          generalize hxx : ss.getD p 0 = x at *
          first | refine tr_ib rfl (fun c2 => ?_) (fun c2 => ?_) | refine tr_ibn rfl (fun c2 => ?_) (fun c2 => ?_)
          · have h84 : ¬ (isDig x ∧ o 2 = 1) → Tr Ls N 35 84 [some (mP (some u)), some (mP (some t)), some (mP (some b)), some (mI (p : Int)), some (mI x)] [] σ' post := by
              intro g
              iterate 4 (refine tr_mv rfl (fun _ => rfl) ?_)
              refine tr_vc (q := u) rfl (L_O hu) rfl rfl rfl (s_41 ht hu hD2 (hD.el ht hu hc) hS (by omega) hb hbu ((hc.1 b hbu).trans hs) h40 hls (by omega) hx (fun σ2 g1 g2 => h91 _ σ2 ?_ g2))
              unfold gStep
              rw [hxx, if_neg c2, if_neg g]
              exact g1
            iterate 1 (refine tr_mv rfl (fun _ => rfl) ?_)
            refine tr_stat rfl rfl rfl (s_181 (by omega) ?_)
            first | refine tr_ib rfl (fun c3 => ?_) (fun c3 => ?_) | refine tr_ibn rfl (fun c3 => ?_) (fun c3 => ?_)
            · exact h84 (fun g => c3 g.1)
            · iterate 2 (refine tr_mv rfl (fun _ => rfl) ?_)
              refine tr_vc (q := t) rfl (T_O ht) rfl rfl rfl (s_108D ht (hO.el ht hu hc) (j := 2) (by decide) rfl ?_)
              first | refine tr_ib rfl (fun c4 => ?_) (fun c4 => ?_) | refine tr_ibn rfl (fun c4 => ?_) (fun c4 => ?_)
              · exact h84 (fun g => c4 g.2)
              · have hst : gStep D (o 2) ss p p S = ((digs (ss.drop p)).length, S.1 ++ numEls D (digs (ss.drop p)), tkF (digs (ss.drop p)).length p p S.2.1, 0) := by
                  unfold gStep
                  rw [hxx, if_neg c2, if_pos ⟨c3, c4⟩]
                rw [hst] at h91 hadv
                iterate 4 (refine tr_mv rfl (fun _ => rfl) ?_)
                refine tr_vc (q := u) rfl (L_O hu) rfl rfl rfl (s_40 ht hu hD2 (hD.el ht hu hc) hS hb hbu ((hc.1 b hbu).trans hs) h40 hls (by omega) hx c3 (by simp only at hadv; omega) (fun σ2 g1 g2 => ?_))
                iterate 1 (refine tr_mv rfl (fun _ => rfl) ?_)
                exact h91 _ σ2 g1 g2
          · iterate 3 (refine tr_mv rfl (fun _ => rfl) ?_)
            refine tr_vc (q := u) rfl (L_O hu) rfl rfl rfl (s_39 hu hS (by omega) (by omega) c2 (by omega) (fun σ2 g1 g2 => ?_))
            iterate 1 (refine tr_mv rfl (fun _ => rfl) ?_)
            refine h91 _ σ2 ?_ g2
            unfold gStep
            rw [hxx, if_pos c2]
            exact g1
  iterate 2 (refine tr_mv rfl (fun _ => rfl) ?_)
  refine tr_size hb rfl rfl ?_
  rw [hs]
  refine tr_vc (q := u) rfl (L_O hu) rfl rfl rfl (s_36 hu hls (fun σ1 g1 g2 => ?_))
  iterate 2 (refine tr_mv rfl (fun _ => rfl) ?_)
  exact loop (ss.length + 1) 0 none σ1 ([], List.replicate ss.length (-1), 0) (by omega) (by omega) g1 (by simp) (by simp) ⟨Int.le_refl _, show (0 : Int) ≤ 2 by decide⟩ g2 (fun σ2 k1 k2 => K σ2 k1 (g2.tr k2))
end GTH
