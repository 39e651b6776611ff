/-! The class: rules told, over what a tailoring is. -/
section CTELL
variable {Ls N k pc n n' nn b c t u a q T F kd w : Nat} {L L0 : mLs} {st r as : List mV} {h h' : mH} {σ σ' σ'' : Sg} {post : tP} {x y z x' y' i i' s v m how it an : Int} {xs ys its lvs sv sg hs is ans : List Int} {e : mE} {C : Nat → Nat → Prop} {D : TD} {R RF : RuT} {Rr : Nat → Prop}
theorem s_120D (ht : isT t) (hD : tlC t σ D) (hD2 : okTD D) (hR : cRl t σ R) (hok : okRu D R) (hh : 0 ≤ how ∧ how ≤ 7) (hq : canTellQ D.1 D.2.2.2 R.length how an it) (han : okCd an) (hit : okCd it)
    (K : ∀ σ', tlC t σ' (tellD D how an it) → cRl t σ' (R ++ [(how, an, it)]) → chg (rT t) noC σ σ' → post (.inl none) σ') :
    Tr Ls N 120 0 [some (mP (some t)), some (mI how), some (mI an), some (mI it)] [] σ post := by
  obtain ⟨w1, w2, w3, w4, w5⟩ := okRu_tell hD2 hok hh hq han hit
  obtain ⟨d1, d2, d3, d4, d5, d6, d7⟩ := id hD
  obtain ⟨r1, r2, r3⟩ := id hR
  have ha : how ≠ 7 → an ∈ itL D.1 it := fun g => (rrem_mem hD2.2.2.2.1 it an).mpr ⟨hq.2.2.2.2.2 g, hq.2.2.1⟩
  have t5 := tell_ok hD2 hh w1 ha
  have hitl : (itL D.1 it).length ≤ D.1.length := by
    unfold itL
    rw [rrem_len]
    split <;> omega
  have hsl := hD2.2.2.2.2.2.1.1
  have e1 : (rrem D.2.2.1 (rplace D.2.2.1 it)).length ≤ D.2.2.1.length := by rw [rrem_len]; split <;> omega
  have e2 : (rrem D.2.2.2 (rplace D.2.2.1 it)).length ≤ D.2.2.2.length := by rw [rrem_len]; split <;> omega
  refine s_120 ht hh (by omega) (by omega) (by rw [d1, d2]; exact hD2.1) (by rw [d1]; exact ha) (by rw [d1]; omega) (by rw [r1, List.length_map]; exact w3) (by rw [r2, List.length_map]; exact w3) (by rw [r3, List.length_map]; exact w3) (by rw [d6]; omega) (by rw [d6, d7]; omega) (by rw [d1, d2]; exact t5.1) (fun σ' g => ?_)
  obtain ⟨g0, g1, g2, g3, g4, g5, g6, g7, g8, g9, g10⟩ := g
  rw [d1, d2] at g1 g2
  rw [d6] at g3
  rw [d6, d7] at g4
  refine K σ' ⟨g1, g2, ?_, ?_, ?_, g3, g4⟩ ⟨?_, ?_, ?_⟩ g0.chg
  · rw [g8, g2]; rfl
  · rw [g9, g2]; rfl
  · rw [g10, g2]; rfl
  · rw [g5, r1]; simp
  · rw [g6, r2]; simp
  · rw [g7, r3]; simp
theorem s_125 (ht : isT t) (hu : isT u) (hne : t ≠ u) (hD : tlC t σ D) (hD2 : okTD D) (hR : cRl t σ R) (hok : okRu D R) (hRF : cRl u σ RF) (hF12 : RF.length ≤ 12) (hFk : ∀ r ∈ RF, (0 ≤ r.1 ∧ r.1 ≤ 7) ∧ okCd r.2.1 ∧ okCd r.2.2)
    (K1 : ∀ σ', tryL D R.length RF = none → chg (rT t) noC σ σ' → post (.inl (some (mI 0))) σ')
    (K2 : ∀ σ' D', tryL D R.length RF = some D' → okTD D' → okRu D' (R ++ RF) → tlC t σ' D' → cRl t σ' (R ++ RF) → chg (rT t) noC σ σ' → post (.inl (some (mI 1))) σ') :
    Tr Ls N 125 0 [some (mP (some t)), some (mP (some u)), none] [] σ post := by
  have sep : ∀ o, o < 20 → ¬ rT t (u + o) := fun o ho => isT_sep ht hu hne o ho
  have loop : ∀ (rest done : RuT) (D1 : TD) (σ' : Sg), RF = done ++ rest → tlC t σ' D1 → okTD D1 → cRl t σ' (R ++ done) → okRu D1 (R ++ done) → tryL D R.length RF = tryL D1 (R ++ done).length rest → chg (rT t) noC σ σ' → Tr Ls N 125 2 [some (mP (some t)), some (mP (some u)), some (mI (done.length : Int))] [] σ' post := by
    intro rest
    induction rest with
    | nil =>
      intro done D1 σ' e z1 z2 z3 z4 htr ho
      rw [List.append_nil] at e
      have h15 : σ'.1 (u + 15) = rHs RF := (ho.1 _ (sep 15 (by decide))).trans hRF.1
      iterate 2 (refine tr_mv rfl (fun _ => rfl) ?_)
      refine tr_gr rfl (T_O hu) (by decide) (T_p7 hu) ?_
      refine tr_size (T_r7 hu) rfl rfl ?_
      rw [h15, List.length_map, e]
      rw [e] at hF12
      refine tr_cmp2 rfl (m32_of (by omega)) (m32_of (by omega)) (fun _ => ?_) (fun c9 => absurd (Int.le_refl _) c9)
      iterate 1 (refine tr_mv rfl (fun _ => rfl) ?_)
      rw [e] at htr
      refine tr_reti rfl (Or.inr (Or.inr rfl)) (K2 σ' D1 (by rw [e]; exact htr) z2 ?_ z1 ?_ ho)
      · rw [e]; exact z4
      · rw [e]; exact z3
    | cons r0 rest ih =>
      intro done D1 σ' e z1 z2 z3 z4 htr ho
      have hlen := congrArg List.length e
      rw [List.length_append, List.length_cons] at hlen
      have h15 : σ'.1 (u + 15) = rHs RF := (ho.1 _ (sep 15 (by decide))).trans hRF.1
      have h17 : σ'.1 (u + 17) = rAs RF := (ho.1 _ (sep 17 (by decide))).trans hRF.2.1
      have h19 : σ'.1 (u + 19) = rIs RF := (ho.1 _ (sep 19 (by decide))).trans hRF.2.2
      have hr0 := hFk r0 (by rw [e]; simp)
      have gg : ∀ f : Int × Int × Int → Int, rget (RF.map f) (done.length : Int) = f r0 := fun f => by
        rw [e, List.map_append, List.map_cons]
        exact rget_mid (by simp)
      have g15 : rget (σ'.1 (u + 15)) (done.length : Int) = r0.1 := by rw [h15]; exact gg _
      have g17 : rget (σ'.1 (u + 17)) (done.length : Int) = r0.2.1 := by rw [h17]; exact gg _
      have g19 : rget (σ'.1 (u + 19)) (done.length : Int) = r0.2.2 := by rw [h19]; exact gg _
      obtain ⟨how, an, it⟩ := r0
      obtain ⟨hh, han, hit⟩ : (0 ≤ how ∧ how ≤ 7) ∧ okCd an ∧ okCd it := hr0
      have g15 : rget (σ'.1 (u + 15)) (done.length : Int) = how := g15
      have g17 : rget (σ'.1 (u + 17)) (done.length : Int) = an := g17
      have g19 : rget (σ'.1 (u + 19)) (done.length : Int) = it := g19
      have htr2 : tryL D1 (R ++ done).length ((how, an, it) :: rest) = if canTellP D1.1 D1.2.2.2 (R ++ done).length how an it then tryL (tellD D1 how an it) ((R ++ done).length + 1) rest else none := rfl
      rw [htr2] at htr
      obtain ⟨d1, d2, d3, d4, d5, d6, d7⟩ := id z1
      iterate 2 (refine tr_mv rfl (fun _ => rfl) ?_)
      refine tr_gr rfl (T_O hu) (by decide) (T_p7 hu) ?_
      refine tr_size (T_r7 hu) rfl rfl ?_
      rw [h15, List.length_map]
      refine tr_cmp2 rfl (m32_of (by omega)) (m32_of (by omega)) (fun c9 => absurd (show (RF.length : Int) ≤ (done.length : Int) from c9) (by omega)) (fun _ => ?_)
      iterate 2 (refine tr_mv rfl (fun _ => rfl) ?_)
      refine tr_gr rfl (T_O hu) (by decide) (T_p7 hu) ?_
      iterate 1 (refine tr_mv rfl (fun _ => rfl) ?_)
      refine tr_at2 (T_r7 hu) (m32_of (by omega)) rfl rfl ?_
      rw [g15]
      iterate 1 (refine tr_mv rfl (fun _ => rfl) ?_)
      refine tr_gr rfl (T_O hu) (by decide) (T_p8 hu) ?_
      iterate 1 (refine tr_mv rfl (fun _ => rfl) ?_)
      refine tr_at2 (T_r8 hu) (m32_of (by omega)) rfl rfl ?_
      rw [g17]
      iterate 1 (refine tr_mv rfl (fun _ => rfl) ?_)
      refine tr_gr rfl (T_O hu) (by decide) (T_p9 hu) ?_
      iterate 1 (refine tr_mv rfl (fun _ => rfl) ?_)
      refine tr_at2 (T_r9 hu) (m32_of (by omega)) rfl rfl ?_
      rw [g19]
      refine tr_vc (q := t) rfl (T_O ht) rfl rfl rfl (s_116 ht (by omega) (by omega) (by omega) (by rw [d6, d7]; exact z2.2.2.2.2.2.1.1) (by rw [d7]; exact z2.2.2.2.2.2.1.2) ?_)
      rw [d1, d7, z3.1, List.length_map]
      first | refine tr_ib rfl (fun c1 => ?_) (fun c1 => ?_) | refine tr_ibn rfl (fun c1 => ?_) (fun c1 => ?_)
      · rw [if_pos c1] at htr
        have hq := canTell_iff.mp c1
        obtain ⟨w1, w2, w3, w4, w5⟩ := okRu_tell z2 z4 hh hq han hit
        iterate 2 (refine tr_mv rfl (fun _ => rfl) ?_)
        refine tr_gr rfl (T_O hu) (by decide) (T_p7 hu) ?_
        iterate 1 (refine tr_mv rfl (fun _ => rfl) ?_)
        refine tr_at2 (T_r7 hu) (m32_of (by omega)) rfl rfl ?_
        rw [g15]
        iterate 1 (refine tr_mv rfl (fun _ => rfl) ?_)
        refine tr_gr rfl (T_O hu) (by decide) (T_p8 hu) ?_
        iterate 1 (refine tr_mv rfl (fun _ => rfl) ?_)
        refine tr_at2 (T_r8 hu) (m32_of (by omega)) rfl rfl ?_
        rw [g17]
        iterate 1 (refine tr_mv rfl (fun _ => rfl) ?_)
        refine tr_gr rfl (T_O hu) (by decide) (T_p9 hu) ?_
        iterate 1 (refine tr_mv rfl (fun _ => rfl) ?_)
        refine tr_at2 (T_r9 hu) (m32_of (by omega)) rfl rfl ?_
        rw [g19]
        refine tr_vc (q := t) rfl (T_O ht) rfl rfl rfl (s_120D ht z1 z2 z3 z4 hh hq han hit (fun σ2 y1 y2 y3 => ?_))
        iterate 2 (refine tr_mv rfl (fun _ => rfl) ?_)
        show Tr Ls N 125 2 [some (mP (some t)), some (mP (some u)), some (mI ((done.length : Int) + 1))] [] σ2 post
        rw [show (done.length : Int) + 1 = ((done ++ [(how, an, it)]).length : Int) by simp]
        refine ih (done ++ [(how, an, it)]) (tellD D1 how an it) σ2 (by rw [e]; simp) y1 w4 (by rw [← List.append_assoc]; exact y2) (by rw [← List.append_assoc]; exact w5) ?_ (ho.tr y3)
        rw [htr, ← List.append_assoc, List.length_append (as := R ++ done) (bs := [(how, an, it)]), List.length_singleton]
      · rw [if_neg c1] at htr
        iterate 1 (refine tr_mv rfl (fun _ => rfl) ?_)
        exact tr_reti rfl (Or.inr (Or.inl rfl)) (K1 σ' htr ho)
  iterate 2 (refine tr_mv rfl (fun _ => rfl) ?_)
  exact loop RF [] D σ rfl hD hD2 (by rw [List.append_nil]; exact hR) (by rw [List.append_nil]; exact hok) (by rw [List.append_nil]) chg.rf
end CTELL
