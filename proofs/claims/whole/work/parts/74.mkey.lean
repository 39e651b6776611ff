/-! The model's levels and keys. -/
/-- the weights at hand; the key at hand; the other key -/
def mwM (σ : Sg) (ws : List Int) : Prop := σ.2 480 36 = (ws.length : Int) ∧ mseg σ 509 0 ws
def mkM (σ : Sg) (ks : List Int) : Prop := σ.2 480 38 = (ks.length : Int) ∧ mseg σ 510 0 ks
def moM (σ : Sg) (ks : List Int) : Prop := σ.2 480 40 = (ks.length : Int) ∧ mseg σ 511 0 ks
abbrev cWg (q i : Nat) : Prop := q = 509 ∨ (q = 480 ∧ i = 36)
abbrev cKy (q i : Nat) : Prop := q = 510 ∨ (q = 480 ∧ i = 38)
abbrev cOt (q i : Nat) : Prop := q = 511 ∨ (q = 480 ∧ i = 40)
section MKEY
variable {Ls N k pc n n' nn b c t a q T kd w d : Nat} {L L0 : mLs} {st r as : List mV} {h h' : mH} {σ σ' σ'' : Sg} {post : tP} {x y z x' y' i i' s v m u lv : Int} {xs ys its lvs sv sg ss g ws ks : List Int} {e : mE} {C : Nat → Nat → Prop} {D : TD} {els : List El} {o : Nat → Int} {ee : El}
theorem mwM.el (h : mwM σ ws) (ho : only C σ σ') (hC : ∀ i, ¬ C 509 i) (hC2 : ¬ C 480 36) : mwM σ' ws := ⟨(ho.2 _ _ hC2).trans h.1, h.2.only ho (fun i _ _ => hC i)⟩
theorem mkM.el (h : mkM σ ks) (ho : only C σ σ') (hC : ∀ i, ¬ C 510 i) (hC2 : ¬ C 480 38) : mkM σ' ks := ⟨(ho.2 _ _ hC2).trans h.1, h.2.only ho (fun i _ _ => hC i)⟩
theorem moM.el (h : moM σ ks) (ho : only C σ σ') (hC : ∀ i, ¬ C 511 i) (hC2 : ¬ C 480 40) : moM σ' ks := ⟨(ho.2 _ _ hC2).trans h.1, h.2.only ho (fun i _ _ => hC i)⟩
theorem s_261 (hW : mwM σ ws) (hl : ws.length < 128) (K : ∀ σ', mwM σ' (ws ++ [x]) → only cWg σ σ' → post (.inl none) σ') : Tr Ls N 261 0 [some (mP (some 480)), some (mI x)] [] σ post := by
  repeat (first | refine tr_mgr rfl (by decide) rfl ?_ | refine tr_mgi rfl (by decide) (by decide) rfl ?_ | refine tr_mv rfl (fun _ => rfl) ?_)
  rw [hW.1]
  refine tr_msn (j := 0 + ws.length) rfl (by omega) (by omega) rfl (fun _ => rfl) rfl rfl rfl ?_
  repeat (first | refine tr_mgr rfl (by decide) rfl ?_ | refine tr_mgi rfl (by decide) (by decide) rfl ?_ | refine tr_mv rfl (fun _ => rfl) ?_)
  rw [setF_ne _ _ (by omega), hW.1]
  refine tr_mpi rfl (Or.inl rfl) (by decide) rfl ?_
  refine tr_ret rfl (fun _ => rfl) (K _ ⟨?_, ?_⟩ ((only.rf.setF (Or.inl rfl)).setF (Or.inr ⟨rfl, rfl⟩)))
  · rw [setF_same]
    simp
  · exact (hW.2.push (v := x)).keep (fun i _ _ => setF_ne _ _ (by omega))
theorem s_263 (hW : mkM σ ks) (hl : ks.length < 600) (K : ∀ σ', mkM σ' (ks ++ [x]) → only cKy σ σ' → post (.inl none) σ') : Tr Ls N 263 0 [some (mP (some 480)), some (mI x)] [] σ post := by
  repeat (first | refine tr_mgr rfl (by decide) rfl ?_ | refine tr_mgi rfl (by decide) (by decide) rfl ?_ | refine tr_mv rfl (fun _ => rfl) ?_)
  rw [hW.1]
  refine tr_msn (j := 0 + ks.length) rfl (by omega) (by omega) rfl (fun _ => rfl) rfl rfl rfl ?_
  repeat (first | refine tr_mgr rfl (by decide) rfl ?_ | refine tr_mgi rfl (by decide) (by decide) rfl ?_ | refine tr_mv rfl (fun _ => rfl) ?_)
  rw [setF_ne _ _ (by omega), hW.1]
  refine tr_mpi rfl (Or.inl rfl) (by decide) rfl ?_
  refine tr_ret rfl (fun _ => rfl) (K _ ⟨?_, ?_⟩ ((only.rf.setF (Or.inl rfl)).setF (Or.inr ⟨rfl, rfl⟩)))
  · rw [setF_same]
    simp
  · exact (hW.2.push (v := x)).keep (fun i _ _ => setF_ne _ _ (by omega))
theorem getD_map {f : El → Int} {p : Nat} (hp : p < els.length) : (els.map f).getD p 0 = f (els.getD p (0, 0, 0, 0)) := by
  rw [List.getD_eq_getElem?_getD, List.getElem?_map, List.getD_eq_getElem?_getD, List.getElem?_eq_getElem hp]
  rfl
theorem okEls_get (h : okEls els) {p : Nat} (hp : p < els.length) : okEl (els.getD p (0, 0, 0, 0)) := by
  refine h _ ?_
  rw [List.getD_eq_getElem?_getD, List.getElem?_eq_getElem hp]
  exact List.getElem_mem _
theorem s_262 (hT : T < 3) (hO : opM T σ o) (hS : meM σ els) (hE : okEls els) (hl : els.length ≤ 93) (hlv : 1 ≤ lv ∧ lv ≤ 4) (K : ∀ σ', mwM σ' (lvRow lv (o 0) (o 1) els) → only cWg σ σ' → post (.inl none) σ') :
    Tr Ls N 262 0 [some (mP (some 480)), some (mI (T : Int)), some (mI lv), none, none, none, none] [] σ post := by
  unfold lvRow at K
  have hO' : ∀ σ', only cWg σ σ' → opM T σ' o := fun σ' ho => hO.el ho (fun i => by omega)
  have hS' : ∀ σ', only cWg σ σ' → meM σ' els := fun σ' ho => hS.el ho (fun q i h1 h2 => by omega) (by omega)
  have o0 := (hO 0 (by decide)).2
  have o1 := (hO 1 (by decide)).2
  have hEl : (if lv = 2 ∧ o 1 = 1 then els.reverse else els).length = els.length := by split <;> simp
  have loop : ∀ (rest done : List El) (σ' : Sg) (v5 v6 : Option mV) (acc : List Int), (if lv = 2 ∧ o 1 = 1 then els.reverse else els) = done ++ rest → mwM σ' acc → acc.length ≤ done.length → only cWg σ σ' → (∀ σ2, mwM σ2 (acc ++ (rest.map (lvW lv (o 0))).filter (fun w => decide (0 < w))) → only cWg σ σ2 → post (.inl none) σ2) →
      Tr Ls N 262 19 [some (mP (some 480)), some (mI (T : Int)), some (mI lv), some (mI (o 0)), some (mI (done.length : Int)), v5, v6] [] σ' post := by
    intro rest
    induction rest with
    | nil =>
      intro done σ' v5 v6 acc e hW hal ho K'
      have hlen := congrArg List.length e
      rw [hEl, List.append_nil] at hlen
      rw [List.map_nil, List.filter_nil, List.append_nil] at K'
      repeat (first | refine tr_mgr rfl (by decide) rfl ?_ | refine tr_mgi rfl (by decide) (by decide) rfl ?_ | refine tr_mv rfl (fun _ => rfl) ?_)
      rw [(hS' σ' ho).1]
      refine tr_cmp2 rfl (m32_of (by omega)) (m32_of (by omega)) (fun _ => ?_) (fun c1 => absurd (show (els.length : Int) ≤ (done.length : Int) by omega) c1)
      exact tr_ret rfl (fun _ => rfl) (K' σ' hW ho)
    | cons ee rest ih =>
      intro done σ' v5 v6 acc e hW hal ho K'
      have hlen := congrArg List.length e
      have hl2 : (done ++ ee :: rest).length = done.length + 1 + rest.length := by simp; omega
      rw [hEl, hl2] at hlen
      have hS2 := hS' σ' ho
      have h60 : ∀ (p : Nat), p < els.length → els.getD p (0, 0, 0, 0) = ee → Tr Ls N 262 60 [some (mP (some 480)), some (mI (T : Int)), some (mI lv), some (mI (o 0)), some (mI (done.length : Int)), v5, v6] [mI (p : Int)] σ' post := by
        intro p hp hee
        have hk := okEls_get hE hp
        rw [hee] at hk
        obtain ⟨k1, k2, k3, k4, k5⟩ := hk
        have g1 : σ'.2 504 (0 + p) = ee.1 := by rw [hS2.2.1.get (by rw [List.length_map]; exact hp), getD_map hp, hee]
        have g2 : σ'.2 505 (0 + p) = ee.2.1 := by rw [hS2.2.2.1.get (by rw [List.length_map]; exact hp), getD_map hp, hee]
        have g3 : σ'.2 506 (0 + p) = ee.2.2.1 := by rw [hS2.2.2.2.1.get (by rw [List.length_map]; exact hp), getD_map hp, hee]
        have g4 : σ'.2 507 (0 + p) = ee.2.2.2 := by rw [hS2.2.2.2.2.get (by rw [List.length_map]; exact hp), getD_map hp, hee]
        rw [List.map_cons] at K'
        -- behind what is put, or not
        have h212 : ∀ (σ2 : Sg) (acc2 : List Int) (v6 : Option mV), mwM σ2 acc2 → acc2.length ≤ done.length + 1 → only cWg σ σ2 → (∀ σ3, mwM σ3 (acc2 ++ (rest.map (lvW lv (o 0))).filter (fun w => decide (0 < w))) → only cWg σ σ3 → post (.inl none) σ3) → Tr Ls N 262 212 [some (mP (some 480)), some (mI (T : Int)), some (mI lv), some (mI (o 0)), some (mI (done.length : Int)), some (mI (p : Int)), v6] [] σ2 post := by
          intro σ2 acc2 v6 q1 q2 q3 q4
          iterate 2 (refine tr_mv rfl (fun _ => rfl) ?_)
          show Tr Ls N 262 19 [some (mP (some 480)), some (mI (T : Int)), some (mI lv), some (mI (o 0)), some (mI ((done.length : Int) + 1)), some (mI (p : Int)), v6] [] σ2 post
          rw [show (done.length : Int) + 1 = ((done ++ [ee]).length : Int) by simp]
          exact ih (done ++ [ee]) σ2 _ _ acc2 (by rw [e]; simp) q1 (by simp; omega) q3 q4
        have hno : ∀ v6, lvW lv (o 0) ee = 0 → Tr Ls N 262 212 [some (mP (some 480)), some (mI (T : Int)), some (mI lv), some (mI (o 0)), some (mI (done.length : Int)), some (mI (p : Int)), v6] [] σ' post := by
          intro v6 hz
          rw [List.filter_cons_of_neg (by simp; omega)] at K'
          exact h212 σ' acc v6 hW (by omega) ho K'
        have hput : ∀ (σ2 : Sg), 0 < lvW lv (o 0) ee → mwM σ2 (acc ++ [lvW lv (o 0) ee]) → only cWg σ' σ2 → ∀ v6, Tr Ls N 262 212 [some (mP (some 480)), some (mI (T : Int)), some (mI lv), some (mI (o 0)), some (mI (done.length : Int)), some (mI (p : Int)), v6] [] σ2 post := by
          intro σ2 hz q1 q2 v6
          rw [List.filter_cons_of_pos (by simp; omega)] at K'
          exact h212 σ2 _ v6 q1 (by simp; omega) (ho.tr q2) (fun σ3 z1 z2 => K' σ3 (by simpa using z1) z2)
        have h81 : ∀ w, w = b2 (¬ (o 0 = 1 ∧ ee.2.2.2 ≠ 0)) → Tr Ls N 262 81 [some (mP (some 480)), some (mI (T : Int)), some (mI lv), some (mI (o 0)), some (mI (done.length : Int)), some (mI (p : Int)), v6] [mI w] σ' post := by
          intro w ew
          subst ew
          have hw : lvW lv (o 0) ee = (if lv = 4 then (if o 0 ≠ 1 ∨ ee.2.2.2 = 2 then 0 else if ee.2.2.2 = 1 then ee.1 else 100) else if o 0 = 1 ∧ ee.2.2.2 ≠ 0 then 0 else if lv = 1 then ee.1 else if lv = 2 then ee.2.1 else ee.2.2.1) := rfl
          -- the last level is behind us
          have h133 : (lv = 4 → lvW lv (o 0) ee = 0) → Tr Ls N 262 133 [some (mP (some 480)), some (mI (T : Int)), some (mI lv), some (mI (o 0)), some (mI (done.length : Int)), some (mI (p : Int)), some (mI (b2 (¬ (o 0 = 1 ∧ ee.2.2.2 ≠ 0))))] [] σ' post := by
            intro h4
            have h167 : (lv = 1 → lvW lv (o 0) ee = 0) → Tr Ls N 262 167 [some (mP (some 480)), some (mI (T : Int)), some (mI lv), some (mI (o 0)), some (mI (done.length : Int)), some (mI (p : Int)), some (mI (b2 (¬ (o 0 = 1 ∧ ee.2.2.2 ≠ 0))))] [] σ' post := by
              intro hl1
              have h191 : lv ≠ 2 ∨ lvW lv (o 0) ee = 0 → Tr Ls N 262 191 [some (mP (some 480)), some (mI (T : Int)), some (mI lv), some (mI (o 0)), some (mI (done.length : Int)), some (mI (p : Int)), some (mI (b2 (¬ (o 0 = 1 ∧ ee.2.2.2 ≠ 0))))] [] σ' post := by
                intro hl2
                iterate 2 (refine tr_mv rfl (fun _ => rfl) ?_)
                refine tr_cmp2 rfl (m32_of (by omega)) (m32_of (by omega)) (fun q1 => ?_) (fun q1 => ?_)
                · refine hno _ ?_
                  rcases (show lv = 1 ∨ lv = 2 ∨ lv = 4 by omega) with q | q | q
                  · exact hl1 q
                  · exact hl2.resolve_left (fun g => g q)
                  · exact h4 q
                · have q1 : lv = 3 := Decidable.byContradiction q1
                  iterate 1 (refine tr_mv rfl (fun _ => rfl) ?_)
                  first | refine tr_ib rfl (fun q2 => ?_) (fun q2 => ?_) | refine tr_ibn rfl (fun q2 => ?_) (fun q2 => ?_)
                  · refine hno _ ?_
                    rw [hw, if_neg (by omega), if_pos (Decidable.byContradiction q2)]
                  · repeat (first | refine tr_mgr rfl (by decide) rfl ?_ | refine tr_mgi rfl (by decide) (by decide) rfl ?_ | refine tr_mv rfl (fun _ => rfl) ?_)
                    refine tr_man (j := 0 + p) rfl (by omega) (by omega) rfl (fun _ => rfl) rfl rfl rfl ?_
                    rw [g3]
                    have e3 : lvW lv (o 0) ee = ee.2.2.1 := by rw [hw, if_neg (by omega), if_neg q2, if_neg (by omega), if_neg (by omega)]
                    refine tr_vc (q := 480) rfl isO_480 rfl rfl rfl (s_261 hW (by omega) (fun σ2 z1 z2 => ?_))
                    refine hput σ2 (by omega) (by rw [e3]; exact z1) z2 _
              iterate 2 (refine tr_mv rfl (fun _ => rfl) ?_)
              refine tr_cmp2 rfl (m32_of (by omega)) (m32_of (by omega)) (fun q1 => ?_) (fun q1 => ?_)
              · exact h191 (Or.inl q1)
              · have q1 : lv = 2 := Decidable.byContradiction q1
                iterate 1 (refine tr_mv rfl (fun _ => rfl) ?_)
                first | refine tr_ib rfl (fun q2 => ?_) (fun q2 => ?_) | refine tr_ibn rfl (fun q2 => ?_) (fun q2 => ?_)
                · exact h191 (Or.inr (by rw [hw, if_neg (by omega), if_pos (Decidable.byContradiction q2)]))
                · repeat (first | refine tr_mgr rfl (by decide) rfl ?_ | refine tr_mgi rfl (by decide) (by decide) rfl ?_ | refine tr_mv rfl (fun _ => rfl) ?_)
                  refine tr_man (j := 0 + p) rfl (by omega) (by omega) rfl (fun _ => rfl) rfl rfl rfl ?_
                  rw [g2]
                  have e3 : lvW lv (o 0) ee = ee.2.1 := by rw [hw, if_neg (by omega), if_neg q2, if_neg (by omega), if_pos q1]
                  refine tr_vc (q := 480) rfl isO_480 rfl rfl rfl (s_261 hW (by omega) (fun σ2 z1 z2 => ?_))
                  iterate 1 (refine tr_mv rfl (fun _ => rfl) ?_)
                  exact hput σ2 (by omega) (by rw [e3]; exact z1) z2 _
            iterate 2 (refine tr_mv rfl (fun _ => rfl) ?_)
            refine tr_cmp2 rfl (m32_of (by omega)) (m32_of (by omega)) (fun q1 => ?_) (fun q1 => ?_)
            · exact h167 (fun g => absurd g q1)
            · have q1 : lv = 1 := Decidable.byContradiction q1
              iterate 1 (refine tr_mv rfl (fun _ => rfl) ?_)
              first | refine tr_ib rfl (fun q2 => ?_) (fun q2 => ?_) | refine tr_ibn rfl (fun q2 => ?_) (fun q2 => ?_)
              · exact h167 (fun _ => by rw [hw, if_neg (by omega), if_pos (Decidable.byContradiction q2)])
              · have e3 : lvW lv (o 0) ee = ee.1 := by rw [hw, if_neg (by omega), if_neg q2, if_pos q1]
                repeat (first | refine tr_mgr rfl (by decide) rfl ?_ | refine tr_mgi rfl (by decide) (by decide) rfl ?_ | refine tr_mv rfl (fun _ => rfl) ?_)
                refine tr_man (j := 0 + p) rfl (by omega) (by omega) rfl (fun _ => rfl) rfl rfl rfl ?_
                rw [g1]
                refine tr_if2 rfl (m32_of (by omega)) (fun q3 => ?_) (fun q3 => ?_)
                · exact h167 (fun _ => by omega)
                · repeat (first | refine tr_mgr rfl (by decide) rfl ?_ | refine tr_mgi rfl (by decide) (by decide) rfl ?_ | refine tr_mv rfl (fun _ => rfl) ?_)
                  refine tr_man (j := 0 + p) rfl (by omega) (by omega) rfl (fun _ => rfl) rfl rfl rfl ?_
                  rw [g1]
                  refine tr_vc (q := 480) rfl isO_480 rfl rfl rfl (s_261 hW (by omega) (fun σ2 z1 z2 => ?_))
                  iterate 1 (refine tr_mv rfl (fun _ => rfl) ?_)
                  exact hput σ2 (by omega) (by rw [e3]; exact z1) z2 _
          iterate 3 (refine tr_mv rfl (fun _ => rfl) ?_)
          refine tr_cmp2 rfl (m32_of (by omega)) (m32_of (by omega)) (fun q1 => ?_) (fun q1 => ?_)
          · exact h133 (fun g => absurd g q1)
          · have q1 : lv = 4 := Decidable.byContradiction q1
            iterate 1 (refine tr_mv rfl (fun _ => rfl) ?_)
            refine tr_if2 rfl (m32_of (by omega)) (fun q2 => ?_) (fun q2 => ?_)
            · exact h133 (fun _ => by rw [hw, if_pos q1, if_pos (Or.inl (by omega))])
            · repeat (first | refine tr_mgr rfl (by decide) rfl ?_ | refine tr_mgi rfl (by decide) (by decide) rfl ?_ | refine tr_mv rfl (fun _ => rfl) ?_)
              refine tr_man (j := 0 + p) rfl (by omega) (by omega) rfl (fun _ => rfl) rfl rfl rfl ?_
              rw [g4]
              iterate 1 (refine tr_mv rfl (fun _ => rfl) ?_)
              refine tr_cmp2 rfl (m32_of (by omega)) (m32_of (by omega)) (fun q3 => ?_) (fun q3 => ?_)
              · exact h133 (fun _ => by rw [hw, if_pos q1, if_pos (Or.inr q3)])
              · have h127 : ∀ w, w = lvW lv (o 0) ee → Tr Ls N 262 127 [some (mP (some 480)), some (mI (T : Int)), some (mI lv), some (mI (o 0)), some (mI (done.length : Int)), some (mI (p : Int)), some (mI (b2 (¬ (o 0 = 1 ∧ ee.2.2.2 ≠ 0))))] [mI w, mP (some 480)] σ' post := by
                  intro w ew
                  have hwp : 0 < lvW lv (o 0) ee := by
                    rw [hw, if_pos q1, if_neg (fun g => g.elim (fun g => by omega) q3)]
                    split
                    · rename_i g; have := k5 g; omega
                    · decide
                  subst ew
                  refine tr_vc (q := 480) rfl isO_480 rfl rfl rfl (s_261 hW (by omega) (fun σ2 z1 z2 => ?_))
                  iterate 1 (refine tr_mv rfl (fun _ => rfl) ?_)
                  exact hput σ2 hwp z1 z2 _
                repeat (first | refine tr_mgr rfl (by decide) rfl ?_ | refine tr_mgi rfl (by decide) (by decide) rfl ?_ | refine tr_mv rfl (fun _ => rfl) ?_)
                refine tr_man (j := 0 + p) rfl (by omega) (by omega) rfl (fun _ => rfl) rfl rfl rfl ?_
                rw [g4]
                iterate 1 (refine tr_mv rfl (fun _ => rfl) ?_)
                refine tr_cmp2 rfl (m32_of (by omega)) (m32_of (by omega)) (fun q4 => ?_) (fun q4 => ?_)
                · iterate 1 (refine tr_mv rfl (fun _ => rfl) ?_)
                  exact h127 _ (by rw [hw, if_pos q1, if_neg (fun g => g.elim (fun g => by omega) q3), if_neg q4])
                · repeat (first | refine tr_mgr rfl (by decide) rfl ?_ | refine tr_mgi rfl (by decide) (by decide) rfl ?_ | refine tr_mv rfl (fun _ => rfl) ?_)
                  refine tr_man (j := 0 + p) rfl (by omega) (by omega) rfl (fun _ => rfl) rfl rfl rfl ?_
                  rw [g1]
                  iterate 1 (refine tr_mv rfl (fun _ => rfl) ?_)
                  exact h127 _ (by rw [hw, if_pos q1, if_neg (fun g => g.elim (fun g => by omega) q3), if_pos (Decidable.byContradiction q4)])
        iterate 2 (refine tr_mv rfl (fun _ => rfl) ?_)
        refine tr_if2 rfl (m32_of (by omega)) (fun q1 => ?_) (fun q1 => ?_)
        · iterate 2 (refine tr_mv rfl (fun _ => rfl) ?_)
          exact h81 1 (b2_pos (p := ¬ (o 0 = 1 ∧ ee.2.2.2 ≠ 0)) (fun g => by omega)).symm
        · repeat (first | refine tr_mgr rfl (by decide) rfl ?_ | refine tr_mgi rfl (by decide) (by decide) rfl ?_ | refine tr_mv rfl (fun _ => rfl) ?_)
          refine tr_man (j := 0 + p) rfl (by omega) (by omega) rfl (fun _ => rfl) rfl rfl rfl ?_
          rw [g4]
          refine tr_if2 rfl (m32_of (by omega)) (fun q2 => ?_) (fun q2 => ?_)
          · iterate 1 (refine tr_mv rfl (fun _ => rfl) ?_)
            exact h81 0 (b2_neg (fun g => g ⟨by omega, q2⟩)).symm
          · iterate 2 (refine tr_mv rfl (fun _ => rfl) ?_)
            exact h81 1 (b2_pos (p := ¬ (o 0 = 1 ∧ ee.2.2.2 ≠ 0)) (fun g => q2 g.2)).symm
      have hback : (lv = 2 ∧ o 1 = 1) → els.getD (els.length - 1 - done.length) (0, 0, 0, 0) = ee := by
        intro c1
        rw [if_pos c1] at e
        have e2 : els = rest.reverse ++ ee :: done.reverse := by
          have := congrArg List.reverse e
          simpa using this
        have hl3 : els.length - 1 - done.length = rest.reverse.length := by rw [List.length_reverse]; omega
        rw [hl3, List.getD_eq_getElem?_getD]
        rw [e2]
        simp
      have hfwd : ¬ (lv = 2 ∧ o 1 = 1) → els.getD done.length (0, 0, 0, 0) = ee := by
        intro c1
        rw [if_neg c1] at e
        rw [e, List.getD_eq_getElem?_getD]
        simp
      repeat (first | refine tr_mgr rfl (by decide) rfl ?_ | refine tr_mgi rfl (by decide) (by decide) rfl ?_ | refine tr_mv rfl (fun _ => rfl) ?_)
      rw [hS2.1]
      refine tr_cmp2 rfl (m32_of (by omega)) (m32_of (by omega)) (fun c1 => absurd c1 (by show ¬ _ ≤ _; omega)) (fun _ => ?_)
      iterate 2 (refine tr_mv rfl (fun _ => rfl) ?_)
      refine tr_cmp2 rfl (m32_of (by omega)) (m32_of (by omega)) (fun q1 => ?_) (fun q1 => ?_)
      · iterate 1 (refine tr_mv rfl (fun _ => rfl) ?_)
        exact h60 done.length (by omega) (hfwd (fun g => q1 g.1))
      · have q1 : lv = 2 := Decidable.byContradiction q1
        repeat (first | refine tr_mgr rfl (by decide) rfl ?_ | refine tr_mgi rfl (by decide) (by decide) rfl ?_ | refine tr_mv rfl (fun _ => rfl) ?_)
        refine tr_man (j := 3 * T + 1) rfl (by omega) (by omega) rfl (fun _ => rfl) rfl rfl rfl ?_
        rw [((hO' σ' ho) 1 (by decide)).1]
        refine tr_if2 rfl (m32_of (by omega)) (fun q2 => ?_) (fun q2 => ?_)
        · iterate 1 (refine tr_mv rfl (fun _ => rfl) ?_)
          exact h60 done.length (by omega) (hfwd (fun g => by omega))
        · iterate 1 (refine tr_mv rfl (fun _ => rfl) ?_)
          refine tr_mgi rfl (by decide) (by decide) rfl ?_
          rw [hS2.1]
          iterate 5 (refine tr_mv rfl (fun _ => rfl) ?_)
          rw [show (els.length : Int) - 1 - (done.length : Int) = ((els.length - 1 - done.length : Nat) : Int) by omega]
          exact h60 _ (by omega) (hback ⟨q1, by omega⟩)
  iterate 2 (refine tr_mv rfl (fun _ => rfl) ?_)
  refine tr_mpi rfl (Or.inl rfl) (by decide) rfl ?_
  repeat (first | refine tr_mgr rfl (by decide) rfl ?_ | refine tr_mgi rfl (by decide) (by decide) rfl ?_ | refine tr_mv rfl (fun _ => rfl) ?_)
  refine tr_man (j := 3 * T + 0) rfl (by omega) (by omega) rfl (fun _ => rfl) rfl rfl rfl ?_
  rw [setF_ne _ _ (by omega), (hO 0 (by decide)).1]
  iterate 3 (refine tr_mv rfl (fun _ => rfl) ?_)
  exact loop _ [] _ none none [] rfl ⟨setF_same _ _ _ _, fun i hi => absurd hi (Nat.not_lt_zero _)⟩ (Nat.le_refl _) (only.rf.setF (Or.inr ⟨rfl, rfl⟩)) K
theorem s_264 (hW : mwM σ ws) (hE : ∀ w ∈ ws, 1 ≤ w ∧ w ≤ 100) (hl : ws.length ≤ 93) (hK : mkM σ ks) (hlk : ks.length + ws.length < 600) (K : ∀ σ', mkM σ' (ks ++ runsB 0 ws) → only cKy σ σ' → post (.inl none) σ') :
    Tr Ls N 264 0 [some (mP (some 480)), none, none, none] [] σ post := by
  have hW' : ∀ σ', only cKy σ σ' → mwM σ' ws := fun σ' ho => hW.el ho (fun i => by omega) (by omega)
  -- a run that ends
  have run : ∀ (l : Bool) (m : Nat) (p : Int) (σ' : Sg) (ks' : List Int) (X : Sg → Prop), m < 1000 → mkM σ' ks' → ks'.length + m < 600 → only cKy σ σ' → (∀ σ2, mkM σ2 (ks' ++ runB l m) → only cKy σ σ2 → ∀ j : Int, Tr Ls N 264 86 [some (mP (some 480)), some (mI j), some (mI p), some (mI (b2 (l = true)))] [] σ2 post) → Tr Ls N 264 46 [some (mP (some 480)), some (mI (m : Int)), some (mI p), some (mI (b2 (l = true)))] [] σ' post := by
    intro l m
    induction m using Nat.strongRecOn with
    | ind m ih =>
      intro p σ' ks' X hm hk hlk ho K'
      rw [runB] at K'
      iterate 2 (refine tr_mv rfl (fun _ => rfl) ?_)
      refine tr_cmp2 rfl (m32_of (by omega)) (m32_of (by omega)) (fun c1 => ?_) (fun c1 => ?_)
      · rw [if_neg (by omega)] at K'
        iterate 1 (refine tr_mv rfl (fun _ => rfl) ?_)
        refine tr_if2 rfl (m32_of (by omega)) (fun c2 => ?_) (fun c2 => ?_)
        · rw [if_neg (by omega), List.append_nil] at K'
          exact K' σ' hk ho _
        · rw [if_pos (by omega)] at K'
          have h83 : ∀ w, w = (if l = true then (m : Int) + 1 else 64 - (m : Int)) → Tr Ls N 264 83 [some (mP (some 480)), some (mI (m : Int)), some (mI p), some (mI (b2 (l = true)))] [mI w, mP (some 480)] σ' post := by
            intro w e
            rw [← e] at K'
            refine tr_vc (q := 480) rfl isO_480 rfl rfl rfl (s_263 hk (by omega) (fun σ2 z1 z2 => ?_))
            exact K' σ2 z1 (ho.tr z2) _
          iterate 2 (refine tr_mv rfl (fun _ => rfl) ?_)
          first | refine tr_ib rfl (fun c3 => ?_) (fun c3 => ?_) | refine tr_ibn rfl (fun c3 => ?_) (fun c3 => ?_)
          · iterate 3 (refine tr_mv rfl (fun _ => rfl) ?_)
            exact h83 _ (by rw [if_neg c3])
          · iterate 4 (refine tr_mv rfl (fun _ => rfl) ?_)
            exact h83 _ (by rw [if_pos c3])
      · rw [if_pos (by omega)] at K'
        iterate 2 (refine tr_mv rfl (fun _ => rfl) ?_)
        refine tr_vc (q := 480) rfl isO_480 rfl rfl rfl (s_263 hk (by omega) (fun σ2 z1 z2 => ?_))
        iterate 2 (refine tr_mv rfl (fun _ => rfl) ?_)
        show Tr Ls N 264 46 [some (mP (some 480)), some (mI ((m : Int) + -30)), some (mI p), some (mI (b2 (l = true)))] [] _ post
        rw [show (m : Int) + -30 = ((m - 30 : Nat) : Int) by omega]
        refine ih (m - 30) (by omega) p σ2 (ks' ++ [33]) X (by omega) z1 (by simp; omega) (ho.tr z2) (fun σ3 q1 q2 j => K' σ3 (by simpa using q1) q2 j)
  have loop : ∀ (rest done : List Int) (m : Nat) (v3 : Option mV) (σ' : Sg) (ks' : List Int), ws = done ++ rest → m ≤ done.length → mkM σ' ks' → ks'.length + m + rest.length < 600 → only cKy σ σ' → (∀ σ2, mkM σ2 (ks' ++ runsB m rest) → only cKy σ σ2 → post (.inl none) σ2) → Tr Ls N 264 4 [some (mP (some 480)), some (mI (m : Int)), some (mI (done.length : Int)), v3] [] σ' post := by
    intro rest
    induction rest with
    | nil =>
      intro done m v3 σ' ks' e hm hk hlk ho K'
      rw [List.append_nil] at e
      have e9 := congrArg List.length e
      repeat (first | refine tr_mgr rfl (by decide) rfl ?_ | refine tr_mgi rfl (by decide) (by decide) rfl ?_ | refine tr_mv rfl (fun _ => rfl) ?_)
      rw [(hW' σ' ho).1]
      refine tr_cmp2 rfl (m32_of (by omega)) (m32_of (by omega)) (fun c1 => absurd c1 (by show ¬ _ < _; omega)) (fun _ => ?_)
      repeat (first | refine tr_mgr rfl (by decide) rfl ?_ | refine tr_mgi rfl (by decide) (by decide) rfl ?_ | refine tr_mv rfl (fun _ => rfl) ?_)
      rw [(hW' σ' ho).1]
      refine tr_cmp2 rfl (m32_of (by omega)) (m32_of (by omega)) (fun c1 => absurd (show (done.length : Int) = (ws.length : Int) by omega) c1) (fun _ => ?_)
      iterate 4 (refine tr_mv rfl (fun _ => rfl) ?_)
      refine tr_if2 rfl (m32_of (x := 1) ⟨by decide, by decide⟩) (fun _ => ?_) (fun c9 => absurd (show (1 : Int) ≠ 0 by decide) c9)
      refine run true m _ σ' ks' (fun _ => True) (by omega) hk (by simp at hlk; omega) ho (fun σ2 z1 z2 j => ?_)
      iterate 1 (refine tr_mv rfl (fun _ => rfl) ?_)
      refine tr_if2 rfl (m32_of (x := 1) ⟨by decide, by decide⟩) (fun _ => ?_) (fun c9 => absurd (show (1 : Int) ≠ 0 by decide) c9)
      iterate 4 (refine tr_mv rfl (fun _ => rfl) ?_)
      repeat (first | refine tr_mgr rfl (by decide) rfl ?_ | refine tr_mgi rfl (by decide) (by decide) rfl ?_ | refine tr_mv rfl (fun _ => rfl) ?_)
      rw [(hW' σ2 z2).1]
      refine tr_cmp2 rfl (m32_of (by omega)) (m32_of (by omega)) (fun _ => ?_) (fun c1 => absurd (show (ws.length : Int) < (done.length : Int) + 1 by omega) c1)
      exact tr_ret rfl (fun _ => rfl) (K' σ2 z1 z2)
    | cons y rest ih =>
      intro done m v3 σ' ks' e hm hk hlk ho K'
      have hlen : ws.length = done.length + 1 + rest.length := by rw [e]; simp; omega
      have hy := hE y (by rw [e]; simp)
      have hgy : ∀ σ', only cKy σ σ' → σ'.2 509 (0 + done.length) = y := fun σ' ho => by
        rw [(hW' σ' ho).2.get (by omega), e, List.getD_eq_getElem?_getD]
        simp
      simp only [List.length_cons] at hlk
      unfold runsB at K'
      repeat (first | refine tr_mgr rfl (by decide) rfl ?_ | refine tr_mgi rfl (by decide) (by decide) rfl ?_ | refine tr_mv rfl (fun _ => rfl) ?_)
      rw [(hW' σ' ho).1]
      refine tr_cmp2 rfl (m32_of (by omega)) (m32_of (by omega)) (fun c1 => absurd c1 (by show ¬ _ < _; omega)) (fun _ => ?_)
      repeat (first | refine tr_mgr rfl (by decide) rfl ?_ | refine tr_mgi rfl (by decide) (by decide) rfl ?_ | refine tr_mv rfl (fun _ => rfl) ?_)
      rw [(hW' σ' ho).1]
      refine tr_cmp2 rfl (m32_of (by omega)) (m32_of (by omega)) (fun _ => ?_) (fun c1 => absurd (show (done.length : Int) ≠ (ws.length : Int) by omega) c1)
      iterate 3 (refine tr_mv rfl (fun _ => rfl) ?_)
      refine tr_if2 rfl (m32_of (x := 0) ⟨by decide, by decide⟩) (fun c9 => absurd rfl c9) (fun _ => ?_)
      repeat (first | refine tr_mgr rfl (by decide) rfl ?_ | refine tr_mgi rfl (by decide) (by decide) rfl ?_ | refine tr_mv rfl (fun _ => rfl) ?_)
      refine tr_man (j := 0 + done.length) rfl (by omega) (by omega) rfl (fun _ => rfl) rfl rfl rfl ?_
      rw [hgy σ' ho]
      iterate 1 (refine tr_mv rfl (fun _ => rfl) ?_)
      refine tr_cmp2 rfl (m32_of (by omega)) (m32_of (by omega)) (fun c1 => ?_) (fun c1 => ?_)
      · rw [if_neg c1] at K'
        refine run false m _ σ' ks' (fun _ => True) (by omega) hk (by omega) ho (fun σ2 z1 z2 j => ?_)
        iterate 1 (refine tr_mv rfl (fun _ => rfl) ?_)
        refine tr_if2 rfl (m32_of (x := 0) ⟨by decide, by decide⟩) (fun c9 => absurd rfl c9) (fun _ => ?_)
        repeat (first | refine tr_mgr rfl (by decide) rfl ?_ | refine tr_mgi rfl (by decide) (by decide) rfl ?_ | refine tr_mv rfl (fun _ => rfl) ?_)
        refine tr_man (j := 0 + done.length) rfl (by omega) (by omega) rfl (fun _ => rfl) rfl rfl rfl ?_
        rw [hgy σ2 z2]
        iterate 1 (refine tr_mv rfl (fun _ => rfl) ?_)
        have hrl := runB_len false m
        refine tr_vc (q := 480) rfl isO_480 rfl rfl rfl (s_263 z1 (by simp; omega) (fun σ3 q1 q2 => ?_))
        iterate 4 (refine tr_mv rfl (fun _ => rfl) ?_)
        show Tr Ls N 264 4 [some (mP (some 480)), some (mI ((0 : Nat) : Int)), some (mI ((done.length : Int) + 1)), some (mI 0)] [] σ3 post
        rw [show (done.length : Int) + 1 = ((done ++ [y]).length : Int) by simp]
        exact ih (done ++ [y]) 0 _ σ3 _ (by rw [e]; simp) (Nat.zero_le _) q1 (by simp; omega) (z2.tr q2) (fun σ4 w1 w2 => K' σ4 (by simpa using w1) w2)
      · have c1 : y = 1 := Decidable.byContradiction c1
        rw [if_pos c1] at K'
        iterate 4 (refine tr_mv rfl (fun _ => rfl) ?_)
        show Tr Ls N 264 4 [some (mP (some 480)), some (mI ((m : Int) + 1)), some (mI ((done.length : Int) + 1)), some (mI 0)] [] σ' post
        rw [show (done.length : Int) + 1 = ((done ++ [y]).length : Int) by simp, show (m : Int) + 1 = ((m + 1 : Nat) : Int) by omega]
        exact ih (done ++ [y]) (m + 1) _ σ' ks' (by rw [e]; simp) (by simp; omega) hk (by omega) ho K'
  iterate 4 (refine tr_mv rfl (fun _ => rfl) ?_)
  exact loop ws [] 0 none σ ks rfl (Nat.le_refl _) hK (by omega) only.rf K
end MKEY
